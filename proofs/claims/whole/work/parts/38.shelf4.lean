section SHI
variable {N : Nat} {σ : fr_St}
/-- how many of the first n have f -/
def cnt (f : Nat → Bool) : Nat → Nat
  | 0 => 0
  | n + 1 => cnt f n + (if f n then 1 else 0)
theorem cnt_le (f : Nat → Bool) : ∀ n, cnt f n ≤ n
  | 0 => Nat.le_refl _
  | n + 1 => by
    have := cnt_le f n
    show cnt f n + (if f n then 1 else 0) ≤ n + 1
    split <;> omega
theorem cnt_loop (L : Nat → Int32 → Int32 → fr_St → Option (Int32 × Int32 × fr_St)) (f : Nat → Bool) (K : Nat) (σ : fr_St) (hx : ∀ n acc, L (n + 1) (nI acc) (nI K) σ = some (nI acc, nI K, σ)) (hs : ∀ n acc j, j < K → L (n + 1) (nI acc) (nI j) σ = L n (nI (acc + (if f j then 1 else 0))) (nI (j + 1)) σ) : ∀ (m j n : Nat), j + m = K → m < n → L n (nI (cnt f j)) (nI j) σ = some (nI (cnt f K), nI K, σ) := by
  intro m
  induction m with
  | zero =>
    intro j n hj hn
    obtain ⟨n, rfl⟩ : ∃ m, n = m + 1 := ⟨n - 1, by omega⟩
    have hj : j = K := by omega
    subst hj
    exact hx n _
  | succ m ih =>
    intro j n hj hn
    obtain ⟨n, rfl⟩ : ∃ m, n = m + 1 := ⟨n - 1, by omega⟩
    rw [hs n _ j (by omega)]
    exact ih (j + 1) n (by omega) (by omega)
theorem sh_there (h : Rshelf σ) : F_X6_rowsThere σ = some (nI (cnt (fun r => decide (¬ σ 12 r = -1)) 8), σ) := by
  unfold F_X6_rowsThere
  have key := cnt_loop L_X6_rowsThere_4 (fun r => decide (¬ σ 12 r = -1)) 8 σ (fun n acc => by
    rw [L_X6_rowsThere_4, if_pos (show (8 : Int32) ≤ nI 8 from (i_le (a := 8) (b := 8) (by omega) (by omega)).mpr (Nat.le_refl _))]) (fun n acc j hj => by
    rw [L_X6_rowsThere_4, if_neg (show ¬ (8 : Int32) ≤ nI j from fun q => absurd ((i_le (a := 8) (by omega) (by omega)).mp q) (by omega)), sh_miss hj, fr_bP_mk]
    by_cases e : σ 12 j = -1
    · simp only [decide_eq_true e, e, fr_bt, if_false, fr_bS_mk, fr_let_eq, nI_1]
      rfl
    · simp only [decide_eq_false e, e, fr_bf, if_true, fr_bS_mk, fr_let_eq, nI_1]
      rfl) 8 0 fr_fu (by omega) (by have := fr_fu_big; omega)
  rw [show (0 : Int32) = nI 0 from rfl]
  rw [show L_X6_rowsThere_4 fr_fu (nI 0) (nI 0) σ = _ from key]
  rfl
theorem rf_there (h : Rshelf σ) : L_X8_count_4 fr_fu 0 0 σ = some (nI (cnt (fun r => decide (¬ σ 12 r = -1)) 8), nI 8, σ) := by
  have key := cnt_loop L_X8_count_4 (fun r => decide (¬ σ 12 r = -1)) 8 σ (fun n acc => by
    rw [L_X8_count_4, if_pos (show (8 : Int32) ≤ nI 8 from (i_le (a := 8) (b := 8) (by omega) (by omega)).mpr (Nat.le_refl _))]) (fun n acc j hj => by
    rw [L_X8_count_4, if_neg (show ¬ (8 : Int32) ≤ nI j from fun q => absurd ((i_le (a := 8) (by omega) (by omega)).mp q) (by omega)), i_chk hj (by omega), i_ix (by omega)]
    obtain ⟨q1, q2, -⟩ := h j hj
    have hneg := sz_neg q2
    by_cases e : σ 12 j = -1
    · have w : σ 61 j < 0 := by
        rw [← q1]
        exact Int32.not_le.mp (hneg.mp e)
      rw [if_pos w]
      simp only [e, fr_bS_mk, fr_let_eq, nI_1]
      rw [show (0 : Int32) = nI 0 from rfl, i_add]
      rfl
    · have w : ¬ σ 61 j < 0 := by
        rw [← q1]
        exact fun q => e (hneg.mpr (Int32.not_le.mpr q))
      rw [if_neg w]
      simp only [e, fr_bS_mk, fr_let_eq, nI_1]
      rfl) 8 0 fr_fu (by omega) (by have := fr_fu_big; omega)
  exact key
theorem st_count (h : Rel N σ) (a1 : Int32) : Ok N (F_X7_count a1) (F_X8_count a1) σ := by
  obtain ⟨z, hz, hc, hr, -⟩ := h.2.2.2.1
  obtain ⟨m, hm, e1, e2, e3⟩ := h.2.2.1
  obtain ⟨a, nx, ha, hnx, f1, f2, f3, -⟩ := h.2.2.2.2.1
  have hX : F_X7_count a1 σ = if a1 = 0 then some (nI (cnt (fun r => decide (¬ σ 12 r = -1)) 8), σ) else if a1 = 1 then some (nI (z 2), σ) else if a1 = 2 then some (nI (z 3), σ) else if a1 = 3 then some (nI (z 1), σ) else if a1 = 4 then some (nI (z 0), σ) else if a1 = 5 then some (nI (z 4), σ) else if a1 = 6 then some (nI (z 5), σ) else if a1 = 7 then some (nI a, σ) else if a1 = 8 then some (nI m, σ) else some (-1000001, σ) := by
    unfold F_X7_count F_X0_number F_X4_length
    rw [sh_there h.1, cl_roads (o := 15) hc, cl_people (o := 15) hc, cl_places (o := 15) hc, cl_fade (o := 15) hc, cl_today (o := 15) hc, cl_spent (o := 15) hc, f1, e1]
    rfl
  have hM : F_X8_count a1 σ = if a1 = 0 then some (nI (cnt (fun r => decide (¬ σ 12 r = -1)) 8), σ) else if a1 = 1 then some (nI (z 2), σ) else if a1 = 2 then some (nI (z 3), σ) else if a1 = 3 then some (nI (z 1), σ) else if a1 = 4 then some (nI (z 0), σ) else if a1 = 5 then some (nI (z 4), σ) else if a1 = 6 then some (nI (z 5), σ) else if a1 = 7 then some (nI a, σ) else if a1 = 8 then some (nI m, σ) else some (-1000001, σ) := by
    unfold F_X8_count
    rw [rf_there h.1]
    simp only [fr_bP_mk, fr_pP_mk]
    rw [hr.1 0 (by omega), hr.1 1 (by omega), hr.1 2 (by omega), hr.1 3 (by omega), hr.1 4 (by omega), hr.1 5 (by omega), f3, e2]
  have key : ∃ r, F_X7_count a1 σ = some (r, σ) := by
    rw [hX]
    repeat' split
    all_goals exact ⟨_, rfl⟩
  obtain ⟨r, hr1⟩ := key
  exact ⟨r, σ, σ, hr1, by rw [hM, ← hX, hr1], h.mono⟩
theorem rf_sub {k : Nat} (hk : k ≤ 40) (y : Int32) : ((nI k).toInt64 - y.toInt64).toInt = (k : Int) - y.toInt := by
  have h1 := y.toInt_lt
  have h2 := y.le_toInt
  rw [Int64.toInt_sub, Int32.toInt_toInt64, Int32.toInt_toInt64, i_toInt (by omega)]
  apply Int.bmod_eq_of_le <;> omega
theorem rf_hold {k : Nat} (hk : k ≤ 40) (x y : Int32) (hy : ¬ y < 0) (σ : fr_St) : F_X8_in x.toInt64 0 ((nI k).toInt64 - y.toInt64) σ = some (hld x y k, σ) := by
  have ey : ¬ y.toInt < 0 := fun q => hy ((i_lt_iff y 0).mpr q)
  rw [rf_in, rf_sub hk, Int32.toInt_toInt64]
  unfold hld
  have z0 : (0 : Int64).toInt = 0 := rfl
  rw [z0]
  have : (0 ≤ x.toInt ∧ x.toInt ≤ (k : Int) - y.toInt) = (0 ≤ x.toInt ∧ 0 ≤ y.toInt ∧ x.toInt + y.toInt ≤ (k : Int)) := by
    apply propext
    omega
  simp only [this]
theorem st_copy (h : Rel N σ) (a1 a2 a3 a4 a5 : Int32) : Ok N (F_X7_copy a1 a2 a3 a4 a5) (F_X8_copy a1 a2 a3 a4 a5) σ := by
  cases hi : fr_ib a1 8
  · refine ⟨-1000001, σ, σ, ?_, ?_, h.mono⟩
    · unfold F_X7_copy
      rw [sh_has, hi]
      rfl
    · unfold F_X8_copy
      rw [rf_isRow, hi]
      rfl
  · cases hi2 : fr_ib a3 8
    · refine ⟨-1000001, σ, σ, ?_, ?_, h.mono⟩
      · unfold F_X7_copy
        simp only [sh_has, hi, hi2, eq_self, if_true, if_false, fr_bP_mk, fr_bS_mk, fr_let_eq, fr_pP_mk, fr_bR_l, fr_bR_r, fr_bt, fr_bf]
      · unfold F_X8_copy
        simp only [rf_isRow, hi, hi2, eq_self, if_true, if_false, fr_bP_mk, fr_bS_mk, fr_let_eq, fr_pP_mk, fr_bR_l, fr_bR_r, fr_bt, fr_bf]
    · obtain ⟨ra, hra, rfl⟩ := ib_nI hi
      obtain ⟨rb, hrb, rfl⟩ := ib_nI hi2
      obtain ⟨p1, p2, p3, p4, p5⟩ := h.1 ra hra
      obtain ⟨q1, q2, q3, q4, q5⟩ := h.1 rb hrb
      have pneg := sz_neg p2
      have qneg := sz_neg q2
      have iA := i_ix (show ra < 2147483648 by omega)
      have iB := i_ix (show rb < 2147483648 by omega)
      have find : ∀ v : Int32, F_X7_copy (nI ra) a2 (nI rb) a4 a5 σ = F_X7_found v σ → F_X8_copy (nI ra) a2 (nI rb) a4 a5 (fr_up σ 0 10 v) = F_X8_find v (fr_up σ 0 10 v) → Ok N (F_X7_copy (nI ra) a2 (nI rb) a4 a5) (F_X8_copy (nI ra) a2 (nI rb) a4 a5) σ := by
        intro v h1 h2
        exact ⟨-1000010 - v, fr_up σ 0 10 v, _, h1, h2, (Rel_find h v).mono⟩
      have u61 : ∀ v, (fr_up σ 0 10 v) 61 = σ 61 := fun v => fr_up_ne _ _ _ (by omega)
      have u60 : ∀ v, (fr_up σ 0 10 v) 60 = σ 60 := fun v => fr_up_ne _ _ _ (by omega)
      by_cases ma : σ 12 ra = -1
      · have w : σ 61 ra < 0 := by
          rw [← p1]
          exact Int32.not_le.mp (pneg.mp ma)
        refine find 1 ?_ ?_
        · unfold F_X7_copy
          simp only [sh_has, hi, hi2, sh_miss hra, decide_eq_true ma, F_X7_found, eq_self, if_true, if_false, fr_bP_mk, fr_bS_mk, fr_let_eq, fr_pP_mk, fr_bR_l, fr_bR_r, fr_bt, fr_bf]
        · unfold F_X8_copy
          simp only [rf_isRow, hi, hi2, iA, u61, F_X8_find, eq_self, if_true, if_false, fr_bP_mk, fr_bS_mk, fr_let_eq, fr_pP_mk, fr_bR_l, fr_bR_r, fr_bt, fr_bf]
          rw [if_pos w]
      · have w : ¬ σ 61 ra < 0 := by
          rw [← p1]
          exact fun q => ma (pneg.mpr (Int32.not_le.mpr q))
        obtain ⟨ka, hka, eka⟩ : ∃ k, k ≤ 40 ∧ σ 12 ra = nI k := p2.resolve_left ma
        by_cases mb : σ 12 rb = -1
        · have w2 : ¬ 0 ≤ σ 61 rb := by
            rw [← q1]
            exact qneg.mp mb
          refine find 1 ?_ ?_
          · unfold F_X7_copy
            simp only [sh_has, hi, hi2, sh_miss hra, sh_miss hrb, decide_eq_false ma, decide_eq_true mb, F_X7_found, eq_self, if_true, if_false, fr_bP_mk, fr_bS_mk, fr_let_eq, fr_pP_mk, fr_bR_l, fr_bR_r, fr_bt, fr_bf]
          · unfold F_X8_copy
            simp only [rf_isRow, hi, hi2, iA, iB, u61, F_X8_find, eq_self, if_true, if_false, fr_bP_mk, fr_bS_mk, fr_let_eq, fr_pP_mk, fr_bR_l, fr_bR_r, fr_bt, fr_bf]
            rw [if_neg w, if_neg w2]
        · have w2 : 0 ≤ σ 61 rb := by
            rw [← q1]
            exact Decidable.not_not.mp (fun q => mb (qneg.mpr q))
          obtain ⟨kb, hkb, ekb⟩ : ∃ k, k ≤ 40 ∧ σ 12 rb = nI k := q2.resolve_left mb
          have eka2 : σ 61 ra = nI ka := by rw [← p1]; exact eka
          have ekb2 : σ 61 rb = nI kb := by rw [← q1]; exact ekb
          by_cases hl : σ 11 ra = σ 11 rb
          · have hl2 : σ 60 ra = σ 60 rb := by rw [← p3, ← q3]; exact hl
            have hXc : F_X7_copy (nI ra) a2 (nI rb) a4 a5 σ = if hld a2 a5 ka = false then F_X7_found 2 σ else if hld a4 a5 kb = false then F_X7_found 2 σ else fr_bS (F_X6_bring (nI ra) a2 (nI rb) a4 a5 σ) (fun s32 => F_X7_fine a5 s32) := by
              unfold F_X7_copy F_X6_laneOf
              simp only [sh_has, hi, hi2, sh_miss hra, sh_miss hrb, decide_eq_false ma, decide_eq_false mb, iA, iB, eq_self, if_true, if_false, fr_bP_mk, fr_bS_mk, fr_let_eq, fr_pP_mk, fr_bR_l, fr_bR_r, fr_bt, fr_bf]
              rw [if_pos hl, sh_holds hra hka eka, fr_bP_mk, sh_holds hrb hkb ekb, fr_bP_mk]
              cases hld a2 a5 ka <;> cases hld a4 a5 kb <;> rfl
            have hMc : ∀ τ : fr_St, τ 61 = σ 61 → τ 60 = σ 60 → F_X8_copy (nI ra) a2 (nI rb) a4 a5 τ = if a5 < 0 then F_X8_find 2 τ else if hld a2 a5 ka = false then F_X8_find 2 τ else if hld a4 a5 kb = false then F_X8_find 2 τ else fr_bP (L_X8_copy_117 (nI ra) a2 a5 fr_fu 0 τ) (fun _ s29 => fr_bP (L_X8_copy_154 (nI rb) a4 a5 fr_fu 0 s29) (fun _ s32 => F_X8_well a5 s32)) := by
              intro τ t1 t2
              unfold F_X8_copy
              simp only [rf_isRow, hi, hi2, iA, iB, t1, t2, eq_self, if_true, if_false, fr_bP_mk, fr_bS_mk, fr_let_eq, fr_pP_mk, fr_bR_l, fr_bR_r, fr_bt, fr_bf]
              rw [if_neg w, if_pos w2, if_pos hl2, eka2]
              by_cases hy : a5 < 0
              · rw [if_pos hy, if_pos hy]
                rfl
              · rw [if_neg hy, if_neg hy, rf_hold hka a2 a5 hy, fr_bP_mk, t1, ekb2, rf_hold hkb a4 a5 hy, fr_bP_mk]
                cases hld a2 a5 ka <;> cases hld a4 a5 kb <;> rfl
            cases hA : hld a2 a5 ka
            · refine find 2 (by rw [hXc, hA]; rfl) ?_
              rw [hMc _ (u61 2) (u60 2), hA]
              by_cases hy : a5 < 0
              · rw [if_pos hy]
              · rw [if_neg hy]; rfl
            · cases hB : hld a4 a5 kb
              · refine find 2 (by rw [hXc, hA, hB]; rfl) ?_
                rw [hMc _ (u61 2) (u60 2), hA, hB]
                by_cases hy : a5 < 0
                · rw [if_pos hy]
                · rw [if_neg hy]; rfl
              · obtain ⟨g1, g2, g3⟩ := of_decide_eq_true hA
                obtain ⟨g4, -, g5⟩ := of_decide_eq_true hB
                obtain ⟨i, hi', rfl⟩ : ∃ n, n ≤ 40 ∧ a2 = nI n := ⟨a2.toInt.toNat, by omega, by rw [i_eq_iff, i_toInt (by omega)]; omega⟩
                obtain ⟨j, hj', rfl⟩ : ∃ n, n ≤ 40 ∧ a4 = nI n := ⟨a4.toInt.toNat, by omega, by rw [i_eq_iff, i_toInt (by omega)]; omega⟩
                obtain ⟨n, hn', rfl⟩ : ∃ n, n ≤ 40 ∧ a5 = nI n := ⟨a5.toInt.toNat, by omega, by rw [i_eq_iff, i_toInt (by omega)]; omega⟩
                rw [i_toInt (by omega), i_toInt (by omega)] at g3 g5
                have c1 : i + n ≤ 40 := by omega
                have c2 : j + n ≤ 40 := by omega
                have hbring : F_X6_bring (nI ra) (nI i) (nI rb) (nI j) (nI n) σ = some (fr_row σ (3 + rb) (va_cpy (σ (3 + ra)) (σ (3 + rb)) i j n)) := by
                  unfold F_X6_bring
                  have cb : fr_cb (nI i) (nI j) (nI n) 40 40 = true := by
                    unfold fr_cb
                    rw [i_ix (by omega), i_ix (by omega), i_ix (by omega)]
                    exact decide_eq_true ⟨nI_pos (by omega), nI_pos (by omega), nI_pos (by omega), by omega, by omega⟩
                  simp only [hi, hi2, cb, iA, iB, i_ix (show i < 2147483648 by omega), i_ix (show j < 2147483648 by omega), i_ix (show n < 2147483648 by omega), eq_self, if_true, if_false, fr_bP_mk, fr_bS_mk, fr_let_eq, fr_pP_mk, fr_bR_l, fr_bR_r, fr_bt, fr_bf]
                have hl1 : ∀ τ : fr_St, L_X8_copy_117 (nI ra) (nI i) (nI n) fr_fu 0 τ = some (nI n, fr_row τ 64 (blk (τ 64) 0 n (fun t => τ 62 (40 * ra + i + t)))) := by
                  intro τ
                  refine wr_loop0 (L_X8_copy_117 (nI ra) (nI i) (nI n)) 64 0 n _ τ (by omega) (fun m s => ?_) (fun m t f ht => ?_)
                  · rw [L_X8_copy_117, if_pos ((i_le (by omega) (by omega)).mpr (Nat.le_refl _))]
                  · rw [L_X8_copy_117, if_neg (fun q => absurd ((i_le (by omega) (by omega)).mp q) (by omega)), show (40 : Int32) = nI 40 from rfl, i_mul, i_add, i_add, i_chk (by omega) (by omega), i_chk (by omega) (by omega), fr_let_eq, fr_let_eq, i_ix (by omega), i_ix (by omega), fr_up_row, fr_row_ne _ _ (by omega), nI_1, Nat.zero_add]
                have hl2' : ∀ τ : fr_St, L_X8_copy_154 (nI rb) (nI j) (nI n) fr_fu 0 τ = some (nI n, fr_row τ 62 (blk (τ 62) (40 * rb + j) n (fun t => τ 64 t))) := by
                  intro τ
                  refine wr_loop0 (L_X8_copy_154 (nI rb) (nI j) (nI n)) 62 (40 * rb + j) n _ τ (by omega) (fun m s => ?_) (fun m t f ht => ?_)
                  · rw [L_X8_copy_154, if_pos ((i_le (by omega) (by omega)).mpr (Nat.le_refl _))]
                  · rw [L_X8_copy_154, if_neg (fun q => absurd ((i_le (by omega) (by omega)).mp q) (by omega)), show (40 : Int32) = nI 40 from rfl, i_mul, i_add, i_add, i_chk (by omega) (by omega), i_chk (by omega) (by omega), fr_let_eq, fr_let_eq, i_ix (by omega), i_ix (by omega), fr_up_row, fr_row_ne _ _ (by omega), nI_1]
                have hs1 : F_X7_copy (nI ra) (nI i) (nI rb) (nI j) (nI n) σ = some (nI n, fr_up (fr_row σ (3 + rb) (va_cpy (σ (3 + ra)) (σ (3 + rb)) i j n)) 0 10 0) := by
                  rw [hXc, hA, hB, hbring]
                  rfl
                have k62 : (fr_up (fr_row σ (3 + rb) (va_cpy (σ (3 + ra)) (σ (3 + rb)) i j n)) 0 10 0) 62 = σ 62 := by rw [fr_up_ne _ _ _ (by omega), fr_row_ne _ _ (by omega)]
                have hs2 : ∃ f, F_X8_copy (nI ra) (nI i) (nI rb) (nI j) (nI n) (fr_up (fr_row σ (3 + rb) (va_cpy (σ (3 + ra)) (σ (3 + rb)) i j n)) 0 10 0) = some (nI n, fr_up (fr_row (fr_row (fr_up (fr_row σ (3 + rb) (va_cpy (σ (3 + ra)) (σ (3 + rb)) i j n)) 0 10 0) 64 f) 62 (blk (σ 62) (40 * rb + j) n (fun t => σ 62 (40 * ra + i + t)))) 59 3 0) := by
                  refine ⟨blk ((fr_up (fr_row σ (3 + rb) (va_cpy (σ (3 + ra)) (σ (3 + rb)) i j n)) 0 10 0) 64) 0 n (fun t => σ 62 (40 * ra + i + t)), ?_⟩
                  rw [hMc _ (by rw [fr_up_ne _ _ _ (by omega), fr_row_ne _ _ (by omega)]) (by rw [fr_up_ne _ _ _ (by omega), fr_row_ne _ _ (by omega)]), hA, hB, if_neg (nI_pos (by omega)), if_neg fr_nt, if_neg fr_nt, hl1, fr_bP_mk, hl2', fr_bP_mk, fr_row_same, fr_row_ne _ _ (by omega), k62]
                  have eb : blk (σ 62) (40 * rb + j) n (fun t => blk ((fr_up (fr_row σ (3 + rb) (va_cpy (σ (3 + ra)) (σ (3 + rb)) i j n)) 0 10 0) 64) 0 n (fun t => σ 62 (40 * ra + i + t)) t) = blk (σ 62) (40 * rb + j) n (fun t => σ 62 (40 * ra + i + t)) := by
                    funext t
                    unfold blk
                    by_cases q : 40 * rb + j ≤ t ∧ t < 40 * rb + j + n
                    · rw [if_pos q, if_pos q]
                      exact if_pos (show 0 ≤ t - (40 * rb + j) ∧ t - (40 * rb + j) < 0 + n by omega)
                    · rw [if_neg q, if_neg q]
                  rw [eb]
                  rfl
                obtain ⟨f, hs2⟩ := hs2
                refine ⟨_, _, _, hs1, hs2, Rel.mono ?_⟩
                have u1 : ∀ a, 11 ≤ a → ¬ a = 3 + rb := by omega
                refine Rel_st (σ1 := σ) (Rshelf_up h.1 hrb (fun r' hr' hne => ?_) ?_) ?_ h (fun a h0 h59 h1 h2 h3 => ?_) (fun t ht => ?_)
                · have v1 : ¬ (3 + r' = 0) := by omega
                  have v2 : ∀ a, 11 ≤ a → ¬ (3 + r' = a) := by omega
                  refine ⟨by simp [fr_up, fr_row, upd, u1 12], by simp [fr_up, fr_row, upd, u1 61], by simp [fr_up, fr_row, upd, u1 11], by simp [fr_up, fr_row, upd, u1 60], fun t ht => ⟨?_, ?_⟩⟩
                  · simp [fr_up, fr_row, upd, v1, v2 59, v2 62, v2 64, hne]
                  · have e : blk (σ 62) (40 * rb + j) n (fun t => σ 62 (40 * ra + i + t)) (40 * r' + t) = σ 62 (40 * r' + t) := blk_out (by omega)
                    simp [fr_up, fr_row, upd, e]
                · have v1 : ¬ (3 + rb = 0) := by omega
                  have v2 : ∀ a, 11 ≤ a → ¬ (3 + rb = a) := by omega
                  refine ⟨by simp [fr_up, fr_row, upd, u1 12, u1 61]; exact q1, ?_, by simp [fr_up, fr_row, upd, u1 11, u1 60]; exact q3, ?_, fun t ht => ?_⟩
                  · simp [fr_up, fr_row, upd, u1 12]; exact q2
                  · simp [fr_up, fr_row, upd, u1 11]; exact q4
                  · have e1 : (fr_up (fr_row (fr_row (fr_up (fr_row σ (3 + rb) (va_cpy (σ (3 + ra)) (σ (3 + rb)) i j n)) 0 10 0) 64 f) 62 (blk (σ 62) (40 * rb + j) n (fun t => σ 62 (40 * ra + i + t)))) 59 3 0) (3 + rb) = va_cpy (σ (3 + ra)) (σ (3 + rb)) i j n := by
                      rw [fr_up_ne _ _ _ (by omega), fr_row_ne _ _ (by omega), fr_row_ne _ _ (by omega), fr_up_ne _ _ _ (by omega), fr_row_same]
                    have e2 : (fr_up (fr_row (fr_row (fr_up (fr_row σ (3 + rb) (va_cpy (σ (3 + ra)) (σ (3 + rb)) i j n)) 0 10 0) 64 f) 62 (blk (σ 62) (40 * rb + j) n (fun t => σ 62 (40 * ra + i + t)))) 59 3 0) 62 = blk (σ 62) (40 * rb + j) n (fun t => σ 62 (40 * ra + i + t)) := by
                      rw [fr_up_ne _ _ _ (by omega), fr_row_same]
                    rw [e1, e2]
                    unfold va_cpy blk
                    by_cases q : j ≤ t ∧ t < j + n
                    · rw [if_pos q, if_pos (by omega), p5 _ (by omega)]
                      congr 1
                      omega
                    · rw [if_neg q, if_neg (by omega), q5 t ht]
                · have u5 : ¬ 0 = 3 + rb := by omega
                  have := h.2.1.2
                  simp [fr_up, fr_row, upd, u1 59, u5, this]
                · rw [fr_up_ne _ _ _ h59, fr_row_ne _ _ (by omega), fr_row_ne _ _ (by omega), fr_up_ne _ _ _ h0, fr_row_ne _ _ (by omega)]
                · simp [fr_up, fr_row, upd, ht, u1 59]
          · have hl2 : ¬ σ 60 ra = σ 60 rb := by rw [← p3, ← q3]; exact hl
            refine find 5 ?_ ?_
            · unfold F_X7_copy F_X6_laneOf
              simp only [sh_has, hi, hi2, sh_miss hra, sh_miss hrb, decide_eq_false ma, decide_eq_false mb, iA, iB, F_X7_found, eq_self, if_true, if_false, fr_bP_mk, fr_bS_mk, fr_let_eq, fr_pP_mk, fr_bR_l, fr_bR_r, fr_bt, fr_bf]
              rw [if_neg hl]
            · unfold F_X8_copy
              simp only [rf_isRow, hi, hi2, iA, iB, u61, u60, F_X8_find, eq_self, if_true, if_false, fr_bP_mk, fr_bS_mk, fr_let_eq, fr_pP_mk, fr_bR_l, fr_bR_r, fr_bt, fr_bf]
              rw [if_neg w, if_pos w2, if_neg hl2]
end SHI
