/-! ===== floods: which places are reached over the roads of a set ===== -/
def rs (z : Nat → Nat) (U w k : Nat) : Nat := if U.testBit k then (if w.testBit (z (23 + k)) || w.testBit (z (32 + k)) then w ||| 2 ^ z (23 + k) ||| 2 ^ z (32 + k) else w) else w
/-- the roads below j in turn -/
def rdn (z : Nat → Nat) (U : Nat) (w : Nat) : Nat → Nat
  | 0 => w
  | j + 1 => rs z U (rdn z U w j) j
/-- n rounds over the first M roads -/
def rdI (z : Nat → Nat) (U M : Nat) (w : Nat) : Nat → Nat
  | 0 => w
  | n + 1 => rdn z U (rdI z U M w n) M
theorem i_bit {w a : Nat} (hw : w < 512) (ha : a < 9) : ((nI w >>> (nI a &&& nI 31)) &&& nI 1 = nI 1) ↔ w.testBit a = true := by
  have key : ∀ w, w < 512 → ∀ a, a < 9 → (((nI w >>> (nI a &&& nI 31)) &&& nI 1 = nI 1) ↔ w.testBit a = true) := by decide +kernel
  exact key w hw a ha
theorem bit_or : ∀ w, w < 256 → ∀ a, a < 8 → ∀ b, b < 8 → (w &&& (2 ^ a ||| 2 ^ b) = 0 ↔ (w.testBit a || w.testBit b) = false) ∧ w ||| (2 ^ a ||| 2 ^ b) = w ||| 2 ^ a ||| 2 ^ b ∧ w ||| 2 ^ a ||| 2 ^ b < 256 ∧ (2 ^ a ||| 2 ^ b) < 256 := by decide +kernel
theorem bit_two : ∀ w, w < 256 → ∀ a, a < 8 → ∀ b, b < 8 → (if (if w.testBit a then w ||| 2 ^ b else w).testBit b then (if w.testBit a then w ||| 2 ^ b else w) ||| 2 ^ a else (if w.testBit a then w ||| 2 ^ b else w)) = (if w.testBit a || w.testBit b then w ||| 2 ^ a ||| 2 ^ b else w) ∧ (if w.testBit a then w ||| 2 ^ b else w) < 256 := by decide +kernel
section FLD
variable {N : Nat} {σ : fr_St} {z : Nat → Nat} {B : Nat}
theorem rs_lt (hw : WFl z B) {U w k : Nat} (hk : k < 9) (h : w < 256) : rs z U w k < 256 := by
  have hl := hw.2.2.2.2.2.2.2.2.2.2 k hk
  have hb := (bit_or w h (z (23 + k)) (by omega) (z (32 + k)) (by omega)).2.2.1
  unfold rs
  split
  · split
    · exact hb
    · exact h
  · exact h
theorem rdn_lt (hw : WFl z B) {U w : Nat} (h : w < 256) : ∀ {j : Nat}, j ≤ 9 → rdn z U w j < 256
  | 0, _ => h
  | j + 1, hj => rs_lt hw (by omega) (rdn_lt hw h (by omega))
theorem rdI_lt (hw : WFl z B) {U w M : Nat} (hM : M ≤ 9) (h : w < 256) : ∀ n, rdI z U M w n < 256
  | 0 => h
  | n + 1 => rdn_lt hw (rdI_lt hw hM h n) hM
theorem rf_has {w a : Nat} (hw : w < 512) (ha : a < 9) (σ : fr_St) : F_X8_has (nI w) (nI a) σ = some (w.testBit a, σ) := by
  unfold F_X8_has
  have e := i_bit hw ha
  by_cases h : w.testBit a = true
  · rw [if_pos (show (nI w >>> (nI a &&& 31)) &&& (1 : Int32) = 1 from e.mpr h), h]
    rfl
  · rw [if_neg (show ¬ (nI w >>> (nI a &&& 31)) &&& (1 : Int32) = 1 from fun q => h (e.mp q)), Bool.eq_false_iff.mpr h]
    rfl
theorem cl_noteEnds (hc : CR z (σ 16)) (hw : WFl z B) : ∃ τ, F_X5_noteEnds σ = some τ ∧ (∀ b, b ≠ 46 → τ b = σ b) ∧ ∀ k, k < z 2 → τ 46 k = nI (2 ^ z (23 + k) ||| 2 ^ z (32 + k)) := by
  have h2 := hw.2.2.2.2.1
  have key := wr_loop0 L_X5_noteEnds_2 46 0 (z 2) (fun k => nI (2 ^ z (23 + k) ||| 2 ^ z (32 + k))) σ (by omega)
  refine ⟨fr_row σ 46 (blk (σ 46) 0 (z 2) (fun k => nI (2 ^ z (23 + k) ||| 2 ^ z (32 + k)))), ?_, fun b hb => fr_row_ne _ _ hb, fun k hk => by rw [fr_row_same, blk_in0 hk]⟩
  unfold F_X5_noteEnds
  have key : ∀ (m j n : Nat), j + m = z 2 → m < n → L_X5_noteEnds_2 n (nI j) (fr_row σ 46 (blk (σ 46) 0 j (fun k => nI (2 ^ z (23 + k) ||| 2 ^ z (32 + k))))) = some (nI (z 2), fr_row σ 46 (blk (σ 46) 0 (z 2) (fun k => nI (2 ^ z (23 + k) ||| 2 ^ z (32 + k))))) := by
    intro m
    induction m with
    | zero =>
      intro j n hj hn
      obtain ⟨n, rfl⟩ : ∃ m, n = m + 1 := ⟨n - 1, by omega⟩
      have hj : j = z 2 := by omega
      have hc' : ∀ f, CR z ((fr_row σ 46 f) 16) := fun f => by rw [fr_row_ne _ _ (by omega)]; exact hc
      rw [L_X5_noteEnds_2, cl_roads (o := 15) (hc' _), fr_bP_mk, hj, if_pos ((i_le (by omega) (by omega)).mpr (Nat.le_refl _))]
    | succ m ih =>
      intro j n hj hn
      obtain ⟨n, rfl⟩ : ∃ m, n = m + 1 := ⟨n - 1, by omega⟩
      have hc' : ∀ f, CR z ((fr_row σ 46 f) 16) := fun f => by rw [fr_row_ne _ _ (by omega)]; exact hc
      have hl := hw.2.2.2.2.2.2.2.2.2.2 j (by omega)
      rw [← ih (j + 1) n (by omega) (by omega), ← blk_s, ← fr_up_row, L_X5_noteEnds_2, cl_roads (o := 15) (hc' _), fr_bP_mk, if_neg (fun q => absurd ((i_le (by omega) (by omega)).mp q) (by omega)), cl_oneEnd (o := 15) (hc' _) (by omega), fr_bP_mk, cl_otherEnd (o := 15) (hc' _) (by omega), fr_bP_mk, i_chk (by omega) (by omega), fr_let_eq, fr_let_eq, i_ix (by omega), show (1 : Int32) = nI 1 from rfl, show (31 : Int32) = nI 31 from rfl, i_shl (by omega), i_shl (by omega), i_or, i_add, Nat.zero_add]
  have := key (z 2) 0 fr_fu (by omega) (by have := fr_fu_big; omega)
  rw [blk_0, fr_row_self] at this
  rw [show L_X5_noteEnds_2 fr_fu 0 σ = _ from this]
  rfl
theorem cl_inner (hc : CR z (σ 16)) (hw : WFl z B) (hE : ∀ k, k < z 2 → σ 46 k = nI (2 ^ z (23 + k) ||| 2 ^ z (32 + k))) {U w : Nat} (hU : U < 512) (h : w < 256) : ∀ (m j n : Nat), j + m = z 2 → m < n → L_X5_flood_28 (nI U) n (nI (rdn z U w j)) (nI j) σ = some (nI (rdn z U w (z 2)), nI (z 2), σ) := by
  have h2 := hw.2.2.2.2.1
  intro m
  induction m with
  | zero =>
    intro j n hj hn
    obtain ⟨n, rfl⟩ : ∃ m, n = m + 1 := ⟨n - 1, by omega⟩
    have hj : j = z 2 := by omega
    rw [L_X5_flood_28, cl_roads (o := 15) hc, fr_bP_mk, hj, if_pos ((i_le (by omega) (by omega)).mpr (Nat.le_refl _))]
  | succ m ih =>
    intro j n hj hn
    obtain ⟨n, rfl⟩ : ∃ m, n = m + 1 := ⟨n - 1, by omega⟩
    have hl := hw.2.2.2.2.2.2.2.2.2.2 j (by omega)
    have hr := rdn_lt hw (U := U) h (j := j) (by omega)
    obtain ⟨k1, k2, k3, k4⟩ := bit_or _ hr (z (23 + j)) (by omega) (z (32 + j)) (by omega)
    have e := i_bit hU (show j < 9 by omega)
    rw [← ih (j + 1) n (by omega) (by omega), L_X5_flood_28, cl_roads (o := 15) hc, fr_bP_mk, if_neg (fun q => absurd ((i_le (by omega) (by omega)).mp q) (by omega)), i_chk (show j < 9 by omega) (by omega), i_ix (by omega), hE j (by omega), i_and, i_or, k2]
    show _ = L_X5_flood_28 (nI U) n (nI (rs z U (rdn z U w j) j)) (nI (j + 1)) σ
    unfold rs
    by_cases hb : U.testBit j = true
    · rw [if_pos (show (nI U >>> (nI j &&& 31)) &&& (1 : Int32) = 1 from e.mpr hb), if_pos hb]
      by_cases h0 : rdn z U w j &&& (2 ^ z (23 + j) ||| 2 ^ z (32 + j)) = 0
      · rw [if_pos (by rw [h0]; rfl), fr_bS_mk, fr_let_eq, nI_1, k1.mp h0]
        rfl
      · have hlt : rdn z U w j &&& (2 ^ z (23 + j) ||| 2 ^ z (32 + j)) < 256 := Nat.lt_of_le_of_lt Nat.and_le_left hr
        rw [if_neg (show ¬ nI (rdn z U w j &&& (2 ^ z (23 + j) ||| 2 ^ z (32 + j))) = (0 : Int32) from fun q => h0 ((i_eq (b := 0) (by omega) (by omega)).mp q)), i_chk (show j < 9 by omega) (by omega), fr_let_eq, fr_bS_mk, fr_let_eq, nI_1, if_pos (Decidable.not_not.mp (fun q => h0 (k1.mpr (Bool.eq_false_iff.mpr q))))]
    · rw [if_neg (show ¬ (nI U >>> (nI j &&& 31)) &&& (1 : Int32) = 1 from fun q => hb (e.mp q)), if_neg hb, fr_bS_mk, fr_let_eq, nI_1]
theorem rdI_fix {U M w : Nat} {t : Nat} (h : rdI z U M w (t + 1) = rdI z U M w t) : ∀ d, rdI z U M w (t + d) = rdI z U M w t
  | 0 => rfl
  | d + 1 => by
    show rdn z U (rdI z U M w (t + d)) M = _
    rw [rdI_fix h d]
    exact h
theorem cl_flood (hc : CR z (σ 16)) (hw : WFl z B) (hE : ∀ k, k < z 2 → σ 46 k = nI (2 ^ z (23 + k) ||| 2 ^ z (32 + k))) {U f : Nat} (hU : U < 512) (hf : f < 8) : F_X5_flood (nI f) (nI U) σ = some (nI (rdI z U (z 2) (2 ^ f) 8), σ) := by
  have h2 := hw.2.2.2.2.1
  have hfu := fr_fu_big
  have hp : 2 ^ f < 256 := by
    have : 2 ^ f ≤ 2 ^ 7 := Nat.pow_le_pow_right (by omega) (by omega)
    omega
  have key : ∀ (m t n : Nat) (b : Bool), t + m = 8 → m < n → (b = false → rdI z U (z 2) (2 ^ f) 8 = rdI z U (z 2) (2 ^ f) t) → ∃ x y, L_X5_flood_10 (nI U) n (nI (rdI z U (z 2) (2 ^ f) t)) (fr_bi b) (nI t) σ = some (nI (rdI z U (z 2) (2 ^ f) 8), x, y, σ) := by
    intro m
    induction m with
    | zero =>
      intro t n b ht hn hb
      obtain ⟨n, rfl⟩ : ∃ m, n = m + 1 := ⟨n - 1, by omega⟩
      have ht : t = 8 := by omega
      subst ht
      refine ⟨fr_bi b, nI 8, ?_⟩
      rw [L_X5_flood_10, if_pos (show (8 : Int32) ≤ nI 8 by decide)]
    | succ m ih =>
      intro t n b ht hn hb
      obtain ⟨n, rfl⟩ : ∃ m, n = m + 1 := ⟨n - 1, by omega⟩
      rw [L_X5_flood_10, if_neg (show ¬ (8 : Int32) ≤ nI t from fun q => absurd ((i_le (a := 8) (by omega) (by omega)).mp q) (by omega))]
      cases b
      · refine ⟨fr_bi false, nI t, ?_⟩
        rw [if_pos (show fr_bi false = 0 from rfl), hb rfl]
      · have hlt := rdI_lt hw (U := U) h2 hp t
        have hlt2 := rdI_lt hw (U := U) h2 hp (t + 1)
        have hin := cl_inner hc hw hE hU hlt (z 2) 0 fr_fu (by omega) (by omega)
        rw [if_neg fr_nb, show (0 : Int32) = nI 0 from rfl, show L_X5_flood_28 (nI U) fr_fu (nI (rdI z U (z 2) (2 ^ f) t)) (nI 0) σ = _ from hin, fr_bP_mk, fr_pP_mk]
        show ∃ x y, fr_bS (if nI (rdI z U (z 2) (2 ^ f) (t + 1)) = nI (rdI z U (z 2) (2 ^ f) t) then some (nI 0) else some (1 : Int32)) _ = _
        by_cases he : rdI z U (z 2) (2 ^ f) (t + 1) = rdI z U (z 2) (2 ^ f) t
        · obtain ⟨x, y, hxy⟩ := ih (t + 1) n false (by omega) (by omega) (fun _ => by
            have := rdI_fix he (8 - t)
            rw [show t + (8 - t) = 8 by omega] at this
            rw [this, he])
          refine ⟨x, y, ?_⟩
          rw [if_pos (by rw [he]), fr_bS_mk, fr_let_eq, nI_1]
          exact hxy
        · obtain ⟨x, y, hxy⟩ := ih (t + 1) n true (by omega) (by omega) (fun q => by cases q)
          refine ⟨x, y, ?_⟩
          rw [if_neg (fun q => he ((i_eq (by omega) (by omega)).mp q)), fr_bS_mk, fr_let_eq, nI_1]
          exact hxy
  unfold F_X5_flood
  obtain ⟨x, y, hxy⟩ := key 8 0 fr_fu true (by omega) (by omega) (fun q => by cases q)
  rw [show (1 : Int32) <<< (nI f &&& 31) = nI (2 ^ f) from i_shl (by omega), fr_let_eq, show L_X5_flood_10 (nI U) fr_fu (nI (2 ^ f)) (1 : Int32) (0 : Int32) σ = _ from hxy]
  rfl
theorem rf_step (hr : RR z (σ 63)) (hw : WFl z B) {U : Nat} (hU : U < 512) (hUM : ∀ k, z 2 ≤ k → U.testBit k = false) {t w : Nat} (ht : t < 72) (h : w < 256) (n : Nat) : L_X8_reachBy_7 (nI U) (n + 1) (nI w) (nI t) σ = L_X8_reachBy_7 (nI U) n (nI (rs z U w (t % 9))) (nI (t + 1)) σ := by
  have hk : t % 9 < 9 := Nat.mod_lt _ (by omega)
  have hl := hw.2.2.2.2.2.2.2.2.2.2 (t % 9) hk
  obtain ⟨k1, k2⟩ := bit_two w h (z (23 + t % 9)) (by omega) (z (32 + t % 9)) (by omega)
  rw [L_X8_reachBy_7, if_neg (show ¬ (72 : Int32) ≤ nI t from fun q => absurd ((i_le (a := 72) (by omega) (by omega)).mp q) (by omega)), show (9 : Int32) = nI 9 from rfl, i_rem (by omega) (by omega) (by omega), fr_let_eq, rf_has hU hk, fr_bP_mk]
  unfold rs
  by_cases hb : U.testBit (t % 9) = true
  · rw [hb, if_neg fr_nb, if_pos rfl, show (23 : Int32) = nI 23 from rfl, show (32 : Int32) = nI 32 from rfl, i_add, i_add, i_chk (by omega) (by omega), i_ix (by omega), hr.1 (23 + t % 9) (by omega), rf_has (by omega) (by omega), fr_bP_mk, i_chk (by omega) (by omega), i_ix (by omega), hr.1 (32 + t % 9) (by omega), show (1 : Int32) <<< (nI (z (32 + t % 9)) &&& 31) = nI (2 ^ z (32 + t % 9)) from i_shl (by omega)]
    have e1 : (fr_bS (if fr_bi (w.testBit (z (23 + t % 9))) = 0 then some (0 : Int32) else some (nI (2 ^ z (32 + t % 9)))) fun v14 => some (nI w ||| v14)) = some (nI (if w.testBit (z (23 + t % 9)) then w ||| 2 ^ z (32 + t % 9) else w)) := by
      cases w.testBit (z (23 + t % 9))
      · rw [if_pos (show fr_bi false = 0 from rfl), fr_bS_mk, show (0 : Int32) = nI 0 from rfl, i_or, Nat.or_zero]
        rfl
      · rw [if_neg fr_nb, fr_bS_mk, i_or]
        rfl
    have e2 : ∀ {α : Type} (x : Option Int32) (y : Int32) (f : Int32 → Option α) , (fr_bS x fun v => some (nI w ||| v)) = some y → fr_bS x (fun v => fr_let (nI w ||| v) f) = f y := by
      intro α x y f hx
      cases x with
      | none => cases hx
      | some v => rw [← Option.some.inj hx]; rfl
    rw [e2 _ _ _ e1]
    have hw1 : (if w.testBit (z (23 + t % 9)) then w ||| 2 ^ z (32 + t % 9) else w) < 256 := k2
    generalize hg : (if w.testBit (z (23 + t % 9)) then w ||| 2 ^ z (32 + t % 9) else w) = w1 at hw1 k1 ⊢
    rw [i_chk (by omega) (by omega), rf_has (by omega) (by omega), fr_bP_mk]
    simp only [i_chk (show 23 + t % 9 < 122 by omega) (show 122 < 2147483648 by decide), i_ix (show 23 + t % 9 < 2147483648 by omega), hr.1 (23 + t % 9) (by omega)]
    rw [show (1 : Int32) <<< (nI (z (23 + t % 9)) &&& 31) = nI (2 ^ z (23 + t % 9)) from i_shl (by omega)]
    rw [← k1]
    cases w1.testBit (z (32 + t % 9))
    · rw [if_pos (show fr_bi false = 0 from rfl), fr_bS_mk, fr_let_eq, fr_bP_mk, fr_let_eq, nI_1, show (0 : Int32) = nI 0 from rfl, i_or, Nat.or_zero]
      rfl
    · rw [if_neg fr_nb, fr_bS_mk, fr_let_eq, fr_bP_mk, fr_let_eq, nI_1, i_or]
      rfl
  · rw [Bool.eq_false_iff.mpr hb, if_pos (show fr_bi false = 0 from rfl), fr_bP_mk, fr_let_eq, nI_1]
    rfl
theorem rf_rounds (hr : RR z (σ 63)) (hw : WFl z B) {U w0 : Nat} (hU : U < 512) (hUM : ∀ k, z 2 ≤ k → U.testBit k = false) (h : w0 < 256) : ∀ (m q j n : Nat), q < 8 → j < 9 → 9 * q + j + m = 72 → m < n → L_X8_reachBy_7 (nI U) n (nI (rdn z U (rdI z U 9 w0 q) j)) (nI (9 * q + j)) σ = some (nI (rdI z U 9 w0 8), nI 72, σ) := by
  intro m
  induction m with
  | zero => intro q j n hq hj he hn; omega
  | succ m ih =>
    intro q j n hq hj he hn
    obtain ⟨n, rfl⟩ : ∃ m, n = m + 1 := ⟨n - 1, by omega⟩
    have hlt := rdn_lt hw (U := U) (rdI_lt hw (U := U) (M := 9) (by omega) h q) (j := j) (by omega)
    rw [rf_step hr hw hU hUM (by omega) hlt, show (9 * q + j) % 9 = j by omega]
    show L_X8_reachBy_7 (nI U) n (nI (rdn z U (rdI z U 9 w0 q) (j + 1))) _ σ = _
    by_cases hj1 : j + 1 < 9
    · exact ih q (j + 1) n hq hj1 (by omega) (by omega)
    · have : j + 1 = 9 := by omega
      rw [this, show 9 * q + j + 1 = 9 * (q + 1) + 0 by omega]
      by_cases hq1 : q + 1 < 8
      · exact ih (q + 1) 0 n hq1 (by omega) (by omega) (by omega)
      · have hq8 : q + 1 = 8 := by omega
        obtain ⟨n, rfl⟩ : ∃ m, n = m + 1 := ⟨n - 1, by omega⟩
        rw [hq8, L_X8_reachBy_7, if_pos (show (72 : Int32) ≤ nI (9 * 8 + 0) by decide)]
        show some (nI (rdI z U 9 w0 (q + 1)), nI (9 * 8 + 0), σ) = _
        rw [hq8]
theorem rdn_more {U w M : Nat} (hUM : ∀ k, M ≤ k → U.testBit k = false) : ∀ d, rdn z U w (M + d) = rdn z U w M
  | 0 => rfl
  | d + 1 => by
    show rs z U (rdn z U w (M + d)) (M + d) = _
    unfold rs
    rw [hUM (M + d) (by omega), if_neg (by decide), rdn_more hUM d]
theorem rdI_more {U w M : Nat} (hM : M ≤ 9) (hUM : ∀ k, M ≤ k → U.testBit k = false) : ∀ n, rdI z U 9 w n = rdI z U M w n
  | 0 => rfl
  | n + 1 => by
    show rdn z U (rdI z U 9 w n) 9 = rdn z U (rdI z U M w n) M
    rw [rdI_more hM hUM n]
    have := rdn_more (z := z) (w := rdI z U M w n) hUM (9 - M)
    rw [show M + (9 - M) = 9 by omega] at this
    exact this
/-- what is reached -/
def rch (z : Nat → Nat) (U f : Nat) : Nat := rdI z U (z 2) (2 ^ f) 8
theorem rf_reachBy (hr : RR z (σ 63)) (hw : WFl z B) {U f : Nat} (hU : U < 2 ^ z 2) (hf : f < 8) : F_X8_reachBy (nI f) (nI U) σ = some (nI (rch z U f), σ) := by
  have h2 := hw.2.2.2.2.1
  have hp : 2 ^ f < 256 := by
    have : 2 ^ f ≤ 2 ^ 7 := Nat.pow_le_pow_right (by omega) (by omega)
    omega
  have hp2 : 2 ^ z 2 ≤ 2 ^ 9 := Nat.pow_le_pow_right (by omega) h2
  have hUM : ∀ k, z 2 ≤ k → U.testBit k = false := fun k hk => Nat.testBit_lt_two_pow (Nat.lt_of_lt_of_le hU (Nat.pow_le_pow_right (by omega) hk))
  have key := rf_rounds hr hw (U := U) (w0 := 2 ^ f) (by omega) hUM hp 72 0 0 fr_fu (by omega) (by omega) (by omega) (by have := fr_fu_big; omega)
  unfold F_X8_reachBy
  rw [show (1 : Int32) <<< (nI f &&& 31) = nI (2 ^ f) from i_shl (by omega), fr_let_eq, show L_X8_reachBy_7 (nI U) fr_fu (nI (2 ^ f)) (0 : Int32) σ = _ from key, rdI_more h2 hUM]
  rfl
theorem opm_lt {q : Nat} : opm z q < 2 ^ z 2 := msk_lt _ _
theorem st_reach (hN : N ≤ 1000) (h : Rel N σ) (a1 : Int32) : Ok N (F_X7_reach a1) (F_X8_reach a1) σ := by
  obtain ⟨z, hz, hc, hr, h4⟩ := h.2.2.2.1
  obtain ⟨b0, b1, b2, b3, b4⟩ := hz.b
  cases hi : fr_ib a1 (z 3)
  · refine ⟨-1000001, σ, σ, ?_, ?_, h.mono⟩
    · unfold F_X7_reach
      rw [cl_hasPerson (o := 15) hc b3, hi]
      rfl
    · unfold F_X8_reach
      rw [rf_isPerson hr b3, hi]
      rfl
  · obtain ⟨q, hq, rfl⟩ := ib_nI hi
    have hw := hz.wf 3 (by omega)
    have hb := hw.2.2.2.2.2.2.2.2.1 q hq
    have hU : opm z q < 2 ^ z 2 := opm_lt
    have hp2 : 2 ^ z 2 ≤ 2 ^ 9 := Nat.pow_le_pow_right (by omega) b2
    obtain ⟨s, e1, e2, e3⟩ := cl_noteEnds hc hw
    have hc1 : CR z (s 16) := by rw [e2 16 (by omega)]; exact hc
    have hX : F_X7_reach (nI q) σ = some (nI (rch z (opm z q) (z (6 + q))), s) := by
      unfold F_X7_reach F_X5_reachOf
      rw [cl_hasPerson (o := 15) hc b3, hi, fr_bP_mk, if_neg fr_nb, e1, fr_bS_mk, cl_placeOf (o := 15) hc1 (by omega), fr_bP_mk, cl_openTo (o := 15) hc1 hw (by omega) hq, fr_bP_mk, cl_flood hc1 hw e3 (by omega) (by omega)]
      rfl
    have hr1 : RR z (s 63) := by rw [e2 63 (by omega)]; exact hr
    have hM : F_X8_reach (nI q) s = some (nI (rch z (opm z q) (z (6 + q))), s) := by
      unfold F_X8_reach
      rw [rf_isPerson hr1 b3, hi, fr_bP_mk, if_neg fr_nb, show (6 : Int32) = nI 6 from rfl, i_add, i_chk (by omega) (by omega), i_ix (by omega), rf_soleOf hr1 (by omega), fr_bP_mk, rf_openTo hr1 hw (by omega) (by omega), fr_bP_mk, hr1.1 (6 + q) (by omega)]
      show fr_bP (fr_bP (F_X8_reachBy (nI (z (6 + q))) (nI (opm z q)) s) _) _ = _
      rw [rf_reachBy hr1 hw hU (by omega)]
      rfl
    exact ⟨_, s, s, hX, hM, (Rel_scr h (fun a ha => e2 a (fun q => ha (by unfold scr; omega)))).mono⟩
end FLD
