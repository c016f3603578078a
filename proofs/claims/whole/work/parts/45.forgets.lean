/-! ===== when a road forgets ===== -/
def gv (z : Nat → Nat) (k s : Nat) : Nat := if z (14 + k) < 4 ∧ opn z k s (z 4) = true then z (86 + (k * 4 + s)) + (if z (14 + k) = 3 then 2 * z 0 else z 0) + 1 - z 4 else 1000000
/-- the least of the first n, at most b -/
def mnl (f : Nat → Nat) (b : Nat) : Nat → Nat
  | 0 => b
  | n + 1 => if f n < mnl f b n then f n else mnl f b n
theorem mnl_le (f : Nat → Nat) (b : Nat) : ∀ n, mnl f b n ≤ b
  | 0 => Nat.le_refl _
  | n + 1 => by
    have := mnl_le f b n
    show (if f n < mnl f b n then f n else mnl f b n) ≤ b
    split <;> omega
section FGT
variable {N : Nat} {σ : fr_St} {z : Nat → Nat} {B : Nat}
theorem opn_feet {k s d : Nat} (hk : z (14 + k) < 4) (h : opn z k s d = true) : z (50 + (k * 4 + s)) ≠ 0 ∧ d ≤ z (86 + (k * 4 + s)) + (if z (14 + k) = 3 then 2 * z 0 else z 0) := by
  unfold opn at h
  rw [decide_eq_false (by omega), Bool.false_or, Bool.and_eq_true] at h
  obtain ⟨h1, h2⟩ := h
  have h1 := of_decide_eq_true h1
  have h2 := of_decide_eq_true h2
  refine ⟨?_, h2⟩
  split at h1 <;> omega
theorem gv_b (hw : WFl z B) {k s : Nat} (hk : k < 9) (hs : s < 4) : gv z k s ≤ 1000000 ∧ (gv z k s < 1000000 → gv z k s ≤ 2000) := by
  have h1 := (hw.2.2.2.2.2.2.2.2.2.1 (k * 4 + s) (by omega)).2
  have h2 := hw.2.2.2.2.2.2.1
  have h3 := hw.2.1
  unfold gv
  split <;> (try split) <;> omega
theorem fg_sole (hc : CR z (σ 16)) (hw : WFl z B) (hB : B ≤ 100000) {k : Nat} (hk : k < 9) (hf : z (14 + k) < 4) : F_X5_daysUntilRoadForgets (nI k) σ = some (nI (mnl (gv z k) 1000000 (z 3)), σ) := by
  have h3 := hw.2.2.2.2.2.1
  have h4 := hw.2.2.2.2.2.2.1
  have h0 := hw.2.1
  have hfu := fr_fu_big
  have key : ∀ (m j n : Nat), j + m = z 3 → m < n → L_X5_daysUntilRoadForgets_5 (nI k) n (nI (mnl (gv z k) 1000000 j)) (nI j) σ = some (nI (mnl (gv z k) 1000000 (z 3)), nI (z 3), σ) := by
    intro m
    induction m with
    | zero =>
      intro j n hj hn
      obtain ⟨n, rfl⟩ : ∃ m, n = m + 1 := ⟨n - 1, by omega⟩
      have hj : j = z 3 := by omega
      rw [L_X5_daysUntilRoadForgets_5, cl_people (o := 15) hc, fr_bP_mk, hj, if_pos ((i_le (by omega) (by omega)).mpr (Nat.le_refl _))]
    | succ m ih =>
      intro j n hj hn
      obtain ⟨n, rfl⟩ : ∃ m, n = m + 1 := ⟨n - 1, by omega⟩
      have hm := mnl_le (gv z k) 1000000 j
      have hg := gv_b hw hk (show j < 4 by omega)
      rw [← ih (j + 1) n (by omega) (by omega), L_X5_daysUntilRoadForgets_5, cl_people (o := 15) hc, fr_bP_mk, if_neg (fun q => absurd ((i_le (by omega) (by omega)).mp q) (by omega)), cl_today (o := 15) hc, fr_bP_mk, cl_opens (o := 15) hc hw hB hk (by omega) (by omega), fr_bP_mk]
      show _ = L_X5_daysUntilRoadForgets_5 (nI k) n (nI (if gv z k j < mnl (gv z k) 1000000 j then gv z k j else mnl (gv z k) 1000000 j)) (nI (j + 1)) σ
      cases ho : opn z k j (z 4)
      · have e : gv z k j = 1000000 := by
          unfold gv
          rw [if_neg (by rw [ho]; exact fun q => by cases q.2)]
        rw [if_pos (show fr_bi false = 0 from rfl), fr_bP_mk, fr_let_eq, nI_1, if_neg (by omega)]
      · obtain ⟨o1, o2⟩ := opn_feet hf ho
        have hb := (hw.2.2.2.2.2.2.2.2.2.1 (k * 4 + j) (by omega)).2
        have e : gv z k j = z (86 + (k * 4 + j)) + (if z (14 + k) = 3 then 2 * z 0 else z 0) + 1 - z 4 := by
          unfold gv
          rw [if_pos ⟨hf, ho⟩]
        rw [if_neg fr_nb, cl_ldo (o := 15) hc hw hk (by omega) o1, fr_bP_mk, cl_today (o := 15) hc, fr_bP_mk, fr_let_eq, fr_bP_mk, fr_let_eq, nI_1, nI_1, i_sub (by omega), ← e]
        by_cases hl : gv z k j < mnl (gv z k) 1000000 j
        · rw [if_pos hl, if_pos ((i_lt (by omega) (by omega)).mpr hl)]
        · rw [if_neg hl, if_neg (fun q => hl ((i_lt (by omega) (by omega)).mp q))]
  unfold F_X5_daysUntilRoadForgets
  rw [show (1000000 : Int32) = nI 1000000 from rfl, show (0 : Int32) = nI 0 from rfl, show L_X5_daysUntilRoadForgets_5 (nI k) fr_fu (nI 1000000) (nI 0) σ = _ from key (z 3) 0 fr_fu (by omega) (by omega)]
  rfl
/-- the least over the soles of a road -/
def gr (z : Nat → Nat) (k : Nat) : Nat := mnl (gv z k) 1000000 (z 3)
theorem fg_road (hc : CR z (σ 16)) (hw : WFl z B) (hB : B ≤ 100000) : F_X5_daysUntilForgotten σ = F_X5_noneIfFar (nI (mnl (gr z) 1000000 (z 2))) σ := by
  have h2 := hw.2.2.2.2.1
  have hfu := fr_fu_big
  have key : ∀ (m j n : Nat), j + m = z 2 → m < n → L_X5_daysUntilForgotten_5 n (nI (mnl (gr z) 1000000 j)) (nI j) σ = some (nI (mnl (gr z) 1000000 (z 2)), nI (z 2), σ) := by
    intro m
    induction m with
    | zero =>
      intro j n hj hn
      obtain ⟨n, rfl⟩ : ∃ m, n = m + 1 := ⟨n - 1, by omega⟩
      have hj : j = z 2 := by omega
      rw [L_X5_daysUntilForgotten_5, cl_roads (o := 15) hc, fr_bP_mk, hj, if_pos ((i_le (by omega) (by omega)).mpr (Nat.le_refl _))]
    | succ m ih =>
      intro j n hj hn
      obtain ⟨n, rfl⟩ : ∃ m, n = m + 1 := ⟨n - 1, by omega⟩
      have hm := mnl_le (gr z) 1000000 j
      have hm2 : gr z j ≤ 1000000 := mnl_le (gv z j) 1000000 (z 3)
      rw [← ih (j + 1) n (by omega) (by omega), L_X5_daysUntilForgotten_5, cl_roads (o := 15) hc, fr_bP_mk, if_neg (fun q => absurd ((i_le (by omega) (by omega)).mp q) (by omega)), cl_obm (o := 15) hc hw (by omega), fr_bP_mk]
      show _ = L_X5_daysUntilForgotten_5 n (nI (if gr z j < mnl (gr z) 1000000 j then gr z j else mnl (gr z) 1000000 j)) (nI (j + 1)) σ
      by_cases hf : z (14 + j) < 4
      · rw [decide_eq_true hf, if_neg fr_nb, fg_sole hc hw hB (by omega) hf, fr_bP_mk, fr_let_eq, fr_bP_mk, fr_let_eq, nI_1]
        show L_X5_daysUntilForgotten_5 n (if nI (gr z j) < nI (mnl (gr z) 1000000 j) then nI (gr z j) else nI (mnl (gr z) 1000000 j)) _ _ = _
        by_cases hl : gr z j < mnl (gr z) 1000000 j
        · rw [if_pos hl, if_pos ((i_lt (by omega) (by omega)).mpr hl)]
        · rw [if_neg hl, if_neg (fun q => hl ((i_lt (by omega) (by omega)).mp q))]
      · have e : ∀ n, mnl (gv z j) 1000000 n = 1000000 := by
          intro n
          induction n with
          | zero => rfl
          | succ n ihn =>
            show (if gv z j n < mnl (gv z j) 1000000 n then gv z j n else mnl (gv z j) 1000000 n) = 1000000
            have : gv z j n = 1000000 := by
              unfold gv
              rw [if_neg (fun q => hf q.1)]
            rw [this, ihn, if_neg (by omega)]
        rw [decide_eq_false hf, if_pos (show fr_bi false = 0 from rfl), fr_bP_mk, fr_let_eq, nI_1, if_neg (by rw [gr, e]; omega)]
  unfold F_X5_daysUntilForgotten
  rw [show (1000000 : Int32) = nI 1000000 from rfl, show (0 : Int32) = nI 0 from rfl, show L_X5_daysUntilForgotten_5 fr_fu (nI 1000000) (nI 0) σ = _ from key (z 2) 0 fr_fu (by omega) (by omega)]
  simp only [fr_bP_mk, fr_pP_mk]
  unfold F_X5_noneIfFar
  split <;> rfl
/-- the reference's never -/
def cap (x : Nat) : Nat := if x = 1000000 then 100000 else x
theorem mnl_min (f : Nat → Nat) {b c : Nat} (h : c ≤ b) : ∀ n, mnl f c n = if mnl f b n < c then mnl f b n else c
  | 0 => by
    show c = if b < c then b else c
    rw [if_neg (by omega)]
  | n + 1 => by
    have ih := mnl_min f h n
    show (if f n < mnl f c n then f n else mnl f c n) = if (if f n < mnl f b n then f n else mnl f b n) < c then (if f n < mnl f b n then f n else mnl f b n) else c
    rw [ih]
    repeat' split
    all_goals omega
theorem fg_small (hw : WFl z B) : ∀ n, n ≤ 9 → mnl (gr z) 1000000 n < 1000000 → mnl (gr z) 1000000 n < 100000 := by
  have h3 := hw.2.2.2.2.2.1
  have s1 : ∀ k, k < 9 → ∀ n, n ≤ 4 → mnl (gv z k) 1000000 n < 1000000 → mnl (gv z k) 1000000 n < 100000 := by
    intro k hk n
    induction n with
    | zero => intro _ h; exact absurd h (by show ¬ (1000000 < 1000000); omega)
    | succ n ih =>
      intro hn
      show (if gv z k n < mnl (gv z k) 1000000 n then gv z k n else mnl (gv z k) 1000000 n) < 1000000 → (if gv z k n < mnl (gv z k) 1000000 n then gv z k n else mnl (gv z k) 1000000 n) < 100000
      have := gv_b hw hk (show n < 4 by omega)
      split
      · intro h; omega
      · intro h; exact ih (by omega) h
  intro n
  induction n with
  | zero => intro _ h; exact absurd h (by show ¬ (1000000 < 1000000); omega)
  | succ n ih =>
    intro hn
    show (if gr z n < mnl (gr z) 1000000 n then gr z n else mnl (gr z) 1000000 n) < 1000000 → (if gr z n < mnl (gr z) 1000000 n then gr z n else mnl (gr z) 1000000 n) < 100000
    split
    · intro h; exact s1 n (by omega) (z 3) (by omega) h
    · intro h; exact ih (by omega) h
theorem fg_ref (hr : RR z (σ 63)) (hw : WFl z B) (hB : B ≤ 100000) : L_X8_forgets_15 fr_fu (nI 100000) (nI 0) σ = some (nI (cap (mnl (gr z) 1000000 (z 2))), nI (z 2 * z 3), σ) := by
  have h2 := hw.2.2.2.2.1
  have h3 := hw.2.2.2.2.2.1
  have h4 := hw.2.2.2.2.2.2.1
  have h0 := hw.2.1
  have hfu := fr_fu_big
  have hMP : z 2 * z 3 ≤ 36 := by
    have := Nat.mul_le_mul h2 h3
    omega
  have small : ∀ (f : Nat → Nat) (b n : Nat), b ≤ 1000000 → (b = 1000000 ∨ b ≤ 2000) → (∀ i, i < n → f i = 1000000 ∨ f i ≤ 2000) → mnl f b n = 1000000 ∨ mnl f b n ≤ 2000 := by
    intro f b n hb hb2
    induction n with
    | zero => intro _; exact hb2
    | succ n ih =>
      intro hf
      show (if f n < mnl f b n then f n else mnl f b n) = 1000000 ∨ (if f n < mnl f b n then f n else mnl f b n) ≤ 2000
      split
      · exact hf n (by omega)
      · exact ih (fun i hi => hf i (by omega))
  have gvs : ∀ k s, k < 9 → s < 4 → gv z k s = 1000000 ∨ gv z k s ≤ 2000 := fun k s hk hs => by
    have := gv_b hw hk hs
    omega
  have grs : ∀ k, k < 9 → gr z k = 1000000 ∨ gr z k ≤ 2000 := fun k hk => small (gv z k) 1000000 (z 3) (by omega) (Or.inl rfl) (fun i hi => gvs k i hk (by omega))
  have vs : ∀ k s, k < 9 → s ≤ 4 → mnl (gv z k) (mnl (gr z) 1000000 k) s = 1000000 ∨ mnl (gv z k) (mnl (gr z) 1000000 k) s ≤ 2000 := fun k s hk hs => small (gv z k) (mnl (gr z) 1000000 k) s (mnl_le _ _ _) (small (gr z) 1000000 k (by omega) (Or.inl rfl) (fun i hi => grs i (by omega))) (fun i hi => gvs k i hk (by omega))
  have exit : ∀ (n : Nat) (v : Int32), L_X8_forgets_15 (n + 1) v (nI (z 2 * z 3)) σ = some (v, nI (z 2 * z 3), σ) := by
    intro n v
    rw [L_X8_forgets_15, hr.1 2 (by omega), hr.1 3 (by omega), i_mul, if_pos ((i_le (by omega) (by omega)).mpr (Nat.le_refl _))]
  by_cases hP : z 3 = 0
  · obtain ⟨n, hn⟩ : ∃ n, fr_fu = n + 1 := ⟨999999999999, rfl⟩
    have e0 : z 2 * z 3 = 0 := by rw [hP]; rfl
    have ex := exit n (nI 100000)
    rw [e0] at ex ⊢
    rw [hn, ex]
    have eg : ∀ k, gr z k = 1000000 := by
      intro k
      unfold gr
      rw [hP]
      rfl
    have em : ∀ k, mnl (gr z) 1000000 k = 1000000 := by
      intro k
      induction k with
      | zero => rfl
      | succ k ih =>
        show (if gr z k < mnl (gr z) 1000000 k then gr z k else mnl (gr z) 1000000 k) = 1000000
        rw [eg, ih, if_neg (by omega)]
    rw [em]
    rfl
  · by_cases hM : z 2 = 0
    · obtain ⟨n, hn⟩ : ∃ n, fr_fu = n + 1 := ⟨999999999999, rfl⟩
      have e0 : z 2 * z 3 = 0 := by rw [hM, Nat.zero_mul]
      have ex := exit n (nI 100000)
      rw [e0] at ex ⊢
      rw [hn, ex, hM]
      rfl
    · have key : ∀ (m k s n : Nat), s < z 3 → k < z 2 → k * z 3 + s + m = z 2 * z 3 → m < n → L_X8_forgets_15 n (nI (cap (mnl (gv z k) (mnl (gr z) 1000000 k) s))) (nI (k * z 3 + s)) σ = some (nI (cap (mnl (gr z) 1000000 (z 2))), nI (z 2 * z 3), σ) := by
        intro m
        induction m with
        | zero =>
          intro k s n hs hk he hn
          have hlin : (k + 1) * z 3 ≤ z 2 * z 3 := Nat.mul_le_mul_right (z 3) (by omega)
          rw [Nat.add_mul, Nat.one_mul] at hlin
          omega
        | succ m ih =>
          intro k s n hs hk he hn
          obtain ⟨n, rfl⟩ : ∃ m, n = m + 1 := ⟨n - 1, by omega⟩
          have hb := (hw.2.2.2.2.2.2.2.2.2.1 (k * 4 + s) (by omega)).2
          have hv := vs k s (by omega) (by omega)
          have hg := gvs k s (by omega) (by omega)
          have ed : (k * z 3 + s) / z 3 = k := by
            rw [Nat.add_comm, Nat.add_mul_div_right _ _ (by omega), Nat.div_eq_of_lt hs, Nat.zero_add]
          have em : (k * z 3 + s) % z 3 = s := by
            rw [Nat.add_comm, Nat.add_mul_mod_self_right, Nat.mod_eq_of_lt hs]
          have hn0 : ¬ nI (z 3) = (0 : Int32) := fun q => hP ((i_eq (b := 0) (by omega) (by omega)).mp q)
          -- the next state
          have step : L_X8_forgets_15 (n + 1) (nI (cap (mnl (gv z k) (mnl (gr z) 1000000 k) s))) (nI (k * z 3 + s)) σ = L_X8_forgets_15 n (nI (cap (mnl (gv z k) (mnl (gr z) 1000000 k) (s + 1)))) (nI (k * z 3 + s + 1)) σ := by
            rw [L_X8_forgets_15, hr.1 2 (by omega), hr.1 3 (by omega), i_mul, if_neg (fun q => absurd ((i_le (by omega) (by omega)).mp q) (by omega)), if_neg hn0, fr_let_eq, if_neg hn0, fr_let_eq, i_rem (by omega) (by omega) (by omega), i_div (by omega) (by omega) (by omega), ed, em, rf_limit hr hw (by omega), fr_bP_mk, show (86 : Int32) = nI 86 from rfl, show (4 : Int32) = nI 4 from rfl, i_mul, i_add, i_add, i_chk (by omega) (by omega), fr_let_eq, i_ix (by omega), rf_isByFeet hr hw (by omega), fr_bP_mk, show 86 + 4 * k + s = 86 + (k * 4 + s) by omega, rf_opens hr hw hB (by omega) (by omega), fr_bP_mk, hr.1 4 (by omega)]
            show _ = L_X8_forgets_15 n (nI (cap (if gv z k s < mnl (gv z k) (mnl (gr z) 1000000 k) s then gv z k s else mnl (gv z k) (mnl (gr z) 1000000 k) s))) (nI (k * z 3 + s + 1)) σ
            by_cases hf : z (14 + k) < 4
            · rw [decide_eq_true hf, if_neg fr_nb]
              cases ho : opn z k s (z 4)
              · have e : gv z k s = 1000000 := by
                  unfold gv
                  rw [if_neg (by rw [ho]; exact fun q => by cases q.2)]
                rw [if_pos (show fr_bi false = 0 from rfl), fr_bP_mk, fr_let_eq, nI_1, if_neg (by omega)]
              · obtain ⟨o1, o2⟩ := opn_feet hf ho
                have e : gv z k s = z (86 + (k * 4 + s)) + (if z (14 + k) = 3 then 2 * z 0 else z 0) + 1 - z 4 := by
                  unfold gv
                  rw [if_pos ⟨hf, ho⟩]
                have hl : (if z (14 + k) = 3 then 2 * z 0 else z 0) ≤ 60 := by split <;> omega
                rw [if_neg fr_nb, hr.2 hw.1 (k * 4 + s) (by omega), if_neg o1, i_sub hb, i_sub (by omega), nI_1, show (if z (14 + k) = 3 then 2 * z 0 else z 0) - (z 4 - z (86 + (k * 4 + s))) + 1 = gv z k s by omega]
                have hc1 : cap (mnl (gv z k) (mnl (gr z) 1000000 k) s) ≤ 100000 := by unfold cap; split <;> omega
                by_cases hle : cap (mnl (gv z k) (mnl (gr z) 1000000 k) s) ≤ gv z k s
                · rw [if_pos ((i_le (by omega) (by omega)).mpr hle), fr_bP_mk, fr_let_eq, nI_1, if_neg (by unfold cap at hle; split at hle <;> omega)]
                · rw [if_neg (fun q => hle ((i_le (by omega) (by omega)).mp q)), fr_bP_mk, fr_let_eq, nI_1, if_pos (by unfold cap at hle; split at hle <;> omega)]
                  have : cap (gv z k s) = gv z k s := by unfold cap; rw [if_neg (by omega)]
                  rw [this]
            · have e : gv z k s = 1000000 := by
                unfold gv
                rw [if_neg (fun q => hf q.1)]
              rw [decide_eq_false hf, if_pos (show fr_bi false = 0 from rfl), fr_bP_mk, fr_let_eq, nI_1, if_neg (by omega)]
          rw [step]
          by_cases hs1 : s + 1 < z 3
          · have := ih k (s + 1) n hs1 hk (by omega) (by omega)
            rw [show k * z 3 + (s + 1) = k * z 3 + s + 1 by omega] at this
            exact this
          · have es : s + 1 = z 3 := by omega
            have ek : mnl (gv z k) (mnl (gr z) 1000000 k) (s + 1) = mnl (gr z) 1000000 (k + 1) := by
              rw [es, mnl_min (gv z k) (mnl_le (gr z) 1000000 k)]
              rfl
            have ei : k * z 3 + s + 1 = (k + 1) * z 3 := by rw [Nat.add_mul, Nat.one_mul]; omega
            rw [ek, ei]
            by_cases hk1 : k + 1 < z 2
            · have := ih (k + 1) 0 n (by omega) hk1 (by omega) (by omega)
              rw [Nat.add_zero] at this
              exact this
            · have ek2 : k + 1 = z 2 := by omega
              obtain ⟨n, rfl⟩ : ∃ m, n = m + 1 := ⟨n - 1, by omega⟩
              rw [ek2]
              exact exit n _
      have := key (z 2 * z 3) 0 0 fr_fu (by omega) (by omega) (by omega) (by omega)
      rw [Nat.zero_mul, Nat.zero_add] at this
      exact this
theorem st_forgets (hN : N ≤ 1000) (h : Rel N σ) : Ok N F_X7_forgets F_X8_forgets σ := by
  obtain ⟨z, hz, hc, hr, h4⟩ := h.2.2.2.1
  obtain ⟨b0, b1, b2, b3, b4⟩ := hz.b
  by_cases h0 : z 0 = 0
  · rw [if_pos h0] at h4
    refine ⟨-1000002, σ, σ, ?_, ?_, h.mono⟩
    · unfold F_X7_forgets
      rw [cl_stands (o := 15) hc b0, decide_eq_false (by omega)]
      rfl
    · unfold F_X8_forgets
      rw [h4]
      rfl
  · have hw := hz.wf 0 (by omega)
    rw [if_neg h0] at h4
    have hm := mnl_le (gr z) 1000000 (z 2)
    have hX : F_X7_forgets σ = some (if mnl (gr z) 1000000 (z 2) < 1000000 then nI (mnl (gr z) 1000000 (z 2)) else -1000000, σ) := by
      unfold F_X7_forgets
      rw [cl_stands (o := 15) hc b0, decide_eq_true (by omega), fr_bP_mk, if_neg fr_nb, fg_road hc hw (by omega)]
      unfold F_X5_noneIfFar
      by_cases e : mnl (gr z) 1000000 (z 2) < 1000000
      · rw [if_pos (show nI (mnl (gr z) 1000000 (z 2)) < (1000000 : Int32) from (i_lt (b := 1000000) (by omega) (by omega)).mpr e), if_pos e]
        rfl
      · rw [if_neg (show ¬ nI (mnl (gr z) 1000000 (z 2)) < (1000000 : Int32) from fun q => e ((i_lt (b := 1000000) (by omega) (by omega)).mp q)), if_neg e]
        rfl
    have hM : F_X8_forgets σ = some (if mnl (gr z) 1000000 (z 2) < 1000000 then nI (mnl (gr z) 1000000 (z 2)) else -1000000, σ) := by
      unfold F_X8_forgets
      rw [h4, if_neg (by decide), show (100000 : Int32) = nI 100000 from rfl, show (0 : Int32) = nI 0 from rfl, fg_ref hr hw (by omega), fr_bP_mk, fr_pP_mk]
      unfold F_X8_orNone
      by_cases e : mnl (gr z) 1000000 (z 2) < 1000000
      · have ec : cap (mnl (gr z) 1000000 (z 2)) = mnl (gr z) 1000000 (z 2) := by unfold cap; rw [if_neg (by omega)]
        have es : mnl (gr z) 1000000 (z 2) < 100000 := fg_small hw (z 2) (by omega) e
        rw [ec, if_pos (show nI (mnl (gr z) 1000000 (z 2)) < (100000 : Int32) from (i_lt (b := 100000) (by omega) (by omega)).mpr es), if_pos e]
        rfl
      · have ec : cap (mnl (gr z) 1000000 (z 2)) = 100000 := by unfold cap; rw [if_pos (by omega)]
        rw [ec, if_neg (show ¬ nI 100000 < (100000 : Int32) by decide), if_neg e]
        rfl
    exact ⟨_, σ, σ, hX, hM, h.mono⟩
end FGT
