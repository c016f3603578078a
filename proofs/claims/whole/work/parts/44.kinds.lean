theorem k_has (x : Int32) (σ : fr_St) : F_X2_hasNumber x σ = some (fr_ib x 6, σ) := by
  unfold F_X2_hasNumber
  rw [show (5 : Int32) = nI 5 from rfl, cl_in2 (by omega), fr_bS_if]
  simp only [fr_bS_mk]
  cases fr_ib x 6 <;> rfl
theorem k_ib {k n : Nat} (h : k < n) (hn : n < 2147483648) : fr_ib (nI k) n = true := by rw [i_ib (by omega)]; exact decide_eq_true h
theorem k_above {k : Nat} (hk : k ≤ 5) (σ : fr_St) : F_X2_above (nI k) σ = some (fr_cA k, σ) := by
  unfold F_X2_above
  rw [k_has, k_ib (by omega) (by omega), fr_bP_mk, if_neg fr_nb, if_pos rfl, i_ix (by omega)]
  rfl
theorem k_stepA {kd st q : Nat} (hk : kd ≤ 5) (hs : st ≤ 5) (hq : q ≤ 5) (n : Nat) (σ : fr_St) : L_X2_isA_4 (nI q) (n + 1) (nI kd) (nI st) σ = if kd = q then some (.inl (true, σ)) else L_X2_isA_4 (nI q) n (fr_cA kd) (nI (st + 1)) σ := by
  rw [L_X2_isA_4, if_neg (show ¬ (5 : Int32) < nI st from fun w => absurd ((i_lt (a := 5) (by omega) (by omega)).mp w) (by omega)), k_has, k_ib (by omega) (by omega), fr_bP_mk, if_neg fr_nb, k_above hk, fr_bP_mk, fr_let_eq, nI_1]
  by_cases e : kd = q
  · rw [if_pos (by rw [e]), if_pos e]
  · rw [if_neg (fun w => e ((i_eq (by omega) (by omega)).mp w)), if_neg e]
theorem k_stepB {st q : Nat} (hs : st ≤ 5) (n : Nat) (σ : fr_St) : L_X2_isA_4 (nI q) (n + 1) (-1) (nI st) σ = some (.inr (-1, nI st, σ)) := by
  rw [L_X2_isA_4, if_neg (show ¬ (5 : Int32) < nI st from fun w => absurd ((i_lt (a := 5) (by omega) (by omega)).mp w) (by omega)), k_has]
  rfl
def isk (kd q : Nat) : Bool := decide (q = 0 ∨ kd = q ∨ (q = 1 ∧ kd < 4) ∨ (q = 4 ∧ kd = 5))
theorem k_isA {kd q : Nat} (h1 : 1 ≤ kd) (h5 : kd ≤ 5) (hq : q ≤ 5) (σ : fr_St) : F_X2_isA (nI kd) (nI q) σ = some (isk kd q, σ) := by
  unfold F_X2_isA
  obtain ⟨m, hm⟩ : ∃ m, fr_fu = m + 1 + 1 + 1 + 1 := ⟨999999999996, rfl⟩
  rw [hm, show (0 : Int32) = nI 0 from rfl, k_stepA h5 (by omega) hq]
  by_cases e0 : kd = q
  · rw [if_pos e0, isk, decide_eq_true (Or.inr (Or.inl e0))]
    rfl
  · rw [if_neg e0]
    rcases (show kd = 1 ∨ kd = 2 ∨ kd = 3 ∨ kd = 4 ∨ kd = 5 by omega) with rfl | rfl | rfl | rfl | rfl
    · rw [show fr_cA 1 = nI 0 from rfl, k_stepA (by omega) (by omega) hq]
      by_cases e1 : 0 = q
      · rw [if_pos e1, isk, decide_eq_true (by omega)]; rfl
      · rw [if_neg e1, show fr_cA 0 = -1 from rfl, k_stepB (by omega), isk, decide_eq_false (by omega)]; rfl
    · rw [show fr_cA 2 = nI 1 from rfl, k_stepA (by omega) (by omega) hq]
      by_cases e1 : 1 = q
      · rw [if_pos e1, isk, decide_eq_true (by omega)]; rfl
      · rw [if_neg e1, show fr_cA 1 = nI 0 from rfl, k_stepA (by omega) (by omega) hq]
        by_cases e2 : 0 = q
        · rw [if_pos e2, isk, decide_eq_true (by omega)]; rfl
        · rw [if_neg e2, show fr_cA 0 = -1 from rfl, k_stepB (by omega), isk, decide_eq_false (by omega)]; rfl
    · rw [show fr_cA 3 = nI 1 from rfl, k_stepA (by omega) (by omega) hq]
      by_cases e1 : 1 = q
      · rw [if_pos e1, isk, decide_eq_true (by omega)]; rfl
      · rw [if_neg e1, show fr_cA 1 = nI 0 from rfl, k_stepA (by omega) (by omega) hq]
        by_cases e2 : 0 = q
        · rw [if_pos e2, isk, decide_eq_true (by omega)]; rfl
        · rw [if_neg e2, show fr_cA 0 = -1 from rfl, k_stepB (by omega), isk, decide_eq_false (by omega)]; rfl
    · rw [show fr_cA 4 = nI 0 from rfl, k_stepA (by omega) (by omega) hq]
      by_cases e1 : 0 = q
      · rw [if_pos e1, isk, decide_eq_true (by omega)]; rfl
      · rw [if_neg e1, show fr_cA 0 = -1 from rfl, k_stepB (by omega), isk, decide_eq_false (by omega)]; rfl
    · rw [show fr_cA 5 = nI 4 from rfl, k_stepA (by omega) (by omega) hq]
      by_cases e1 : 4 = q
      · rw [if_pos e1, isk, decide_eq_true (by omega)]; rfl
      · rw [if_neg e1, show fr_cA 4 = nI 0 from rfl, k_stepA (by omega) (by omega) hq]
        by_cases e2 : 0 = q
        · rw [if_pos e2, isk, decide_eq_true (by omega)]; rfl
        · rw [if_neg e2, show fr_cA 0 = -1 from rfl, k_stepB (by omega), isk, decide_eq_false (by omega)]; rfl
theorem rf_isKind {kd q : Nat} (h5 : kd ≤ 5) (hq : q ≤ 5) (σ : fr_St) : F_X8_isKind (nI kd) (nI q) σ = some (isk kd q, σ) := by
  have key : ∀ kd, kd ≤ 5 → ∀ q, q ≤ 5 → (if nI q = 0 then some (1 : Int32) else if nI kd = nI q then some 1 else if nI q = 1 then (if nI kd < 4 then some 1 else if nI q = 4 then (if nI kd = 5 then some 1 else some 0) else some 0) else if nI q = 4 then (if nI kd = 5 then some 1 else some 0) else some 0) = some (fr_bi (isk kd q)) := by decide +kernel
  unfold F_X8_isKind
  rw [key kd h5 q hq, fr_bS_mk]
  cases isk kd q <;> rfl
section KND
variable {N : Nat} {σ : fr_St}
theorem st_as (h : Rel N σ) (a1 a2 : Int32) : Ok N (F_X7_as a1 a2) (F_X8_as a1 a2) σ := by
  obtain ⟨z, hz, hc, hr, -⟩ := h.2.2.2.1
  obtain ⟨b0, b1, b2, b3, b4⟩ := hz.b
  cases hi : fr_ib a1 (z 2)
  · refine ⟨-1000001, σ, σ, ?_, ?_, h.mono⟩
    · unfold F_X7_as
      rw [cl_hasRoad (o := 15) hc b2, hi]
      rfl
    · unfold F_X8_as
      rw [rf_isRoad hr b2, hi]
      rfl
  · obtain ⟨k, hk, rfl⟩ := ib_nI hi
    have hw := hz.wf 2 (by omega)
    have hkd := hw.2.2.2.2.2.2.2.1 k hk
    cases hj : fr_ib a2 6
    · refine ⟨-1000001, σ, σ, ?_, ?_, h.mono⟩
      · unfold F_X7_as
        rw [cl_hasRoad (o := 15) hc b2, hi, fr_bP_mk, if_neg fr_nb, k_has, hj]
        rfl
      · unfold F_X8_as
        rw [rf_isRoad hr b2, hi, fr_bP_mk, if_neg fr_nb, rf_in0 (n := 6) a2 rfl, hj]
        rfl
    · obtain ⟨q, hq, rfl⟩ := ib_nI hj
      have hX0 : F_X7_as (nI k) (nI q) σ = if isk (z (14 + k)) q = false then F_X7_found 3 σ else F_X7_fine (nI k) σ := by
        unfold F_X7_as
        rw [cl_hasRoad (o := 15) hc b2, hi, fr_bP_mk, if_neg fr_nb, k_has, hj, fr_bP_mk, if_neg fr_nb, cl_kindOf (o := 15) hc (by omega), fr_bP_mk, k_isA (by omega) (by omega) (by omega), fr_bP_mk]
        cases isk (z (14 + k)) q <;> rfl
      have hM0 : ∀ t : fr_St, t 63 = σ 63 → F_X8_as (nI k) (nI q) t = if isk (z (14 + k)) q = false then F_X8_find 3 t else F_X8_well (nI k) t := by
        intro t ht
        have hr1 : RR z (t 63) := by rw [ht]; exact hr
        unfold F_X8_as
        rw [rf_isRoad hr1 b2, hi, fr_bP_mk, if_neg fr_nb, rf_in0 (n := 6) (nI q) rfl, hj, fr_bP_mk, if_neg fr_nb, show (14 : Int32) = nI 14 from rfl, i_add, i_chk (by omega) (by omega), i_ix (by omega), hr1.1 (14 + k) (by omega), rf_isKind (by omega) (by omega), fr_bP_mk]
        cases isk (z (14 + k)) q <;> rfl
      cases hg : isk (z (14 + k)) q
      · exact ⟨_, _, _, by rw [hX0, hg]; rfl, by rw [hM0 _ (fr_up_ne _ _ _ (by omega)), hg]; rfl, (Rel_find h 3).mono⟩
      · exact ⟨_, _, _, by rw [hX0, hg]; rfl, by rw [hM0 _ (fr_up_ne _ _ _ (by omega)), hg]; rfl, (Rel_find h 0).mono⟩
/-- none of the first n has f -/
def nof (f : Nat → Bool) : Nat → Bool
  | 0 => true
  | n + 1 => nof f n && !f n
theorem nof_msk (f : Nat → Bool) : ∀ n, (msk f n = 0) ↔ nof f n = true
  | 0 => by simp [msk, nof]
  | n + 1 => by
    have ih := nof_msk f n
    show (msk f n + (if f n then 2 ^ n else 0) = 0) ↔ (nof f n && !f n) = true
    have hp : 0 < 2 ^ n := Nat.two_pow_pos n
    cases f n
    · simp only [Bool.false_eq_true, if_false, Bool.not_false, Bool.and_true, Nat.add_zero]
      exact ih
    · simp only [if_true, Bool.not_true, Bool.and_false]
      exact ⟨fun q => by omega, fun q => by cases q⟩
theorem nb_inner {z : Nat → Nat} {B : Nat} (hr : RR z (σ 63)) (hw : WFl z B) (hB : B ≤ 100000) {k d : Nat} (hk : k < 9) (hd : d ≤ 99) (b : Bool) : ∀ (m j n : Nat), j + m = z 3 → m < n → L_X8_nobody_49 (nI d) (nI k) n (fr_bi (b && nof (fun s => opn z k s (z 4 + d)) j)) (nI j) σ = some (fr_bi (b && nof (fun s => opn z k s (z 4 + d)) (z 3)), nI (z 3), σ) := by
  have h3 := hw.2.2.2.2.2.1
  have h4 := hw.2.2.2.2.2.2.1
  intro m
  induction m with
  | zero =>
    intro j n hj hn
    obtain ⟨n, rfl⟩ : ∃ m, n = m + 1 := ⟨n - 1, by omega⟩
    have hj : j = z 3 := by omega
    rw [L_X8_nobody_49, hr.1 3 (by omega), hj, if_pos ((i_le (by omega) (by omega)).mpr (Nat.le_refl _))]
  | succ m ih =>
    intro j n hj hn
    obtain ⟨n, rfl⟩ : ∃ m, n = m + 1 := ⟨n - 1, by omega⟩
    rw [L_X8_nobody_49, hr.1 3 (by omega), if_neg (fun q => absurd ((i_le (by omega) (by omega)).mp q) (by omega)), hr.1 4 (by omega), i_add, rf_opensOn hr hw hB hk (by omega) (by omega), fr_bP_mk]
    have hnx := ih (j + 1) n (by omega) (by omega)
    show fr_bP _ _ = some (fr_bi (b && nof (fun s => opn z k s (z 4 + d)) (z 3)), nI (z 3), σ)
    rw [← hnx]
    show fr_bP _ _ = L_X8_nobody_49 (nI d) (nI k) n (fr_bi (b && (nof (fun s => opn z k s (z 4 + d)) j && !opn z k j (z 4 + d)))) (nI (j + 1)) σ
    rw [← Bool.and_assoc]
    generalize (b && nof (fun s => opn z k s (z 4 + d)) j) = c
    generalize opn z k j (z 4 + d) = e
    cases c <;> cases e <;> simp [fr_bi, fr_bP_mk, fr_let_eq, nI_1]
theorem nb_ref {z : Nat → Nat} {B : Nat} (hr : RR z (σ 63)) (hw : WFl z B) (hB : B ≤ 100000) {d : Nat} (hd : d ≤ 99) : L_X8_nobody_29 (nI d) fr_fu 0 0 σ = some (nI (msk (fun k => decide (z (14 + k) < 4) && nof (fun s => opn z k s (z 4 + d)) (z 3)) (z 2)), nI (z 2), σ) := by
  have h2 := hw.2.2.2.2.1
  have h3 := hw.2.2.2.2.2.1
  have hfu := fr_fu_big
  refine msk_loop (L_X8_nobody_29 (nI d)) (fun k => decide (z (14 + k) < 4) && nof (fun s => opn z k s (z 4 + d)) (z 3)) (z 2) σ (fun n acc => ?_) (fun n acc j hj => ?_) (z 2) 0 fr_fu (by omega) (by omega)
  · rw [L_X8_nobody_29, hr.1 2 (by omega), if_pos ((i_le (by omega) (by omega)).mpr (Nat.le_refl _))]
  · have hin := nb_inner hr hw hB (show j < 9 by omega) hd (decide (z (14 + j) < 4)) (z 3) 0 fr_fu (by omega) (by omega)
    rw [show nof (fun s => opn z j s (z 4 + d)) 0 = true from rfl, Bool.and_true] at hin
    rw [L_X8_nobody_29, hr.1 2 (by omega), if_neg (fun q => absurd ((i_le (by omega) (by omega)).mp q) (by omega)), rf_isByFeet hr hw (by omega), fr_bP_mk, fr_let_eq, show (0 : Int32) = nI 0 from rfl, hin, fr_bP_mk, fr_pP_mk]
    rw [show (1 : Int32) = nI 1 from rfl, show (31 : Int32) = nI 31 from rfl, i_shl (by omega)]
    generalize (decide (z (14 + j) < 4) && nof (fun s => opn z j s (z 4 + d)) (z 3)) = c
    cases c
    · rw [if_pos (show fr_bi false = nI 0 from rfl), fr_bS_mk, fr_let_eq, fr_let_eq, i_or, Nat.or_zero, i_add]
      rfl
    · rw [if_neg (show ¬ fr_bi true = nI 0 by decide), fr_bS_mk, fr_let_eq, fr_let_eq, i_or, i_add]
      rfl
theorem nb_cls {z : Nat → Nat} {B : Nat} (hc : CR z (σ 16)) (hw : WFl z B) (hB : B ≤ 100000) {d : Nat} (hd : d ≤ 99) : F_X5_roadsKnowingNobody (nI d) σ = some (nI (msk (fun k => decide (z (14 + k) < 4) && nof (fun s => opn z k s (z 4 + d)) (z 3)) (z 2)), σ) := by
  have h2 := hw.2.2.2.2.1
  have h3 := hw.2.2.2.2.2.1
  have h4 := hw.2.2.2.2.2.2.1
  have hfu := fr_fu_big
  unfold F_X5_roadsKnowingNobody
  have key := msk_loop (L_X5_roadsKnowingNobody_4 (nI d)) (fun k => decide (z (14 + k) < 4) && nof (fun s => opn z k s (z 4 + d)) (z 3)) (z 2) σ (fun n acc => by
    rw [L_X5_roadsKnowingNobody_4, cl_roads (o := 15) hc, fr_bP_mk, if_pos ((i_le (by omega) (by omega)).mpr (Nat.le_refl _))]) (fun n acc j hj => by
    rw [L_X5_roadsKnowingNobody_4, cl_roads (o := 15) hc, fr_bP_mk, if_neg (fun q => absurd ((i_le (by omega) (by omega)).mp q) (by omega)), cl_obm (o := 15) hc hw (by omega), fr_bP_mk, cl_today (o := 15) hc, fr_bP_mk, i_add, cl_solesOf (o := 15) hc hw hB (by omega) (by omega), fr_bP_mk, show (1 : Int32) = nI 1 from rfl, show (31 : Int32) = nI 31 from rfl, i_shl (by omega), i_or]
    have hm := nof_msk (fun s => opn z j s (z 4 + d)) (z 3)
    have hl := msk_lt (fun s => opn z j s (z 4 + d)) (z 3)
    have hp : 2 ^ z 3 ≤ 2 ^ 4 := Nat.pow_le_pow_right (by omega) h3
    cases hf : decide (z (14 + j) < 4)
    · simp only [fr_bf, if_true, fr_bP_mk, fr_let_eq, Bool.false_and, Bool.false_eq_true, if_false, i_add]
    · cases hn : nof (fun s => opn z j s (z 4 + d)) (z 3)
      · rw [if_neg fr_nb, if_neg (show ¬ nI (msk (fun s => opn z j s (z 4 + d)) (z 3)) = (0 : Int32) from fun q => by
          have := hm.mp ((i_eq (b := 0) (by omega) (by omega)).mp q)
          rw [hn] at this
          cases this)]
        simp only [fr_bP_mk, fr_let_eq, Bool.and_false, Bool.false_eq_true, if_false, i_add]
      · rw [if_neg fr_nb, hm.mpr hn, if_pos (show nI 0 = (0 : Int32) from rfl)]
        simp only [fr_bP_mk, fr_let_eq, Bool.and_true, if_true, i_add]) (z 2) 0 fr_fu (by omega) (by omega)
  rw [show (0 : Int32) = nI 0 from rfl]
  rw [show L_X5_roadsKnowingNobody_4 (nI d) fr_fu (nI 0) (nI 0) σ = _ from key]
  rfl
theorem st_nobody (hN : N ≤ 1000) (h : Rel N σ) (a1 : Int32) : Ok N (F_X7_nobody a1) (F_X8_nobody a1) σ := by
  obtain ⟨z, hz, hc, hr, h4⟩ := h.2.2.2.1
  obtain ⟨b0, b1, b2, b3, b4⟩ := hz.b
  by_cases h0 : z 0 = 0
  · rw [if_pos h0] at h4
    refine ⟨-1000002, σ, σ, ?_, ?_, h.mono⟩
    · unfold F_X7_nobody
      rw [cl_stands (o := 15) hc b0, decide_eq_false (by omega)]
      rfl
    · unfold F_X8_nobody
      rw [h4]
      rfl
  · have hw := hz.wf 0 (by omega)
    rw [if_neg h0] at h4
    have e : ∀ (A C : Option (Int32 × fr_St)), (if a1 < 0 then A else if a1 ≤ (99 : Int32) then C else A) = if fr_ib a1 100 = true then C else A := by
      intro A C
      rw [← cl_in2 (x := a1) (n := 99) (by omega)]
      by_cases h0 : a1 < 0
      · rw [if_pos h0, if_pos h0]
      · rw [if_neg h0, if_neg h0]
        by_cases h1 : a1 ≤ (99 : Int32)
        · rw [if_pos h1, if_neg (show ¬ nI 99 < a1 from Int32.not_lt.mpr h1)]
        · rw [if_neg h1, if_pos (show nI 99 < a1 from Int32.not_le.mp h1)]
    cases hi : fr_ib a1 100
    · refine ⟨-1000001, σ, σ, ?_, ?_, h.mono⟩
      · unfold F_X7_nobody
        rw [cl_stands (o := 15) hc b0, decide_eq_true (by omega), fr_bP_mk, if_neg fr_nb, e, hi]
        rfl
      · unfold F_X8_nobody
        rw [h4, if_neg (by decide), rf_in0 (n := 100) a1 rfl, hi]
        rfl
    · obtain ⟨d, hd, rfl⟩ := ib_nI hi
      refine ⟨nI (msk (fun k => decide (z (14 + k) < 4) && nof (fun s => opn z k s (z 4 + d)) (z 3)) (z 2)), σ, σ, ?_, ?_, h.mono⟩
      · unfold F_X7_nobody
        rw [cl_stands (o := 15) hc b0, decide_eq_true (by omega), fr_bP_mk, if_neg fr_nb, e, hi, if_pos rfl, nb_cls hc hw (by omega) (by omega)]
        rfl
      · unfold F_X8_nobody
        rw [h4, if_neg (by decide), rf_in0 (n := 100) (nI d) rfl, hi, fr_bP_mk, if_neg fr_nb, nb_ref hr hw (by omega) (by omega)]
        rfl
end KND
