/-! ===== the reference's small methods ===== -/
theorem lg_lt (a b : Int64) : (lg_cmp a b < 0) ↔ a.toInt < b.toInt := by
  unfold lg_cmp
  by_cases h : a > b
  · rw [if_pos h]
    have h1 : b.toInt < a.toInt := Int64.lt_iff_toInt_lt.mp h
    exact ⟨fun q => absurd q (by decide), fun q => by omega⟩
  · rw [if_neg h]
    have h1 : ¬ b.toInt < a.toInt := fun q => h (Int64.lt_iff_toInt_lt.mpr q)
    by_cases he : a = b
    · rw [if_pos he]
      subst he
      exact ⟨fun q => absurd q (by decide), fun q => by omega⟩
    · rw [if_neg he]
      have h2 : a.toInt ≠ b.toInt := fun q => he (Int64.toInt_inj.mp q)
      exact ⟨fun _ => by omega, fun _ => by decide⟩
theorem lg_gt (a b : Int64) : (0 < lg_cmp a b) ↔ b.toInt < a.toInt := by
  unfold lg_cmp
  by_cases h : a > b
  · rw [if_pos h]
    have h1 : b.toInt < a.toInt := Int64.lt_iff_toInt_lt.mp h
    exact ⟨fun _ => h1, fun _ => by decide⟩
  · rw [if_neg h]
    have h1 : ¬ b.toInt < a.toInt := fun q => h (Int64.lt_iff_toInt_lt.mpr q)
    by_cases he : a = b
    · rw [if_pos he]
      exact ⟨fun q => absurd q (by decide), fun q => absurd q h1⟩
    · rw [if_neg he]
      exact ⟨fun q => absurd q (by decide), fun q => absurd q h1⟩
section RFL
variable {z : Nat → Nat} {σ : fr_St} {B : Nat}
theorem rf_in (a b c : Int64) (σ : fr_St) : F_X8_in a b c σ = some (decide (b.toInt ≤ a.toInt ∧ a.toInt ≤ c.toInt), σ) := by
  unfold F_X8_in
  have e1 := lg_lt a b
  have e2 := lg_gt a c
  by_cases h1 : lg_cmp a b < 0
  · have g1 := e1.mp h1
    rw [if_pos h1, decide_eq_false (by omega)]
    rfl
  · have g1 : ¬ a.toInt < b.toInt := fun q => h1 (e1.mpr q)
    rw [if_neg h1]
    by_cases h2 : 0 < lg_cmp a c
    · have g2 := e2.mp h2
      rw [if_pos h2, decide_eq_false (by omega)]
      rfl
    · have g2 : ¬ c.toInt < a.toInt := fun q => h2 (e2.mpr q)
      rw [if_neg h2, decide_eq_true (by omega)]
      rfl
theorem rf_in0 (x : Int32) {c : Int64} {n : Nat} (hc : c.toInt = (n : Int) - 1) (σ : fr_St) : F_X8_in x.toInt64 0 c σ = some (fr_ib x n, σ) := by
  rw [rf_in, Int32.toInt_toInt64, hc]
  unfold fr_ib
  have : ((0 : Int64).toInt ≤ x.toInt ∧ x.toInt ≤ (n : Int) - 1) = (0 ≤ x.toInt ∧ x.toInt < (n : Int)) := by
    have z0 : (0 : Int64).toInt = 0 := rfl
    rw [z0]
    apply propext
    omega
  simp only [this]
theorem rf_pred {n : Nat} (hn : n < 1000000) : ((nI n - (1 : Int32)).toInt64).toInt = (n : Int) - 1 := by
  rw [Int32.toInt_toInt64]
  exact pk_sub_toInt (a := n) (b := 1) (by omega) (by omega)
theorem rf_isPerson (hr : RR z (σ 63)) (hz : z 3 ≤ 4) (x : Int32) : F_X8_isPerson x σ = some (fr_ib x (z 3), σ) := by
  unfold F_X8_isPerson
  rw [hr.1 3 (by omega), rf_in0 x (rf_pred (by omega))]
  rfl
theorem rf_isRoad (hr : RR z (σ 63)) (hz : z 2 ≤ 9) (x : Int32) : F_X8_isRoad x σ = some (fr_ib x (z 2), σ) := by
  unfold F_X8_isRoad
  rw [hr.1 2 (by omega), rf_in0 x (rf_pred (by omega))]
  rfl
theorem rf_isPlace (hr : RR z (σ 63)) (hz : z 1 ≤ 8) (x : Int32) : F_X8_isPlace x σ = some (fr_ib x (z 1), σ) := by
  unfold F_X8_isPlace
  rw [hr.1 1 (by omega), rf_in0 x (rf_pred (by omega))]
  rfl
theorem rf_isRow (x : Int32) (σ : fr_St) : F_X8_isRow x σ = some (fr_ib x 8, σ) := by
  unfold F_X8_isRow
  rw [rf_in0 (n := 8) x rfl]
  rfl
theorem rf_areTwo (hr : RR z (σ 63)) (hz : z 3 ≤ 4) (x y : Int32) : F_X8_areTwo x y σ = some (fr_ib x (z 3) && fr_ib y (z 3) && decide (x ≠ y), σ) := by
  unfold F_X8_areTwo
  rw [rf_isPerson hr hz, fr_bP_mk]
  cases h1 : fr_ib x (z 3)
  · simp [fr_bP_mk, fr_bi]
  · rw [rf_isPerson hr hz]
    cases h2 : fr_ib y (z 3)
    · simp [fr_bP_mk, fr_bi]
    · by_cases h3 : x = y
      · simp [fr_bP_mk, fr_bi, h3]
      · simp [fr_bP_mk, fr_bi, h3]
theorem rf_soleOf (hr : RR z (σ 63)) {q : Nat} (hq : q < 4) : F_X8_soleOf (nI q) σ = some (nI (z (10 + q)), σ) := by
  simp (disch := omega) only [F_X8_soleOf, i_lit, i_add, i_mul, i_chk, i_ix]
  rw [hr.1 (10 + q) (by omega)]
theorem rf_isByFeet (hr : RR z (σ 63)) (hw : WFl z B) {k : Nat} (hk : k < 9) : F_X8_isByFeet (nI k) σ = some (decide (z (14 + k) < 4), σ) := by
  have h1 := (hw.2.2.2.2.2.2.2.2.2.2 k hk).1
  simp (disch := omega) only [F_X8_isByFeet, i_lit, i_add, i_mul, i_chk, i_ix]
  rw [hr.1 (14 + k) (by omega)]
  simp (disch := omega) only [fr_let_eq, fr_bP_mk, fr_bP_no, fr_bS_mk, fr_bS_no, fr_pP_mk, fr_bR_l, fr_bR_r, fr_bP_if, fr_bS_if, fr_bi0, fr_bi0', fr_bi1, fr_01, fr_10, fr_n10, fr_n01, if_true, if_false, eq_self, ite_true, ite_false, Bool.false_eq_true, Bool.true_eq_false, reduceIte, i_lt, i_le, i_eq]
  by_cases h : 4 ≤ z (14 + k)
  · simp [h, show ¬ z (14 + k) < 4 by omega]
  · simp [h, show z (14 + k) < 4 by omega]
theorem rf_limit (hr : RR z (σ 63)) (hw : WFl z B) {k : Nat} (hk : k < 9) : F_X8_limit (nI k) σ = some (nI (if z (14 + k) = 3 then 2 * z 0 else z 0), σ) := by
  have h1 := (hw.2.2.2.2.2.2.2.2.2.2 k hk).1
  simp (disch := omega) only [F_X8_limit, i_lit, i_add, i_mul, i_chk, i_ix]
  rw [hr.1 (14 + k) (by omega), hr.1 0 (by omega)]
  simp (disch := omega) only [fr_let_eq, fr_bP_mk, fr_bP_no, fr_bS_mk, fr_bS_no, fr_pP_mk, fr_bR_l, fr_bR_r, fr_bP_if, fr_bS_if, fr_bi0, fr_bi0', fr_bi1, fr_01, fr_10, fr_n10, fr_n01, if_true, if_false, eq_self, ite_true, ite_false, Bool.false_eq_true, Bool.true_eq_false, reduceIte, i_lit, i_add, i_mul, i_chk, i_ix, i_lt, i_le, i_eq]
  split <;> rfl
theorem rf_opensOn (hr : RR z (σ 63)) (hw : WFl z B) (hB : B ≤ 100000) {k s d : Nat} (hk : k < 9) (hs : s < 4) (hd : d < 1000000) : F_X8_opensOn (nI k) (nI s) (nI d) σ = some (opn z k s d, σ) := by
  have h1 := (hw.2.2.2.2.2.2.2.2.2.2 k hk).1
  have h2 := hw.2.2.2.2.2.2.2.2.2.1 (k * 4 + s) (by omega)
  have h3 := hw.2.2.2.2.2.2.1
  have h4 := hw.2.1
  unfold F_X8_opensOn
  rw [fr_let_eq, show (4 : Int32) = nI 4 from rfl, i_mul, i_add, show 4 * k + s = k * 4 + s by omega]
  simp (disch := omega) only [i_lit, i_add, i_chk, i_ix]
  rw [hr.1 (14 + k) (by omega)]
  have key : ∀ nd : Nat, 1 ≤ nd → nd ≤ 2 → (fr_bP (F_X8_isByFeet (nI k) σ) (fun b8 s7 => fr_bP (if fr_bi b8 = nI 0 then some (nI 1, s7) else if s7 63 (50 + (k * 4 + s)) < nI nd then some (nI 0, s7) else fr_bP (F_X8_limit (nI k) s7) (fun r17 s16 => if r17 < nI d - s7 63 (86 + (k * 4 + s)) then some (nI 0, s16) else some (nI 1, s16))) (fun v9 s10 => if v9 = nI 0 then some (false, s10) else if v9 = nI 1 then some (true, s10) else none))) = some (decide (4 ≤ z (14 + k)) || (decide (nd ≤ z (50 + (k * 4 + s))) && decide (d ≤ z (86 + (k * 4 + s)) + (if z (14 + k) = 3 then 2 * z 0 else z 0))), σ) := by
    intro nd n1 n2
    rw [rf_isByFeet hr hw hk, fr_bP_mk]
    by_cases hf : 4 ≤ z (14 + k)
    · rw [if_pos (by rw [decide_eq_false (by omega)]; rfl), fr_bP_mk, if_neg (by decide), if_pos rfl]
      simp [hf]
    · rw [if_neg (by rw [decide_eq_true (by omega)]; decide), hr.1 (50 + (k * 4 + s)) (by omega)]
      by_cases ht : z (50 + (k * 4 + s)) < nd
      · rw [if_pos ((i_lt (by omega) (by omega)).mpr ht), fr_bP_mk, if_pos rfl]
        simp [hf, show ¬ nd ≤ z (50 + (k * 4 + s)) by omega]
      · rw [if_neg (fun q => ht ((i_lt (by omega) (by omega)).mp q)), rf_limit hr hw hk, fr_bP_mk, hr.2 hw.1 (k * 4 + s) (by omega), if_neg (show ¬ z (50 + (k * 4 + s)) = 0 by omega)]
        have e : (nI (if z (14 + k) = 3 then 2 * z 0 else z 0) < nI d - nI (z (86 + (k * 4 + s)))) ↔ z (86 + (k * 4 + s)) + (if z (14 + k) = 3 then 2 * z 0 else z 0) < d := by
          rw [i_lt_iff, pk_sub_toInt (by omega) (by omega), i_toInt (by split <;> omega)]
          omega
        by_cases hq : z (86 + (k * 4 + s)) + (if z (14 + k) = 3 then 2 * z 0 else z 0) < d
        · rw [if_pos (e.mpr hq), fr_bP_mk, if_pos rfl]
          simp [hf, show ¬ d ≤ z (86 + (k * 4 + s)) + (if z (14 + k) = 3 then 2 * z 0 else z 0) by omega]
        · rw [if_neg (fun q => hq (e.mp q)), fr_bP_mk, if_neg (by decide), if_pos rfl]
          simp [hf, show nd ≤ z (50 + (k * 4 + s)) by omega, show d ≤ z (86 + (k * 4 + s)) + (if z (14 + k) = 3 then 2 * z 0 else z 0) by omega]
  by_cases h2' : z (14 + k) = 2
  · rw [if_pos (by rw [h2']), fr_bS_mk]
    refine (key 2 (by omega) (by omega)).trans ?_
    simp [opn, h2']
  · rw [if_neg (fun q => h2' ((i_eq (b := 2) (by omega) (by omega)).mp q)), fr_bS_mk]
    refine (key 1 (by omega) (by omega)).trans ?_
    simp [opn, h2']
theorem rf_opens (hr : RR z (σ 63)) (hw : WFl z B) (hB : B ≤ 100000) {k s : Nat} (hk : k < 9) (hs : s < 4) : F_X8_opens (nI k) (nI s) σ = some (opn z k s (z 4), σ) := by
  have h3 := hw.2.2.2.2.2.2.1
  unfold F_X8_opens
  rw [hr.1 4 (by omega), rf_opensOn hr hw hB hk hs (by omega)]
  rfl
theorem rf_solesOf (hr : RR z (σ 63)) (hw : WFl z B) (hB : B ≤ 100000) {k : Nat} (hk : k < 9) : F_X8_solesOf (nI k) σ = some (nI (msk (fun s => opn z k s (z 4)) (z 3)), σ) := by
  have h4 := hw.2.2.2.2.2.1
  unfold F_X8_solesOf
  have key := msk_loop (L_X8_solesOf_4 (nI k)) (fun s => opn z k s (z 4)) (z 3) σ (fun n acc => by
    rw [L_X8_solesOf_4, hr.1 3 (by omega), if_pos ((i_le (by omega) (by omega)).mpr (Nat.le_refl _))]) (fun n acc j hj => by
    rw [L_X8_solesOf_4, hr.1 3 (by omega), if_neg (fun q => absurd ((i_le (by omega) (by omega)).mp q) (by omega)), rf_opens hr hw hB hk (by omega), fr_bP_mk]
    simp only [fr_let_eq, fr_bi0, fr_bS_if, fr_bS_mk]
    rw [show (1 : Int32) = nI 1 from rfl, show (31 : Int32) = nI 31 from rfl, show (0 : Int32) = nI 0 from rfl, i_shl (by omega), i_or, i_or, i_add, Nat.or_zero]
    cases opn z k j (z 4) <;> rfl) (z 3) 0 fr_fu (by omega) (by have := fr_fu_big; omega)
  rw [show (0 : Int32) = nI 0 from rfl]
  rw [show L_X8_solesOf_4 (nI k) fr_fu (nI 0) (nI 0) σ = _ from key]
  rfl
theorem rf_openTo (hr : RR z (σ 63)) (hw : WFl z B) (hB : B ≤ 100000) {s : Nat} (hs : s < 4) : F_X8_openTo (nI s) σ = some (nI (msk (fun k => opn z k s (z 4)) (z 2)), σ) := by
  have h4 := hw.2.2.2.2.1
  unfold F_X8_openTo
  have key := msk_loop (L_X8_openTo_4 (nI s)) (fun k => opn z k s (z 4)) (z 2) σ (fun n acc => by
    rw [L_X8_openTo_4, hr.1 2 (by omega), if_pos ((i_le (by omega) (by omega)).mpr (Nat.le_refl _))]) (fun n acc j hj => by
    rw [L_X8_openTo_4, hr.1 2 (by omega), if_neg (fun q => absurd ((i_le (by omega) (by omega)).mp q) (by omega)), rf_opens hr hw hB (by omega) hs, fr_bP_mk]
    simp only [fr_let_eq, fr_bi0, fr_bS_if, fr_bS_mk]
    rw [show (1 : Int32) = nI 1 from rfl, show (31 : Int32) = nI 31 from rfl, show (0 : Int32) = nI 0 from rfl, i_shl (by omega), i_or, i_or, i_add, Nat.or_zero]
    cases opn z j s (z 4) <;> rfl) (z 2) 0 fr_fu (by omega) (by have := fr_fu_big; omega)
  rw [show (0 : Int32) = nI 0 from rfl]
  rw [show L_X8_openTo_4 (nI s) fr_fu (nI 0) (nI 0) σ = _ from key]
  rfl
theorem rf_across (hr : RR z (σ 63)) (hw : WFl z B) {k a : Nat} (hk : k < 9) (ha : a < 100000) : F_X8_across (nI k) (nI a) σ = some (if z (23 + k) = a then nI (z (32 + k)) else if z (32 + k) = a then nI (z (23 + k)) else -1, σ) := by
  have h1 := (hw.2.2.2.2.2.2.2.2.2.2 k hk)
  unfold F_X8_across
  simp (disch := omega) only [i_lit, i_add, i_chk, i_ix]
  rw [hr.1 (23 + k) (by omega), hr.1 (32 + k) (by omega)]
  simp (disch := omega) only [fr_let_eq, fr_bP_mk, fr_bP_no, fr_bS_mk, fr_bS_no, fr_pP_mk, fr_bR_l, fr_bR_r, fr_bP_if, fr_bS_if, fr_bi0, fr_bi0', fr_bi1, fr_01, fr_10, fr_n10, fr_n01, if_true, if_false, eq_self, ite_true, ite_false, Bool.false_eq_true, Bool.true_eq_false, reduceIte, i_eq]
  by_cases e1 : z (23 + k) = a
  · rw [if_pos e1, if_pos e1]
  · rw [if_neg e1, if_neg e1]
    by_cases e2 : z (32 + k) = a
    · rw [if_pos e2, if_pos e2]
    · rw [if_neg e2, if_neg e2]
end RFL
