/-! ===== a land as natural numbers z, in the reference's order; the class's cells c and the reference's st r that hold it ===== -/
theorem i_chk {α : Type} {a n : Nat} (h : a < n) (hn : n < 2147483648) (x : Option α) : (if fr_ib (nI a) n = true then x else none) = x := by
  rw [i_ib (by omega), if_pos (decide_eq_true h)]
def WFl (z : Nat → Nat) (B : Nat) : Prop :=
  1 ≤ z 0 ∧ z 0 ≤ 30 ∧ 2 ≤ z 1 ∧ z 1 ≤ 8 ∧ z 2 ≤ 9 ∧ z 3 ≤ 4 ∧ z 4 ≤ 999 ∧
  (∀ k, k < z 2 → 1 ≤ z (14 + k) ∧ z (14 + k) ≤ 5 ∧ z (23 + k) < z 1 ∧ z (32 + k) < z 1 ∧ z (23 + k) ≠ z (32 + k) ∧ 1 ≤ z (41 + k) ∧ z (41 + k) ≤ 9) ∧
  (∀ q, q < z 3 → z (6 + q) < z 1 ∧ z (10 + q) < z 3) ∧
  (∀ j, j < 36 → z (50 + j) ≤ B ∧ z (86 + j) ≤ z 4) ∧
  (∀ k, k < 9 → z (14 + k) ≤ 5 ∧ z (23 + k) ≤ 7 ∧ z (32 + k) ≤ 7 ∧ z (41 + k) ≤ 9)
def RR (z : Nat → Nat) (r : Nat → Int32) : Prop := (∀ k, k < 86 → r k = nI (z k)) ∧ (1 ≤ z 0 → ∀ j, j < 36 → r (86 + j) = if z (50 + j) = 0 then -1000000 else nI (z (86 + j)))
def CR (z : Nat → Nat) (c : Nat → Int32) : Prop :=
  (∀ k, k < 6 → c k = nI (z k)) ∧ (∀ k, k < 9 → c (6 + k) = nI (z (14 + k)) ∧ c (15 + k) = nI (z (23 + k)) ∧ c (24 + k) = nI (z (32 + k)) ∧ c (33 + k) = nI (z (41 + k))) ∧
  (∀ q, q < 4 → c (42 + q) = nI (z (6 + q)) ∧ c (46 + q) = nI (z (10 + q))) ∧ (∀ j, j < 36 → c (50 + j) = nI (z (50 + j)) ∧ (z (50 + j) ≠ 0 → c (86 + j) = nI (z (86 + j))))
/-- does the road k open to the sole s on the day d -/
def opn (z : Nat → Nat) (k s d : Nat) : Bool := decide (4 ≤ z (14 + k)) || (decide ((if z (14 + k) = 2 then 2 else 1) ≤ z (50 + (k * 4 + s))) && decide (d ≤ z (86 + (k * 4 + s)) + (if z (14 + k) = 3 then 2 * z 0 else z 0)))
/-- a loop that gathers bits -/
theorem msk_loop (L : Nat → Int32 → Int32 → fr_St → Option (Int32 × Int32 × fr_St)) (f : Nat → Bool) (N : Nat) (σ : fr_St) (hx : ∀ n acc, L (n + 1) (nI acc) (nI N) σ = some (nI acc, nI N, σ)) (hs : ∀ n acc j, j < N → L (n + 1) (nI acc) (nI j) σ = L n (nI (if f j then acc ||| 2 ^ j else acc)) (nI (j + 1)) σ) : ∀ (m j n : Nat), j + m = N → m < n → L n (nI (msk f j)) (nI j) σ = some (nI (msk f N), nI N, σ) := by
  intro m
  induction m with
  | zero =>
    intro j n hj hn
    obtain ⟨n, rfl⟩ : ∃ m, n = m + 1 := ⟨n - 1, by omega⟩
    have hj : j = N := by omega
    subst hj
    exact hx n _
  | succ m ih =>
    intro j n hj hn
    obtain ⟨n, rfl⟩ : ∃ m, n = m + 1 := ⟨n - 1, by omega⟩
    rw [hs n _ j (by omega), msk_or]
    exact ih (j + 1) n (by omega) (by omega)
section CLL
variable {o : Nat} {z : Nat → Nat} {σ : fr_St} {B : Nat}
theorem cl_fade (hc : CR z (σ (o + 1))) : F_X3_fade o σ = some (nI (z 0), σ) := by rw [← hc.1 0 (by omega)]; rfl
theorem cl_places (hc : CR z (σ (o + 1))) : F_X3_places o σ = some (nI (z 1), σ) := by rw [← hc.1 1 (by omega)]; rfl
theorem cl_roads (hc : CR z (σ (o + 1))) : F_X3_roads o σ = some (nI (z 2), σ) := by rw [← hc.1 2 (by omega)]; rfl
theorem cl_people (hc : CR z (σ (o + 1))) : F_X3_people o σ = some (nI (z 3), σ) := by rw [← hc.1 3 (by omega)]; rfl
theorem cl_today (hc : CR z (σ (o + 1))) : F_X3_today o σ = some (nI (z 4), σ) := by rw [← hc.1 4 (by omega)]; rfl
theorem cl_spent (hc : CR z (σ (o + 1))) : F_X3_spent o σ = some (nI (z 5), σ) := by rw [← hc.1 5 (by omega)]; rfl
theorem cl_kindOf (hc : CR z (σ (o + 1))) {k : Nat} (hk : k < 9) : F_X3_kindOf o (nI k) σ = some (nI (z (14 + k)), σ) := by
  simp (disch := omega) only [F_X3_kindOf, i_lit, i_add, i_mul, i_chk, i_ix]
  rw [(hc.2.1 k hk).1]
theorem cl_oneEnd (hc : CR z (σ (o + 1))) {k : Nat} (hk : k < 9) : F_X3_oneEnd o (nI k) σ = some (nI (z (23 + k)), σ) := by
  simp (disch := omega) only [F_X3_oneEnd, i_lit, i_add, i_mul, i_chk, i_ix]
  rw [(hc.2.1 k hk).2.1]
theorem cl_otherEnd (hc : CR z (σ (o + 1))) {k : Nat} (hk : k < 9) : F_X3_otherEnd o (nI k) σ = some (nI (z (32 + k)), σ) := by
  simp (disch := omega) only [F_X3_otherEnd, i_lit, i_add, i_mul, i_chk, i_ix]
  rw [(hc.2.1 k hk).2.2.1]
theorem cl_longOf (hc : CR z (σ (o + 1))) {k : Nat} (hk : k < 9) : F_X3_longOf o (nI k) σ = some (nI (z (41 + k)), σ) := by
  simp (disch := omega) only [F_X3_longOf, i_lit, i_add, i_mul, i_chk, i_ix]
  rw [(hc.2.1 k hk).2.2.2]
theorem cl_placeOf (hc : CR z (σ (o + 1))) {q : Nat} (hq : q < 4) : F_X3_placeOf o (nI q) σ = some (nI (z (6 + q)), σ) := by
  simp (disch := omega) only [F_X3_placeOf, i_lit, i_add, i_mul, i_chk, i_ix]
  rw [(hc.2.2.1 q hq).1]
theorem cl_soleOf (hc : CR z (σ (o + 1))) {q : Nat} (hq : q < 4) : F_X3_soleOf o (nI q) σ = some (nI (z (10 + q)), σ) := by
  simp (disch := omega) only [F_X3_soleOf, i_lit, i_add, i_mul, i_chk, i_ix]
  rw [(hc.2.2.1 q hq).2]
theorem cl_times (hc : CR z (σ (o + 1))) {k s : Nat} (hk : k < 9) (hs : s < 4) : F_X3_timesMet o (nI k) (nI s) σ = some (nI (z (50 + (k * 4 + s))), σ) := by
  simp (disch := omega) only [F_X3_timesMet, F_X3_meeting, fr_bP_mk, i_lit, i_add, i_mul, i_chk, i_ix]
  rw [(hc.2.2.2 (k * 4 + s) (by omega)).1]
theorem cl_last (hc : CR z (σ (o + 1))) {k s : Nat} (hk : k < 9) (hs : s < 4) (hz : z (50 + (k * 4 + s)) ≠ 0) : F_X3_lastMet o (nI k) (nI s) σ = some (nI (z (86 + (k * 4 + s))), σ) := by
  simp (disch := omega) only [F_X3_lastMet, F_X3_meeting, fr_bP_mk, i_lit, i_add, i_mul, i_chk, i_ix]
  rw [(hc.2.2.2 (k * 4 + s) (by omega)).2 hz]
theorem cl_obm (hc : CR z (σ (o + 1))) (hw : WFl z B) {k : Nat} (hk : k < 9) : F_X3_opensByMeeting o (nI k) σ = some (decide (z (14 + k) < 4), σ) := by
  have h1 := (hw.2.2.2.2.2.2.2.2.2.2 k hk).1
  simp (disch := omega) only [F_X3_opensByMeeting, cl_kindOf hc hk, fr_let_eq, fr_bP_mk, fr_bP_no, fr_bS_mk, fr_bS_no, fr_pP_mk, fr_bR_l, fr_bR_r, fr_bP_if, fr_bS_if, fr_bi0, fr_bi0', fr_bi1, fr_01, fr_10, fr_n10, fr_n01, if_true, if_false, eq_self, ite_true, ite_false, Bool.false_eq_true, Bool.true_eq_false, reduceIte, i_lit, i_add, i_mul, i_chk, i_ix, i_lt, i_le, i_eq]
  by_cases h : 4 ≤ z (14 + k)
  · simp [h, show ¬ z (14 + k) < 4 by omega]
  · simp [h, show z (14 + k) < 4 by omega]
theorem cl_ldo (hc : CR z (σ (o + 1))) (hw : WFl z B) {k s : Nat} (hk : k < 9) (hs : s < 4) (hz : z (50 + (k * 4 + s)) ≠ 0) : F_X3_lastDayOpen o (nI k) (nI s) σ = some (nI (z (86 + (k * 4 + s)) + (if z (14 + k) = 3 then 2 * z 0 else z 0)), σ) := by
  have h1 := (hw.2.2.2.2.2.2.2.2.2.2 k hk).1
  simp (disch := omega) only [F_X3_lastDayOpen, F_X3_meeting, cl_kindOf hc hk, cl_fade hc, (hc.2.2.2 (k * 4 + s) (by omega)).2 hz, fr_let_eq, fr_bP_mk, fr_bP_no, fr_bS_mk, fr_bS_no, fr_pP_mk, fr_bR_l, fr_bR_r, fr_bP_if, fr_bS_if, fr_bi0, fr_bi0', fr_bi1, fr_01, fr_10, fr_n10, fr_n01, if_true, if_false, eq_self, ite_true, ite_false, Bool.false_eq_true, Bool.true_eq_false, reduceIte, i_lit, i_add, i_mul, i_chk, i_ix, i_lt, i_le, i_eq]
  split <;> rfl
theorem cl_opens (hc : CR z (σ (o + 1))) (hw : WFl z B) (hB : B ≤ 100000) {k s d : Nat} (hk : k < 9) (hs : s < 4) (hd : d < 1000000) : F_X3_opens o (nI k) (nI s) (nI d) σ = some (opn z k s d, σ) := by
  have h1 := (hw.2.2.2.2.2.2.2.2.2.2 k hk).1
  have h2 := hw.2.2.2.2.2.2.2.2.2.1 (k * 4 + s) (by omega)
  have h3 := hw.2.2.2.2.2.2.1
  have h4 := hw.2.1
  unfold F_X3_opens
  rw [cl_obm hc hw hk]
  simp only [fr_bP_mk, fr_bi0]
  by_cases hf : 4 ≤ z (14 + k)
  · rw [if_pos (by simp; omega)]
    simp [opn, hf]
  · rw [if_neg (by simp; omega)]
    have key : ∀ nd : Nat, 1 ≤ nd → nd ≤ 2 → (fr_bP (F_X3_timesMet o (nI k) (nI s) σ) (fun r12 s11 => fr_bP (if r12 < nI nd then (some ((0 : Int32), s11)) else (fr_bP (F_X3_lastDayOpen o (nI k) (nI s) s11) (fun r19 s18 => if r19 < nI d then (some ((0 : Int32), s18)) else (some ((1 : Int32), s18))))) (fun v13 s14 => if v13 = 0 then some (false, s14) else if v13 = 1 then some (true, s14) else none))) = some (decide (nd ≤ z (50 + (k * 4 + s))) && decide (d ≤ z (86 + (k * 4 + s)) + (if z (14 + k) = 3 then 2 * z 0 else z 0)), σ) := by
      intro nd n1 n2
      rw [cl_times hc hk hs]
      simp only [fr_bP_mk]
      by_cases ht : z (50 + (k * 4 + s)) < nd
      · rw [if_pos ((i_lt (by omega) (by omega)).mpr ht)]
        simp [fr_bP_mk, show ¬ nd ≤ z (50 + (k * 4 + s)) by omega]
      · rw [if_neg (fun q => ht ((i_lt (by omega) (by omega)).mp q)), cl_ldo hc hw hk hs (by omega)]
        simp only [fr_bP_mk]
        by_cases hq : z (86 + (k * 4 + s)) + (if z (14 + k) = 3 then 2 * z 0 else z 0) < d
        · rw [if_pos ((i_lt (by split <;> omega) (by omega)).mpr hq)]
          simp [fr_bP_mk, show ¬ d ≤ z (86 + (k * 4 + s)) + (if z (14 + k) = 3 then 2 * z 0 else z 0) by omega]
        · rw [if_neg (fun q => hq ((i_lt (by split <;> omega) (by omega)).mp q))]
          simp [fr_bP_mk, show nd ≤ z (50 + (k * 4 + s)) by omega, show d ≤ z (86 + (k * 4 + s)) + (if z (14 + k) = 3 then 2 * z 0 else z 0) by omega]
    rw [cl_kindOf hc hk]
    simp only [fr_bP_mk]
    by_cases h2' : z (14 + k) = 2
    · rw [if_pos (by rw [h2']; rfl)]
      simp only [fr_bS_mk]
      rw [show (2 : Int32) = nI 2 from rfl, key 2 (by omega) (by omega)]
      simp [opn, hf, h2']
    · rw [if_neg (by rw [show (2 : Int32) = nI 2 from rfl, i_eq (by omega) (by omega)]; exact h2')]
      simp only [fr_bS_mk]
      rw [show (1 : Int32) = nI 1 from rfl] at key ⊢
      rw [key 1 (by omega) (by omega)]
      simp [opn, hf, h2']
theorem cl_stands (hc : CR z (σ (o + 1))) (hz : z 0 ≤ 30) : F_X3_stands o σ = some (decide (0 < z 0), σ) := by
  unfold F_X3_stands
  rw [hc.1 0 (by omega)]
  by_cases h : z 0 ≤ 0
  · rw [if_pos (show nI (z 0) ≤ (0 : Int32) from (i_le (b := 0) (by omega) (by omega)).mpr h)]
    simp [fr_bS_mk, show ¬ 0 < z 0 by omega]
  · rw [if_neg (show ¬ nI (z 0) ≤ (0 : Int32) from fun q => h ((i_le (b := 0) (by omega) (by omega)).mp q))]
    simp [fr_bS_mk, show 0 < z 0 by omega]
theorem ib_iff (x : Int32) (n : Nat) : fr_ib x n = true ↔ 0 ≤ x.toInt ∧ x.toInt < n := by unfold fr_ib; simp
theorem ib_nI {x : Int32} {n : Nat} (h : fr_ib x n = true) : ∃ k, k < n ∧ x = nI k := by
  obtain ⟨h0, h1⟩ := (ib_iff x n).mp h
  have h2 := x.toInt_lt
  refine ⟨x.toInt.toNat, by omega, ?_⟩
  rw [i_eq_iff, i_toInt (by omega)]
  omega
theorem i_toInt0 : (0 : Int32).toInt = 0 := rfl
/-- 'not below 0 and below n' as both sides ask it -/
theorem cl_in {x : Int32} {n : Nat} (hn : n < 2147483648) {α : Type} {a b : α} : (if x < 0 then a else if nI n ≤ x then a else b) = if fr_ib x n = true then b else a := by
  have e0 : x < 0 ↔ x.toInt < 0 := i_lt_iff x 0
  have e1 : nI n ≤ x ↔ (n : Int) ≤ x.toInt := by rw [i_le_iff, i_toInt hn]
  by_cases h0 : x < 0
  · have g0 := e0.mp h0
    rw [if_pos h0, if_neg (by rw [ib_iff]; omega)]
  · have g0 : ¬ x.toInt < 0 := fun q => h0 (e0.mpr q)
    rw [if_neg h0]
    by_cases h1 : nI n ≤ x
    · have g1 := e1.mp h1
      rw [if_pos h1, if_neg (by rw [ib_iff]; omega)]
    · have g1 : ¬ (n : Int) ≤ x.toInt := fun q => h1 (e1.mpr q)
      rw [if_neg h1, if_pos (by rw [ib_iff]; omega)]
theorem cl_inb {x : Int32} {n : Nat} (hn : n < 2147483648) (f : Int32 → fr_St → Option (Bool × fr_St)) (hf0 : f 0 σ = some (false, σ)) (hf1 : f 1 σ = some (true, σ)) : (fr_bP (if x < 0 then some (0, σ) else if nI n ≤ x then some (0, σ) else some (1, σ)) f) = some (fr_ib x n, σ) := by
  rw [cl_in hn, fr_bP_if]
  simp only [fr_bP_mk, hf0, hf1]
  cases fr_ib x n <;> rfl
theorem cl_hasPlace (hc : CR z (σ (o + 1))) (hz : z 1 ≤ 8) (x : Int32) : F_X3_hasPlace o x σ = some (fr_ib x (z 1), σ) := by
  unfold F_X3_hasPlace
  rw [cl_places hc]
  simp only [fr_bP_mk]
  exact cl_inb (by omega) _ rfl rfl
theorem cl_hasRoad (hc : CR z (σ (o + 1))) (hz : z 2 ≤ 9) (x : Int32) : F_X3_hasRoad o x σ = some (fr_ib x (z 2), σ) := by
  unfold F_X3_hasRoad
  rw [cl_roads hc]
  simp only [fr_bP_mk]
  exact cl_inb (by omega) _ rfl rfl
theorem cl_hasPerson (hc : CR z (σ (o + 1))) (hz : z 3 ≤ 4) (x : Int32) : F_X3_hasPerson o x σ = some (fr_ib x (z 3), σ) := by
  unfold F_X3_hasPerson
  rw [cl_people hc]
  simp only [fr_bP_mk]
  exact cl_inb (by omega) _ rfl rfl
theorem cl_areTwo (hc : CR z (σ (o + 1))) (hz : z 3 ≤ 4) (x y : Int32) : F_X3_areTwo o x y σ = some (fr_ib x (z 3) && fr_ib y (z 3) && decide (x ≠ y), σ) := by
  unfold F_X3_areTwo
  rw [cl_hasPerson hc hz, fr_bP_mk]
  cases h1 : fr_ib x (z 3)
  · simp [fr_bP_mk, fr_bi]
  · rw [cl_hasPerson hc hz]
    cases h2 : fr_ib y (z 3)
    · simp [fr_bP_mk, fr_bi]
    · by_cases h3 : x = y
      · simp [fr_bP_mk, fr_bi, h3]
      · simp [fr_bP_mk, fr_bi, h3]
/-- the soles to which a road opens; the roads that open to a person -/
theorem cl_solesOf (hc : CR z (σ (o + 1))) (hw : WFl z B) (hB : B ≤ 100000) {k d : Nat} (hk : k < 9) (hd : d < 1000000) : F_X3_solesOf o (nI k) (nI d) σ = some (nI (msk (fun s => opn z k s d) (z 3)), σ) := by
  have h4 := hw.2.2.2.2.2.1
  unfold F_X3_solesOf
  have key := msk_loop (L_X3_solesOf_5 o (nI k) (nI d)) (fun s => opn z k s d) (z 3) σ (fun n acc => by
    rw [L_X3_solesOf_5, cl_people hc, fr_bP_mk, if_pos ((i_le (by omega) (by omega)).mpr (Nat.le_refl _))]) (fun n acc j hj => by
    rw [L_X3_solesOf_5, cl_people hc, fr_bP_mk, if_neg (fun q => absurd ((i_le (by omega) (by omega)).mp q) (by omega)), cl_opens hc hw hB hk (by omega) hd, fr_bP_mk]
    simp only [fr_let_eq, fr_bi0, fr_bS_if, fr_bS_mk]
    rw [show (1 : Int32) = nI 1 from rfl, show (31 : Int32) = nI 31 from rfl, i_shl (by omega), i_or, i_add]
    cases opn z k j d <;> rfl) (z 3) 0 fr_fu (by omega) (by have := fr_fu_big; omega)
  rw [show (0 : Int32) = nI 0 from rfl]
  rw [show L_X3_solesOf_5 o (nI k) (nI d) fr_fu (nI 0) (nI 0) σ = _ from key]
  rfl
/-- the roads that open to the person q today -/
def opm (z : Nat → Nat) (q : Nat) : Nat := msk (fun k => opn z k (z (10 + q)) (z 4)) (z 2)
theorem cl_openTo (hc : CR z (σ (o + 1))) (hw : WFl z B) (hB : B ≤ 100000) {q : Nat} (hq : q < z 3) : F_X3_roadsOpenTo o (nI q) σ = some (nI (opm z q), σ) := by
  have h4 := hw.2.2.2.2.1
  have h3 := hw.2.2.2.2.2.1
  have h5 := (hw.2.2.2.2.2.2.2.2.1 q hq).2
  have h6 := hw.2.2.2.2.2.2.1
  unfold F_X3_roadsOpenTo
  have key := msk_loop (L_X3_roadsOpenTo_4 o (nI q)) (fun k => opn z k (z (10 + q)) (z 4)) (z 2) σ (fun n acc => by
    rw [L_X3_roadsOpenTo_4, cl_roads hc, fr_bP_mk, if_pos ((i_le (by omega) (by omega)).mpr (Nat.le_refl _))]) (fun n acc j hj => by
    rw [L_X3_roadsOpenTo_4, cl_roads hc, fr_bP_mk, if_neg (fun q => absurd ((i_le (by omega) (by omega)).mp q) (by omega)), cl_soleOf hc (by omega), fr_bP_mk, cl_today hc, fr_bP_mk, cl_opens hc hw hB (by omega) (by omega) (by omega), fr_bP_mk]
    simp only [fr_let_eq, fr_bi0, fr_bS_if, fr_bS_mk]
    rw [show (1 : Int32) = nI 1 from rfl, show (31 : Int32) = nI 31 from rfl, i_shl (by omega), i_or, i_add]
    cases opn z j (z (10 + q)) (z 4) <;> rfl) (z 2) 0 fr_fu (by omega) (by have := fr_fu_big; omega)
  rw [show (0 : Int32) = nI 0 from rfl]
  rw [show L_X3_roadsOpenTo_4 o (nI q) fr_fu (nI 0) (nI 0) σ = _ from key]
  rfl
end CLL
