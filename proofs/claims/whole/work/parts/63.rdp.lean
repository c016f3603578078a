/-! ===== round: the costs of the class, the walks of the reference ===== -/
section RMB
variable {z : Nat → Nat} {B : Nat}
/-- the roads that are wanted -/
def dueM (z : Nat → Nat) (U : Nat) : Nat := msk (fun k => U.testBit k && decide (z (14 + k) < 4)) (z 2)
/-- w lists them -/
def WN (z : Nat → Nat) (U : Nat) (w : Nat → Nat) (c : Nat) : Prop := c ≤ 9 ∧ (∀ k, k < c → w k < z 2 ∧ (dueM z U).testBit (w k) = true) ∧ (∀ r, (dueM z U).testBit r = true → ∃ k, k < c ∧ w k = r) ∧ ∀ k k', k < c → k' < c → w k = w k' → k = k'
def mn (x y : Nat) : Nat := if y < x then y else x
theorem mn_le (x y : Nat) : mn x y ≤ x ∧ mn x y ≤ y := by unfold mn; split <;> omega
/-- the costs once the wanted road k was looked at behind d and from the place r -/
def cl1 (z : Nat → Nat) (U : Nat) (w C : Nat → Nat) (d k r : Nat) : Prop := C ((d ||| 2 ^ k) * 8 + z (32 + w k)) ≤ C (d * 8 + r) + z (41 + w k) + dst z U 0 r (z (23 + w k)) ∧ C ((d ||| 2 ^ k) * 8 + z (23 + w k)) ≤ C (d * 8 + r) + z (41 + w k) + dst z U 0 r (z (32 + w k))
def dws (z : Nat → Nat) (U : Nat) (C : Nat → Nat) (d t r pl : Nat) : Nat → Nat := zup (zup C (t * 8 + z (32 + r)) (mn (C (t * 8 + z (32 + r))) (C (d * 8 + pl) + z (41 + r) + dst z U 0 pl (z (23 + r))))) (t * 8 + z (23 + r)) (mn (C (t * 8 + z (23 + r))) (C (d * 8 + pl) + z (41 + r) + dst z U 0 pl (z (32 + r))))
theorem dws_le (U : Nat) (C : Nat → Nat) (d t r pl i : Nat) : dws z U C d t r pl i ≤ C i := by
  unfold dws zup
  by_cases h1 : i = t * 8 + z (23 + r)
  · rw [if_pos h1, h1]
    exact (mn_le _ _).1
  · rw [if_neg h1]
    by_cases h2 : i = t * 8 + z (32 + r)
    · rw [if_pos h2, h2]
      exact (mn_le _ _).1
    · rw [if_neg h2]
      exact Nat.le_refl _
theorem dws_low (U : Nat) (C : Nat → Nat) (d r pl : Nat) {t i : Nat} (h : i < t * 8) : dws z U C d t r pl i = C i := by
  unfold dws
  rw [zup_ne _ _ (by omega), zup_ne _ _ (by omega)]
theorem or_gt {d k : Nat} (h : d.testBit k = false) : d < d ||| 2 ^ k := by
  have h1 : d ≤ d ||| 2 ^ k := Nat.left_le_or
  have h2 : d ≠ d ||| 2 ^ k := fun q => by
    have e : (d ||| 2 ^ k).testBit k = true := by rw [Nat.testBit_or, Nat.testBit_two_pow_self, Bool.or_true]
    rw [← q, h] at e
    cases e
  omega
theorem dws_new (U : Nat) (C : Nat → Nat) {d k r pl : Nat} (hd : d.testBit k = false) (hpl : pl < 8) (hne : z (23 + r) ≠ z (32 + r)) : dws z U C d (d ||| 2 ^ k) r pl ((d ||| 2 ^ k) * 8 + z (32 + r)) ≤ dws z U C d (d ||| 2 ^ k) r pl (d * 8 + pl) + z (41 + r) + dst z U 0 pl (z (23 + r)) ∧ dws z U C d (d ||| 2 ^ k) r pl ((d ||| 2 ^ k) * 8 + z (23 + r)) ≤ dws z U C d (d ||| 2 ^ k) r pl (d * 8 + pl) + z (41 + r) + dst z U 0 pl (z (32 + r)) := by
  have h := or_gt hd
  rw [dws_low U C d r pl (show d * 8 + pl < (d ||| 2 ^ k) * 8 by omega)]
  generalize (d ||| 2 ^ k) = t at h ⊢
  unfold dws
  constructor
  · rw [zup_ne _ _ (by omega), zup_at]
    exact (mn_le _ _).2
  · rw [zup_at]
    exact (mn_le _ _).2
theorem dws_old (U : Nat) (w C : Nat → Nat) {d k r pl d' k' r' : Nat} (hd : d.testBit k = false) (hd' : d' ≤ d) (hr' : r' < 8) (h : cl1 z U w C d' k' r') : cl1 z U w (dws z U C d (d ||| 2 ^ k) r pl) d' k' r' := by
  have hg := or_gt hd
  have e := dws_low (z := z) U C d r pl (show d' * 8 + r' < (d ||| 2 ^ k) * 8 by omega)
  have a := dws_le (z := z) U C d (d ||| 2 ^ k) r pl ((d' ||| 2 ^ k') * 8 + z (32 + w k'))
  have b := dws_le (z := z) U C d (d ||| 2 ^ k) r pl ((d' ||| 2 ^ k') * 8 + z (23 + w k'))
  obtain ⟨h1, h2⟩ := h
  unfold cl1
  rw [e]
  exact ⟨Nat.le_trans a h1, Nat.le_trans b h2⟩
/-- the reference's rows at rest -/
def RC (z : Nat → Nat) (U : Nat) (R : Nat → Nat) : Prop := (∀ i, R i ≤ 100000) ∧ ∀ r, r < z 2 → U.testBit r = true → ∀ m, m < 512 → (R (512 * z (23 + r) + m) < 100000 → R (512 * z (32 + r) + (m ||| (2 ^ r &&& dueM z U))) ≤ R (512 * z (23 + r) + m) + z (41 + r)) ∧ (R (512 * z (32 + r) + m) < 100000 → R (512 * z (23 + r) + (m ||| (2 ^ r &&& dueM z U))) ≤ R (512 * z (32 + r) + m) + z (41 + r))
def sbs (x y : Nat) : Prop := ∀ j, x.testBit j = true → y.testBit j = true
theorem due_lt (hw : WFl z B) (U : Nat) : dueM z U < 512 := Nat.lt_of_lt_of_le (msk_lt _ _) (Nat.pow_le_pow_right (by omega) hw.2.2.2.2.1)
theorem due_or (hw : WFl z B) (U r : Nat) {m : Nat} (hm : m < 512) (hs : sbs m (dueM z U)) : (m ||| (2 ^ r &&& dueM z U)) < 512 ∧ sbs (m ||| (2 ^ r &&& dueM z U)) (dueM z U) ∧ sbs m (m ||| (2 ^ r &&& dueM z U)) := by
  refine ⟨Nat.or_lt_two_pow (n := 9) hm (Nat.lt_of_le_of_lt Nat.and_le_right (due_lt hw U)), fun j h => ?_, fun j h => ?_⟩
  · rw [Nat.testBit_or, Nat.testBit_and, Bool.or_eq_true, Bool.and_eq_true] at h
    rcases h with h | h
    · exact hs j h
    · exact h.2
  · rw [Nat.testBit_or, h, Bool.true_or]
/-- a shortest way in the reference's rows -/
theorem span_ref (hw : WFl z B) {U : Nat} {R : Nat → Nat} (hR : RC z U R) {p m0 X : Nat} (hm : m0 < 512) (hs : sbs m0 (dueM z U)) (hX : R (512 * p + m0) ≤ X) (hX2 : X ≤ 20000) : ∀ q, dst z U 0 p q = 1000000 ∨ ∃ m, m < 512 ∧ sbs m (dueM z U) ∧ sbs m0 m ∧ R (512 * q + m) ≤ X + dst z U 0 p q := by
  refine dst_ind hw (U := U) (f := p) (fun D => ∀ q, D q = 1000000 ∨ ∃ m, m < 512 ∧ sbs m (dueM z U) ∧ sbs m0 m ∧ R (512 * q + m) ≤ X + D q) (fun q => ?_) (fun D k hk hb hP q => ?_)
  · unfold D0
    by_cases e : q = p
    · rw [if_pos e]
      subst e
      exact Or.inr ⟨m0, hm, hs, fun _ h => h, by omega⟩
    · rw [if_neg e]
      exact Or.inl rfl
  · by_cases h0 : wgt z U 0 k = 0
    · have e : rx z (wgt z U 0) D k = D := by unfold rx; rw [if_pos h0]
      rw [e]
      exact hP q
    · obtain ⟨_, hU⟩ := wgt_n0 h0
      have hg := wgt_open hw hk hU
      have hA := hb (z (23 + k))
      have hB' := hb (z (32 + k))
      have hcl := hR.2 k hk hU
      by_cases h1 : D (z (23 + k)) + wgt z U 0 k < D (z (32 + k))
      · have e : rx z (wgt z U 0) D k = zup D (z (32 + k)) (D (z (23 + k)) + wgt z U 0 k) := by unfold rx; rw [if_neg h0, if_pos h1]
        rw [e]
        by_cases hq : q = z (32 + k)
        · subst hq
          rw [zup_at]
          rcases hP (z (23 + k)) with w | ⟨m, a1, a2, a3, a4⟩
          · omega
          · obtain ⟨b1, b2, b3⟩ := due_or hw U k a1 a2
            have := (hcl m a1).1 (by omega)
            exact Or.inr ⟨_, b1, b2, fun j h => b3 j (a3 j h), by omega⟩
        · rw [zup_ne _ _ hq]
          exact hP q
      · by_cases h2 : D (z (32 + k)) + wgt z U 0 k < D (z (23 + k))
        · have e : rx z (wgt z U 0) D k = zup D (z (23 + k)) (D (z (32 + k)) + wgt z U 0 k) := by unfold rx; rw [if_neg h0, if_neg h1, if_pos h2]
          rw [e]
          by_cases hq : q = z (23 + k)
          · subst hq
            rw [zup_at]
            rcases hP (z (32 + k)) with w | ⟨m, a1, a2, a3, a4⟩
            · omega
            · obtain ⟨b1, b2, b3⟩ := due_or hw U k a1 a2
              have := (hcl m a1).2 (by omega)
              exact Or.inr ⟨_, b1, b2, fun j h => b3 j (a3 j h), by omega⟩
          · rw [zup_ne _ _ hq]
            exact hP q
        · have e : rx z (wgt z U 0) D k = D := by unfold rx; rw [if_neg h0, if_neg h1, if_neg h2]
          rw [e]
          exact hP q
/-- a walk of the reference over the wanted roads of d to p, not longer than x -/
def Wt (z : Nat → Nat) (U : Nat) (w : Nat → Nat) (c : Nat) (R : Nat → Nat) (d p x : Nat) : Prop := ∃ m, m < 512 ∧ sbs m (dueM z U) ∧ (∀ k, k < c → d.testBit k = true → m.testBit (w k) = true) ∧ R (512 * p + m) ≤ x
def Sd (z : Nat → Nat) (U : Nat) (w : Nat → Nat) (c : Nat) (R C : Nat → Nat) : Prop := ∀ d p, d < 512 → p < 8 → C (d * 8 + p) = 1000000 ∨ (C (d * 8 + p) ≤ 657 * pop d ∧ Wt z U w c R d p (C (d * 8 + p)))
theorem Sd_up {U : Nat} {w : Nat → Nat} {c : Nat} {R C : Nat → Nat} (h : Sd z U w c R C) {t e v : Nat} (he : e < 8) (hv : v ≤ 657 * pop t ∧ Wt z U w c R t e v) : Sd z U w c R (zup C (t * 8 + e) v) := by
  intro d p hd hp
  by_cases q : d * 8 + p = t * 8 + e
  · have h1 : d = t := by omega
    have h2 : p = e := by omega
    subst h1
    subst h2
    rw [zup_at]
    exact Or.inr hv
  · rw [zup_ne _ _ q]
    exact h d p hd hp
theorem ro_zs (C : Nat → Nat) (i : Nat) : zup C i (C i) = C := by
  funext j
  unfold zup
  split
  · rename_i q; rw [q]
  · rfl
theorem Sd_mn {U : Nat} {w : Nat → Nat} {c : Nat} {R C : Nat → Nat} (h : Sd z U w c R C) {t e v : Nat} (ht : t < 512) (he : e < 8) (hv : v < 1000000 → v ≤ 657 * pop t ∧ Wt z U w c R t e v) : Sd z U w c R (zup C (t * 8 + e) (mn (C (t * 8 + e)) v)) := by
  unfold mn
  by_cases q : v < C (t * 8 + e)
  · rw [if_pos q]
    have hb := h t e ht he
    have hp := pop_le t
    exact Sd_up h he (hv (by omega))
  · rw [if_neg q, ro_zs]
    exact h
theorem pop_or1 : ∀ d, d < 512 → ∀ k, k < 9 → d.testBit k = false → pop (d ||| 2 ^ k) = pop d + 1 := by decide +kernel
theorem or_512 {d k : Nat} (hd : d < 512) (hk : k < 9) : (d ||| 2 ^ k) < 512 := Nat.or_lt_two_pow (n := 9) hd (Nat.pow_lt_pow_right (by omega) hk)
theorem dws_Sd (hw : WFl z B) {U : Nat} {w : Nat → Nat} {c : Nat} {R C : Nat → Nat} (hR : RC z U R) (hN : WN z U w c) (hUM : ∀ r, (dueM z U).testBit r = true → U.testBit r = true) (h : Sd z U w c R C) {d k pl : Nat} (hd : d < 512) (hk : k < c) (hb : d.testBit k = false) (hpl : pl < 8) : Sd z U w c R (dws z U C d (d ||| 2 ^ k) (w k) pl) := by
  have hc9 := hN.1
  obtain ⟨hr, hdue⟩ := hN.2.1 k hk
  have hl := hw.2.2.2.2.2.2.2.1 (w k) hr
  have h1 := hw.2.2.2.1
  have ht := or_512 hd (show k < 9 by omega)
  have hpop := pop_or1 d hd k (by omega) hb
  have hpl9 := pop_le d
  have hcl := hR.2 (w k) hr (hUM _ hdue)
  have key : ∀ (a b : Nat), (∀ m, m < 512 → R (512 * a + m) < 100000 → R (512 * b + (m ||| (2 ^ w k &&& dueM z U))) ≤ R (512 * a + m) + z (41 + w k)) → C (d * 8 + pl) + z (41 + w k) + dst z U 0 pl a < 1000000 → C (d * 8 + pl) + z (41 + w k) + dst z U 0 pl a ≤ 657 * pop (d ||| 2 ^ k) ∧ Wt z U w c R (d ||| 2 ^ k) b (C (d * 8 + pl) + z (41 + w k) + dst z U 0 pl a) := by
    intro a b hab hlt
    rcases h d pl hd hpl with q | ⟨q1, m0, q2, q3, q4, q5⟩
    · omega
    · have hS := dst_b hw (U := U) (more := 0) (f := pl) (by omega) a
      refine ⟨by rw [hpop]; omega, ?_⟩
      rcases span_ref hw hR q2 q3 q5 (by omega) a with s | ⟨m, s1, s2, s3, s4⟩
      · omega
      · obtain ⟨b1, b2, b3⟩ := due_or hw U (w k) s1 s2
        have := hab m s1 (by omega)
        refine ⟨_, b1, b2, fun k' hk' ht' => ?_, by omega⟩
        rw [Nat.testBit_or, Nat.testBit_two_pow, Bool.or_eq_true] at ht'
        rcases ht' with ht' | ht'
        · exact b3 _ (s3 _ (q4 k' hk' ht'))
        · have e : k = k' := of_decide_eq_true ht'
          subst e
          rw [Nat.testBit_or, Nat.testBit_and, Nat.testBit_two_pow_self, hdue]
          simp
  have e2 : (zup C ((d ||| 2 ^ k) * 8 + z (32 + w k)) (mn (C ((d ||| 2 ^ k) * 8 + z (32 + w k))) (C (d * 8 + pl) + z (41 + w k) + dst z U 0 pl (z (23 + w k))))) ((d ||| 2 ^ k) * 8 + z (23 + w k)) = C ((d ||| 2 ^ k) * 8 + z (23 + w k)) := zup_ne _ _ (by omega)
  unfold dws
  rw [← e2]
  refine Sd_mn (Sd_mn h ht (by omega) (fun q => key _ _ (fun m hm => (hcl m hm).1) q)) ht (by omega) (fun q => key _ _ (fun m hm => (hcl m hm).2) q)
/-- the wanted roads of m, by their numbers in the list -/
def ixm (w : Nat → Nat) (c m : Nat) : Nat := msk (fun k => m.testBit (w k)) c
def VI (z : Nat → Nat) (U : Nat) (w : Nat → Nat) (c : Nat) (C : Nat → Nat) (p m x : Nat) : Prop := ∃ r, r < z 1 ∧ C (ixm w c m * 8 + r) + dst z U 0 r p ≤ x
theorem and_pow (r y : Nat) : 2 ^ r &&& y = if y.testBit r then 2 ^ r else 0 := by
  apply Nat.eq_of_testBit_eq
  intro j
  rw [Nat.testBit_and, Nat.testBit_two_pow]
  by_cases e : r = j
  · subst e
    cases h : y.testBit r
    · simp
    · simp
  · cases h : y.testBit r
    · simp [e]
    · simp [e, Nat.testBit_two_pow]
theorem ixm_or {U : Nat} {w : Nat → Nat} {c m k : Nat} (hN : WN z U w c) (hk : k < c) : ixm w c (m ||| 2 ^ w k) = ixm w c m ||| 2 ^ k := by
  apply Nat.eq_of_testBit_eq
  intro j
  unfold ixm
  rw [Nat.testBit_or, msk_bit, msk_bit, Nat.testBit_two_pow]
  by_cases hj : j < c
  · rw [Nat.testBit_or, Nat.testBit_two_pow]
    have : decide (w k = w j) = decide (k = j) := by
      by_cases e : k = j
      · subst e; simp
      · rw [decide_eq_false e, decide_eq_false (fun q => e (hN.2.2.2 k j hk hj q))]
    rw [this]
    simp [hj]
  · have e : ¬ k = j := by omega
    simp [hj, e]
theorem V_step (hw : WFl z B) {U : Nat} {w : Nat → Nat} {c : Nat} {C : Nat → Nat} (hN : WN z U w c) (hcl : ∀ d k r, d < 2 ^ c → k < c → d.testBit k = false → r < z 1 → cl1 z U w C d k r) {r m a b x : Nat} (hr : r < z 2) (hU : U.testBit r = true) (hab : (a = z (23 + r) ∧ b = z (32 + r)) ∨ (a = z (32 + r) ∧ b = z (23 + r))) (h : VI z U w c C a m x) : VI z U w c C b (m ||| (2 ^ r &&& dueM z U)) (x + z (41 + r)) := by
  obtain ⟨s, hs, hx⟩ := h
  have h1 := hw.2.2.2.1
  have hl := hw.2.2.2.2.2.2.2.1 r hr
  have stay : VI z U w c C b m (x + z (41 + r)) := by
    have hf := dst_fix hw (U := U) (f := s) (by omega) hr hU
    refine ⟨s, hs, ?_⟩
    rcases hab with ⟨rfl, rfl⟩ | ⟨rfl, rfl⟩ <;> omega
  rw [and_pow]
  cases hd : (dueM z U).testBit r
  · rw [if_neg (by decide), Nat.or_zero]
    exact stay
  · rw [if_pos rfl]
    cases hm : m.testBit r
    · obtain ⟨k, hk, rfl⟩ := hN.2.2.1 r hd
      have hbit : (ixm w c m).testBit k = false := by
        unfold ixm
        rw [msk_bit, hm, Bool.and_false]
      have hc := hcl (ixm w c m) k s (msk_lt _ _) hk hbit hs
      have e0 : dst z U 0 b b = 0 := dst_self
      refine ⟨b, by rcases hab with ⟨_, q⟩ | ⟨_, q⟩ <;> omega, ?_⟩
      rw [ixm_or hN hk, e0]
      obtain ⟨c1, c2⟩ := hc
      rcases hab with ⟨rfl, rfl⟩ | ⟨rfl, rfl⟩ <;> omega
    · have e : m ||| 2 ^ r = m := by
        apply Nat.eq_of_testBit_eq
        intro j
        rw [Nat.testBit_or, Nat.testBit_two_pow]
        by_cases q : r = j
        · subst q; rw [hm]; rfl
        · rw [decide_eq_false q, Bool.or_false]
      rw [e]
      exact stay
theorem mnl_lb (f : Nat → Nat) (b : Nat) {r : Nat} : ∀ n, r < n → mnl f b n ≤ f r
  | 0, h => absurd h (Nat.not_lt_zero _)
  | n + 1, h => by
    by_cases e : r = n
    · subst e
      show (if f r < mnl f b r then f r else mnl f b r) ≤ f r
      split <;> omega
    · have := mnl_lb f b n (show r < n by omega)
      show (if f n < mnl f b n then f n else mnl f b n) ≤ f r
      split <;> omega
theorem mnl_is (f : Nat → Nat) (b : Nat) : ∀ n, mnl f b n = b ∨ ∃ r, r < n ∧ mnl f b n = f r
  | 0 => Or.inl rfl
  | n + 1 => by
    have ih := mnl_is f b n
    show (if f n < mnl f b n then f n else mnl f b n) = b ∨ ∃ r, r < n + 1 ∧ (if f n < mnl f b n then f n else mnl f b n) = f r
    split
    · exact Or.inr ⟨n, by omega, rfl⟩
    · rcases ih with h | ⟨r, h1, h2⟩
      · exact Or.inl h
      · exact Or.inr ⟨r, by omega, h2⟩
/-- both sides' numbers are one -/
theorem ro_eq (hw : WFl z B) {U f : Nat} {w : Nat → Nat} {c : Nat} {R C : Nat → Nat} (hN : WN z U w c) (hR : RC z U R) (hS : Sd z U w c R C) (hV : R (512 * f + dueM z U) = 100000 ∨ VI z U w c C f (dueM z U) (R (512 * f + dueM z U))) : (mnl (fun r => C ((2 ^ c - 1) * 8 + r) + dst z U 0 r f) 1000000 (z 1) = 1000000 ∧ R (512 * f + dueM z U) = 100000) ∨ (mnl (fun r => C ((2 ^ c - 1) * 8 + r) + dst z U 0 r f) 1000000 (z 1) = R (512 * f + dueM z U) ∧ R (512 * f + dueM z U) < 100000) := by
  have hc9 := hN.1
  have h1 := hw.2.2.2.1
  have hpw : 2 ^ c ≤ 512 := show 2 ^ c ≤ 2 ^ 9 from Nat.pow_le_pow_right (by omega) hc9
  have hp0 : 0 < 2 ^ c := Nat.pow_pos (by omega)
  have hix : ixm w c (dueM z U) = 2 ^ c - 1 := by
    rw [← msk_true c]
    exact msk_congr (fun k hk => (hN.2.1 k hk).2)
  have hle := mnl_le (fun r => C ((2 ^ c - 1) * 8 + r) + dst z U 0 r f) 1000000 (z 1)
  have hRb := hR.1 (512 * f + dueM z U)
  have up : R (512 * f + dueM z U) ≠ 100000 → mnl (fun r => C ((2 ^ c - 1) * 8 + r) + dst z U 0 r f) 1000000 (z 1) ≤ R (512 * f + dueM z U) := by
    intro q
    rcases hV with v | ⟨r, hr, v⟩
    · exact absurd v q
    · rw [hix] at v
      exact Nat.le_trans (mnl_lb _ _ (z 1) hr) v
  by_cases hb : mnl (fun r => C ((2 ^ c - 1) * 8 + r) + dst z U 0 r f) 1000000 (z 1) = 1000000
  · refine Or.inl ⟨hb, ?_⟩
    by_cases q : R (512 * f + dueM z U) = 100000
    · exact q
    · have := up q
      omega
  · rcases mnl_is (fun r => C ((2 ^ c - 1) * 8 + r) + dst z U 0 r f) 1000000 (z 1) with q | ⟨r, hr, e⟩
    · exact absurd q hb
    · have eqd : ∀ m, sbs m (dueM z U) → (∀ k, k < c → m.testBit (w k) = true) → m = dueM z U := by
        intro m a1 a2
        apply Nat.eq_of_testBit_eq
        intro j
        cases hj : (dueM z U).testBit j
        · cases hm : m.testBit j
          · rfl
          · rw [a1 j hm] at hj; cases hj
        · obtain ⟨k, hk, rfl⟩ := hN.2.2.1 j hj
          exact a2 k hk
      have hall : ∀ k, k < c → (2 ^ c - 1).testBit k = true := fun k hk => by
        rw [← msk_true c, msk_bit, decide_eq_true hk]
        rfl
      have hpl := pop_le (2 ^ c - 1)
      rcases hS (2 ^ c - 1) r (by omega) (by omega) with q | ⟨q1, m, q2, q3, q4, q5⟩
      · omega
      · have em := eqd m q3 (fun k hk => q4 k hk (hall k hk))
        subst em
        have hSb := dst_b hw (U := U) (more := 0) (f := r) (by omega) f
        rcases span_ref hw hR (due_lt hw U) (fun _ h => h) q5 (by omega) f with s | ⟨m, s1, s2, s3, s4⟩
        · omega
        · have em := eqd m s2 (fun k hk => s3 _ (hN.2.1 k hk).2)
          subst em
          have := up (by omega)
          exact Or.inr ⟨by omega, by omega⟩
end RMB
