/-! ===== round: the spans are the least lengths ===== -/
section RMA
variable {z : Nat → Nat} {B : Nat}
theorem rx_le (g D : Nat → Nat) (k p : Nat) : rx z g D k p ≤ D p := by
  unfold rx
  split
  · exact Nat.le_refl _
  · split
    · unfold zup
      split
      · rename_i q; subst q; omega
      · exact Nat.le_refl _
    · split
      · unfold zup
        split
        · rename_i q; subst q; omega
        · exact Nat.le_refl _
      · exact Nat.le_refl _
theorem dn_le (g D : Nat → Nat) (p : Nat) : ∀ j, dn z g D j p ≤ D p
  | 0 => Nat.le_refl _
  | j + 1 => Nat.le_trans (rx_le g (dn z g D j) j p) (dn_le g D p j)
theorem dn_anti (g D : Nat → Nat) (p j : Nat) : ∀ d, dn z g D (j + d) p ≤ dn z g D j p
  | 0 => Nat.le_refl _
  | d + 1 => Nat.le_trans (rx_le g (dn z g D (j + d)) (j + d) p) (dn_anti g D p j d)
theorem dI_anti (g D : Nat → Nat) (M p n : Nat) : ∀ d, dI z g M D (n + d) p ≤ dI z g M D n p
  | 0 => Nat.le_refl _
  | d + 1 => Nat.le_trans (dn_le g (dI z g M D (n + d)) p M) (dI_anti g D M p n d)
/-- what a look at a road leaves -/
theorem rx_rel (g D : Nat → Nat) (k : Nat) (h0 : g k ≠ 0) : rx z g D k (z (32 + k)) ≤ D (z (23 + k)) + g k ∧ rx z g D k (z (23 + k)) ≤ D (z (32 + k)) + g k := by
  unfold rx
  rw [if_neg h0]
  by_cases h1 : D (z (23 + k)) + g k < D (z (32 + k))
  · rw [if_pos h1]
    refine ⟨by rw [zup_at]; exact Nat.le_refl _, ?_⟩
    unfold zup
    split <;> omega
  · rw [if_neg h1]
    by_cases h2 : D (z (32 + k)) + g k < D (z (23 + k))
    · rw [if_pos h2]
      refine ⟨?_, by rw [zup_at]; exact Nat.le_refl _⟩
      unfold zup
      split <;> omega
    · rw [if_neg h2]
      omega
theorem dn_rel (g D : Nat → Nat) {k M : Nat} (hk : k < M) (h0 : g k ≠ 0) : dn z g D M (z (32 + k)) ≤ D (z (23 + k)) + g k ∧ dn z g D M (z (23 + k)) ≤ D (z (32 + k)) + g k := by
  have h1 := rx_rel (z := z) g (dn z g D k) k h0
  have h2 := dn_le (z := z) g D (z (23 + k)) k
  have h3 := dn_le (z := z) g D (z (32 + k)) k
  have h4 := dn_anti (z := z) g D (z (32 + k)) (k + 1) (M - (k + 1))
  have h5 := dn_anti (z := z) g D (z (23 + k)) (k + 1) (M - (k + 1))
  rw [show k + 1 + (M - (k + 1)) = M by omega] at h4 h5
  have h6 : dn z g D (k + 1) = rx z g (dn z g D k) k := rfl
  rw [h6] at h4 h5
  omega
/-- each place that is reached has a road by which it is -/
def tgt (z g : Nat → Nat) (f : Nat) (D : Nat → Nat) : Prop := ∀ q, q = f ∨ D q = 1000000 ∨ ∃ k, g k ≠ 0 ∧ ((z (32 + k) = q ∧ D (z (23 + k)) + g k ≤ D q) ∨ (z (23 + k) = q ∧ D (z (32 + k)) + g k ≤ D q))
theorem rx_tgt {g D : Nat → Nat} {f k : Nat} (hne : ∀ k, g k ≠ 0 → z (23 + k) ≠ z (32 + k)) (h : tgt z g f D) : tgt z g f (rx z g D k) := by
  have hl : ∀ p, rx z g D k p ≤ D p := fun p => rx_le g D k p
  have old : ∀ q, rx z g D k q = D q → q = f ∨ rx z g D k q = 1000000 ∨ ∃ k', g k' ≠ 0 ∧ ((z (32 + k') = q ∧ rx z g D k (z (23 + k')) + g k' ≤ rx z g D k q) ∨ (z (23 + k') = q ∧ rx z g D k (z (32 + k')) + g k' ≤ rx z g D k q)) := by
    intro q e
    rw [e]
    rcases h q with w | w | ⟨k', a, ⟨b, c⟩ | ⟨b, c⟩⟩
    · exact Or.inl w
    · exact Or.inr (Or.inl w)
    · exact Or.inr (Or.inr ⟨k', a, Or.inl ⟨b, Nat.le_trans (Nat.add_le_add_right (hl _) _) c⟩⟩)
    · exact Or.inr (Or.inr ⟨k', a, Or.inr ⟨b, Nat.le_trans (Nat.add_le_add_right (hl _) _) c⟩⟩)
  intro q
  by_cases h0 : g k = 0
  · exact old q (by unfold rx; rw [if_pos h0])
  · have hn := hne k h0
    by_cases h1 : D (z (23 + k)) + g k < D (z (32 + k))
    · have e : rx z g D k = zup D (z (32 + k)) (D (z (23 + k)) + g k) := by unfold rx; rw [if_neg h0, if_pos h1]
      by_cases hq : q = z (32 + k)
      · subst hq
        refine Or.inr (Or.inr ⟨k, h0, Or.inl ⟨rfl, ?_⟩⟩)
        rw [e, zup_at, zup_ne _ _ hn]
        exact Nat.le_refl _
      · exact old q (by rw [e, zup_ne _ _ hq])
    · by_cases h2 : D (z (32 + k)) + g k < D (z (23 + k))
      · have e : rx z g D k = zup D (z (23 + k)) (D (z (32 + k)) + g k) := by unfold rx; rw [if_neg h0, if_neg h1, if_pos h2]
        by_cases hq : q = z (23 + k)
        · subst hq
          refine Or.inr (Or.inr ⟨k, h0, Or.inr ⟨rfl, ?_⟩⟩)
          rw [e, zup_at, zup_ne _ _ (Ne.symm hn)]
          exact Nat.le_refl _
        · exact old q (by rw [e, zup_ne _ _ hq])
      · exact old q (by unfold rx; rw [if_neg h0, if_neg h1, if_neg h2])
theorem dn_tgt {g D : Nat → Nat} {f : Nat} (hne : ∀ k, g k ≠ 0 → z (23 + k) ≠ z (32 + k)) (h : tgt z g f D) : ∀ j, tgt z g f (dn z g D j)
  | 0 => h
  | j + 1 => rx_tgt hne (dn_tgt hne h j)
theorem dI_tgt {g D : Nat → Nat} {f M : Nat} (hne : ∀ k, g k ≠ 0 → z (23 + k) ≠ z (32 + k)) (h : tgt z g f D) : ∀ n, tgt z g f (dI z g M D n)
  | 0 => h
  | n + 1 => dn_tgt hne (dI_tgt hne h n) M
theorem D0_tgt (g : Nat → Nat) (f : Nat) : tgt z g f (D0 f) := fun q => by
  by_cases h : q = f
  · exact Or.inl h
  · exact Or.inr (Or.inl (by unfold D0; rw [if_neg h]))
/-- outside the ends nothing changes -/
theorem rx_out {g D : Nat → Nat} {k p : Nat} (he : ∀ k, g k ≠ 0 → z (23 + k) < 8 ∧ z (32 + k) < 8) (hp : 8 ≤ p) : rx z g D k p = D p := by
  unfold rx
  by_cases h0 : g k = 0
  · rw [if_pos h0]
  · have := he k h0
    rw [if_neg h0]
    split
    · exact zup_ne _ _ (by omega)
    · split
      · exact zup_ne _ _ (by omega)
      · rfl
theorem dn_out {g D : Nat → Nat} {p : Nat} (he : ∀ k, g k ≠ 0 → z (23 + k) < 8 ∧ z (32 + k) < 8) (hp : 8 ≤ p) : ∀ j, dn z g D j p = D p
  | 0 => rfl
  | j + 1 => by
    show rx z g (dn z g D j) j p = _
    rw [rx_out he hp, dn_out he hp j]
theorem sumN_mono {f h : Nat → Nat} (e : ∀ k, h k ≤ f k) : ∀ n, sumN h n ≤ sumN f n
  | 0 => Nat.le_refl _
  | n + 1 => Nat.add_le_add (sumN_mono e n) (e n)
theorem sumN_strict {f h : Nat → Nat} (e : ∀ k, h k ≤ f k) {i : Nat} (hi : h i < f i) : ∀ n, i < n → sumN h n < sumN f n
  | 0, q => absurd q (Nat.not_lt_zero _)
  | n + 1, q => by
    show sumN h n + h n < sumN f n + f n
    have a := e n
    have b := sumN_mono e n
    by_cases w : i = n
    · subst w; omega
    · have := sumN_strict e hi n (by omega)
      omega
theorem all8 (P : Nat → Prop) : (∀ p, p < 8 → P p) ∨ ∃ p, p < 8 ∧ ¬ P p := by
  by_cases h : ∃ p, p < 8 ∧ ¬ P p
  · exact Or.inr h
  · refine Or.inl (fun p hp => ?_)
    by_cases w : P p
    · exact w
    · exact absurd ⟨p, hp, w⟩ h
/-- it comes to rest -/
theorem dI_rest {g D : Nat → Nat} {M : Nat} (he : ∀ k, g k ≠ 0 → z (23 + k) < 8 ∧ z (32 + k) < 8) : ∀ (s n : Nat), sumN (dI z g M D n) 8 ≤ s → ∃ n0, dI z g M D (n0 + 1) = dI z g M D n0 := by
  intro s
  induction s with
  | zero =>
    intro n hn
    rcases all8 (fun p => dI z g M D (n + 1) p = dI z g M D n p) with h | ⟨p, hp, h⟩
    · refine ⟨n, funext fun p => ?_⟩
      by_cases q : p < 8
      · exact h p q
      · exact dn_out he (by omega) M
    · have a := dI_anti (z := z) g D M
      have := sumN_strict (f := dI z g M D n) (h := dI z g M D (n + 1)) (fun k => a k n 1) (i := p) (by have := a p n 1; omega) 8 hp
      omega
  | succ s ih =>
    intro n hn
    rcases all8 (fun p => dI z g M D (n + 1) p = dI z g M D n p) with h | ⟨p, hp, h⟩
    · refine ⟨n, funext fun p => ?_⟩
      by_cases q : p < 8
      · exact h p q
      · exact dn_out he (by omega) M
    · have a := dI_anti (z := z) g D M
      have := sumN_strict (f := dI z g M D n) (h := dI z g M D (n + 1)) (fun k => a k n 1) (i := p) (by have := a p n 1; omega) 8 hp
      exact ih (n + 1) (by omega)
theorem least8 (P : Nat → Prop) (E : Nat → Nat) : ∀ (s p : Nat), E p ≤ s → p < 8 → P p → ∃ q, q < 8 ∧ P q ∧ ∀ r, r < 8 → P r → E q ≤ E r := by
  intro s
  induction s with
  | zero =>
    intro p h1 h2 h3
    exact ⟨p, h2, h3, fun r _ _ => by omega⟩
  | succ s ih =>
    intro p h1 h2 h3
    by_cases w : ∃ r, r < 8 ∧ P r ∧ E r < E p
    · obtain ⟨r, a, b, c⟩ := w
      exact ih r (by omega) a b
    · refine ⟨p, h2, h3, fun r hr hP => ?_⟩
      rcases Nat.lt_or_ge (E r) (E p) with q | q
      · exact absurd ⟨r, hr, hP, q⟩ w
      · exact q
theorem cnt_le2 {f h : Nat → Bool} (e : ∀ k, f k = true → h k = true) : ∀ n, cnt f n ≤ cnt h n
  | 0 => Nat.le_refl _
  | n + 1 => by
    show cnt f n + (if f n then 1 else 0) ≤ cnt h n + (if h n then 1 else 0)
    have a := cnt_le2 e n
    by_cases q : f n = true
    · rw [if_pos q, if_pos (e n q)]; omega
    · rw [if_neg q]; omega
theorem cnt_lt2 {f h : Nat → Bool} (e : ∀ k, f k = true → h k = true) {i : Nat} (h1 : f i = false) (h2 : h i = true) : ∀ n, i < n → cnt f n < cnt h n
  | 0, q => absurd q (Nat.not_lt_zero _)
  | n + 1, q => by
    show cnt f n + (if f n then 1 else 0) < cnt h n + (if h n then 1 else 0)
    by_cases w : i = n
    · subst w
      have a := cnt_le2 e i
      rw [h1, h2]
      simp only [Bool.false_eq_true, if_false, if_true]
      omega
    · have a := cnt_lt2 e h1 h2 n (by omega)
      by_cases q : f n = true
      · rw [if_pos q, if_pos (e n q)]; omega
      · rw [if_neg q]; omega
theorem cnt_full {f : Nat → Bool} : ∀ n, n ≤ cnt f n → ∀ i, i < n → f i = true
  | 0, _, i, hi => absurd hi (Nat.not_lt_zero _)
  | n + 1, h, i, hi => by
    have h' : n + 1 ≤ cnt f n + (if f n then 1 else 0) := h
    have a := cnt_le f n
    by_cases q : f n = true
    · rw [if_pos q] at h'
      by_cases w : i = n
      · rw [w]; exact q
      · exact cnt_full n (by omega) i (by omega)
    · rw [if_neg q] at h'
      omega
theorem dI_le0 (g D : Nat → Nat) (M p n : Nat) : dI z g M D n p ≤ D p := by
  have := dI_anti (z := z) g D M p 0 n
  rw [Nat.zero_add] at this
  exact this
/-- eight rounds are enough -/
theorem dI_done {g : Nat → Nat} {M f : Nat} (he : ∀ k, g k ≠ 0 → z (23 + k) < 8 ∧ z (32 + k) < 8) (hne : ∀ k, g k ≠ 0 → z (23 + k) ≠ z (32 + k)) (hM : ∀ k, g k ≠ 0 → k < M) (hf : f < 8) : ∀ k, g k ≠ 0 → dI z g M (D0 f) 8 (z (32 + k)) ≤ dI z g M (D0 f) 8 (z (23 + k)) + g k ∧ dI z g M (D0 f) 8 (z (23 + k)) ≤ dI z g M (D0 f) 8 (z (32 + k)) + g k := by
  obtain ⟨n0, hn0⟩ := dI_rest (z := z) (D := D0 f) (M := M) he _ 0 (Nat.le_refl _)
  generalize hE : dI z g M (D0 f) n0 = E at hn0
  have hEl : ∀ n p, E p ≤ dI z g M (D0 f) n p := by
    intro n p
    rw [← hE]
    by_cases h : n ≤ n0
    · have := dI_anti (z := z) g (D0 f) M p n (n0 - n)
      rw [show n + (n0 - n) = n0 by omega] at this
      exact this
    · have := dI_fix (z := z) (show dI z g M (D0 f) (n0 + 1) = dI z g M (D0 f) n0 by rw [hn0, hE]) (n - n0)
      rw [show n0 + (n - n0) = n by omega] at this
      rw [this]
      exact Nat.le_refl _
  have hT : tgt z g f E := by rw [← hE]; exact dI_tgt hne (D0_tgt g f) n0
  have hf0 : ∀ n, dI z g M (D0 f) n f = 0 := fun n => by
    have := dI_le0 (z := z) g (D0 f) M f n
    unfold D0 at this
    rw [if_pos rfl] at this
    unfold D0
    omega
  have hEf : E f = 0 := by have := hEl 0 f; rw [hf0 0] at this; omega
  have h1m : ∀ n p, dI z g M (D0 f) n p ≤ 1000000 := fun n p => by
    have := dI_le0 (z := z) g (D0 f) M p n
    have h2 : D0 f p ≤ 1000000 := by unfold D0; split <;> omega
    omega
  have claim : ∀ n, (∀ p, p < 8 → dI z g M (D0 f) n p = E p) ∨ n + 1 ≤ cnt (fun p => decide (dI z g M (D0 f) n p = E p)) 8 := by
    intro n
    induction n with
    | zero =>
      refine Or.inr ?_
      have a := cnt_lt2 (f := fun _ => false) (h := fun p => decide (dI z g M (D0 f) 0 p = E p)) (fun k q => by cases q) (i := f) rfl (decide_eq_true (by rw [hf0, hEf])) 8 hf
      omega
    | succ n ih =>
      have mono : ∀ p, dI z g M (D0 f) n p = E p → dI z g M (D0 f) (n + 1) p = E p := fun p q => by
        have a := dI_anti (z := z) g (D0 f) M p n 1
        have b := hEl (n + 1) p
        omega
      rcases ih with h | h
      · exact Or.inl (fun p hp => mono p (h p hp))
      · rcases all8 (fun p => dI z g M (D0 f) (n + 1) p = E p) with w | ⟨p, hp, hw⟩
        · exact Or.inl w
        · refine Or.inr ?_
          obtain ⟨q, hq, hq1, hq2⟩ := least8 (fun p => ¬ dI z g M (D0 f) n p = E p) E (E p) p (Nat.le_refl _) hp (fun e => hw (mono p e))
          have hs : dI z g M (D0 f) (n + 1) q = E q := by
            have fin : ∀ (a k : Nat), g k ≠ 0 → a < 8 → E a + g k ≤ E q → dI z g M (D0 f) (n + 1) q ≤ dI z g M (D0 f) n a + g k → dI z g M (D0 f) (n + 1) q = E q := by
              intro a k h0 ha h3 h4
              have h5 : dI z g M (D0 f) n a = E a := by
                by_cases e : dI z g M (D0 f) n a = E a
                · exact e
                · have := hq2 a ha e
                  omega
              have := hEl (n + 1) q
              omega
            rcases hT q with e | e | ⟨k, h0, ⟨h2, h3⟩ | ⟨h2, h3⟩⟩
            · rw [e, hf0, hEf]
            · have a := h1m (n + 1) q
              have b := hEl (n + 1) q
              omega
            · have hk := he k h0
              have hr := dn_rel (z := z) g (dI z g M (D0 f) n) (hM k h0) h0
              rw [h2] at hr
              exact fin _ k h0 hk.1 h3 hr.1
            · have hk := he k h0
              have hr := dn_rel (z := z) g (dI z g M (D0 f) n) (hM k h0) h0
              rw [h2] at hr
              exact fin _ k h0 hk.2 h3 hr.2
          have a := cnt_lt2 (f := fun p => decide (dI z g M (D0 f) n p = E p)) (h := fun p => decide (dI z g M (D0 f) (n + 1) p = E p)) (fun k e => decide_eq_true (mono k (of_decide_eq_true e))) (i := q) (decide_eq_false hq1) (decide_eq_true hs) 8 hq
          omega
  have h7 : ∀ p, p < 8 → dI z g M (D0 f) 7 p = E p := by
    rcases claim 7 with h | h
    · exact h
    · exact fun p hp => of_decide_eq_true (cnt_full 8 h p hp)
  have h8 : ∀ p, p < 8 → dI z g M (D0 f) 8 p = E p := fun p hp => by
    have a : dI z g M (D0 f) 8 p ≤ dI z g M (D0 f) 7 p := dI_anti (z := z) g (D0 f) M p 7 1
    have b := hEl 8 p
    have c := h7 p hp
    omega
  intro k h0
  have hk := he k h0
  have hr := dn_rel (z := z) g (dI z g M (D0 f) 7) (hM k h0) h0
  have e1 := h7 _ hk.1
  have e2 := h7 _ hk.2
  have e3 := h8 _ hk.1
  have e4 := h8 _ hk.2
  have hr1 : dI z g M (D0 f) 8 (z (32 + k)) ≤ dI z g M (D0 f) 7 (z (23 + k)) + g k := hr.1
  have hr2 : dI z g M (D0 f) 8 (z (23 + k)) ≤ dI z g M (D0 f) 7 (z (32 + k)) + g k := hr.2
  omega
theorem wgt_open {U k : Nat} (hw : WFl z B) (hk : k < z 2) (hU : U.testBit k = true) : wgt z U 0 k = z (41 + k) := by
  unfold wgt
  rw [if_pos hk, if_pos hU]
theorem wgt_n0 {U k : Nat} (h : wgt z U 0 k ≠ 0) : k < z 2 ∧ U.testBit k = true := by
  unfold wgt at h
  by_cases hk : k < z 2
  · refine ⟨hk, ?_⟩
    rw [if_pos hk] at h
    cases hu : U.testBit k
    · rw [hu] at h
      simp at h
    · rfl
  · rw [if_neg hk] at h
    exact absurd rfl h
theorem dst_fix (hw : WFl z B) {U f k : Nat} (hf : f < 8) (hk : k < z 2) (hU : U.testBit k = true) : dst z U 0 f (z (32 + k)) ≤ dst z U 0 f (z (23 + k)) + z (41 + k) ∧ dst z U 0 f (z (23 + k)) ≤ dst z U 0 f (z (32 + k)) + z (41 + k) := by
  have hz := hw.2.2.2.1
  have hl := hw.2.2.2.2.2.2.2.1
  have h := dI_done (z := z) (g := wgt z U 0) (M := z 2) (f := f) (fun k h => by have := hl k (wgt_n0 h).1; omega) (fun k h => (hl k (wgt_n0 h).1).2.2.2.2.1) (fun k h => (wgt_n0 h).1) hf k (by rw [wgt_open hw hk hU]; have := hl k hk; omega)
  rw [wgt_open hw hk hU] at h
  exact h
theorem dst_self {U f : Nat} : dst z U 0 f f = 0 := by
  have := dI_le0 (z := z) (wgt z U 0) (D0 f) (z 2) f 8
  unfold D0 at this
  rw [if_pos rfl] at this
  unfold dst D0
  omega
theorem dst_le {U f : Nat} (p : Nat) : dst z U 0 f p ≤ 1000000 := by
  have := dI_le0 (z := z) (wgt z U 0) (D0 f) (z 2) p 8
  have h2 : D0 f p ≤ 1000000 := by unfold D0; split <;> omega
  unfold dst
  omega
/-- what every look at a road keeps holds of the distances -/
theorem dst_ind (hw : WFl z B) {U f : Nat} (P : (Nat → Nat) → Prop) (h0 : P (D0 f)) (hs : ∀ D k, k < z 2 → (∀ p, D p = 1000000 ∨ D p ≤ 648) → P D → P (rx z (wgt z U 0) D k)) : P (dst z U 0 f) := by
  have h2 := hw.2.2.2.2.1
  have hg : ∀ k, wgt z U 0 k ≤ 9 := fun k => wgt_le hw (by omega) k
  have key : ∀ n, n ≤ 8 → P (dI z (wgt z U 0) (z 2) (D0 f) n) := by
    intro n
    induction n with
    | zero => exact fun _ => h0
    | succ n ih =>
      intro hn
      have hfin := dI_fin (z := z) (M := z 2) hg (by omega) h2 (D0_fin 9 f) n (by omega)
      have k2 : ∀ j, j ≤ z 2 → P (dn z (wgt z U 0) (dI z (wgt z U 0) (z 2) (D0 f) n) j) := by
        intro j
        induction j with
        | zero => exact fun _ => ih (by omega)
        | succ j ihj =>
          intro hj
          refine hs _ j (by omega) (fun p => ?_) (ihj (by omega))
          have := dn_fin (z := z) hg (by omega) hfin j (by omega) p
          omega
      exact k2 (z 2) (Nat.le_refl _)
  exact key 8 (Nat.le_refl _)
end RMA
