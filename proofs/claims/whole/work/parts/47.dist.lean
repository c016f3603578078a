/-! ===== distances ===== -/
/-- what a road adds: 0 where it is closed -/
def wgt (z : Nat → Nat) (U more k : Nat) : Nat := if k < z 2 then (if U.testBit k then z (41 + k) else if more = 0 then 0 else z (41 + k) + more) else 0
/-- one road looked at -/
def rx (z g : Nat → Nat) (D : Nat → Nat) (k : Nat) : Nat → Nat := if g k = 0 then D else if D (z (23 + k)) + g k < D (z (32 + k)) then zup D (z (32 + k)) (D (z (23 + k)) + g k) else if D (z (32 + k)) + g k < D (z (23 + k)) then zup D (z (23 + k)) (D (z (32 + k)) + g k) else D
def dn (z g : Nat → Nat) (D : Nat → Nat) : Nat → Nat → Nat
  | 0 => D
  | j + 1 => rx z g (dn z g D j) j
def dI (z g : Nat → Nat) (M : Nat) (D : Nat → Nat) : Nat → Nat → Nat
  | 0 => D
  | n + 1 => dn z g (dI z g M D n) M
def D0 (f : Nat) : Nat → Nat := fun p => if p = f then 0 else 1000000
/-- the distances from f over the roads of U -/
def dst (z : Nat → Nat) (U more f : Nat) : Nat → Nat := dI z (wgt z U more) (z 2) (D0 f) 8
def fin (c t : Nat) (D : Nat → Nat) : Prop := ∀ p, D p = 1000000 ∨ D p ≤ t * c
section DST
variable {N : Nat} {σ : fr_St} {z : Nat → Nat} {B : Nat}
theorem fin_mono {c t u : Nat} {D : Nat → Nat} (h : fin c t D) (htu : t ≤ u) : fin c u D := fun p => (h p).imp id (fun q => Nat.le_trans q (Nat.mul_le_mul_right c htu))
theorem rx_fin {g D : Nat → Nat} {c t k : Nat} (hg : g k ≤ c) (hc : c ≤ 1009) (ht : t < 72) (h : fin c t D) : fin c (t + 1) (rx z g D k) := by
  have ha := h (z (23 + k))
  have hb := h (z (32 + k))
  have e : (t + 1) * c = t * c + c := by rw [Nat.add_mul, Nat.one_mul]
  unfold rx
  intro p
  have hp := h p
  split
  · rw [e]; omega
  · split
    · unfold zup
      split
      · rw [e]; omega
      · rw [e]; omega
    · split
      · unfold zup
        split
        · rw [e]; omega
        · rw [e]; omega
      · rw [e]; omega
theorem dn_fin {g D : Nat → Nat} {c t : Nat} (hg : ∀ k, g k ≤ c) (hc : c ≤ 1009) (h : fin c t D) : ∀ j, t + j ≤ 72 → fin c (t + j) (dn z g D j)
  | 0, _ => h
  | j + 1, hj => rx_fin (t := t + j) (hg j) hc (by omega) (dn_fin hg hc h j (by omega))
theorem dI_fin {g D : Nat → Nat} {c M : Nat} (hg : ∀ k, g k ≤ c) (hc : c ≤ 1009) (hM : M ≤ 9) (h : fin c 0 D) : ∀ n, n ≤ 8 → fin c (9 * n) (dI z g M D n)
  | 0, _ => h
  | n + 1, hn => fin_mono (dn_fin hg hc (dI_fin hg hc hM h n (by omega)) M (by omega)) (by omega)
theorem D0_fin (c f : Nat) : fin c 0 (D0 f) := fun p => by unfold D0; split <;> omega
theorem fin_b {D : Nat → Nat} {c t : Nat} (hc : c ≤ 1009) (ht : t ≤ 72) (h : fin c t D) (p : Nat) : D p = 1000000 ∨ D p ≤ 72648 := by
  have h1 := h p
  have : t * c ≤ 72 * 1009 := Nat.mul_le_mul ht hc
  omega
/-- the class's row a holds the distances D -/
def DR (σ : fr_St) (a : Nat) (D : Nat → Nat) : Prop := ∀ p, p < 8 → σ a p = nI (D p)
theorem cl_relax (hc : CR z (σ 16)) (hw : WFl z B) {D g : Nat → Nat} {ka k : Nat} (hka : ka ≠ 16) (hka2 : ka ≠ 47) (hk : k < z 2) (hD : DR σ ka D) (hDb : ∀ p, D p = 1000000 ∨ D p ≤ 72648) (hg : g k ≤ 1009) (hg0 : g k ≠ 0) (hW : σ 47 k = nI (g k)) : ∃ τ b, F_X5_relax (nI k) ka σ = some (b, τ) ∧ (∀ x, x ≠ ka → τ x = σ x) ∧ DR τ ka (rx z g D k) ∧ (b = false → rx z g D k = D) := by
  have h2 := hw.2.2.2.2.1
  have hl := hw.2.2.2.2.2.2.2.2.2.2 k (by omega)
  have hA := hDb (z (23 + k))
  have hB' := hDb (z (32 + k))
  unfold F_X5_relax
  rw [cl_oneEnd (o := 15) hc (by omega), fr_bP_mk, cl_otherEnd (o := 15) hc (by omega), fr_bP_mk]
  simp only [i_chk (show z (23 + k) < 8 by omega) (show 8 < 2147483648 by decide), i_chk (show z (32 + k) < 8 by omega) (show 8 < 2147483648 by decide), i_chk (show k < 9 by omega) (show 9 < 2147483648 by decide), i_ix (show z (23 + k) < 2147483648 by omega), i_ix (show z (32 + k) < 2147483648 by omega), i_ix (show k < 2147483648 by omega), hD (z (23 + k)) (by omega), hD (z (32 + k)) (by omega), hW, i_add, fr_let_eq]
  unfold rx
  rw [if_neg hg0]
  by_cases h1 : D (z (23 + k)) + g k < D (z (32 + k))
  · rw [if_neg (fun q => absurd ((i_le (by omega) (by omega)).mp q) (by omega)), if_pos h1]
    refine ⟨_, true, rfl, fun x hx => fr_up_ne _ _ _ hx, fun p hp => ?_, fun q => by cases q⟩
    rw [fr_up_at]
    exact uz Iff.rfl (hD p hp)
  · rw [if_pos ((i_le (by omega) (by omega)).mpr (by omega)), if_neg h1]
    by_cases h3 : D (z (32 + k)) + g k < D (z (23 + k))
    · rw [if_neg (fun q => absurd ((i_le (by omega) (by omega)).mp q) (by omega)), if_pos h3]
      refine ⟨_, true, rfl, fun x hx => fr_up_ne _ _ _ hx, fun p hp => ?_, fun q => by cases q⟩
      rw [fr_up_at]
      exact uz Iff.rfl (hD p hp)
    · rw [if_pos ((i_le (by omega) (by omega)).mpr (by omega)), if_neg h3]
      exact ⟨σ, false, rfl, fun _ _ => rfl, hD, fun _ => rfl⟩
/-- the class's weights -/
def WR (σ : fr_St) (M : Nat) (g : Nat → Nat) : Prop := ∀ k, k < M → σ 47 k = if g k = 0 then -1 else nI (g k)
theorem or_bi (a b : Bool) : fr_bi a ||| fr_bi b = fr_bi (a || b) := by cases a <;> cases b <;> decide
theorem cl_sweep (hw : WFl z B) {g : Nat → Nat} {c ka : Nat} (hka : ka ≠ 16) (hka2 : ka ≠ 47) (hc1 : c ≤ 1009) (hg : ∀ k, g k ≤ c) {D : Nat → Nat} {t : Nat} (ht : t + 9 ≤ 72) (hf : fin c t D) : ∀ (m j n : Nat) (b : Bool) (σ : fr_St), j + m = z 2 → m < n → CR z (σ 16) → WR σ (z 2) g → DR σ ka (dn z g D j) → (b = false → dn z g D j = D) → ∃ τ b', L_X5_measure_31 ka n (fr_bi b) (nI j) σ = some (fr_bi b', nI (z 2), τ) ∧ (∀ x, x ≠ ka → τ x = σ x) ∧ DR τ ka (dn z g D (z 2)) ∧ (b' = false → dn z g D (z 2) = D) := by
  have h2 := hw.2.2.2.2.1
  intro m
  induction m with
  | zero =>
    intro j n b σ hj hn hc hW hD hb
    obtain ⟨n, rfl⟩ : ∃ m, n = m + 1 := ⟨n - 1, by omega⟩
    have hj : j = z 2 := by omega
    subst hj
    refine ⟨σ, b, ?_, fun _ _ => rfl, hD, hb⟩
    rw [L_X5_measure_31, cl_roads (o := 15) hc, fr_bP_mk, if_pos ((i_le (by omega) (by omega)).mpr (Nat.le_refl _))]
  | succ m ih =>
    intro j n b σ hj hn hc hW hD hb
    obtain ⟨n, rfl⟩ : ∃ m, n = m + 1 := ⟨n - 1, by omega⟩
    rw [L_X5_measure_31, cl_roads (o := 15) hc, fr_bP_mk, if_neg (fun q => absurd ((i_le (by omega) (by omega)).mp q) (by omega)), i_chk (by omega) (by omega), i_ix (by omega), hW j (by omega)]
    have hgj := hg j
    by_cases h0 : g j = 0
    · have e : dn z g D (j + 1) = dn z g D j := by
        show rx z g (dn z g D j) j = _
        unfold rx
        rw [if_pos h0]
      obtain ⟨τ, b', k1, k2, k3, k4⟩ := ih (j + 1) n b σ (by omega) (by omega) hc hW (by rw [e]; exact hD) (by rw [e]; exact hb)
      refine ⟨τ, b', ?_, k2, k3, k4⟩
      rw [if_pos h0, if_pos rfl, fr_bP_mk, fr_let_eq, nI_1]
      exact k1
    · have hfb := fin_b hc1 (show t + j ≤ 72 by omega) (dn_fin (z := z) hg hc1 hf j (by omega))
      obtain ⟨s, b1, r1, r2, r3, r4⟩ := cl_relax hc hw hka hka2 (show j < z 2 by omega) hD hfb (by omega) h0 (by rw [hW j (by omega), if_neg h0])
      obtain ⟨τ, b', k1, k2, k3, k4⟩ := ih (j + 1) n (b || b1) s (by omega) (by omega) (by rw [r2 16 (fun q => hka q.symm)]; exact hc) (fun k hk => by rw [r2 47 (fun q => hka2 q.symm)]; exact hW k hk) r3 (fun q => by
        simp only [Bool.or_eq_false_iff] at q
        show rx z g (dn z g D j) j = D
        rw [r4 q.2, hb q.1])
      refine ⟨τ, b', ?_, fun x hx => by rw [k2 x hx, r2 x hx], k3, k4⟩
      have hn1 : ¬ nI (g j) = (-1 : Int32) := by
        intro q
        rw [i_eq_iff, i_toInt (by omega)] at q
        have : (-1 : Int32).toInt = -1 := rfl
        omega
      rw [if_neg h0, if_neg hn1, r1, fr_bP_mk, fr_let_eq, or_bi, fr_bP_mk, fr_let_eq, nI_1]
      exact k1
theorem dI_fix {g D : Nat → Nat} {M t : Nat} (h : dI z g M D (t + 1) = dI z g M D t) : ∀ d, dI z g M D (t + d) = dI z g M D t
  | 0 => rfl
  | d + 1 => by
    show dn z g (dI z g M D (t + d)) M = _
    rw [dI_fix h d]
    exact h
theorem cl_measure (hc : CR z (σ 16)) (hw : WFl z B) {g : Nat → Nat} {c ka f : Nat} (hka : ka ≠ 16) (hka2 : ka ≠ 47) (hc1 : c ≤ 1009) (hg : ∀ k, g k ≤ c) (hW : WR σ (z 2) g) (hf : f < 8) : ∃ τ, F_X5_measure (nI f) ka σ = some τ ∧ (∀ x, x ≠ ka → τ x = σ x) ∧ DR τ ka (dI z g (z 2) (D0 f) 8) := by
  have h2 := hw.2.2.2.2.1
  have hfu := fr_fu_big
  have key : ∀ (m t n : Nat) (b : Bool) (σ : fr_St), t + m = 8 → m < n → CR z (σ 16) → WR σ (z 2) g → DR σ ka (dI z g (z 2) (D0 f) t) → (b = false → dI z g (z 2) (D0 f) 8 = dI z g (z 2) (D0 f) t) → ∃ τ x y, L_X5_measure_15 ka n (fr_bi b) (nI t) σ = some (x, y, τ) ∧ (∀ x, x ≠ ka → τ x = σ x) ∧ DR τ ka (dI z g (z 2) (D0 f) 8) := by
    intro m
    induction m with
    | zero =>
      intro t n b σ ht hn hc hW hD hb
      obtain ⟨n, rfl⟩ : ∃ m, n = m + 1 := ⟨n - 1, by omega⟩
      have ht : t = 8 := by omega
      subst ht
      refine ⟨σ, fr_bi b, nI 8, ?_, fun _ _ => rfl, hD⟩
      rw [L_X5_measure_15, if_pos (show (8 : Int32) ≤ nI 8 by decide)]
    | succ m ih =>
      intro t n b σ ht hn hc hW hD hb
      obtain ⟨n, rfl⟩ : ∃ m, n = m + 1 := ⟨n - 1, by omega⟩
      rw [L_X5_measure_15, if_neg (show ¬ (8 : Int32) ≤ nI t from fun q => absurd ((i_le (a := 8) (by omega) (by omega)).mp q) (by omega))]
      cases b
      · refine ⟨σ, fr_bi false, nI t, ?_, fun _ _ => rfl, by rw [hb rfl]; exact hD⟩
        rw [if_pos (show fr_bi false = 0 from rfl)]
      · obtain ⟨s, b', k1, k2, k3, k4⟩ := cl_sweep hw hka hka2 hc1 hg (show 9 * t + 9 ≤ 72 by omega) (dI_fin (z := z) hg hc1 h2 (D0_fin c f) t (by omega)) (z 2) 0 fr_fu false σ (by omega) (by omega) hc hW hD (fun _ => rfl)
        obtain ⟨τ, x, y, r1, r2, r3⟩ := ih (t + 1) n b' s (by omega) (by omega) (by rw [k2 16 (fun q => hka q.symm)]; exact hc) (fun k hk => by rw [k2 47 (fun q => hka2 q.symm)]; exact hW k hk) k3 (fun q => by
          have e : dI z g (z 2) (D0 f) (t + 1) = dI z g (z 2) (D0 f) t := k4 q
          have := dI_fix e (8 - t)
          rw [show t + (8 - t) = 8 by omega] at this
          rw [this, e])
        refine ⟨τ, x, y, ?_, fun x hx => by rw [r2 x hx, k2 x hx], r3⟩
        rw [if_neg fr_nb, show L_X5_measure_31 ka fr_fu (0 : Int32) (0 : Int32) σ = _ from k1, fr_bP_mk, fr_pP_mk, fr_let_eq, nI_1]
        exact r1
  unfold F_X5_measure
  rw [fill_eq ka 8 _ σ (by omega), fr_bS_mk, i_chk hf (by omega), fr_let_eq, i_ix (by omega), fr_up_row]
  obtain ⟨τ, x, y, r1, r2, r3⟩ := key 8 0 fr_fu true (fr_row σ ka (upd (blk (σ ka) 0 8 (fun _ => 1000000)) f 0)) (by omega) (by omega) (by rw [fr_row_ne _ _ (fun q => hka q.symm)]; exact hc) (fun k hk => by rw [fr_row_ne _ _ (fun q => hka2 q.symm)]; exact hW k hk) (fun p hp => by
    rw [fr_row_same]
    show _ = nI (D0 f p)
    unfold upd D0
    by_cases e : p = f
    · rw [if_pos e, if_pos e]; rfl
    · rw [if_neg e, if_neg e, blk_in0 hp]; rfl) (fun q => by cases q)
  refine ⟨τ, ?_, fun x hx => by rw [r2 x hx, fr_row_ne _ _ hx], r3⟩
  rw [show L_X5_measure_15 ka fr_fu (1 : Int32) (0 : Int32) _ = _ from r1]
  rfl
/-- the reference's row 68 -/
def DM (σ : fr_St) (D : Nat → Nat) : Prop := ∀ p, p < 8 → σ 68 p = nI (cap (D p))
theorem wgt_le (hw : WFl z B) {U more c : Nat} (hc : more + 9 ≤ c) (k : Nat) : wgt z U more k ≤ c := by
  unfold wgt
  have h2 := hw.2.2.2.2.1
  split
  · have := hw.2.2.2.2.2.2.2.2.2.2 k (by omega)
    split
    · omega
    · split <;> omega
  · omega
end DST
