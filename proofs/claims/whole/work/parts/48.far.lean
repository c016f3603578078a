/-! ===== the reference's distances; way, led, introduced ===== -/
def ffB (k3 v1 v5 : Int32) (s3 : fr_St) : Option fr_St := if fr_ib ((23 : Int32) + v1) 122 = true then fr_let ((s3 63 (fr_ix ((23 : Int32) + v1)))) (fun v11 => if fr_ib ((32 : Int32) + v1) 122 = true then fr_let ((s3 63 (fr_ix ((32 : Int32) + v1)))) (fun v13 => if fr_ib ((41 : Int32) + v1) 122 = true then fr_bS (if v5 = 0 then (some (k3)) else (some ((0 : Int32)))) (fun v15 => fr_let (((s3 63 (fr_ix ((41 : Int32) + v1))) + v15)) (fun v18 => if fr_ib v13 8 = true then if fr_ib v11 8 = true then fr_bS (if (s3 68 (fr_ix v11)) ≤ ((s3 68 (fr_ix v13)) + v18) then (if fr_ib v11 8 = true then some ((s3 68 (fr_ix v11))) else none) else (if fr_ib v13 8 = true then some (((s3 68 (fr_ix v13)) + v18)) else none)) (fun v21 => if fr_ib v11 8 = true then fr_let (fr_up s3 68 (fr_ix v11) v21) (fun s25 => if fr_ib v11 8 = true then if fr_ib v13 8 = true then fr_bS (if (s25 68 (fr_ix v13)) ≤ ((s25 68 (fr_ix v11)) + v18) then (if fr_ib v13 8 = true then some ((s25 68 (fr_ix v13))) else none) else (if fr_ib v11 8 = true then some (((s25 68 (fr_ix v11)) + v18)) else none)) (fun v28 => if fr_ib v13 8 = true then fr_let (fr_up s25 68 (fr_ix v13) v28) (fun s32 => some (s32)) else none) else none else none) else none) else none else none)) else none) else none) else none
theorem ff_unf (k2 k3 : Int32) (n : Nat) (x4 : Int32) (σ : fr_St) : L_X8_findFars_38 k2 k3 (n + 1) x4 σ = if (72 : Int32) ≤ x4 then some (x4, σ) else fr_let (x4 - x4 / (9 : Int32) * (9 : Int32)) (fun v1 => fr_bP (F_X8_has k2 v1 σ) (fun b4 s3 => fr_let (fr_bi b4) (fun v5 => fr_bS (if (s3 63 2) ≤ v1 then some s3 else if v5 = 0 then (if k3 ≤ 0 then some s3 else ffB k3 v1 v5 s3) else ffB k3 v1 v5 s3) (fun s6 => fr_let (x4 + (1 : Int32)) (fun v9 => L_X8_findFars_38 k2 k3 n v9 s6))))) := by
  rw [L_X8_findFars_38]
  rfl
section FFR
variable {N : Nat} {σ : fr_St} {z : Nat → Nat} {B : Nat}
theorem cap_b {x : Nat} (h : x = 1000000 ∨ x ≤ 72648) : cap x ≤ 100000 ∧ (cap x = 100000 ↔ x = 1000000) ∧ (x ≤ 72648 → cap x = x) := by
  unfold cap
  split <;> omega
theorem ff_body (hr : RR z (σ 63)) (hw : WFl z B) {D g : Nat → Nat} {k : Nat} {k3 v5 : Int32} {e : Nat} (hk : k < z 2) (hD : DM σ D) (hDb : ∀ p, D p = 1000000 ∨ D p ≤ 71639) (hg1 : 1 ≤ g k) (hg : g k ≤ 1009) (hv : (if v5 = 0 then some k3 else some (0 : Int32)) = some (nI e)) (he : z (41 + k) + e = g k) : ∃ τ, ffB k3 (nI k) v5 σ = some τ ∧ (∀ x, x ≠ 68 → τ x = σ x) ∧ DM τ (rx z g D k) := by
  have h2 := hw.2.2.2.2.1
  have hl := hw.2.2.2.2.2.2.2.1 k hk
  have h1 := hw.2.2.2.1
  have hA := hDb (z (23 + k))
  have hB' := hDb (z (32 + k))
  have cA := cap_b (show D (z (23 + k)) = 1000000 ∨ D (z (23 + k)) ≤ 72648 by omega)
  have cB := cap_b (show D (z (32 + k)) = 1000000 ∨ D (z (32 + k)) ≤ 72648 by omega)
  unfold ffB
  rw [hv]
  simp only [show (23 : Int32) = nI 23 from rfl, show (32 : Int32) = nI 32 from rfl, show (41 : Int32) = nI 41 from rfl, i_add, i_chk (show 23 + k < 122 by omega) (show 122 < 2147483648 by decide), i_chk (show 32 + k < 122 by omega) (show 122 < 2147483648 by decide), i_chk (show 41 + k < 122 by omega) (show 122 < 2147483648 by decide), i_ix (show 23 + k < 2147483648 by omega), i_ix (show 32 + k < 2147483648 by omega), i_ix (show 41 + k < 2147483648 by omega), hr.1 (23 + k) (by omega), hr.1 (32 + k) (by omega), hr.1 (41 + k) (by omega), fr_let_eq, fr_bS_mk, he, i_chk (show z (23 + k) < 8 by omega) (show 8 < 2147483648 by decide), i_chk (show z (32 + k) < 8 by omega) (show 8 < 2147483648 by decide), i_ix (show z (23 + k) < 2147483648 by omega), i_ix (show z (32 + k) < 2147483648 by omega), hD (z (23 + k)) (by omega), hD (z (32 + k)) (by omega)]
  have hne : z (32 + k) ≠ z (23 + k) := fun q => hl.2.2.2.2.1 q.symm
  have put : ∀ (v1 v2 : Nat) (D' : Nat → Nat), (∀ p, cap (D' p) = zup (zup (fun q => cap (D q)) (z (23 + k)) v1) (z (32 + k)) v2 p) → DM (fr_up (fr_up σ 68 (z (23 + k)) (nI v1)) 68 (z (32 + k)) (nI v2)) D' := by
    intro v1 v2 D' hD' p hp
    rw [fr_up_at, fr_up_at, hD' p]
    exact uz Iff.rfl (uz Iff.rfl (hD p hp))
  unfold rx
  rw [if_neg (show ¬ g k = 0 by omega)]
  by_cases h3 : D (z (32 + k)) + g k < D (z (23 + k))
  · -- the first end is nearer by the other
    have hfin : D (z (32 + k)) ≤ 71639 := by omega
    have e1 : cap (D (z (32 + k))) = D (z (32 + k)) := cB.2.2 (by omega)
    have hlt : D (z (32 + k)) + g k < cap (D (z (23 + k))) := by
      rcases hA with q | q
      · rw [cA.2.1.mpr q]; omega
      · rw [cA.2.2 (by omega)]; omega
    rw [if_neg (show ¬ nI (cap (D (z (23 + k)))) ≤ nI (cap (D (z (32 + k))) + g k) from fun q => absurd ((i_le (by omega) (by omega)).mp q) (by omega)), fr_bS_mk]
    have u1 : (fr_up σ 68 (z (23 + k)) (nI (cap (D (z (32 + k))) + g k))) 68 (z (23 + k)) = nI (cap (D (z (32 + k))) + g k) := by rw [fr_up_at, upd_at]
    have u2 : (fr_up σ 68 (z (23 + k)) (nI (cap (D (z (32 + k))) + g k))) 68 (z (32 + k)) = nI (cap (D (z (32 + k)))) := by rw [fr_up_at, upd_ne _ _ hne, hD _ (by omega)]
    simp only [u1, u2, i_add]
    rw [if_pos ((i_le (by omega) (by omega)).mpr (by omega)), fr_bS_mk, if_neg (by omega), if_pos h3]
    refine ⟨_, rfl, fun x hx => by rw [fr_up_ne _ _ _ hx, fr_up_ne _ _ _ hx], put _ _ _ fun p => ?_⟩
    unfold zup
    by_cases q1 : p = z (32 + k)
    · subst q1
      rw [if_neg hne, if_pos rfl]
    · rw [if_neg q1]
      by_cases q2 : p = z (23 + k)
      · rw [if_pos q2, if_pos q2, e1]
        exact (cap_b (Or.inr (by omega))).2.2 (by omega)
      · rw [if_neg q2, if_neg q2]
  · have hle : cap (D (z (23 + k))) ≤ cap (D (z (32 + k))) + g k := by
      rcases hA with q | q <;> rcases hB' with w | w
      · rw [cA.2.1.mpr q, cB.2.1.mpr w]; omega
      · omega
      · rw [cB.2.1.mpr w]; omega
      · rw [cA.2.2 (by omega), cB.2.2 (by omega)]; omega
    rw [if_pos ((i_le (by omega) (by omega)).mpr hle), fr_bS_mk]
    have u1 : (fr_up σ 68 (z (23 + k)) (nI (cap (D (z (23 + k)))))) 68 (z (23 + k)) = nI (cap (D (z (23 + k)))) := by rw [fr_up_at, upd_at]
    have u2 : (fr_up σ 68 (z (23 + k)) (nI (cap (D (z (23 + k)))))) 68 (z (32 + k)) = nI (cap (D (z (32 + k)))) := by rw [fr_up_at, upd_ne _ _ hne, hD _ (by omega)]
    simp only [u1, u2, i_add]
    by_cases h4 : D (z (23 + k)) + g k < D (z (32 + k))
    · have hfin : D (z (23 + k)) ≤ 71639 := by omega
      have e1 : cap (D (z (23 + k))) = D (z (23 + k)) := cA.2.2 (by omega)
      have hlt : D (z (23 + k)) + g k < cap (D (z (32 + k))) := by
        rcases hB' with q | q
        · rw [cB.2.1.mpr q]; omega
        · rw [cB.2.2 (by omega)]; omega
      rw [if_neg (show ¬ nI (cap (D (z (32 + k)))) ≤ nI (cap (D (z (23 + k))) + g k) from fun q => absurd ((i_le (by omega) (by omega)).mp q) (by omega)), fr_bS_mk, if_pos h4]
      refine ⟨_, rfl, fun x hx => by rw [fr_up_ne _ _ _ hx, fr_up_ne _ _ _ hx], put _ _ _ fun p => ?_⟩
      unfold zup
      by_cases q1 : p = z (32 + k)
      · rw [if_pos q1, if_pos q1, e1]
        exact (cap_b (Or.inr (by omega))).2.2 (by omega)
      · rw [if_neg q1, if_neg q1]
        by_cases q2 : p = z (23 + k)
        · rw [if_pos q2, q2]
        · rw [if_neg q2]
    · have hle2 : cap (D (z (32 + k))) ≤ cap (D (z (23 + k))) + g k := by
        rcases hA with q | q <;> rcases hB' with w | w
        · rw [cA.2.1.mpr q, cB.2.1.mpr w]; omega
        · rw [cA.2.1.mpr q]; omega
        · omega
        · rw [cA.2.2 (by omega), cB.2.2 (by omega)]; omega
      rw [if_pos ((i_le (by omega) (by omega)).mpr hle2), fr_bS_mk, if_neg h4, if_neg h3]
      refine ⟨_, rfl, fun x hx => by rw [fr_up_ne _ _ _ hx, fr_up_ne _ _ _ hx], put _ _ _ fun p => ?_⟩
      unfold zup
      by_cases q1 : p = z (32 + k)
      · rw [if_pos q1, q1]
      · rw [if_neg q1]
        by_cases q2 : p = z (23 + k)
        · rw [if_pos q2, q2]
        · rw [if_neg q2]
end FFR
