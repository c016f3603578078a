section ACV
variable {N : Nat} {σ : fr_St}
theorem act_run (h : Rel N σ) {z z' : Nat → Nat} (hw : WFl z (2 * N + 2)) (hc : CR z (σ 16)) (hr : RR z (σ 63)) (h4 : σ 59 4 = nI 1) (G H : fr_St → Option fr_St) (hG : ∀ s : fr_St, CR z (s 16) → ∃ s', G s = some s' ∧ (∀ b, b ≠ 16 → s' b = s b) ∧ CR z' (s' 16)) (hH : ∀ t : fr_St, RR z (t 63) → ∃ t', H t = some t' ∧ (∀ b, b ≠ 63 → t' b = t b) ∧ RR z' (t' 63)) (hw' : WFl z' (2 * N + 4)) : ∃ s s1 t τ, F_X0_keep σ = some s ∧ CR z (s 16) ∧ G s = some s1 ∧ F_X8_note s1 = some t ∧ RR z (t 63) ∧ H t = some τ ∧ CR z' (s1 16) ∧ RR z' (τ 63) ∧ s1 63 = σ 63 ∧ s1 59 = σ 59 ∧ Rel (N + 1) τ := by
  obtain ⟨a, nx, ha, hnx, f1, f2, f3, f6⟩ := h.2.2.2.2.1
  obtain ⟨s, ks, k1, k2, k3, k4⟩ := keep_eq ha hnx f1 f2
  have s16 : CR z (s 16) := by rw [k1 16 (by omega) (by omega)]; exact hc
  obtain ⟨s1, kg, e1, c1⟩ := hG s s16
  have q63 : s1 63 = σ 63 := by rw [e1 63 (by omega), k1 63 (by omega) (by omega)]
  have q59 : s1 59 = σ 59 := by rw [e1 59 (by omega), k1 59 (by omega) (by omega)]
  obtain ⟨t, kt, n1, n2, n3, n4, n5⟩ := note_eq s1 ha (show s1 59 17 = nI a by rw [q59]; exact f3)
  have t63 : RR z (t 63) := by rw [n1 63 (by omega) (by omega), q63]; exact hr
  obtain ⟨τ, kh, e2, r1⟩ := hH t t63
  exact ⟨s, s1, t, τ, ks, s16, kg, kt, t63, kh, c1, r1, q63, q59, Rel_act h hw hc hr h4 ha hnx f3 f6 k1 k2 k3 k4 e1 n1 n2 n3 n4 n5 e2 hw' c1 r1⟩
theorem WF_swap {z : Nat → Nat} {B p q : Nat} (h : WFl z B) (hp : p < z 3) (hq : q < z 3) : WFl (zup (zup z (10 + p) (z (10 + q))) (10 + q) (z (10 + p))) B := by
  obtain ⟨a, b, c, d, e, f, g, i, j, k, l⟩ := h
  have n : ∀ x, (x < 10 ∨ 14 ≤ x) → zup (zup z (10 + p) (z (10 + q))) (10 + q) (z (10 + p)) x = z x := fun x hx => by rw [zup_ne _ _ (by omega), zup_ne _ _ (by omega)]
  unfold WFl
  rw [n 0 (by omega), n 1 (by omega), n 2 (by omega), n 3 (by omega), n 4 (by omega)]
  refine ⟨a, b, c, d, e, f, g, fun x hx => ?_, fun x hx => ?_, fun x hx => ?_, fun x hx => ?_⟩
  · rw [n _ (by omega), n _ (by omega), n _ (by omega), n _ (by omega)]; exact i x hx
  · rw [n (6 + x) (by omega)]
    refine ⟨(j x hx).1, ?_⟩
    unfold zup
    split
    · exact (j p hp).2
    · split
      · exact (j q hq).2
      · exact (j x hx).2
  · rw [n _ (by omega), n _ (by omega)]; exact k x hx
  · rw [n _ (by omega), n _ (by omega), n _ (by omega), n _ (by omega)]; exact l x hx
theorem two_iff {x y : Int32} {n : Nat} (h : (fr_ib x n && fr_ib y n && decide (x ≠ y)) = true) : ∃ p q, p < n ∧ q < n ∧ x = nI p ∧ y = nI q ∧ p ≠ q := by
  simp only [Bool.and_eq_true, decide_eq_true_eq] at h
  obtain ⟨p, hp, rfl⟩ := ib_nI h.1.1
  obtain ⟨q, hq, rfl⟩ := ib_nI h.1.2
  exact ⟨p, q, hp, hq, rfl, rfl, fun e => h.2 (by rw [e])⟩
theorem st_change (h : Rel N σ) (a1 a2 : Int32) : Ok N (F_X7_change a1 a2) (F_X8_change a1 a2) σ := by
  obtain ⟨z, hz, hc, hr, h4⟩ := h.2.2.2.1
  obtain ⟨b0, b1, b2, b3, b4⟩ := hz.b
  cases h2 : (fr_ib a1 (z 3) && fr_ib a2 (z 3) && decide (a1 ≠ a2))
  · refine ⟨-1000001, σ, σ, ?_, ?_, h.mono⟩
    · unfold F_X7_change
      rw [cl_areTwo (o := 15) hc b3, h2]
      rfl
    · unfold F_X8_change
      rw [rf_areTwo hr b3, h2]
      rfl
  · obtain ⟨p, q, hp, hq, rfl, rfl, hpq⟩ := two_iff h2
    have hw := hz.wf 3 (by omega)
    have h4 := Rland.there hz h4 3 (by omega)
    obtain ⟨s, s1, t, τ, ks, cs, kg, kt, ct, kh, c1, r1, q63, q59, hR⟩ := act_run h hw hc hr h4 (z' := zup (zup z (10 + p) (z (10 + q))) (10 + q) (z (10 + p))) (fun s => F_X3_swapSoles 15 (nI p) (nI q) s) (fun t => some (fr_up (fr_up t 63 (10 + p) (nI (z (10 + q)))) 63 (10 + q) (nI (z (10 + p)))))
      (fun s hs => by
        refine ⟨fr_up (fr_up s 16 (46 + p) (nI (z (10 + q)))) 16 (46 + q) (nI (z (10 + p))), ?_, fun b hb => by rw [fr_up_ne _ _ _ hb, fr_up_ne _ _ _ hb], ?_⟩
        · unfold F_X3_swapSoles
          rw [cl_soleOf (o := 15) hs (by omega), fr_bP_mk, cl_soleOf (o := 15) hs (by omega), fr_bP_mk, show (46 : Int32) = nI 46 from rfl, i_add, i_add, i_chk (by omega) (by omega), fr_let_eq, i_chk (by omega) (by omega), fr_let_eq, i_ix (by omega), i_ix (by omega)]
        · rw [fr_up_at, fr_up_at]
          exact CR_up (CR_up hs _ (Or.inr (Or.inr (Or.inr ⟨p, by omega, rfl, rfl⟩)))) _ (Or.inr (Or.inr (Or.inr ⟨q, by omega, rfl, rfl⟩))))
      (fun t ht => ⟨_, rfl, fun b hb => by rw [fr_up_ne _ _ _ hb, fr_up_ne _ _ _ hb], by rw [fr_up_at, fr_up_at]; exact RR_up (RR_up ht _ (by omega)) _ (by omega)⟩) ((WF_swap hw hp hq).mono (by omega))
    have hv : zup (zup z (10 + p) (z (10 + q))) (10 + q) (z (10 + p)) (10 + p) = z (10 + q) := by rw [zup_ne _ _ (by omega), zup_at]
    refine ⟨nI (z (10 + q)), s1, τ, ?_, ?_, hR⟩
    · unfold F_X7_change
      rw [cl_areTwo (o := 15) hc b3, h2, fr_bP_mk, if_neg fr_nb, ks, fr_bS_mk, show F_X3_swapSoles 15 (nI p) (nI q) s = some s1 from kg, fr_bS_mk, cl_soleOf (o := 15) c1 (by omega), fr_bP_mk, hv]
    · unfold F_X8_change
      have hr1 : RR z (s1 63) := by rw [q63]; exact hr
      rw [rf_areTwo hr1 b3, h2, fr_bP_mk, if_neg fr_nb, kt, fr_bS_mk, rf_soleOf ct (by omega), fr_bP_mk, rf_soleOf ct (by omega), fr_bP_mk, show (10 : Int32) = nI 10 from rfl, i_add, i_add, i_chk (by omega) (by omega), fr_let_eq, i_chk (by omega) (by omega), fr_let_eq, i_ix (by omega), i_ix (by omega)]
      have : fr_up (fr_up t 63 (10 + p) (nI (z (10 + q)))) 63 (10 + q) (nI (z (10 + p))) = τ := Option.some.inj kh
      rw [this, rf_soleOf r1 (by omega), fr_bP_mk, hv]
/-- the place at a road's other end -/
def acr (z : Nat → Nat) (k a : Nat) : Nat := if z (23 + k) = a then z (32 + k) else z (23 + k)
/-- the land when the person p has gone over the road k -/
def gz (z : Nat → Nat) (p k : Nat) : Nat → Nat := if z (14 + k) = 5 then zup (zup z (6 + p) (acr z k (z (6 + p)))) 5 (z 5 + z (41 + k)) else zup (zup (zup z (6 + p) (acr z k (z (6 + p)))) (50 + (k * 4 + z (10 + p))) (z (50 + (k * 4 + z (10 + p))) + 1)) (86 + (k * 4 + z (10 + p))) (z 4)
theorem cl_across {o : Nat} {z : Nat → Nat} {B : Nat} (hc : CR z (σ (o + 1))) (hw : WFl z B) {k a : Nat} (hk : k < 9) (ha : a < 100000) : F_X3_across o (nI k) (nI a) σ = some (nI (acr z k a), σ) := by
  have hb := hw.2.2.2.2.2.2.2.2.2.2 k hk
  unfold F_X3_across acr
  rw [cl_oneEnd hc hk, fr_bP_mk, cl_otherEnd hc hk, cl_oneEnd hc hk]
  simp only [fr_bP_mk]
  by_cases e : z (23 + k) = a
  · rw [if_pos (by rw [e]), if_pos e]
    rfl
  · rw [if_neg (fun q => e ((i_eq (by omega) (by omega)).mp q)), if_neg e]
    rfl
theorem cl_isEnd {o : Nat} {z : Nat → Nat} {B : Nat} (hc : CR z (σ (o + 1))) (hw : WFl z B) {k a : Nat} (hk : k < 9) (ha : a < 100000) : F_X3_isEnd o (nI k) (nI a) σ = some (decide (z (23 + k) = a ∨ z (32 + k) = a), σ) := by
  have hb := hw.2.2.2.2.2.2.2.2.2.2 k hk
  unfold F_X3_isEnd
  rw [cl_oneEnd hc hk, fr_bP_mk, cl_otherEnd hc hk]
  simp only [fr_bP_mk]
  by_cases e : z (23 + k) = a
  · rw [if_pos (by rw [e]), decide_eq_true (Or.inl e)]
    rfl
  · rw [if_neg (fun q => e ((i_eq (by omega) (by omega)).mp q))]
    by_cases e2 : z (32 + k) = a
    · rw [if_pos (by rw [e2]), decide_eq_true (Or.inr e2)]
      rfl
    · rw [if_neg (fun q => e2 ((i_eq (by omega) (by omega)).mp q)), decide_eq_false (by omega)]
      rfl
theorem cl_canGo {z : Nat → Nat} {B : Nat} (hc : CR z (σ 16)) (hw : WFl z B) (hB : B ≤ 100000) {p k : Nat} (hp : p < z 3) (hk : k < z 2) : F_X3_canGo 15 (nI p) (nI k) σ = some (decide (z (23 + k) = z (6 + p) ∨ z (32 + k) = z (6 + p)) && opn z k (z (10 + p)) (z 4), σ) := by
  obtain ⟨a, b, c, d, e, f, g, i, j, _, l⟩ := id hw
  have hj := j p hp
  unfold F_X3_canGo
  rw [cl_placeOf (o := 15) hc (by omega), fr_bP_mk, cl_isEnd (o := 15) hc hw (by omega) (by omega), fr_bP_mk]
  by_cases h1 : z (23 + k) = z (6 + p) ∨ z (32 + k) = z (6 + p)
  · rw [decide_eq_true h1, if_neg fr_nb, cl_soleOf (o := 15) hc (by omega), fr_bP_mk, cl_today (o := 15) hc, fr_bP_mk, cl_opens (o := 15) hc hw hB (by omega) (by omega) (by omega), fr_bP_mk]
    cases opn z k (z (10 + p)) (z 4) <;> rfl
  · rw [decide_eq_false h1]
    rfl
theorem cl_goOver {z : Nat → Nat} {B : Nat} (hc : CR z (σ 16)) (hw : WFl z B) {p k : Nat} (hp : p < z 3) (hk : k < z 2) : ∃ s, F_X3_goOver 15 (nI p) (nI k) σ = some s ∧ (∀ b, b ≠ 16 → s b = σ b) ∧ CR (gz z p k) (s 16) := by
  obtain ⟨a, b, c, d, e, f, g, i, j, _, l⟩ := id hw
  have hj := j p hp
  have hl := l k (by omega)
  have c1 : CR (zup z (6 + p) (acr z k (z (6 + p)))) ((fr_up σ 16 (42 + p) (nI (acr z k (z (6 + p))))) 16) := by
    rw [fr_up_at]
    exact CR_up hc _ (Or.inr (Or.inr (Or.inl ⟨p, by omega, rfl, rfl⟩)))
  unfold F_X3_goOver
  rw [cl_placeOf (o := 15) hc (by omega), fr_bP_mk, cl_across (o := 15) hc hw (by omega) (by omega), fr_bP_mk, show (42 : Int32) = nI 42 from rfl, i_add, i_chk (by omega) (by omega), i_ix (by omega), fr_let_eq, cl_kindOf (o := 15) c1 (by omega), fr_bP_mk, zup_ne _ _ (by omega)]
  by_cases h5 : z (14 + k) = 5
  · rw [if_pos (by rw [h5]; rfl), cl_longOf (o := 15) c1 (by omega), fr_bP_mk, zup_ne _ _ (by omega), c1.1 5 (by omega), zup_ne _ _ (by omega), i_add]
    refine ⟨_, rfl, fun b hb => by rw [fr_up_ne _ _ _ hb, fr_up_ne _ _ _ hb], ?_⟩
    rw [fr_up_at]
    unfold gz
    rw [if_pos h5]
    exact CR_up c1 _ (Or.inr (Or.inl ⟨rfl, rfl⟩))
  · rw [if_neg (show ¬ nI (z (14 + k)) = (5 : Int32) from fun q => h5 ((i_eq (b := 5) (by omega) (by omega)).mp q)), cl_soleOf (o := 15) c1 (by omega), fr_bP_mk, zup_ne _ _ (by omega)]
    unfold F_X3_meetToday F_X3_meeting
    rw [fr_bP_mk, show (4 : Int32) = nI 4 from rfl, i_mul, i_add, show (50 : Int32) = nI 50 from rfl, show (86 : Int32) = nI 86 from rfl, i_add, i_add, i_chk (by omega) (by omega), i_chk (by omega) (by omega), i_ix (by omega), i_ix (by omega)]
    have et : (fr_up σ 16 (42 + p) (nI (acr z k (z (6 + p))))) (15 + 1) (50 + (k * 4 + z (10 + p))) = nI (z (50 + (k * 4 + z (10 + p)))) := by
      refine ((c1.2.2.2 (k * 4 + z (10 + p)) (by omega)).1).trans ?_
      rw [zup_ne _ _ (by omega)]
    rw [et, nI_1, fr_let_eq]
    unfold F_X3_today
    rw [fr_bP_mk, i_chk (by omega) (by omega), fr_let_eq]
    refine ⟨_, rfl, fun b hb => by rw [fr_up_ne _ _ _ hb, fr_up_ne _ _ _ hb, fr_up_ne _ _ _ hb], ?_⟩
    have ed : (fr_up (fr_up σ 16 (42 + p) (nI (acr z k (z (6 + p))))) (15 + 1) (50 + (k * 4 + z (10 + p))) (nI (z (50 + (k * 4 + z (10 + p))) + 1))) (15 + 1) 4 = nI (z 4) := by
      show (fr_up _ 16 _ _) 16 4 = _
      rw [fr_up_at, upd_ne _ _ (by omega)]
      refine (c1.1 4 (by omega)).trans ?_
      rw [zup_ne _ _ (by omega)]
    rw [ed]
    show CR _ ((fr_up (fr_up (fr_up σ 16 (42 + p) (nI (acr z k (z (6 + p))))) 16 (50 + (k * 4 + z (10 + p))) (nI (z (50 + (k * 4 + z (10 + p))) + 1))) 16 (86 + (k * 4 + z (10 + p))) (nI (z 4))) 16)
    rw [fr_up_at, fr_up_at]
    unfold gz
    rw [if_neg h5]
    exact CR_meet c1 (by omega) _ _
theorem rf_goOver {z : Nat → Nat} {B : Nat} {t : fr_St} (hr : RR z (t 63)) (hw : WFl z B) {p k : Nat} (hp : p < z 3) (hk : k < z 2) (he : z (23 + k) = z (6 + p) ∨ z (32 + k) = z (6 + p)) : ∃ s, F_X8_goOver (nI p) (nI k) t = some s ∧ (∀ b, b ≠ 63 → s b = t b) ∧ RR (gz z p k) (s 63) := by
  obtain ⟨a, b, c, d, e, f, g, i, j, _, l⟩ := id hw
  have hj := j p hp
  have hl := l k (by omega)
  have c1 : RR (zup z (6 + p) (acr z k (z (6 + p)))) ((fr_up t 63 (6 + p) (nI (acr z k (z (6 + p))))) 63) := by
    rw [fr_up_at]
    exact RR_up hr _ (by omega)
  have ea : (if z (23 + k) = z (6 + p) then nI (z (32 + k)) else if z (32 + k) = z (6 + p) then nI (z (23 + k)) else -1) = nI (acr z k (z (6 + p))) := by
    unfold acr
    by_cases e1 : z (23 + k) = z (6 + p)
    · rw [if_pos e1, if_pos e1]
    · rw [if_neg e1, if_neg e1, if_pos (he.resolve_left e1)]
  unfold F_X8_goOver
  rw [show (6 : Int32) = nI 6 from rfl, show (14 : Int32) = nI 14 from rfl, show (41 : Int32) = nI 41 from rfl, i_add, i_add, i_add, i_chk (by omega) (by omega), i_ix (by omega), hr.1 (6 + p) (by omega), rf_across hr hw (by omega) (by omega), ea, fr_bP_mk, i_chk (by omega) (by omega), fr_let_eq, i_chk (by omega) (by omega), i_ix (by omega), c1.1 (14 + k) (by omega), zup_ne _ _ (by omega)]
  by_cases h5 : z (14 + k) = 5
  · rw [if_pos (by rw [h5]; rfl), i_chk (by omega) (by omega), i_ix (by omega), c1.1 (41 + k) (by omega), zup_ne _ _ (by omega), fr_bS_mk, fr_let_eq, c1.1 5 (by omega), zup_ne _ _ (by omega), i_add]
    have c2 : RR (zup (zup z (6 + p) (acr z k (z (6 + p)))) 5 (z 5 + z (41 + k))) ((fr_up (fr_up t 63 (6 + p) (nI (acr z k (z (6 + p))))) 63 5 (nI (z 5 + z (41 + k)))) 63) := by
      rw [fr_up_at]
      exact RR_up c1 _ (by omega)
    rw [rf_soleOf c2 (by omega), fr_bP_mk]
    unfold F_X8_meetSole
    rw [show (14 : Int32) = nI 14 from rfl, i_add, i_chk (by omega) (by omega), i_ix (by omega), c2.1 (14 + k) (by omega), zup_ne _ _ (by omega), zup_ne _ _ (by omega), if_pos (by rw [h5]; rfl)]
    refine ⟨_, rfl, fun b hb => by rw [fr_up_ne _ _ _ hb, fr_up_ne _ _ _ hb], ?_⟩
    unfold gz
    rw [if_pos h5]
    exact c2
  · rw [if_neg (show ¬ nI (z (14 + k)) = (5 : Int32) from fun q => h5 ((i_eq (b := 5) (by omega) (by omega)).mp q)), fr_bS_mk, fr_let_eq, c1.1 5 (by omega), zup_ne _ _ (by omega), show (0 : Int32) = nI 0 from rfl, i_add, Nat.add_zero]
    have eu : fr_up (fr_up t 63 (6 + p) (nI (acr z k (z (6 + p))))) 63 5 (nI (z 5)) = fr_up t 63 (6 + p) (nI (acr z k (z (6 + p)))) := by
      unfold fr_up
      rw [fr_row_same, fr_row_row]
      congr 1
      funext x
      by_cases ex : x = 5
      · subst ex
        rw [upd_at, upd_ne _ _ (by omega)]
        exact (hr.1 5 (by omega)).symm
      · rw [upd_ne _ _ ex]
    rw [eu, rf_soleOf c1 (by omega), fr_bP_mk, zup_ne _ _ (by omega)]
    unfold F_X8_meetSole
    rw [show (14 : Int32) = nI 14 from rfl, show (50 : Int32) = nI 50 from rfl, show (86 : Int32) = nI 86 from rfl, show (4 : Int32) = nI 4 from rfl, i_mul, i_add, i_add, i_add, i_add, i_add, i_chk (by omega) (by omega), i_ix (by omega), c1.1 (14 + k) (by omega), zup_ne _ _ (by omega), if_neg (show ¬ nI (z (14 + k)) = (5 : Int32) from fun q => h5 ((i_eq (b := 5) (by omega) (by omega)).mp q)), i_chk (by omega) (by omega), i_chk (by omega) (by omega), i_ix (by omega), show 50 + 4 * k + z (10 + p) = 50 + (k * 4 + z (10 + p)) by omega, show 86 + 4 * k + z (10 + p) = 86 + (k * 4 + z (10 + p)) by omega, c1.1 (50 + (k * 4 + z (10 + p))) (by omega), zup_ne _ _ (by omega), nI_1, fr_let_eq, i_chk (by omega) (by omega), fr_let_eq, i_ix (by omega)]
    have ed : (fr_up (fr_up t 63 (6 + p) (nI (acr z k (z (6 + p))))) 63 (50 + (k * 4 + z (10 + p))) (nI (z (50 + (k * 4 + z (10 + p))) + 1))) 63 4 = nI (z 4) := by
      rw [fr_up_at, upd_ne _ _ (by omega), c1.1 4 (by omega), zup_ne _ _ (by omega)]
    rw [ed]
    refine ⟨_, rfl, fun b hb => by rw [fr_up_ne _ _ _ hb, fr_up_ne _ _ _ hb, fr_up_ne _ _ _ hb], ?_⟩
    rw [fr_up_at, fr_up_at]
    unfold gz
    rw [if_neg h5]
    exact RR_meet c1 (by omega) _ (by omega)
theorem gz_out {z : Nat → Nat} {p k x : Nat} (h1 : x ≠ 6 + p) (h2 : x ≠ 5) (h3 : x < 50) : gz z p k x = z x := by
  unfold gz
  split
  · rw [zup_ne _ _ h2, zup_ne _ _ h1]
  · rw [zup_ne _ _ (by omega), zup_ne _ _ (by omega), zup_ne _ _ h1]
theorem gz_at {z : Nat → Nat} {p k : Nat} (hp : p < 4) : gz z p k (6 + p) = acr z k (z (6 + p)) := by
  unfold gz
  split
  · rw [zup_ne _ _ (by omega), zup_at]
  · rw [zup_ne _ _ (by omega), zup_ne _ _ (by omega), zup_at]
theorem WF_gz {z : Nat → Nat} {B p k : Nat} (h : WFl z B) (hp : p < z 3) (hk : k < z 2) : WFl (gz z p k) (B + 1) := by
  obtain ⟨a, b, c, d, e, f, g, i, j, m, l⟩ := h
  have n : ∀ x, x ≠ 6 + p → x ≠ 5 → x < 50 → gz z p k x = z x := fun x => gz_out
  unfold WFl
  rw [n 0 (by omega) (by omega) (by omega), n 1 (by omega) (by omega) (by omega), n 2 (by omega) (by omega) (by omega), n 3 (by omega) (by omega) (by omega), n 4 (by omega) (by omega) (by omega)]
  refine ⟨a, b, c, d, e, f, g, fun x hx => ?_, fun x hx => ?_, fun x hx => ?_, fun x hx => ?_⟩
  · rw [n (14 + x) (by omega) (by omega) (by omega), n (23 + x) (by omega) (by omega) (by omega), n (32 + x) (by omega) (by omega) (by omega), n (41 + x) (by omega) (by omega) (by omega)]; exact i x hx
  · rw [n (10 + x) (by omega) (by omega) (by omega)]
    refine ⟨?_, (j x hx).2⟩
    by_cases ex : x = p
    · subst ex
      rw [gz_at (by omega)]
      have := i k hk
      unfold acr
      split <;> omega
    · rw [n (6 + x) (by omega) (by omega) (by omega)]; exact (j x hx).1
  · have hm := m x hx
    have hs := (j p hp).2
    unfold gz
    split
    · rw [zup_ne _ _ (by omega), zup_ne _ _ (by omega), zup_ne _ _ (by omega), zup_ne _ _ (by omega)]
      omega
    · have hm2 := m (k * 4 + z (10 + p)) (by omega)
      rw [zup_ne _ _ (by omega)]
      by_cases ex : x = k * 4 + z (10 + p)
      · rw [← ex] at hm2 ⊢
        rw [zup_at, zup_at]
        omega
      · rw [zup_ne _ _ (by omega), zup_ne _ _ (by omega), zup_ne _ _ (by omega), zup_ne _ _ (by omega), zup_ne _ _ (by omega)]
        omega
  · rw [n (14 + x) (by omega) (by omega) (by omega), n (23 + x) (by omega) (by omega) (by omega), n (32 + x) (by omega) (by omega) (by omega), n (41 + x) (by omega) (by omega) (by omega)]; exact l x hx
end ACV
