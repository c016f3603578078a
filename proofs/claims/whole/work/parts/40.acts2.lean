/-! ===== acts ===== -/
def zup (z : Nat → Nat) (k v : Nat) : Nat → Nat := fun i => if i = k then v else z i
theorem zup_at (z : Nat → Nat) (k v : Nat) : zup z k v k = v := if_pos rfl
theorem zup_ne (z : Nat → Nat) {k i : Nat} (v : Nat) (h : i ≠ k) : zup z k v i = z i := if_neg h
theorem uz {c : Nat → Int32} {z : Nat → Nat} {i K a b v : Nat} (h : a = i ↔ b = K) (e : c a = nI (z b)) : upd c i (nI v) a = nI (zup z K v b) := by
  unfold upd zup
  by_cases q : a = i
  · rw [if_pos q, if_pos (h.mp q)]
  · rw [if_neg q, if_neg (fun w => q (h.mpr w)), e]
theorem CR_up {z : Nat → Nat} {c : Nat → Int32} (h : CR z c) {i K : Nat} (v : Nat) (hik : (i = 4 ∧ K = 4) ∨ (i = 5 ∧ K = 5) ∨ (∃ q, q < 4 ∧ i = 42 + q ∧ K = 6 + q) ∨ (∃ q, q < 4 ∧ i = 46 + q ∧ K = 10 + q)) : CR (zup z K v) (upd c i (nI v)) := by
  have hik' : (i = K ∧ (K = 4 ∨ K = 5)) ∨ (6 ≤ K ∧ K < 10 ∧ i = K + 36) ∨ (10 ≤ K ∧ K < 14 ∧ i = K + 36) := by
    rcases hik with ⟨a, b⟩ | ⟨a, b⟩ | ⟨q, a, b, c⟩ | ⟨q, a, b, c⟩ <;> omega
  refine ⟨fun k hk => uz (by omega) (h.1 k hk), fun k hk => ?_, fun q hq => ?_, fun j hj => ?_⟩
  · obtain ⟨a1, a2, a3, a4⟩ := h.2.1 k hk
    exact ⟨uz (by omega) a1, uz (by omega) a2, uz (by omega) a3, uz (by omega) a4⟩
  · obtain ⟨a1, a2⟩ := h.2.2.1 q hq
    exact ⟨uz (by omega) a1, uz (by omega) a2⟩
  · obtain ⟨a1, a2⟩ := h.2.2.2 j hj
    refine ⟨uz (by omega) a1, fun hz => uz (by omega) (a2 ?_)⟩
    rw [zup_ne _ _ (by omega)] at hz
    exact hz
theorem RR_up {z : Nat → Nat} {r : Nat → Int32} (h : RR z r) {K : Nat} (v : Nat) (hK : 1 ≤ K ∧ K < 50) : RR (zup z K v) (upd r K (nI v)) := by
  refine ⟨fun k hk => uz Iff.rfl (h.1 k hk), fun h0 j hj => ?_⟩
  rw [zup_ne _ _ (by omega)] at h0
  rw [upd_ne _ _ (by omega), zup_ne _ _ (by omega), zup_ne _ _ (by omega)]
  exact h.2 h0 j hj
theorem CR_meet {z : Nat → Nat} {c : Nat → Int32} (h : CR z c) {J : Nat} (hJ : J < 36) (t d : Nat) : CR (zup (zup z (50 + J) t) (86 + J) d) (upd (upd c (50 + J) (nI t)) (86 + J) (nI d)) := by
  refine ⟨fun k hk => uz (by omega) (uz (by omega) (h.1 k hk)), fun k hk => ?_, fun q hq => ?_, fun j hj => ?_⟩
  · obtain ⟨a1, a2, a3, a4⟩ := h.2.1 k hk
    exact ⟨uz (by omega) (uz (by omega) a1), uz (by omega) (uz (by omega) a2), uz (by omega) (uz (by omega) a3), uz (by omega) (uz (by omega) a4)⟩
  · obtain ⟨a1, a2⟩ := h.2.2.1 q hq
    exact ⟨uz (by omega) (uz (by omega) a1), uz (by omega) (uz (by omega) a2)⟩
  · obtain ⟨a1, a2⟩ := h.2.2.2 j hj
    refine ⟨uz (by omega) (uz (by omega) a1), fun hz => ?_⟩
    by_cases e : j = J
    · subst e
      rw [upd_at, zup_at]
    · rw [zup_ne _ _ (by omega), zup_ne _ _ (by omega)] at hz
      exact uz (by omega) (uz (by omega) (a2 hz))
theorem RR_meet {z : Nat → Nat} {r : Nat → Int32} (h : RR z r) {J : Nat} (hJ : J < 36) {t : Nat} (d : Nat) (ht : t ≠ 0) : RR (zup (zup z (50 + J) t) (86 + J) d) (upd (upd r (50 + J) (nI t)) (86 + J) (nI d)) := by
  refine ⟨fun k hk => uz Iff.rfl (uz Iff.rfl (h.1 k hk)), fun h0 j hj => ?_⟩
  rw [zup_ne _ _ (by omega), zup_ne _ _ (by omega)] at h0
  by_cases e : j = J
  · subst e
    rw [upd_at, zup_ne _ _ (by omega), zup_at, if_neg ht, zup_at]
  · rw [upd_ne _ _ (by omega), upd_ne _ _ (by omega), zup_ne _ _ (by omega), zup_ne _ _ (by omega), zup_ne _ _ (by omega), zup_ne _ _ (by omega)]
    exact h.2 h0 j hj
theorem CR_zero {z : Nat → Nat} {c : Nat → Int32} (h : CR z c) {J : Nat} (hJ : J < 36) : CR (zup z (50 + J) 0) (upd c (50 + J) (nI 0)) := by
  refine ⟨fun k hk => uz (by omega) (h.1 k hk), fun k hk => ?_, fun q hq => ?_, fun j hj => ?_⟩
  · obtain ⟨a1, a2, a3, a4⟩ := h.2.1 k hk
    exact ⟨uz (by omega) a1, uz (by omega) a2, uz (by omega) a3, uz (by omega) a4⟩
  · obtain ⟨a1, a2⟩ := h.2.2.1 q hq
    exact ⟨uz (by omega) a1, uz (by omega) a2⟩
  · obtain ⟨a1, a2⟩ := h.2.2.2 j hj
    refine ⟨uz (by omega) a1, fun hz => ?_⟩
    by_cases e : j = J
    · subst e
      rw [zup_at] at hz
      exact absurd rfl hz
    · rw [zup_ne _ _ (by omega)] at hz
      exact uz (by omega) (a2 hz)
theorem RR_zero {z : Nat → Nat} {r : Nat → Int32} (h : RR z r) {J : Nat} (hJ : J < 36) : RR (zup z (50 + J) 0) (upd (upd r (50 + J) (nI 0)) (86 + J) (-1000000)) := by
  refine ⟨fun k hk => ?_, fun h0 j hj => ?_⟩
  · rw [upd_ne _ _ (by omega)]
    exact uz Iff.rfl (h.1 k hk)
  · rw [zup_ne _ _ (by omega)] at h0
    by_cases e : j = J
    · subst e
      rw [upd_at, zup_at, if_pos rfl]
    · rw [upd_ne _ _ (by omega), upd_ne _ _ (by omega), zup_ne _ _ (by omega), zup_ne _ _ (by omega)]
      exact h.2 h0 j hj
theorem Rland.there {N : Nat} {σ : fr_St} {z : Nat → Nat} (hz : Zl z N) (h4 : σ 59 4 = nI (if z 0 = 0 then 0 else 1)) (k : Nat) (hk : 0 < z k) : σ 59 4 = nI 1 := by
  have := (hz.wf k hk).1
  rw [if_neg (by omega)] at h4
  exact h4
section ACU
variable {N : Nat} {σ : fr_St}
theorem WF_day {z : Nat → Nat} {B : Nat} (h : WFl z B) (hd : z 4 < 999) : WFl (zup z 4 (z 4 + 1)) B := by
  obtain ⟨a, b, c, d, e, f, g, i, j, k, l⟩ := h
  refine ⟨a, b, c, d, e, f, ?_, fun q hq => ?_, fun q hq => ?_, fun q hq => ?_, fun q hq => ?_⟩
  · rw [zup_at]; omega
  · simp only [zup_ne _ _ (show (14 + q : Nat) ≠ 4 by omega), zup_ne _ _ (show (23 + q : Nat) ≠ 4 by omega), zup_ne _ _ (show (32 + q : Nat) ≠ 4 by omega), zup_ne _ _ (show (41 + q : Nat) ≠ 4 by omega)]
    exact i q hq
  · simp only [zup_ne _ _ (show (6 + q : Nat) ≠ 4 by omega), zup_ne _ _ (show (10 + q : Nat) ≠ 4 by omega)]
    exact j q hq
  · have := k q hq
    rw [zup_ne _ _ (show (50 + q : Nat) ≠ 4 by omega), zup_ne _ _ (show (86 + q : Nat) ≠ 4 by omega), zup_at]
    omega
  · simp only [zup_ne _ _ (show (14 + q : Nat) ≠ 4 by omega), zup_ne _ _ (show (23 + q : Nat) ≠ 4 by omega), zup_ne _ _ (show (32 + q : Nat) ≠ 4 by omega), zup_ne _ _ (show (41 + q : Nat) ≠ 4 by omega)]
    exact l q hq
theorem st_day (h : Rel N σ) : Ok N F_X7_day F_X8_day σ := by
  obtain ⟨z, hz, hc, hr, h4⟩ := h.2.2.2.1
  obtain ⟨b0, b1, b2, b3, b4⟩ := hz.b
  by_cases h0 : z 0 = 0
  · rw [if_pos h0] at h4
    refine ⟨-1000002, σ, σ, ?_, ?_, h.mono⟩
    · unfold F_X7_day
      rw [cl_stands (o := 15) hc b0, decide_eq_false (by omega)]
      rfl
    · unfold F_X8_day
      rw [h4]
      rfl
  · have hw := hz.wf 0 (by omega)
    rw [if_neg h0] at h4
    by_cases hd : z 4 < 999
    · obtain ⟨a, nx, ha, hnx, f1, f2, f3, f6⟩ := h.2.2.2.2.1
      obtain ⟨s, ks, k1, k2, k3, k4⟩ := keep_eq ha hnx f1 f2
      have s16 : s 16 = σ 16 := k1 16 (by omega) (by omega)
      have s16c : CR z (s (15 + 1)) := by show CR z (s 16); rw [s16]; exact hc
      let s1 := fr_up s 16 4 (nI (z 4 + 1))
      have s1c : CR (zup z 4 (z 4 + 1)) (s1 16) := by
        show CR _ ((fr_up s 16 4 (nI (z 4 + 1))) 16)
        rw [fr_up_at, s16]
        exact CR_up hc _ (Or.inl ⟨rfl, rfl⟩)
      have hX : F_X7_day σ = some (nI (z 4 + 1), s1) := by
        unfold F_X7_day F_X3_nextDay
        rw [cl_stands (o := 15) hc b0, decide_eq_true (by omega), fr_bP_mk, if_neg fr_nb, cl_today (o := 15) hc, fr_bP_mk, if_pos (show nI (z 4) < (999 : Int32) from (i_lt (b := 999) (by omega) (by omega)).mpr hd), ks, fr_bS_mk, s16c.1 4 (by omega), nI_1, fr_let_eq, fr_bS_mk, cl_today (o := 15) (z := zup z 4 (z 4 + 1)) s1c, zup_at]
        rfl
      obtain ⟨t, kt, n1, n2, n3, n4, n5⟩ := note_eq s1 ha (show s1 59 17 = nI a by show (fr_up s 16 4 (nI (z 4 + 1))) 59 17 = nI a; rw [fr_up_ne _ _ _ (by omega), k1 59 (by omega) (by omega)]; exact f3)
      have s59 : s1 59 = σ 59 := by show (fr_up s 16 4 (nI (z 4 + 1))) 59 = _; rw [fr_up_ne _ _ _ (by omega), k1 59 (by omega) (by omega)]
      have s63 : s1 63 = σ 63 := by show (fr_up s 16 4 (nI (z 4 + 1))) 63 = _; rw [fr_up_ne _ _ _ (by omega), k1 63 (by omega) (by omega)]
      have t63 : t 63 = σ 63 := by rw [n1 63 (by omega) (by omega), s63]
      have hM : F_X8_day s1 = some (nI (z 4 + 1), fr_up t 63 4 (nI (z 4 + 1))) := by
        unfold F_X8_day
        rw [s59, h4, if_neg (by decide), s63, hr.1 4 (by omega), if_neg (show ¬ nI (z 4) = (999 : Int32) from fun q => absurd ((i_eq (b := 999) (by omega) (by omega)).mp q) (by omega)), kt, fr_bS_mk, t63, hr.1 4 (by omega), nI_1, fr_let_eq, fr_up_at, upd_at]
      refine ⟨_, _, _, hX, hM, Rel_act h hw hc hr h4 ha hnx f3 f6 k1 k2 k3 k4 (s1 := s1) (fun b hb => fr_up_ne _ _ _ hb) n1 n2 n3 n4 n5 (fun b hb => fr_up_ne _ _ _ hb) (z' := zup z 4 (z 4 + 1)) ((WF_day hw hd).mono (by omega)) s1c ?_⟩
      rw [fr_up_at, t63]
      exact RR_up hr _ (by omega)
    · refine ⟨-1000003, σ, σ, ?_, ?_, h.mono⟩
      · unfold F_X7_day
        rw [cl_stands (o := 15) hc b0, decide_eq_true (by omega), fr_bP_mk, if_neg fr_nb, cl_today (o := 15) hc, fr_bP_mk, if_neg (show ¬ nI (z 4) < (999 : Int32) from fun q => hd ((i_lt (b := 999) (by omega) (by omega)).mp q))]
      · unfold F_X8_day
        rw [h4, if_neg (by decide), hr.1 4 (by omega), show z 4 = 999 by omega]
        rfl
end ACU
