/-! ===== rows of numbers ===== -/
theorem fr_bt : (fr_bi true = 0) = False := by simp [fr_bi]
theorem fr_bf : (fr_bi false = 0) = True := by simp [fr_bi]
section SHF
variable {N : Nat} {σ : fr_St}
theorem sh_in {x : Int32} {n : Nat} (hn : n < 2147483648) (f : Int32 → Option (Bool × fr_St)) (hf0 : f 0 = some (false, σ)) (hf1 : f 1 = some (true, σ)) : (fr_bS (if x < 0 then some (0 : Int32) else if nI n ≤ x then some 0 else some 1) f) = some (fr_ib x n, σ) := by
  rw [cl_in hn, fr_bS_if]
  simp only [fr_bS_mk, hf0, hf1]
  cases fr_ib x n <;> rfl
theorem sh_has (x : Int32) (σ : fr_St) : F_X6_hasNumber x σ = some (fr_ib x 8, σ) := sh_in (n := 8) (by decide) _ rfl rfl
theorem sh_miss {r : Nat} (hr : r < 8) (σ : fr_St) : F_X6_isMissing (nI r) σ = some (decide (σ 12 r = -1), σ) := by
  unfold F_X6_isMissing
  rw [i_chk hr (by omega), i_ix (by omega)]
  by_cases h : σ 12 r = -1
  · rw [if_pos h, decide_eq_true h]
    rfl
  · rw [if_neg h, decide_eq_false h]
    rfl
/-- the status written on both sides -/
theorem Rel_st {σ1 τ : fr_St} (hs : Rshelf τ) (hm : τ 0 10 = τ 59 3 ∧ τ 0 9 = τ 59 9) (h : Rel N σ) (e : ∀ a, a ≠ 0 → a ≠ 59 → ¬ (3 ≤ a ∧ a ≤ 12) → ¬ (60 ≤ a ∧ a ≤ 62) → a ≠ 64 → τ a = σ a) (e2 : ∀ j, j ≠ 3 → τ 59 j = σ 59 j) : Rel N τ := by
  refine ⟨hs, hm, h.2.2.1.fr ?_, h.2.2.2.1.fr ?_, h.2.2.2.2.1.fr ?_, h.2.2.2.2.2.1.fr ?_, h.2.2.2.2.2.2.fr ?_ (Or.inl ⟨e2 4 (by omega), e2 17 (by omega), e 72 (by omega) (by omega) (by omega) (by omega) (by omega)⟩)⟩
  · rw [e 13 (by omega) (by omega) (by omega) (by omega) (by omega), e2 8 (by omega), e 14 (by omega) (by omega) (by omega) (by omega) (by omega), e 65 (by omega) (by omega) (by omega) (by omega) (by omega)]; exact ⟨rfl, rfl, rfl, rfl⟩
  · rw [e 16 (by omega) (by omega) (by omega) (by omega) (by omega), e2 4 (by omega), e 63 (by omega) (by omega) (by omega) (by omega) (by omega)]; exact ⟨rfl, rfl, rfl⟩
  · rw [e 19 (by omega) (by omega) (by omega) (by omega) (by omega), e2 17 (by omega), e 67 (by omega) (by omega) (by omega) (by omega) (by omega)]; exact ⟨rfl, rfl, rfl, rfl, fun a ha => e a (by omega) (by omega) (by omega) (by omega) (by omega)⟩
  · rw [e 58 (by omega) (by omega) (by omega) (by omega) (by omega), e 72 (by omega) (by omega) (by omega) (by omega) (by omega), e 73 (by omega) (by omega) (by omega) (by omega) (by omega), e 56 (by omega) (by omega) (by omega) (by omega) (by omega), e 57 (by omega) (by omega) (by omega) (by omega) (by omega)]; exact ⟨rfl, rfl, rfl, rfl, rfl⟩
  · rw [e 53 (by omega) (by omega) (by omega) (by omega) (by omega), e2 25 (by omega), e 54 (by omega) (by omega) (by omega) (by omega) (by omega), e 74 (by omega) (by omega) (by omega) (by omega) (by omega)]; exact ⟨rfl, rfl, rfl, rfl⟩
theorem Rel_find (h : Rel N σ) (v : Int32) : Rel N (fr_up (fr_up σ 0 10 v) 59 3 v) := by
  refine Rel_st (σ1 := σ) (h.1.fr fun a ha => ?_) ?_ h (fun a h0 h59 h1 h2 h3 => ?_) (fun j hj => ?_)
  · rw [fr_up_ne _ _ _ (by omega), fr_up_ne _ _ _ (by omega)]
  · have := h.2.1.2
    simp [fr_up, fr_row, upd, this]
  · rw [fr_up_ne _ _ _ h59, fr_up_ne _ _ _ h0]
  · simp [fr_up, fr_row, upd, hj]
theorem sh_find (h : Rel N σ) (v : Int32) : ∃ r s1 s2, F_X7_found v σ = some (r, s1) ∧ F_X8_find v s1 = some (r, s2) ∧ Rel (N + 1) s2 := ⟨_, _, _, rfl, rfl, (Rel_find h v).mono⟩
theorem sz_neg {x : Int32} (h : x = -1 ∨ ∃ k, k ≤ 40 ∧ x = nI k) : (x = -1) ↔ ¬ (0 ≤ x) := by
  rcases h with rfl | ⟨k, hk, rfl⟩
  · decide
  · have h1 : (0 : Int32) ≤ nI k := nI_pos' (by omega)
    have h2 : ¬ nI k = -1 := by
      intro e
      rw [i_eq_iff, i_toInt (by omega)] at e
      have : (-1 : Int32).toInt = -1 := rfl
      omega
    exact ⟨fun e => absurd e h2, fun e => absurd h1 e⟩
/-- one row's size, lane, items changed alike on both sides -/
theorem Rshelf_up (h : Rshelf σ) {τ : fr_St} {r : Nat} (hr : r < 8) (ho : ∀ r', r' < 8 → r' ≠ r → τ 12 r' = σ 12 r' ∧ τ 61 r' = σ 61 r' ∧ τ 11 r' = σ 11 r' ∧ τ 60 r' = σ 60 r' ∧ ∀ i, i < 40 → τ (3 + r') i = σ (3 + r') i ∧ τ 62 (40 * r' + i) = σ 62 (40 * r' + i)) (hn : τ 12 r = τ 61 r ∧ (τ 12 r = -1 ∨ ∃ k, k ≤ 40 ∧ τ 12 r = nI k) ∧ τ 11 r = τ 60 r ∧ (∃ k, k ≤ 2 ∧ τ 11 r = nI k) ∧ ∀ i, i < 40 → τ (3 + r) i = τ 62 (40 * r + i)) : Rshelf τ := by
  intro r' hr'
  by_cases e : r' = r
  · rw [e]; exact hn
  · obtain ⟨a, b, c, d, f⟩ := ho r' hr' e
    rw [a, b, c, d]
    obtain ⟨q1, q2, q3, q4, q5⟩ := h r' hr'
    exact ⟨q1, q2, q3, q4, fun i hi => by rw [(f i hi).1, (f i hi).2]; exact q5 i hi⟩
theorem st_drop (h : Rel N σ) (a1 : Int32) : Ok N (F_X7_drop a1) (F_X8_drop a1) σ := by
  cases hi : fr_ib a1 8
  · refine ⟨-1000001, σ, σ, ?_, ?_, h.mono⟩
    · unfold F_X7_drop
      rw [sh_has, hi]
      rfl
    · unfold F_X8_drop
      rw [rf_isRow, hi]
      rfl
  · obtain ⟨r, hr, rfl⟩ := ib_nI hi
    obtain ⟨q1, q2, q3, q4, q5⟩ := h.1 r hr
    have hneg := sz_neg q2
    by_cases hm : σ 12 r = -1
    · obtain ⟨v, s1, s2, e1, e2, e3⟩ := sh_find h 1
      refine ⟨v, s1, s2, ?_, ?_, e3⟩
      · show F_X7_drop (nI r) σ = _
        unfold F_X7_drop
        simp only [sh_has, hi, sh_miss hr, decide_eq_true hm, e1, eq_self, if_true, if_false, fr_bP_mk, fr_bS_mk, fr_let_eq, fr_pP_mk, fr_bR_l, fr_bR_r, fr_bt, fr_bf]
      · show F_X8_drop (nI r) s1 = _
        have e4 : s1 61 = σ 61 := by
          have := (Prod.mk.inj (Option.some.inj e1)).2
          rw [← this]
          exact fr_up_ne _ _ _ (by omega)
        unfold F_X8_drop
        have w := hneg.mp hm
        rw [q1] at w
        simp only [rf_isRow, hi, i_ix (show r < 2147483648 by omega), e4, e2, eq_self, if_true, if_false, fr_bP_mk, fr_bS_mk, fr_let_eq, fr_pP_mk, fr_bR_l, fr_bR_r, fr_bt, fr_bf]
        rw [if_neg w]
    · have hX : F_X7_drop (nI r) σ = some (σ 12 r, fr_up (fr_up σ 12 r (-1)) 0 10 0) := by
        unfold F_X7_drop F_X6_takeAway
        simp only [sh_has, hi, sh_miss hr, decide_eq_false hm, i_ix (show r < 2147483648 by omega), F_X7_fine, eq_self, if_true, if_false, fr_bP_mk, fr_bS_mk, fr_let_eq, fr_pP_mk, fr_bR_l, fr_bR_r, fr_bt, fr_bf]
      have hM : ∀ τ : fr_St, τ 61 = σ 61 → F_X8_drop (nI r) τ = some (σ 12 r, fr_up (fr_up τ 61 r (-1)) 59 3 0) := by
        intro τ e4
        unfold F_X8_drop
        have w := Decidable.not_not.mp (fun q => hm (hneg.mpr q))
        rw [q1] at w
        simp only [rf_isRow, hi, i_ix (show r < 2147483648 by omega), e4, F_X8_well, eq_self, if_true, if_false, fr_bP_mk, fr_bS_mk, fr_let_eq, fr_pP_mk, fr_bR_l, fr_bR_r, fr_bt, fr_bf]
        rw [if_pos w, q1]
      refine ⟨_, _, _, hX, hM _ (by rw [fr_up_ne _ _ _ (by omega), fr_up_ne _ _ _ (by omega)]), Rel.mono ?_⟩
      refine Rel_st (σ1 := σ) (Rshelf_up h.1 hr (fun r' hr' hne => ?_) ?_) ?_ h (fun a h0 h59 h1 h2 h3 => ?_) (fun j hj => ?_)
      · have w1 : ¬ (3 + r' = 12) := by omega
        have w2 : ¬ (3 + r' = 0) := by omega
        have w3 : ¬ (3 + r' = 61) := by omega
        have w4 : ¬ (3 + r' = 59) := by omega
        simp [fr_up, fr_row, upd, hne, w1, w2, w3, w4]
      · have w1 : ¬ (3 + r = 12) := by omega
        have w2 : ¬ (3 + r = 0) := by omega
        have w3 : ¬ (3 + r = 61) := by omega
        have w4 : ¬ (3 + r = 59) := by omega
        simp [fr_up, fr_row, upd, w1, w2, w3, w4]
        exact ⟨q3, q4, q5⟩
      · have := h.2.1.2
        simp [fr_up, fr_row, upd, this]
      · rw [fr_up_ne _ _ _ h59, fr_up_ne _ _ _ (by omega), fr_up_ne _ _ _ h0, fr_up_ne _ _ _ (by omega)]
      · simp [fr_up, fr_row, upd, hj]
end SHF
