theorem cl_in2 {x : Int32} {n : Nat} (hn : n < 2147483647) {α : Type} {a b : α} : (if x < 0 then a else if nI n < x then a else b) = if fr_ib x (n + 1) = true then b else a := by
  have e0 : x < 0 ↔ x.toInt < 0 := i_lt_iff x 0
  have e1 : nI n < x ↔ (n : Int) < x.toInt := by rw [i_lt_iff, i_toInt (by omega)]
  by_cases h0 : x < 0
  · have g0 := e0.mp h0
    rw [if_pos h0, if_neg (by rw [ib_iff]; omega)]
  · have g0 : ¬ x.toInt < 0 := fun q => h0 (e0.mpr q)
    rw [if_neg h0]
    by_cases h1 : nI n < x
    · have g1 := e1.mp h1
      rw [if_pos h1, if_neg (by rw [ib_iff]; omega)]
    · have g1 : ¬ (n : Int) < x.toInt := fun q => h1 (e1.mpr q)
      rw [if_neg h1, if_pos (by rw [ib_iff]; omega)]
theorem i_range {x : Int32} {n : Nat} (hn : n < 2147483648) (h0 : 0 ≤ x) (h1 : x ≤ nI n) : ∃ k, k ≤ n ∧ x = nI k := by
  have a : (0 : Int32).toInt ≤ x.toInt := (i_le_iff 0 x).mp h0
  have b := (i_le_iff x (nI n)).mp h1
  rw [i_toInt hn] at b
  have z : (0 : Int32).toInt = 0 := rfl
  refine ⟨x.toInt.toNat, by omega, ?_⟩
  rw [i_eq_iff, i_toInt (by omega)]
  omega
section SHH
variable {N : Nat} {σ : fr_St}
theorem st_row (h : Rel N σ) (a1 a2 a3 : Int32) : Ok N (F_X7_row a1 a2 a3) (F_X8_row a1 a2 a3) σ := by
  cases hi : fr_ib a1 8
  · refine ⟨-1000001, σ, σ, ?_, ?_, h.mono⟩
    · unfold F_X7_row
      rw [sh_has, hi]
      rfl
    · unfold F_X8_row
      rw [rf_isRow, hi]
      rfl
  · obtain ⟨r, hr, rfl⟩ := ib_nI hi
    have hX : F_X7_row (nI r) a2 a3 σ = if fr_ib a2 3 = true then (if a3 ≤ 40 then (if 0 ≤ a3 then fr_bS (F_X6_put (nI r) a2 a3 σ) (fun s5 => F_X7_fine a3 s5) else F_X7_found 4 σ) else some (-1000001, σ)) else some (-1000001, σ) := by
      unfold F_X7_row
      simp only [sh_has, hi, eq_self, if_true, if_false, fr_bP_mk, fr_bS_mk, fr_let_eq, fr_pP_mk, fr_bR_l, fr_bR_r, fr_bt, fr_bf]
      rw [show (2 : Int32) = nI 2 from rfl, cl_in2 (by omega)]
      rfl
    have hM : ∀ τ, F_X8_row (nI r) a2 a3 τ = if fr_ib a2 3 = true then (if a3 ≤ 40 then (if 0 ≤ a3 then fr_bP (L_X8_row_55 (nI r) fr_fu 0 (fr_up (fr_up τ 60 r a2) 61 r a3)) (fun _ s12 => F_X8_well a3 s12) else F_X8_find 4 τ) else some (-1000001, τ)) else some (-1000001, τ) := by
      intro τ
      unfold F_X8_row
      simp only [rf_isRow, hi, rf_in0 (c := 2) (n := 3) a2 rfl, i_ix (show r < 2147483648 by omega), eq_self, if_true, if_false, fr_bP_mk, fr_bS_mk, fr_let_eq, fr_pP_mk, fr_bR_l, fr_bR_r, fr_bt, fr_bf]
      cases h3 : fr_ib a2 3
      · simp only [eq_self, if_true, if_false, fr_bP_mk, fr_bS_mk, fr_let_eq, fr_pP_mk, fr_bR_l, fr_bR_r, fr_bt, fr_bf]
        rfl
      · simp only [eq_self, if_true, if_false, fr_bP_mk, fr_bS_mk, fr_let_eq, fr_pP_mk, fr_bR_l, fr_bR_r, fr_bt, fr_bf]
        rfl
    cases h3 : fr_ib a2 3
    · exact ⟨-1000001, σ, σ, by rw [hX, h3]; rfl, by rw [hM, h3]; rfl, h.mono⟩
    · by_cases h4 : a3 ≤ 40
      · by_cases h5 : 0 ≤ a3
        · obtain ⟨k, hk, rfl⟩ := i_range (n := 40) (by omega) h5 h4
          obtain ⟨ln, hln, rfl⟩ := ib_nI h3
          have hput : F_X6_put (nI r) (nI ln) (nI k) σ = some (fr_up (fr_up (fr_row σ (3 + r) (blk (σ (3 + r)) 0 40 (fun _ => 0))) 11 r (nI ln)) 12 r (nI k)) := by
            unfold F_X6_put
            simp only [hi, i_ix (show r < 2147483648 by omega), fill_eq (3 + r) 40 0 σ (by omega), eq_self, if_true, if_false, fr_bP_mk, fr_bS_mk, fr_let_eq, fr_pP_mk, fr_bR_l, fr_bR_r, fr_bt, fr_bf]
          have hloop : ∀ τ, L_X8_row_55 (nI r) fr_fu 0 τ = some (nI 40, fr_row τ 62 (blk (τ 62) (40 * r) 40 (fun _ => 0))) := by
            intro τ
            refine wr_loop0 (L_X8_row_55 (nI r)) 62 (40 * r) 40 (fun _ => 0) τ (by omega) (fun n s => ?_) (fun n j f hj => ?_)
            · rw [L_X8_row_55, if_pos (show (40 : Int32) ≤ nI 40 from (i_le (a := 40) (b := 40) (by omega) (by omega)).mpr (Nat.le_refl _))]
            · rw [L_X8_row_55, if_neg (show ¬ (40 : Int32) ≤ nI j from fun q => absurd ((i_le (a := 40) (by omega) (by omega)).mp q) (by omega)), show (40 : Int32) = nI 40 from rfl, i_mul, i_add, i_chk (by omega) (by omega), fr_let_eq, fr_let_eq, i_ix (by omega), fr_up_row, nI_1]
          refine ⟨nI k, fr_up (fr_up (fr_up (fr_row σ (3 + r) (blk (σ (3 + r)) 0 40 (fun _ => 0))) 11 r (nI ln)) 12 r (nI k)) 0 10 0, fr_up (fr_row (fr_up (fr_up (fr_up (fr_up (fr_up (fr_row σ (3 + r) (blk (σ (3 + r)) 0 40 (fun _ => 0))) 11 r (nI ln)) 12 r (nI k)) 0 10 0) 60 r (nI ln)) 61 r (nI k)) 62 (blk (σ 62) (40 * r) 40 (fun _ => 0))) 59 3 0, ?_, ?_, Rel.mono ?_⟩
          · rw [hX, h3, if_pos rfl, if_pos h4, if_pos h5, hput]
            rfl
          · rw [hM, h3, if_pos rfl, if_pos h4, if_pos h5, hloop]
            have e62 : (fr_up (fr_up (fr_up (fr_up (fr_up (fr_row σ (3 + r) (blk (σ (3 + r)) 0 40 (fun _ => 0))) 11 r (nI ln)) 12 r (nI k)) 0 10 0) 60 r (nI ln)) 61 r (nI k)) 62 = σ 62 := by
              rw [fr_up_ne _ _ _ (by omega), fr_up_ne _ _ _ (by omega), fr_up_ne _ _ _ (by omega), fr_up_ne _ _ _ (by omega), fr_up_ne _ _ _ (by omega), fr_row_ne _ _ (by omega)]
            rw [e62]
            rfl
          · have u1 : ∀ a, 11 ≤ a → ¬ a = 3 + r := by omega
            refine Rel_st (σ1 := σ) (Rshelf_up h.1 hr (fun r' hr' hne => ?_) ?_) ?_ h (fun a h0 h59 h1 h2 h3 => ?_) (fun j hj => ?_)
            · have v1 : ¬ (3 + r' = 0) := by omega
              have v2 : ∀ a, 11 ≤ a → ¬ (3 + r' = a) := by omega
              refine ⟨by simp [fr_up, fr_row, upd, u1 12, hne], by simp [fr_up, fr_row, upd, u1 61, hne], by simp [fr_up, fr_row, upd, u1 11, hne], by simp [fr_up, fr_row, upd, u1 60, hne], fun t ht => ⟨?_, ?_⟩⟩
              · simp [fr_up, fr_row, upd, v1, v2 11, v2 12, v2 59, v2 60, v2 61, v2 62, hne]
              · have e : blk (σ 62) (40 * r) 40 (fun _ => 0) (40 * r' + t) = σ 62 (40 * r' + t) := blk_out (by omega)
                simp [fr_up, fr_row, upd, e]
            · have v1 : ¬ (3 + r = 0) := by omega
              have v2 : ∀ a, 11 ≤ a → ¬ (3 + r = a) := by omega
              refine ⟨by simp [fr_up, fr_row, upd, u1 12, u1 61], ?_, by simp [fr_up, fr_row, upd, u1 11, u1 60], ?_, fun t ht => ?_⟩
              · exact Or.inr ⟨k, hk, by simp [fr_up, fr_row, upd, u1 12]⟩
              · exact ⟨ln, by omega, by simp [fr_up, fr_row, upd, u1 11]⟩
              · have e : blk (σ 62) (40 * r) 40 (fun _ => 0) (40 * r + t) = 0 := blk_in ht
                have e2 : blk (σ (3 + r)) 0 40 (fun _ => 0) t = 0 := blk_in0 ht
                simp [fr_up, fr_row, upd, v1, v2 11, v2 12, v2 59, v2 60, v2 61, v2 62, e, e2]
            · have u5 : ¬ 0 = 3 + r := by omega
              have := h.2.1.2
              simp [fr_up, fr_row, upd, u1 59, u5, this]
            · rw [fr_up_ne _ _ _ h59, fr_row_ne _ _ (by omega), fr_up_ne _ _ _ (by omega), fr_up_ne _ _ _ (by omega), fr_up_ne _ _ _ h0, fr_up_ne _ _ _ (by omega), fr_up_ne _ _ _ (by omega), fr_row_ne _ _ (by omega)]
            · simp [fr_up, fr_row, upd, hj, u1 59]
        · obtain ⟨v, s1, s2, e1, e2, e3⟩ := sh_find h 4
          exact ⟨v, s1, s2, by rw [hX, h3, if_pos rfl, if_pos h4, if_neg h5, e1], by rw [hM, h3, if_pos rfl, if_pos h4, if_neg h5, e2], e3⟩
      · exact ⟨-1000001, σ, σ, by rw [hX, h3, if_pos rfl, if_neg h4], by rw [hM, h3, if_pos rfl, if_neg h4], h.mono⟩
theorem st_feed (h : Rel N σ) (a1 : Int32) : Ok N (F_X7_feed a1) (F_X8_feed a1) σ := by
  obtain ⟨m, hm, e1, e2, e3⟩ := h.2.2.1
  have hX : F_X7_feed a1 σ = if fr_ib a1 256 = true then (if m < 120 then some (nI (m + 1), fr_up (fr_up σ 14 m a1) 13 1 (nI (m + 1))) else some (-1000003, σ)) else some (-1000001, σ) := by
    unfold F_X7_feed
    have e : ∀ (A B : Option (Int32 × fr_St)), (if a1 < 0 then A else if a1 ≤ (255 : Int32) then B else A) = if fr_ib a1 256 = true then B else A := by
      intro A B
      rw [← cl_in2 (x := a1) (n := 255) (by omega)]
      by_cases h0 : a1 < 0
      · rw [if_pos h0, if_pos h0]
      · rw [if_neg h0, if_neg h0]
        by_cases h1 : a1 ≤ (255 : Int32)
        · rw [if_pos h1, if_neg (show ¬ nI 255 < a1 from Int32.not_lt.mpr h1)]
        · rw [if_neg h1, if_pos (show nI 255 < a1 from Int32.not_le.mp h1)]
    rw [e]
    cases fr_ib a1 256
    · rfl
    · rw [if_pos rfl, if_pos rfl]
      unfold F_X4_append F_X4_isFull
      rw [e1]
      by_cases hf : m < 120
      · rw [if_pos (show nI m < (120 : Int32) from (i_lt (b := 120) (by omega) (by omega)).mpr hf), if_pos hf]
        simp only [fr_bS_mk, if_pos, fr_bP_mk, fr_bf, if_true, e1]
        rw [if_pos (show nI m < (120 : Int32) from (i_lt (b := 120) (by omega) (by omega)).mpr hf)]
        simp only [fr_bS_mk, if_pos, fr_bP_mk, fr_bf, if_true, e1]
        rw [i_chk hf (by omega), i_ix (by omega)]
        have w : (fr_up σ 14 m a1) 13 = σ 13 := fr_up_ne _ _ _ (by omega)
        simp only [fr_let_eq, fr_bS_mk, fr_bP_mk, w, e1, nI_1, fr_up_at, upd_at]
      · rw [if_neg (show ¬ nI m < (120 : Int32) from fun q => hf ((i_lt (b := 120) (by omega) (by omega)).mp q)), if_neg hf]
        rfl
  have hM : ∀ τ : fr_St, τ 59 8 = nI m → F_X8_feed a1 τ = if fr_ib a1 256 = true then (if m < 120 then some (nI (m + 1), fr_up (fr_up τ 65 m a1) 59 8 (nI (m + 1))) else some (-1000003, τ)) else some (-1000001, τ) := by
    intro τ e4
    unfold F_X8_feed
    rw [rf_in0 (n := 256) a1 rfl, fr_bP_mk]
    cases fr_ib a1 256
    · rfl
    · rw [if_neg fr_nb, if_pos rfl, e4]
      by_cases hf : m < 120
      · rw [if_neg (show ¬ nI m = (120 : Int32) from fun q => absurd ((i_eq (b := 120) (by omega) (by omega)).mp q) (by omega)), if_pos hf, i_chk hf (by omega), i_ix (by omega)]
        have w : (fr_up τ 65 m a1) 59 = τ 59 := fr_up_ne _ _ _ (by omega)
        simp only [fr_let_eq, w, e4, nI_1, fr_up_at, upd_at]
      · have : m = 120 := by omega
        subst this
        rw [if_pos (show nI 120 = (120 : Int32) from rfl), if_neg hf]
  cases h3 : fr_ib a1 256
  · exact ⟨-1000001, σ, σ, by rw [hX, h3]; rfl, by rw [hM σ e2, h3]; rfl, h.mono⟩
  · by_cases hf : m < 120
    · obtain ⟨b, hb, rfl⟩ := ib_nI h3
      refine ⟨nI (m + 1), _, _, by rw [hX, h3, if_pos rfl, if_pos hf], by rw [hM _ (by simp [fr_up, fr_row, upd, e2]), h3, if_pos rfl, if_pos hf], Rel.mono ?_⟩
      refine ⟨h.1.fr fun a ha => ?_, h.2.1.fr ?_, ⟨m + 1, by omega, ?_, ?_, fun i hi => ?_⟩, h.2.2.2.1.fr ?_, h.2.2.2.2.1.fr ?_, h.2.2.2.2.2.1.fr ?_, h.2.2.2.2.2.2.fr ?_ (Or.inl (by simp [fr_up, fr_row, upd]))⟩
      · rw [fr_up_ne _ _ _ (by omega), fr_up_ne _ _ _ (by omega), fr_up_ne _ _ _ (by omega), fr_up_ne _ _ _ (by omega)]
      · simp [fr_up, fr_row, upd]
      · simp [fr_up, fr_row, upd]
      · simp [fr_up, fr_row, upd]
      · by_cases ei : i = m
        · exact ⟨b, by omega, by simp [fr_up, fr_row, upd, ei], by simp [fr_up, fr_row, upd, ei]⟩
        · obtain ⟨c, hc, c1, c2⟩ := e3 i hi
          exact ⟨c, hc, by simp [fr_up, fr_row, upd, ei, c1], by simp [fr_up, fr_row, upd, ei, c2]⟩
      · simp [fr_up, fr_row, upd]
      · refine ⟨by simp [fr_up, fr_row, upd], by simp [fr_up, fr_row, upd], by simp [fr_up, fr_row, upd], by simp [fr_up, fr_row, upd], fun a ha => ?_⟩
        rw [fr_up_ne _ _ _ (by omega), fr_up_ne _ _ _ (by omega), fr_up_ne _ _ _ (by omega), fr_up_ne _ _ _ (by omega)]
      · simp [fr_up, fr_row, upd]
      · simp [fr_up, fr_row, upd]
    · exact ⟨-1000003, σ, σ, by rw [hX, h3, if_pos rfl, if_neg hf], by rw [hM σ e2, h3, if_pos rfl, if_neg hf], h.mono⟩
end SHH
