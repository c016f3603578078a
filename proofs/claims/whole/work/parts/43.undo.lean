theorem cl_in3 {x : Int32} {n : Nat} (hn : n < 2147483648) {α : Type} {a b : α} : (if x < 0 then a else if x < nI n then b else a) = if fr_ib x n = true then b else a := by
  rw [← cl_in hn]
  by_cases h0 : x < 0
  · rw [if_pos h0, if_pos h0]
  · rw [if_neg h0, if_neg h0]
    by_cases h1 : x < nI n
    · rw [if_pos h1, if_neg (Int32.not_le.mpr h1)]
    · rw [if_neg h1, if_pos (Int32.not_lt.mp h1)]
section UND
variable {N : Nat} {σ : fr_St}
theorem st_undo (h : Rel N σ) : Ok N F_X7_undo F_X8_undo σ := by
  obtain ⟨z, hz, hc, hr, h4⟩ := h.2.2.2.1
  obtain ⟨a, nx, ha, hnx, f1, f2, f3, f6⟩ := h.2.2.2.2.1
  by_cases h0 : a = 0
  · subst h0
    refine ⟨-1000002, σ, σ, ?_, ?_, h.mono⟩
    · unfold F_X7_undo F_X0_number
      rw [f1]
      rfl
    · unfold F_X8_undo
      rw [f3]
      rfl
  · obtain ⟨y, y1, y2, y3⟩ := f6 (a - 1) (by omega)
    have ey : (nx + 24 - a + (a - 1)) % 24 = (nx + 23) % 24 := by congr 1; omega
    rw [ey] at y2
    have h41 : σ 59 4 = nI 1 := by
      rcases h.2.2.2.2.2.2.2 with w | w
      · exact w
      · rw [f3] at w
        exact absurd ((i_eq (by omega) (by omega)).mp w.1) h0
    have hn0 : ¬ nI a = (0 : Int32) := fun q => h0 ((i_eq (b := 0) (by omega) (by omega)).mp q)
    let s := fr_row (fr_up (fr_up σ 19 1 (nI ((nx + 23) % 24))) 19 2 (nI (a - 1))) 16 (va_cpy (σ (21 + (nx + 23) % 24)) (σ 16) (fr_ix (0 : Int32)) (fr_ix (0 : Int32)) (fr_ix (122 : Int32)))
    have hm : (nx + 23) % 24 < 24 := Nat.mod_lt _ (by omega)
    have hX : F_X7_undo σ = some (nI (a - 1), s) := by
      unfold F_X7_undo F_X0_number F_X0_takeBack F_X3_takeFrom
      rw [f1, fr_bP_mk, if_neg hn0, f1, if_neg hn0, f2, show (24 : Int32) = nI 24 from rfl, i_add, show nI (nx + 24) - (1 : Int32) = nI (nx + 23) from (i_sub (b := 1) (by omega)), i_rem (by omega) (by omega) (by omega), fr_let_eq]
      rw [fr_up_at, upd_ne _ _ (show (2 : Nat) ≠ 1 by omega), f1, show nI a - (1 : Int32) = nI (a - 1) from (i_sub (b := 1) (by omega)), fr_let_eq]
      rw [show (fr_up (fr_up σ 19 1 (nI ((nx + 23) % 24))) 19 2 (nI (a - 1))) 19 1 = nI ((nx + 23) % 24) by rw [fr_up_at, upd_ne _ _ (by omega), fr_up_at, upd_at], i_chk hm (by omega), i_ix (by omega), fr_let_eq, fr_bS_mk, fr_bS_mk]
      rw [fr_up_ne _ _ _ (show (21 + (nx + 23) % 24) ≠ 19 by omega), fr_up_ne _ _ _ (show (21 + (nx + 23) % 24) ≠ 19 by omega), show (15 + 1 : Nat) = 16 from rfl, fr_up_ne _ _ _ (show (16 : Nat) ≠ 19 by omega), fr_up_ne _ _ _ (show (16 : Nat) ≠ 19 by omega), fr_bP_mk, fr_row_ne _ _ (show (19 : Nat) ≠ 16 by omega), fr_up_at, upd_at]
    have s59 : s 59 = σ 59 := by show (fr_row _ 16 _) 59 = _; rw [fr_row_ne _ _ (by omega), fr_up_ne _ _ _ (by omega), fr_up_ne _ _ _ (by omega)]
    have s67 : s 67 = σ 67 := by show (fr_row _ 16 _) 67 = _; rw [fr_row_ne _ _ (by omega), fr_up_ne _ _ _ (by omega), fr_up_ne _ _ _ (by omega)]
    have s63 : s 63 = σ 63 := by show (fr_row _ 16 _) 63 = _; rw [fr_row_ne _ _ (by omega), fr_up_ne _ _ _ (by omega), fr_up_ne _ _ _ (by omega)]
    have hL : L_X8_undo_22 fr_fu 0 (fr_up s 59 17 (nI (a - 1))) = some (nI 122, fr_row (fr_up s 59 17 (nI (a - 1))) 63 (blk ((fr_up s 59 17 (nI (a - 1))) 63) 0 122 (fun k => σ 67 (122 * (a - 1) + k)))) := by
      refine wr_loop0 L_X8_undo_22 63 0 122 (fun k => σ 67 (122 * (a - 1) + k)) _ (by omega) (fun n s => ?_) (fun n j g hj => ?_)
      · rw [L_X8_undo_22, if_pos (show (122 : Int32) ≤ nI 122 from (i_le (a := 122) (b := 122) (by omega) (by omega)).mpr (Nat.le_refl _))]
      · rw [L_X8_undo_22, if_neg (show ¬ (122 : Int32) ≤ nI j from fun q => absurd ((i_le (a := 122) (by omega) (by omega)).mp q) (by omega)), fr_row_ne _ (a := 59) g (by omega), fr_row_ne _ (a := 67) g (by omega), fr_up_at, upd_at, fr_up_ne _ _ _ (show (67 : Nat) ≠ 59 by omega), s67, show (122 : Int32) = nI 122 from rfl, i_mul, i_add, i_chk (by omega) (by omega), i_chk (by omega) (by omega), fr_let_eq, fr_let_eq, i_ix (by omega), i_ix (by omega), fr_up_row, nI_1, Nat.zero_add]
    let τ := fr_row (fr_up s 59 17 (nI (a - 1))) 63 (blk ((fr_up s 59 17 (nI (a - 1))) 63) 0 122 (fun k => σ 67 (122 * (a - 1) + k)))
    have hM : F_X8_undo s = some (nI (a - 1), τ) := by
      unfold F_X8_undo
      rw [s59, f3, if_neg hn0, show nI a - (1 : Int32) = nI (a - 1) from (i_sub (b := 1) (by omega)), fr_let_eq, hL, fr_bP_mk, fr_row_ne _ _ (show (59 : Nat) ≠ 63 by omega), fr_up_at, upd_at]
    have q : ∀ b, b ≠ 63 → b ≠ 59 → b ≠ 16 → b ≠ 19 → τ b = σ b := fun b h1 h2 h3 h4 => by
      show (fr_row (fr_up (fr_row (fr_up (fr_up σ _ _ _) _ _ _) 16 _) 59 _ _) 63 _) b = _
      rw [fr_row_ne _ _ h1, fr_up_ne _ _ _ h2, fr_row_ne _ _ h3, fr_up_ne _ _ _ h4, fr_up_ne _ _ _ h4]
    have q59 : ∀ j, j ≠ 17 → τ 59 j = σ 59 j := fun j hj => by
      show (fr_row (fr_up s 59 17 _) 63 _) 59 j = _
      rw [fr_row_ne _ _ (by omega), fr_up_at, upd_ne _ _ hj, s59]
    have q5917 : τ 59 17 = nI (a - 1) := by
      show (fr_row (fr_up s 59 17 _) 63 _) 59 17 = _
      rw [fr_row_ne _ _ (by omega), fr_up_at, upd_at]
    have q19 : τ 19 1 = nI ((nx + 23) % 24) ∧ τ 19 2 = nI (a - 1) := by
      have : τ 19 = (fr_up (fr_up σ 19 1 (nI ((nx + 23) % 24))) 19 2 (nI (a - 1))) 19 := by
        show (fr_row (fr_up (fr_row (fr_up (fr_up σ _ _ _) _ _ _) 16 _) 59 _ _) 63 _) 19 = _
        rw [fr_row_ne _ _ (by omega), fr_up_ne _ _ _ (by omega), fr_row_ne _ _ (by omega)]
      rw [this]
      exact ⟨by rw [fr_up_at, upd_ne _ _ (by omega), fr_up_at, upd_at], by rw [fr_up_at, upd_at]⟩
    refine ⟨_, _, _, hX, hM, ?_⟩
    refine ⟨h.1.fr fun b hb => q b (by omega) (by omega) (by omega) (by omega), h.2.1.fr ?_, h.2.2.1.fr ?_, ⟨y, Or.inl (y1.mono (by omega)), ?_, ?_, ?_⟩, ⟨a - 1, (nx + 23) % 24, by omega, hm, q19.2, q19.1, q5917, fun j hj => ?_⟩, h.2.2.2.2.2.1.mono.fr ?_, h.2.2.2.2.2.2.fr ?_ (Or.inr (by rw [q59 4 (by omega)]; exact h41))⟩
    · rw [q 0 (by omega) (by omega) (by omega) (by omega), q59 3 (by omega), q59 9 (by omega)]; exact ⟨rfl, rfl, rfl, rfl⟩
    · rw [q 13 (by omega) (by omega) (by omega) (by omega), q59 8 (by omega), q 14 (by omega) (by omega) (by omega) (by omega), q 65 (by omega) (by omega) (by omega) (by omega)]; exact ⟨rfl, rfl, rfl, rfl⟩
    · have e16 : τ 16 = va_cpy (σ (21 + (nx + 23) % 24)) (σ 16) (fr_ix (0 : Int32)) (fr_ix (0 : Int32)) (fr_ix (122 : Int32)) := by
        show (fr_row (fr_up (fr_row (fr_up (fr_up σ _ _ _) _ _ _) 16 _) 59 _ _) 63 _) 16 = _
        rw [fr_row_ne _ _ (by omega), fr_up_ne _ _ _ (by omega), fr_row_same]
      rw [e16]
      exact y2.congr fun k hk => cpy122 _ _ hk
    · have e63 : τ 63 = blk ((fr_up s 59 17 (nI (a - 1))) 63) 0 122 (fun k => σ 67 (122 * (a - 1) + k)) := fr_row_same _ _ _
      rw [e63]
      exact y3.congr fun k hk => blk_in0 hk
    · have hw0 := y1.1
      rw [q59 4 (by omega), if_neg (by omega)]
      exact h41
    · obtain ⟨w, w1, w2, w3⟩ := f6 j (by omega)
      have ei : ((nx + 23) % 24 + 24 - (a - 1) + j) % 24 = (nx + 24 - a + j) % 24 := by omega
      have el : (nx + 24 - a + j) % 24 < 24 := Nat.mod_lt _ (by omega)
      refine ⟨w, w1.mono (by omega), ?_, ?_⟩
      · rw [ei, q _ (by omega) (by omega) (by omega) (by omega)]; exact w2
      · rw [q 67 (by omega) (by omega) (by omega) (by omega)]; exact w3
    · rw [q 58 (by omega) (by omega) (by omega) (by omega), q 72 (by omega) (by omega) (by omega) (by omega), q 73 (by omega) (by omega) (by omega) (by omega), q 56 (by omega) (by omega) (by omega) (by omega), q 57 (by omega) (by omega) (by omega) (by omega)]; exact ⟨rfl, rfl, rfl, rfl, rfl⟩
    · rw [q 53 (by omega) (by omega) (by omega) (by omega), q59 25 (by omega), q 54 (by omega) (by omega) (by omega) (by omega), q 74 (by omega) (by omega) (by omega) (by omega)]; exact ⟨rfl, rfl, rfl, rfl⟩
theorem img_loop {k : Nat} (hk : k < 2) (τ : fr_St) : L_X8_image_25 (nI k) fr_fu 0 τ = some (nI 122, fr_row τ 73 (blk (τ 73) (122 * k) 122 (τ 63))) := by
  refine wr_loop0 (L_X8_image_25 (nI k)) 73 (122 * k) 122 (τ 63) τ (by omega) (fun n s => ?_) (fun n j g hj => ?_)
  · rw [L_X8_image_25, if_pos (show (122 : Int32) ≤ nI 122 from (i_le (a := 122) (b := 122) (by omega) (by omega)).mpr (Nat.le_refl _))]
  · rw [L_X8_image_25, if_neg (show ¬ (122 : Int32) ≤ nI j from fun q => absurd ((i_le (a := 122) (by omega) (by omega)).mp q) (by omega)), fr_row_ne _ (a := 63) g (by omega), show (122 : Int32) = nI 122 from rfl, i_mul, i_add, i_chk (by omega) (by omega), i_chk (by omega) (by omega), fr_let_eq, fr_let_eq, i_ix (by omega), i_ix (by omega), fr_up_row, nI_1]
theorem res_loop {k : Nat} (hk : k < 2) (τ : fr_St) : L_X8_restore_27 (nI k) fr_fu 0 τ = some (nI 122, fr_row τ 63 (blk (τ 63) 0 122 (fun i => τ 73 (122 * k + i)))) := by
  refine wr_loop0 (L_X8_restore_27 (nI k)) 63 0 122 (fun i => τ 73 (122 * k + i)) τ (by omega) (fun n s => ?_) (fun n j g hj => ?_)
  · rw [L_X8_restore_27, if_pos (show (122 : Int32) ≤ nI 122 from (i_le (a := 122) (b := 122) (by omega) (by omega)).mpr (Nat.le_refl _))]
  · rw [L_X8_restore_27, if_neg (show ¬ (122 : Int32) ≤ nI j from fun q => absurd ((i_le (a := 122) (by omega) (by omega)).mp q) (by omega)), fr_row_ne _ (a := 73) g (by omega), show (122 : Int32) = nI 122 from rfl, i_mul, i_add, i_chk (by omega) (by omega), i_chk (by omega) (by omega), fr_let_eq, fr_let_eq, i_ix (by omega), i_ix (by omega), fr_up_row, nI_1, Nat.zero_add]
theorem st_image (h : Rel N σ) (a1 : Int32) : Ok N (F_X7_image a1) (F_X8_image a1) σ := by
  obtain ⟨z, hz, hc, hr, h4⟩ := h.2.2.2.1
  obtain ⟨b0, b1, b2, b3, b4⟩ := hz.b
  have hX0 : F_X7_image a1 σ = if fr_ib a1 2 = true then (if z 0 = 0 then some (-1000002, σ) else fr_bS (F_X3_keepIn 15 (56 + fr_ix a1) σ) (fun s6 => some (1, fr_up s6 58 (fr_ix a1) 1))) else some (-1000001, σ) := by
    unfold F_X7_image
    rw [show (2 : Int32) = nI 2 from rfl, cl_in3 (by omega)]
    cases hi : fr_ib a1 2
    · rfl
    · rw [if_pos rfl, if_pos rfl, cl_stands (o := 15) hc b0, fr_bP_mk]
      by_cases h0 : z 0 = 0
      · rw [decide_eq_false (by omega), if_pos h0]
        rfl
      · rw [decide_eq_true (by omega), if_neg h0]
        rfl
  have hM0 : ∀ t : fr_St, t 59 4 = σ 59 4 → F_X8_image a1 t = if fr_ib a1 2 = true then (if z 0 = 0 then some (-1000002, t) else fr_bP (L_X8_image_25 a1 fr_fu 0 t) (fun v4 s5 => some (1, fr_up s5 72 (fr_ix a1) 1))) else some (-1000001, t) := by
    intro t ht
    unfold F_X8_image
    rw [rf_in0 (n := 2) a1 rfl, fr_bP_mk]
    cases hi : fr_ib a1 2
    · rfl
    · rw [if_neg fr_nb, if_pos rfl, ht, h4]
      by_cases h0 : z 0 = 0
      · rw [if_pos h0, if_pos h0]
        rfl
      · rw [if_neg h0, if_neg h0, if_neg (by decide)]
        rfl
  cases hi : fr_ib a1 2
  · exact ⟨-1000001, σ, σ, by rw [hX0, hi]; rfl, by rw [hM0 σ rfl, hi]; rfl, h.mono⟩
  · obtain ⟨k, hk, rfl⟩ := ib_nI hi
    by_cases h0 : z 0 = 0
    · exact ⟨-1000002, σ, σ, by rw [hX0, hi, if_pos rfl, if_pos h0], by rw [hM0 σ rfl, hi, if_pos rfl, if_pos h0], h.mono⟩
    · have hw := hz.wf 0 (by omega)
      rw [if_neg h0] at h4
      have hX : F_X7_image (nI k) σ = some (1, fr_up (fr_row σ (56 + k) (va_cpy (σ 16) (σ (56 + k)) (fr_ix (0 : Int32)) (fr_ix (0 : Int32)) (fr_ix (122 : Int32)))) 58 k 1) := by
        rw [hX0, hi, if_pos rfl, if_neg h0, i_ix (by omega)]
        rfl
      refine ⟨1, _, _, hX, by rw [hM0 _ (by rw [fr_up_ne _ _ _ (by omega), fr_row_ne _ _ (by omega)]), hi, if_pos rfl, if_neg h0, img_loop hk, fr_bP_mk, i_ix (by omega)], ?_⟩
      generalize hs : fr_up (fr_row σ (56 + k) (va_cpy (σ 16) (σ (56 + k)) (fr_ix (0 : Int32)) (fr_ix (0 : Int32)) (fr_ix (122 : Int32)))) 58 k 1 = s
      have s63 : s 63 = σ 63 := by rw [← hs, fr_up_ne _ _ _ (by omega), fr_row_ne _ _ (by omega)]
      have s73 : s 73 = σ 73 := by rw [← hs, fr_up_ne _ _ _ (by omega), fr_row_ne _ _ (by omega)]
      generalize ht : fr_up (fr_row s 73 (blk (s 73) (122 * k) 122 (s 63))) 72 k 1 = τ
      have q : ∀ b, b ≠ 56 → b ≠ 57 → b ≠ 58 → b ≠ 72 → b ≠ 73 → τ b = σ b := fun b h1 h2 h3 h4 h5 => by
        rw [← ht, fr_up_ne _ _ _ h4, fr_row_ne _ _ h5, ← hs, fr_up_ne _ _ _ h3, fr_row_ne _ _ (by omega)]
      refine ⟨h.1.fr fun b hb => q b (by omega) (by omega) (by omega) (by omega) (by omega), h.2.1.fr ?_, h.2.2.1.fr ?_, h.2.2.2.1.mono.fr ?_, h.2.2.2.2.1.mono.fr ?_, fun i hi2 => ?_, h.2.2.2.2.2.2.fr ?_ (Or.inr ?_)⟩
      · rw [q 0 (by omega) (by omega) (by omega) (by omega) (by omega), q 59 (by omega) (by omega) (by omega) (by omega) (by omega)]; exact ⟨rfl, rfl, rfl, rfl⟩
      · rw [q 13 (by omega) (by omega) (by omega) (by omega) (by omega), q 59 (by omega) (by omega) (by omega) (by omega) (by omega), q 14 (by omega) (by omega) (by omega) (by omega) (by omega), q 65 (by omega) (by omega) (by omega) (by omega) (by omega)]; exact ⟨rfl, rfl, rfl, rfl⟩
      · rw [q 16 (by omega) (by omega) (by omega) (by omega) (by omega), q 59 (by omega) (by omega) (by omega) (by omega) (by omega), q 63 (by omega) (by omega) (by omega) (by omega) (by omega)]; exact ⟨rfl, rfl, rfl⟩
      · rw [q 19 (by omega) (by omega) (by omega) (by omega) (by omega), q 59 (by omega) (by omega) (by omega) (by omega) (by omega), q 67 (by omega) (by omega) (by omega) (by omega) (by omega)]; exact ⟨rfl, rfl, rfl, rfl, fun b hb => q b (by omega) (by omega) (by omega) (by omega) (by omega)⟩
      · have e58 : τ 58 = upd (σ 58) k 1 := by rw [← ht, fr_up_ne _ _ _ (by omega), fr_row_ne _ _ (by omega), ← hs, fr_up_at, fr_row_ne _ _ (by omega)]
        have e72 : τ 72 = upd (σ 72) k 1 := by rw [← ht, fr_up_at, fr_row_ne _ _ (by omega), ← hs, fr_up_ne _ _ _ (by omega), fr_row_ne _ _ (by omega)]
        have e73 : τ 73 = blk (σ 73) (122 * k) 122 (σ 63) := by rw [← ht, fr_up_ne _ _ _ (by omega), fr_row_same, s73, s63]
        by_cases ei : i = k
        · subst ei
          refine Or.inr ⟨by rw [e58, upd_at], by rw [e72, upd_at], z, hw.mono (by omega), ?_, ?_⟩
          · have e56 : τ (56 + i) = va_cpy (σ 16) (σ (56 + i)) (fr_ix (0 : Int32)) (fr_ix (0 : Int32)) (fr_ix (122 : Int32)) := by rw [← ht, fr_up_ne _ _ _ (by omega), fr_row_ne _ _ (by omega), ← hs, fr_up_ne _ _ _ (by omega), fr_row_same]
            rw [e56]
            exact hc.congr fun k hk => cpy122 _ _ hk
          · refine hr.congr fun x hx => ?_
            rw [e73, blk_in hx]
        · have e56 : τ (56 + i) = σ (56 + i) := by rw [← ht, fr_up_ne _ _ _ (by omega), fr_row_ne _ _ (by omega), ← hs, fr_up_ne _ _ _ (by omega), fr_row_ne _ _ (by omega)]
          rcases h.2.2.2.2.2.1 i hi2 with w | ⟨w1, w2, y, y1, y2, y3⟩
          · exact Or.inl (by rw [e58, e72, upd_ne _ _ ei, upd_ne _ _ ei]; exact w)
          · refine Or.inr ⟨by rw [e58, upd_ne _ _ ei]; exact w1, by rw [e72, upd_ne _ _ ei]; exact w2, y, y1.mono (by omega), by rw [e56]; exact y2, y3.congr fun x hx => ?_⟩
            rw [e73, blk_out (by omega)]
      · rw [q 53 (by omega) (by omega) (by omega) (by omega) (by omega), q 59 (by omega) (by omega) (by omega) (by omega) (by omega), q 54 (by omega) (by omega) (by omega) (by omega) (by omega), q 74 (by omega) (by omega) (by omega) (by omega) (by omega)]; exact ⟨rfl, rfl, rfl, rfl⟩
      · rw [q 59 (by omega) (by omega) (by omega) (by omega) (by omega)]; exact h4
theorem st_restore (h : Rel N σ) (a1 : Int32) : Ok N (F_X7_restore a1) (F_X8_restore a1) σ := by
  have hX0 : F_X7_restore a1 σ = if fr_ib a1 2 = true then (if σ 58 (fr_ix a1) = 0 then some (-1000002, σ) else fr_bS (F_X3_takeFrom 15 (56 + fr_ix a1) σ) (fun s4 => some (1, fr_up s4 19 2 0))) else some (-1000001, σ) := by
    unfold F_X7_restore
    rw [show (2 : Int32) = nI 2 from rfl, cl_in3 (by omega)]
    cases hi : fr_ib a1 2
    · rfl
    · simp only [eq_self, if_true, if_false, fr_bP_mk, fr_bS_mk, fr_let_eq, fr_pP_mk, fr_bR_l, fr_bR_r, fr_bt, fr_bf]
      rfl
  have hM0 : ∀ t : fr_St, F_X8_restore a1 t = if fr_ib a1 2 = true then (if t 72 (fr_ix a1) = 0 then some (-1000002, t) else fr_bP (L_X8_restore_27 a1 fr_fu 0 t) (fun v4 s5 => some (1, fr_up s5 59 17 0))) else some (-1000001, t) := by
    intro t
    unfold F_X8_restore
    rw [rf_in0 (n := 2) a1 rfl, fr_bP_mk]
    cases hi : fr_ib a1 2
    · rfl
    · simp only [eq_self, if_true, if_false, fr_bP_mk, fr_bS_mk, fr_let_eq, fr_pP_mk, fr_bR_l, fr_bR_r, fr_bt, fr_bf]
  cases hi : fr_ib a1 2
  · exact ⟨-1000001, σ, σ, by rw [hX0, hi]; rfl, by rw [hM0 σ, hi]; rfl, h.mono⟩
  · obtain ⟨k, hk, rfl⟩ := ib_nI hi
    rcases h.2.2.2.2.2.1 k hk with ⟨w1, w2⟩ | ⟨w1, w2, y, y1, y2, y3⟩
    · exact ⟨-1000002, σ, σ, by rw [hX0, hi, if_pos rfl, i_ix (by omega), if_pos w1], by rw [hM0 σ, hi, if_pos rfl, i_ix (by omega), if_pos w2], h.mono⟩
    · have hX : F_X7_restore (nI k) σ = some (1, fr_up (fr_row σ 16 (va_cpy (σ (56 + k)) (σ 16) (fr_ix (0 : Int32)) (fr_ix (0 : Int32)) (fr_ix (122 : Int32)))) 19 2 0) := by
        rw [hX0, hi, if_pos rfl, i_ix (by omega), w1, if_neg (by decide)]
        rfl
      have h41 : σ 59 4 = nI 1 := by
        rcases h.2.2.2.2.2.2.2 with w | w
        · exact w
        · have := w.2 k hk
          rw [w2] at this
          exact absurd this (by decide)
      generalize hs : fr_up (fr_row σ 16 (va_cpy (σ (56 + k)) (σ 16) (fr_ix (0 : Int32)) (fr_ix (0 : Int32)) (fr_ix (122 : Int32)))) 19 2 0 = s at hX
      have s72 : s 72 = σ 72 := by rw [← hs, fr_up_ne _ _ _ (by omega), fr_row_ne _ _ (by omega)]
      have s73 : s 73 = σ 73 := by rw [← hs, fr_up_ne _ _ _ (by omega), fr_row_ne _ _ (by omega)]
      refine ⟨1, _, _, hX, by rw [hM0, hi, if_pos rfl, s72, i_ix (by omega), w2, if_neg (by decide), res_loop hk, fr_bP_mk], ?_⟩
      generalize ht : fr_up (fr_row s 63 (blk (s 63) 0 122 (fun i => s 73 (122 * k + i)))) 59 17 0 = τ
      have q : ∀ b, b ≠ 16 → b ≠ 19 → b ≠ 59 → b ≠ 63 → τ b = σ b := fun b h1 h2 h3 h4 => by
        rw [← ht, fr_up_ne _ _ _ h3, fr_row_ne _ _ h4, ← hs, fr_up_ne _ _ _ h2, fr_row_ne _ _ h1]
      have q59 : ∀ j, j ≠ 17 → τ 59 j = σ 59 j := fun j hj => by
        rw [← ht, fr_up_at, upd_ne _ _ hj, fr_row_ne _ _ (by omega), ← hs, fr_up_ne _ _ _ (by omega), fr_row_ne _ _ (by omega)]
      obtain ⟨a, nx, ha, hnx, f1, f2, f3, f6⟩ := h.2.2.2.2.1
      have e19 : τ 19 = upd (σ 19) 2 0 := by rw [← ht, fr_up_ne _ _ _ (by omega), fr_row_ne _ _ (by omega), ← hs, fr_up_at, fr_row_ne _ _ (by omega)]
      refine ⟨h.1.fr fun b hb => q b (by omega) (by omega) (by omega) (by omega), h.2.1.fr ?_, h.2.2.1.fr ?_, ⟨y, Or.inl (y1.mono (by omega)), ?_, ?_, ?_⟩, ⟨0, nx, by omega, hnx, by rw [e19, upd_at]; rfl, by rw [e19, upd_ne _ _ (by omega)]; exact f2, by rw [← ht, fr_up_at, upd_at]; rfl, fun j hj => absurd hj (by omega)⟩, h.2.2.2.2.2.1.mono.fr ?_, h.2.2.2.2.2.2.fr ?_ (Or.inr ?_)⟩
      · rw [q 0 (by omega) (by omega) (by omega) (by omega), q59 3 (by omega), q59 9 (by omega)]; exact ⟨rfl, rfl, rfl, rfl⟩
      · rw [q 13 (by omega) (by omega) (by omega) (by omega), q59 8 (by omega), q 14 (by omega) (by omega) (by omega) (by omega), q 65 (by omega) (by omega) (by omega) (by omega)]; exact ⟨rfl, rfl, rfl, rfl⟩
      · have e16 : τ 16 = va_cpy (σ (56 + k)) (σ 16) (fr_ix (0 : Int32)) (fr_ix (0 : Int32)) (fr_ix (122 : Int32)) := by rw [← ht, fr_up_ne _ _ _ (by omega), fr_row_ne _ _ (by omega), ← hs, fr_up_ne _ _ _ (by omega), fr_row_same]
        rw [e16]
        exact y2.congr fun k hk => cpy122 _ _ hk
      · have e63 : τ 63 = blk (s 63) 0 122 (fun i => s 73 (122 * k + i)) := by rw [← ht, fr_up_ne _ _ _ (by omega), fr_row_same]
        rw [e63]
        exact y3.congr fun x hx => by rw [blk_in0 hx, s73]
      · have := y1.1
        rw [q59 4 (by omega), if_neg (by omega)]
        exact h41
      · rw [q 58 (by omega) (by omega) (by omega) (by omega), q 72 (by omega) (by omega) (by omega) (by omega), q 73 (by omega) (by omega) (by omega) (by omega), q 56 (by omega) (by omega) (by omega) (by omega), q 57 (by omega) (by omega) (by omega) (by omega)]; exact ⟨rfl, rfl, rfl, rfl, rfl⟩
      · rw [q 53 (by omega) (by omega) (by omega) (by omega), q59 25 (by omega), q 54 (by omega) (by omega) (by omega) (by omega), q 74 (by omega) (by omega) (by omega) (by omega)]; exact ⟨rfl, rfl, rfl, rfl⟩
      · rw [q59 4 (by omega)]; exact h41
end UND
