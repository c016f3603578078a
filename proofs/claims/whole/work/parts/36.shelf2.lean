theorem as8 (v : Int32) : (v <<< ((24 : Int32) &&& 31)) >>> ((24 : Int32) &&& 31) = v.toInt8.toInt32 := by
  rw [show ((24 : Int32) &&& 31) = 24 by decide]
  apply Int32.toBitVec_inj.mp
  rw [Int32.toBitVec_shiftRight, Int32.toBitVec_shiftLeft, Int8.toBitVec_toInt32, Int32.toBitVec_toInt8]
  rw [show (Int32.toBitVec 24).smod 32 = 24#32 by decide]
  apply BitVec.eq_of_getLsbD_eq
  intro i hi
  simp [hi]
  rw [BitVec.getElem_sshiftRight, BitVec.getElem_signExtend]
  by_cases h : i < 8
  · rw [dif_pos (show 24 + i < 32 by omega), dif_pos h, BitVec.getElem_signExtend, dif_pos (show i < 32 by omega), BitVec.getElem_shiftLeft]
    simp
  · rw [dif_neg (show ¬ 24 + i < 32 by omega), dif_neg h, BitVec.msb_eq_getLsbD_last, BitVec.msb_eq_getLsbD_last, BitVec.getLsbD_shiftLeft, BitVec.getLsbD_signExtend]
    simp
theorem as16 (v : Int32) : (v <<< ((16 : Int32) &&& 31)) >>> ((16 : Int32) &&& 31) = v.toInt16.toInt32 := by
  rw [show ((16 : Int32) &&& 31) = 16 by decide]
  apply Int32.toBitVec_inj.mp
  rw [Int32.toBitVec_shiftRight, Int32.toBitVec_shiftLeft, Int16.toBitVec_toInt32, Int32.toBitVec_toInt16]
  rw [show (Int32.toBitVec 16).smod 32 = 16#32 by decide]
  apply BitVec.eq_of_getLsbD_eq
  intro i hi
  simp [hi]
  rw [BitVec.getElem_sshiftRight, BitVec.getElem_signExtend]
  by_cases h : i < 16
  · rw [dif_pos (show 16 + i < 32 by omega), dif_pos h, BitVec.getElem_signExtend, dif_pos (show i < 32 by omega), BitVec.getElem_shiftLeft]
    simp
  · rw [dif_neg (show ¬ 16 + i < 32 by omega), dif_neg h, BitVec.msb_eq_getLsbD_last, BitVec.msb_eq_getLsbD_last, BitVec.getLsbD_shiftLeft, BitVec.getLsbD_signExtend]
    simp
theorem sh_lane (a v : Int32) (σ τ : fr_St) : ∃ w, F_X6_narrowed a v σ = some (w, σ) ∧ F_X8_asLane a v τ = some (w, τ) := by
  by_cases h0 : a = 0
  · refine ⟨v.toInt8.toInt32, ?_, ?_⟩
    · unfold F_X6_narrowed; rw [if_pos h0]
    · unfold F_X8_asLane; rw [if_pos h0, as8]; rfl
  · by_cases h1 : a = 1
    · refine ⟨v.toInt16.toInt32, ?_, ?_⟩
      · unfold F_X6_narrowed; rw [if_neg h0, if_pos h1]
      · unfold F_X8_asLane; rw [if_neg h0, if_pos h1, as16]; rfl
    · refine ⟨v, ?_, ?_⟩
      · unfold F_X6_narrowed; rw [if_neg h0, if_neg h1]
      · unfold F_X8_asLane; rw [if_neg h0, if_neg h1]; rfl
section SHG
variable {N : Nat} {σ : fr_St}
/-- n items from i on, in a row of k -/
def hld (x y : Int32) (k : Nat) : Bool := decide (0 ≤ x.toInt ∧ 0 ≤ y.toInt ∧ x.toInt + y.toInt ≤ k)
theorem sh_holds {r k : Nat} (hr : r < 8) (hk : k ≤ 40) (e : σ 12 r = nI k) (x y : Int32) : F_X6_holds (nI r) x y σ = some (hld x y k, σ) := by
  unfold F_X6_holds
  simp only [i_chk hr (show 8 < 2147483648 by decide), i_ix (show r < 2147483648 by omega), e]
  have ex : x < 0 ↔ x.toInt < 0 := i_lt_iff x 0
  have ey : y < 0 ↔ y.toInt < 0 := i_lt_iff y 0
  have e1 : nI k < y ↔ (k : Int) < y.toInt := by rw [i_lt_iff, i_toInt (by omega)]
  unfold hld
  by_cases hx : x < 0
  · have := ex.mp hx
    rw [if_pos hx, decide_eq_false (by omega)]
    rfl
  · have gx : ¬ x.toInt < 0 := fun q => hx (ex.mpr q)
    rw [if_neg hx]
    by_cases hy : y < 0
    · have := ey.mp hy
      rw [if_pos hy, decide_eq_false (by omega)]
      rfl
    · have gy : ¬ y.toInt < 0 := fun q => hy (ey.mpr q)
      rw [if_neg hy]
      by_cases h1 : nI k < y
      · have := e1.mp h1
        rw [if_pos h1, decide_eq_false (by omega)]
        rfl
      · have g1 : ¬ (k : Int) < y.toInt := fun q => h1 (e1.mpr q)
        rw [if_neg h1]
        obtain ⟨n, hn, rfl⟩ : ∃ n, n ≤ k ∧ y = nI n := ⟨y.toInt.toNat, by omega, by rw [i_eq_iff, i_toInt (by omega)]; omega⟩
        rw [i_toInt (by omega)] at g1 gy ⊢
        rw [i_sub hn]
        have e2 : nI (k - n) < x ↔ ((k - n : Nat) : Int) < x.toInt := by rw [i_lt_iff, i_toInt (by omega)]
        by_cases h2 : nI (k - n) < x
        · have := e2.mp h2
          rw [if_pos h2, decide_eq_false (by omega)]
          rfl
        · have g2 : ¬ ((k - n : Nat) : Int) < x.toInt := fun q => h2 (e2.mpr q)
          rw [if_neg h2, decide_eq_true (by omega)]
          rfl
theorem hld1 (x : Int32) {k : Nat} (hk : k ≤ 40) : hld x 1 k = fr_ib x k := by
  unfold hld fr_ib
  have : (1 : Int32).toInt = 1 := rfl
  rw [this]
  congr 1
  apply propext
  omega
theorem st_set (h : Rel N σ) (a1 a2 a3 : Int32) : Ok N (F_X7_set a1 a2 a3) (F_X8_set a1 a2 a3) σ := by
  cases hi : fr_ib a1 8
  · refine ⟨-1000001, σ, σ, ?_, ?_, h.mono⟩
    · unfold F_X7_set
      rw [sh_has, hi]
      rfl
    · unfold F_X8_set
      rw [rf_isRow, hi]
      rfl
  · obtain ⟨r, hr, rfl⟩ := ib_nI hi
    obtain ⟨q1, q2, q3, q4, q5⟩ := h.1 r hr
    have hneg := sz_neg q2
    by_cases hm : σ 12 r = -1
    · have w := hneg.mp hm
      rw [q1] at w
      refine ⟨-1000010 - 1, fr_up σ 0 10 1, _, ?_, ?_, (Rel_find h 1).mono⟩
      · show F_X7_set (nI r) a2 a3 σ = _
        unfold F_X7_set
        simp only [sh_has, hi, sh_miss hr, decide_eq_true hm, F_X7_found, eq_self, if_true, if_false, fr_bP_mk, fr_bS_mk, fr_let_eq, fr_pP_mk, fr_bR_l, fr_bR_r, fr_bt, fr_bf]
      · show F_X8_set (nI r) a2 a3 (fr_up σ 0 10 1) = _
        unfold F_X8_set
        simp only [rf_isRow, hi, i_ix (show r < 2147483648 by omega), fr_up_ne σ (k := 0) (a := 61) 10 1 (by omega), F_X8_find, eq_self, if_true, if_false, fr_bP_mk, fr_bS_mk, fr_let_eq, fr_pP_mk, fr_bR_l, fr_bR_r, fr_bt, fr_bf]
        rw [if_neg w]
    · obtain ⟨k, hk, ek⟩ : ∃ k, k ≤ 40 ∧ σ 12 r = nI k := q2.resolve_left hm
      have w : (0 : Int32) ≤ σ 61 r := by
        have w := Decidable.not_not.mp (fun q => hm (hneg.mpr q))
        rw [q1] at w
        exact w
      have e61 : σ 61 r = nI k := by rw [← q1]; exact ek
      cases hj : fr_ib a2 k
      · refine ⟨-1000010 - 2, fr_up σ 0 10 2, _, ?_, ?_, (Rel_find h 2).mono⟩
        · show F_X7_set (nI r) a2 a3 σ = _
          unfold F_X7_set
          simp only [sh_has, hi, sh_miss hr, decide_eq_false hm, sh_holds hr hk ek, hld1 a2 hk, hj, F_X7_found, eq_self, if_true, if_false, fr_bP_mk, fr_bS_mk, fr_let_eq, fr_pP_mk, fr_bR_l, fr_bR_r, fr_bt, fr_bf]
        · show F_X8_set (nI r) a2 a3 (fr_up σ 0 10 2) = _
          unfold F_X8_set
          simp only [rf_isRow, hi, i_ix (show r < 2147483648 by omega), fr_up_ne σ (k := 0) (a := 61) 10 2 (by omega), e61, rf_in0 a2 (rf_pred (show k < 1000000 by omega)), hj, F_X8_find, eq_self, if_true, if_false, fr_bP_mk, fr_bS_mk, fr_let_eq, fr_pP_mk, fr_bR_l, fr_bR_r, fr_bt, fr_bf]
          rw [if_pos (nI_pos' (by omega))]
      · obtain ⟨i, hi2, rfl⟩ := ib_nI hj
        obtain ⟨v, ev1, ev2⟩ := sh_lane (σ 11 r) a3 σ (fr_up (fr_up σ (3 + r) i 0) 0 10 0)
        have evM : ∀ τ, F_X8_asLane (σ 11 r) a3 τ = some (v, τ) := by
          intro τ
          obtain ⟨v', h1, h2⟩ := sh_lane (σ 11 r) a3 σ τ
          rw [ev1] at h1
          rw [h2, (Prod.mk.inj (Option.some.inj h1)).1]
        have hX : F_X7_set (nI r) (nI i) a3 σ = some (v, fr_up (fr_up σ (3 + r) i v) 0 10 0) := by
          unfold F_X7_set F_X6_putItem
          simp only [sh_has, hi, sh_miss hr, decide_eq_false hm, sh_holds hr hk ek, hld1 (nI i) hk, hj, i_ix (show r < 2147483648 by omega), i_ix (show i < 2147483648 by omega), ev1, i_chk (show i < 40 by omega) (show 40 < 2147483648 by decide), F_X7_fine, fr_up_at, upd_at, eq_self, if_true, if_false, fr_bP_mk, fr_bS_mk, fr_let_eq, fr_pP_mk, fr_bR_l, fr_bR_r, fr_bt, fr_bf]
        have hM : ∀ τ : fr_St, τ 61 = σ 61 → τ 60 = σ 60 → F_X8_set (nI r) (nI i) a3 τ = some (v, fr_up (fr_up τ 62 (40 * r + i) v) 59 3 0) := by
          intro τ e1 e2
          unfold F_X8_set
          simp only [rf_isRow, hi, i_ix (show r < 2147483648 by omega), e1, e61, rf_in0 (nI i) (rf_pred (show k < 1000000 by omega)), hj, e2, ← q3, evM, eq_self, if_true, if_false, fr_bP_mk, fr_bS_mk, fr_let_eq, fr_pP_mk, fr_bR_l, fr_bR_r, fr_bt, fr_bf]
          rw [if_pos (nI_pos' (by omega)), show (40 : Int32) = nI 40 from rfl, i_mul, i_add, i_chk (by omega) (by omega), i_chk (by omega) (by omega), i_ix (by omega)]
          simp only [F_X8_well, fr_up_at, upd_at, eq_self, if_true, if_false, fr_bP_mk, fr_bS_mk, fr_let_eq, fr_pP_mk, fr_bR_l, fr_bR_r, fr_bt, fr_bf]
        refine ⟨_, _, _, hX, hM _ (by rw [fr_up_ne _ _ _ (by omega), fr_up_ne _ _ _ (by omega)]) (by rw [fr_up_ne _ _ _ (by omega), fr_up_ne _ _ _ (by omega)]), Rel.mono ?_⟩
        have w2 : ¬ (3 + r = 0) := by omega
        have w3 : ¬ (3 + r = 62) := by omega
        have w4 : ¬ (3 + r = 59) := by omega
        have u1 : ∀ a, a = 12 ∨ a = 61 ∨ a = 11 ∨ a = 60 → ¬ a = 3 + r := by omega
        refine Rel_st (σ1 := σ) (Rshelf_up h.1 hr (fun r' hr' hne => ?_) ?_) ?_ h (fun a h0 h59 h1 h2 h3 => ?_) (fun j hj => ?_)
        · have v1 : ¬ (3 + r' = 0) := by omega
          have v2 : ¬ (3 + r' = 62) := by omega
          have v3 : ¬ (3 + r' = 59) := by omega
          have v4 : ¬ (3 + r' = 3 + r) := by omega
          have v5 : ∀ t, t < 40 → ¬ (40 * r' + t = 40 * r + i) := by omega
          refine ⟨by simp [fr_up, fr_row, upd, u1 12], by simp [fr_up, fr_row, upd, u1 61], by simp [fr_up, fr_row, upd, u1 11], by simp [fr_up, fr_row, upd, u1 60], fun t ht => ⟨?_, ?_⟩⟩
          · simp [fr_up, fr_row, upd, v1, v2, v3, hne]
          · have u2 : ¬ 62 = 3 + r := by omega
            simp [fr_up, fr_row, upd, v5 t ht, u2]
        · refine ⟨by simp [fr_up, fr_row, upd, u1 12, u1 61]; exact q1, ?_, by simp [fr_up, fr_row, upd, u1 11, u1 60]; exact q3, ?_, fun t ht => ?_⟩
          · simp [fr_up, fr_row, upd, u1 12]; exact q2
          · simp [fr_up, fr_row, upd, u1 11]; exact q4
          · have u2 : ¬ 62 = 3 + r := by omega
            by_cases et : t = i
            · subst et
              simp [fr_up, fr_row, upd, w2, w3, w4]
            · have u3 : ¬ (40 * r + t = 40 * r + i) := by omega
              simp [fr_up, fr_row, upd, w2, w3, w4, et, u2]
              exact q5 t ht
        · have u4 : ¬ 59 = 3 + r := by omega
          have u5 : ¬ 0 = 3 + r := by omega
          have := h.2.1.2
          simp [fr_up, fr_row, upd, u4, u5, this]
        · rw [fr_up_ne _ _ _ h59, fr_up_ne _ _ _ (by omega), fr_up_ne _ _ _ h0, fr_up_ne _ _ _ (by omega)]
        · have u4 : ¬ 59 = 3 + r := by omega
          simp [fr_up, fr_row, upd, hj, u4]
end SHG
