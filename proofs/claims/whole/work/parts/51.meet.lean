section MEE
variable {N : Nat} {σ : fr_St} {z : Nat → Nat} {B : Nat}
theorem mt_copy (σ : fr_St) : L_X8_meet_48 fr_fu 0 σ = some (nI 8, fr_row σ 70 (blk (σ 70) 0 8 (σ 68))) := by
  refine wr_loop0 L_X8_meet_48 70 0 8 (σ 68) σ (by omega) (fun n τ => by rw [L_X8_meet_48, if_pos (show (8 : Int32) ≤ nI 8 by decide)]) (fun n j f hj => ?_)
  rw [L_X8_meet_48, if_neg (show ¬ (8 : Int32) ≤ nI j from fun q => absurd ((i_le (a := 8) (by omega) (by omega)).mp q) (by omega)), i_chk hj (by omega), i_chk hj (by omega), fr_let_eq, fr_let_eq, i_ix (by omega), fr_up_row, fr_row_ne _ _ (show 68 ≠ 70 by omega), nI_1, Nat.zero_add]
theorem st_meet (hN : N ≤ 1000) (h : Rel N σ) (a1 a2 a3 : Int32) : Ok N (F_X7_meet a1 a2 a3) (F_X8_meet a1 a2 a3) σ := by
  obtain ⟨z, hz, hc, hr, h4⟩ := h.2.2.2.1
  obtain ⟨b0, b1, b2, b3, b4⟩ := hz.b
  cases h2 : (fr_ib a1 (z 3) && fr_ib a2 (z 3) && decide (a1 ≠ a2))
  · refine ⟨-1000001, σ, σ, ?_, ?_, h.mono⟩
    · unfold F_X7_meet
      rw [cl_areTwo (o := 15) hc b3, h2]
      rfl
    · unfold F_X8_meet
      rw [rf_areTwo hr b3, h2]
      rfl
  · cases h3 : fr_ib a3 2
    · refine ⟨-1000001, σ, σ, ?_, ?_, h.mono⟩
      · unfold F_X7_meet
        rw [cl_areTwo (o := 15) hc b3, h2, fr_bP_mk, if_neg fr_nb, cl_zo, h3]
        rfl
      · unfold F_X8_meet
        rw [rf_areTwo hr b3, h2, fr_bP_mk, if_neg fr_nb, rf_in0 (n := 2) a3 rfl, h3]
        rfl
    · obtain ⟨q, q', hq, hq', rfl, rfl, hne⟩ := two_iff h2
      have hw := hz.wf 3 (by omega)
      have h1 := hw.2.2.1
      have hb := hw.2.2.2.2.2.2.2.2.1 q hq
      have hb' := hw.2.2.2.2.2.2.2.2.1 q' hq'
      have hU : opm z q < 512 := Nat.lt_of_lt_of_le opm_lt (Nat.pow_le_pow_right (by omega) b2)
      have hU' : opm z q' < 512 := Nat.lt_of_lt_of_le opm_lt (Nat.pow_le_pow_right (by omega) b2)
      have hDb : ∀ p, dst z (opm z q) 0 (z (6 + q)) p = 1000000 ∨ dst z (opm z q) 0 (z (6 + q)) p ≤ 648 := fun p => dst_b hw (by omega) p
      have hEb : ∀ p, dst z (opm z q') 0 (z (6 + q')) p = 1000000 ∨ dst z (opm z q') 0 (z (6 + q')) p ≤ 648 := fun p => dst_b hw (by omega) p
      generalize eD : dst z (opm z q) 0 (z (6 + q)) = D at hDb
      generalize eE : dst z (opm z q') 0 (z (6 + q')) = E at hEb
      have hDc : ∀ p, D p ≤ 1000000 := fun p => by have := hDb p; omega
      have hEc : ∀ p, E p ≤ 1000000 := fun p => by have := hEb p; omega
      obtain ⟨s0, w1, w2, w3⟩ := cl_measureWays hc hw (by omega) (Or.inl rfl) hq
      have hc1 : CR z (s0 16) := by rw [w2 16 (by omega) (by omega)]; exact hc
      obtain ⟨s, k1, k2, k3⟩ := cl_measureWays hc1 hw (by omega) (Or.inr rfl) hq'
      have hc2 : CR z (s 16) := by rw [k2 16 (by omega) (by omega)]; exact hc1
      rw [eD] at w3
      rw [eE] at k3
      have hD : DR s 48 D := fun p hp => by rw [k2 48 (by omega) (by omega)]; exact w3 p hp
      have hm := mt_cls hc2 hw hD k3 hDc hEc (z 1 - 1) 1 fr_fu (by omega) (by omega) (by have := fr_fu_big; omega)
      have hu : am (fun p => D p + E p) (z 1) < 8 := by
        have := am_lt (fun p => D p + E p) (z 1 - 1)
        rw [show z 1 - 1 + 1 = z 1 by omega] at this
        omega
      have ha1 : am (fun p => D p + E p) 1 = 0 := by
        show (if D 0 + E 0 < D 0 + E 0 then 0 else 0) = 0
        split <;> rfl
      rw [ha1] at hm
      have hr2 : RR z (s 63) := by rw [k2 63 (by omega) (by omega), w2 63 (by omega) (by omega)]; exact hr
      obtain ⟨t, r1, r2, r3⟩ := rf_far hr2 hw hU (show 0 ≤ 1000 by omega) (show z (6 + q) < 8 by omega)
      rw [eD] at r3
      have hr3 : RR z ((fr_row t 70 (blk (t 70) 0 8 (t 68))) 63) := by rw [fr_row_ne _ _ (by omega), r2 63 (by omega)]; exact hr2
      obtain ⟨t', r1', r2', r3'⟩ := rf_far hr3 hw hU' (show 0 ≤ 1000 by omega) (show z (6 + q') < 8 by omega)
      rw [eE] at r3'
      have hr4 : RR z (t' 63) := by rw [r2' 63 (by omega)]; exact hr3
      have hD' : ∀ p, p < 8 → t' 70 p = nI (cap (D p)) := fun p hp => by rw [r2' 70 (by omega), fr_row_same, blk_in0 hp]; exact r3 p hp
      have hm' := mt_ref hr4 hw hD' r3' hDb hEb (z 1) 0 fr_fu (by omega) (by have := fr_fu_big; omega)
      rw [if_neg (show ¬ (0 < 0 ∧ _) from fun q => absurd q.1 (by omega)), if_neg (show ¬ (0 < 0 ∧ _) from fun q => absurd q.1 (by omega))] at hm'
      generalize am (fun p => D p + E p) (z 1) = u at hm hm' hu
      have g1 := hDb u
      have g2 := hEb u
      have hX : F_X7_meet (nI q) (nI q') a3 σ = some (if D u + E u < 1000000 then (if a3 = 0 then nI u else nI (D u + E u)) else -1000000, s) := by
        unfold F_X7_meet F_X5_meetingOf
        rw [cl_areTwo (o := 15) hc b3, h2, fr_bP_mk, if_neg fr_nb, cl_zo, h3, fr_bP_mk, if_neg fr_nb, w1, fr_bS_mk, k1, fr_bS_mk, show L_X5_meetingOf_24 fr_fu (0 : Int32) (1 : Int32) s = _ from hm, fr_bP_mk, fr_pP_mk]
        simp only [i_chk hu (show 8 < 2147483648 by decide), i_ix (show u < 2147483648 by omega), hD u hu, k3 u hu, i_add, fr_let_eq]
        by_cases e : D u + E u < 1000000
        · rw [if_pos (show nI (D u + E u) < (1000000 : Int32) from (i_lt (b := 1000000) (by omega) (by omega)).mpr e), if_pos e]
          rcases ib01 h3 with rfl | rfl <;> rfl
        · rw [if_neg (show ¬ nI (D u + E u) < (1000000 : Int32) from fun q => e ((i_lt (b := 1000000) (by omega) (by omega)).mp q)), if_neg e]
          rfl
      have hM : F_X8_meet (nI q) (nI q') a3 s = some (if D u + E u < 1000000 then (if a3 = 0 then nI u else nI (D u + E u)) else -1000000, t') := by
        unfold F_X8_meet
        rw [rf_areTwo hr2 b3, h2, fr_bP_mk, if_neg fr_nb, rf_in0 (n := 2) a3 rfl, h3, fr_bP_mk, if_neg fr_nb, show (6 : Int32) = nI 6 from rfl, i_add, i_chk (by omega) (by omega), i_ix (by omega), rf_soleOf hr2 (by omega), fr_bP_mk, rf_openTo hr2 hw (by omega) (by omega), fr_bP_mk, hr2.1 (6 + q) (by omega)]
        rw [show F_X8_findFars (nI (z (6 + q))) (nI (msk (fun k => opn z k (z (10 + q)) (z 4)) (z 2))) (0 : Int32) s = some t from r1, fr_bS_mk, mt_copy, fr_bP_mk, i_add, i_chk (by omega) (by omega), i_ix (by omega), rf_soleOf hr3 (by omega), fr_bP_mk, rf_openTo hr3 hw (by omega) (by omega), fr_bP_mk, hr3.1 (6 + q') (by omega)]
        rw [show F_X8_findFars (nI (z (6 + q'))) (nI (msk (fun k => opn z k (z (10 + q')) (z 4)) (z 2))) (0 : Int32) _ = some t' from r1', fr_bS_mk, show L_X8_meet_109 fr_fu (-1000000 : Int32) (100000 : Int32) (0 : Int32) t' = _ from hm', fr_bP_mk, fr_pP_mk, fr_pP_mk]
        by_cases e : D u + E u < 1000000
        · have e1 : 0 < z 1 ∧ D u + E u < 1000000 := ⟨by omega, e⟩
          rw [if_pos e1, if_pos e1, if_pos e]
          have ec : cap (D u + E u) = D u + E u := by unfold cap; rw [if_neg (by omega)]
          have eo := rf_orNone (x := D u + E u) (by omega) t'
          rw [ec] at eo
          unfold orN at eo
          rw [if_pos e] at eo
          rw [eo]
          rcases ib01 h3 with rfl | rfl <;> rfl
        · have e1 : ¬ (0 < z 1 ∧ D u + E u < 1000000) := fun q => e q.2
          rw [if_neg e1, if_neg e1, if_neg e]
          have eo := rf_orNone (x := 1000000) (by omega) t'
          rw [show F_X8_orNone (nI 100000) t' = _ from eo]
          rcases ib01 h3 with rfl | rfl <;> rfl
      exact ⟨_, s, t', hX, hM, Rel_sc2 (s := s) h (fun a ha => by rw [k2 a (fun q => ha (by unfold scr; omega)) (fun q => ha (by unfold scr; omega)), w2 a (fun q => ha (by unfold scr; omega)) (fun q => ha (by unfold scr; omega))]) (fun a ha => by rw [r2' a (fun q => ha (by unfold scr; omega)), fr_row_ne _ _ (fun q => ha (by unfold scr; omega)), r2 a (fun q => ha (by unfold scr; omega))])⟩
end MEE
