/-! ===== calls that only look ===== -/
theorem fr_nb : ¬ fr_bi true = 0 := by decide
theorem fr_nt : ¬ (true = false) := by decide
theorem ib_ne {x : Int32} {n k : Nat} (h : fr_ib x n = false) (hk : k < n) (hn : n < 2147483648) : ¬ x = nI k := by
  intro e
  rw [e, i_ib (by omega), decide_eq_true hk] at h
  cases h
theorem ib01 {x : Int32} (h : fr_ib x 2 = true) : x = nI 0 ∨ x = nI 1 := by
  obtain ⟨k, hk, rfl⟩ := ib_nI h
  rcases (show k = 0 ∨ k = 1 by omega) with rfl | rfl
  · exact Or.inl rfl
  · exact Or.inr rfl
theorem ib012 {x : Int32} (h : fr_ib x 3 = true) : x = nI 0 ∨ x = nI 1 ∨ x = nI 2 := by
  obtain ⟨k, hk, rfl⟩ := ib_nI h
  rcases (show k = 0 ∨ k = 1 ∨ k = 2 by omega) with rfl | rfl | rfl
  · exact Or.inl rfl
  · exact Or.inr (Or.inl rfl)
  · exact Or.inr (Or.inr rfl)
theorem st_trace {N : Nat} {σ : fr_St} (h : Rel N σ) (a1 : Int32) : Ok N (F_X7_trace a1) (F_X8_trace a1) σ := by
  obtain ⟨t, ht, e1, e2, e3⟩ := h.2.2.2.2.2.2.1
  have hX : F_X7_trace a1 σ = some (if fr_ib a1 t = true then σ 54 (fr_ix a1) else -1000000, σ) := by
    unfold F_X7_trace F_X1_traced
    rw [e1]
    rw [cl_in (x := a1) (n := t) (by omega)]
    cases hi : fr_ib a1 t
    · rfl
    · obtain ⟨k, hk, rfl⟩ := ib_nI hi
      rw [if_pos rfl, i_chk (by omega) (by omega)]
      rfl
  have hM : F_X8_trace a1 σ = some (if fr_ib a1 t = true then σ 74 (fr_ix a1) else -1000000, σ) := by
    unfold F_X8_trace
    rw [e2, rf_in0 a1 (rf_pred (by omega)), fr_bP_mk]
    cases hi : fr_ib a1 t
    · rfl
    · obtain ⟨k, hk, rfl⟩ := ib_nI hi
      rw [if_neg fr_nb, i_chk (by omega) (by omega)]
      rfl
  refine ⟨_, σ, σ, hX, ?_, h.mono⟩
  rw [hM]
  cases hi : fr_ib a1 t
  · rfl
  · obtain ⟨k, hk, rfl⟩ := ib_nI hi
    rw [i_ix (by omega), e3 k (by omega)]
theorem st_kind {N : Nat} {σ : fr_St} (h : Rel N σ) (a1 : Int32) : Ok N (F_X7_kind a1) (F_X8_kind a1) σ := by
  obtain ⟨z, hz, hc, hr, -⟩ := h.2.2.2.1
  obtain ⟨b0, b1, b2, b3, b4⟩ := hz.b
  cases hi : fr_ib a1 (z 2)
  · refine ⟨-1000001, σ, σ, ?_, ?_, h.mono⟩
    · unfold F_X7_kind
      rw [cl_hasRoad (o := 15) hc b2, hi]
      rfl
    · unfold F_X8_kind
      rw [rf_isRoad hr b2, hi]
      rfl
  · obtain ⟨k, hk, rfl⟩ := ib_nI hi
    refine ⟨nI (z (14 + k)), σ, σ, ?_, ?_, h.mono⟩
    · unfold F_X7_kind
      rw [cl_hasRoad (o := 15) hc b2, hi, fr_bP_mk, if_neg fr_nb, cl_kindOf (o := 15) hc (by omega)]
      rfl
    · unfold F_X8_kind
      rw [rf_isRoad hr b2, hi, fr_bP_mk, if_neg fr_nb]
      simp (disch := omega) only [i_lit, i_add, i_chk, i_ix]
      rw [hr.1 (14 + k) (by omega)]
      rfl
theorem st_person {N : Nat} {σ : fr_St} (hN : N ≤ 1000) (h : Rel N σ) (a1 a2 : Int32) : Ok N (F_X7_person a1 a2) (F_X8_person a1 a2) σ := by
  obtain ⟨z, hz, hc, hr, -⟩ := h.2.2.2.1
  obtain ⟨b0, b1, b2, b3, b4⟩ := hz.b
  cases hi : fr_ib a1 (z 3)
  · refine ⟨-1000001, σ, σ, ?_, ?_, h.mono⟩
    · unfold F_X7_person
      rw [cl_hasPerson (o := 15) hc b3, hi]
      rfl
    · unfold F_X8_person
      rw [rf_isPerson hr b3, hi]
      rfl
  · obtain ⟨q, hq, rfl⟩ := ib_nI hi
    have hw := hz.wf 3 (by omega)
    have h5 := (hw.2.2.2.2.2.2.2.2.1 q hq).2
    have hM0 : F_X8_person (nI q) a2 σ = if fr_ib a2 3 = false then some (-1000001, σ) else fr_bP (if a2 = 0 then some (nI (z (6 + q)), σ) else if a2 = 1 then some (nI (z (10 + q)), σ) else some (nI (opm z q), σ)) (fun v7 s8 => some (v7, s8)) := by
      unfold F_X8_person
      rw [rf_isPerson hr b3, hi, fr_bP_mk, if_neg fr_nb, rf_in0 (n := 3) a2 rfl, fr_bP_mk]
      cases h3 : fr_ib a2 3
      · rfl
      · rw [if_neg fr_nb, if_neg fr_nt]
        rw [rf_soleOf hr (by omega)]
        simp only [fr_bP_mk]
        rw [rf_openTo hr hw (by omega) (by omega)]
        rw [show (6 : Int32) = nI 6 from rfl, i_add, i_chk (by omega) (by omega), i_ix (by omega), hr.1 (6 + q) (by omega)]
        rfl
    have hX0 : F_X7_person (nI q) a2 σ = if a2 = (0 : Int32) then some (nI (z (6 + q)), σ) else if a2 = (1 : Int32) then some (nI (z (10 + q)), σ) else if a2 = (2 : Int32) then some (nI (opm z q), σ) else some (-1000001, σ) := by
      unfold F_X7_person
      rw [cl_hasPerson (o := 15) hc b3, hi, fr_bP_mk, if_neg fr_nb, cl_placeOf (o := 15) hc (by omega), cl_soleOf (o := 15) hc (by omega), cl_openTo (o := 15) hc hw (by omega) hq]
      rfl
    cases h3 : fr_ib a2 3
    · refine ⟨-1000001, σ, σ, ?_, ?_, h.mono⟩
      · rw [hX0, if_neg (show ¬ _ = (0 : Int32) from ib_ne (k := 0) h3 (by omega) (by omega)), if_neg (show ¬ _ = (1 : Int32) from ib_ne (k := 1) h3 (by omega) (by omega)), if_neg (show ¬ _ = (2 : Int32) from ib_ne (k := 2) h3 (by omega) (by omega))]
      · rw [hM0, h3]
        rfl
    · rcases ib012 h3 with rfl | rfl | rfl
      · exact ⟨nI (z (6 + q)), σ, σ, by rw [hX0]; rfl, by rw [hM0, h3]; rfl, h.mono⟩
      · exact ⟨nI (z (10 + q)), σ, σ, by rw [hX0]; rfl, by rw [hM0, h3]; rfl, h.mono⟩
      · exact ⟨nI (opm z q), σ, σ, by rw [hX0]; rfl, by rw [hM0, h3]; rfl, h.mono⟩
theorem st_road {N : Nat} {σ : fr_St} (hN : N ≤ 1000) (h : Rel N σ) (a1 a2 : Int32) : Ok N (F_X7_road a1 a2) (F_X8_road a1 a2) σ := by
  obtain ⟨z, hz, hc, hr, -⟩ := h.2.2.2.1
  obtain ⟨b0, b1, b2, b3, b4⟩ := hz.b
  cases hi : fr_ib a1 (z 2)
  · refine ⟨-1000001, σ, σ, ?_, ?_, h.mono⟩
    · unfold F_X7_road
      rw [cl_hasRoad (o := 15) hc b2, hi]
      rfl
    · unfold F_X8_road
      rw [rf_isRoad hr b2, hi]
      rfl
  · obtain ⟨k, hk, rfl⟩ := ib_nI hi
    have hw := hz.wf 2 (by omega)
    have hX0 : F_X7_road (nI k) a2 σ = if a2 = (0 : Int32) then some (nI (z (23 + k)), σ) else if a2 = (1 : Int32) then some (nI (z (32 + k)), σ) else if a2 = (2 : Int32) then some (nI (z (41 + k)), σ) else if a2 = (3 : Int32) then some (nI (msk (fun s => opn z k s (z 4)) (z 3)), σ) else some (-1000001, σ) := by
      unfold F_X7_road
      rw [cl_hasRoad (o := 15) hc b2, hi, fr_bP_mk, if_neg fr_nb, cl_oneEnd (o := 15) hc (by omega), cl_otherEnd (o := 15) hc (by omega), cl_longOf (o := 15) hc (by omega), cl_today (o := 15) hc]
      simp only [fr_bP_mk]
      rw [cl_solesOf (o := 15) hc hw (by omega) (by omega) (by omega)]
      rfl
    have hM0 : F_X8_road (nI k) a2 σ = if a2 = (0 : Int32) then some (nI (z (23 + k)), σ) else if a2 = (1 : Int32) then some (nI (z (32 + k)), σ) else if a2 = (2 : Int32) then some (nI (z (41 + k)), σ) else if a2 = (3 : Int32) then some (nI (msk (fun s => opn z k s (z 4)) (z 3)), σ) else some (-1000001, σ) := by
      unfold F_X8_road
      rw [rf_isRoad hr b2, hi, fr_bP_mk, if_neg fr_nb, rf_solesOf hr hw (by omega) (by omega)]
      simp only [fr_bP_mk]
      rw [show (23 : Int32) = nI 23 from rfl, show (32 : Int32) = nI 32 from rfl, show (41 : Int32) = nI 41 from rfl, i_add, i_add, i_add, i_chk (by omega) (by omega), i_chk (by omega) (by omega), i_chk (by omega) (by omega), i_ix (by omega), i_ix (by omega), i_ix (by omega), hr.1 (23 + k) (by omega), hr.1 (32 + k) (by omega), hr.1 (41 + k) (by omega)]
    have key : ∃ r, F_X7_road (nI k) a2 σ = some (r, σ) := by
      rw [hX0]
      repeat' split
      all_goals exact ⟨_, rfl⟩
    obtain ⟨r, hr1⟩ := key
    exact ⟨r, σ, σ, hr1, by rw [hM0, ← hX0, hr1], h.mono⟩
theorem st_met {N : Nat} {σ : fr_St} (hN : N ≤ 1000) (h : Rel N σ) (a1 a2 a3 : Int32) : Ok N (F_X7_met a1 a2 a3) (F_X8_met a1 a2 a3) σ := by
  obtain ⟨z, hz, hc, hr, -⟩ := h.2.2.2.1
  obtain ⟨b0, b1, b2, b3, b4⟩ := hz.b
  cases hi : fr_ib a1 (z 2)
  · refine ⟨-1000001, σ, σ, ?_, ?_, h.mono⟩
    · unfold F_X7_met
      rw [cl_hasRoad (o := 15) hc b2, hi]
      rfl
    · unfold F_X8_met
      rw [rf_isRoad hr b2, hi]
      rfl
  · obtain ⟨k, hk, rfl⟩ := ib_nI hi
    have hw := hz.wf 2 (by omega)
    cases hj : fr_ib a2 (z 3)
    · refine ⟨-1000001, σ, σ, ?_, ?_, h.mono⟩
      · unfold F_X7_met F_X3_hasSole
        rw [cl_hasRoad (o := 15) hc b2, hi, fr_bP_mk, if_neg fr_nb, cl_hasPerson (o := 15) hc b3, hj]
        rfl
      · unfold F_X8_met
        rw [rf_isRoad hr b2, hi, fr_bP_mk, if_neg fr_nb, rf_isPerson hr b3, hj]
        rfl
    · obtain ⟨s, hs, rfl⟩ := ib_nI hj
      have hb := hw.2.2.2.2.2.2.2.2.2.1 (k * 4 + s) (by omega)
      have hX0 : F_X7_met (nI k) (nI s) a3 σ = if a3 = (0 : Int32) then some (nI (z (50 + (k * 4 + s))), σ) else if a3 = (1 : Int32) then some (if z (50 + (k * 4 + s)) = 0 then -1000000 else nI (z (86 + (k * 4 + s))), σ) else some (-1000001, σ) := by
        unfold F_X7_met F_X3_hasSole
        rw [cl_hasRoad (o := 15) hc b2, hi, fr_bP_mk, if_neg fr_nb, cl_hasPerson (o := 15) hc b3, hj, fr_bP_mk, fr_bP_mk, if_neg fr_nb, cl_times (o := 15) hc (by omega) (by omega)]
        simp only [fr_bP_mk]
        by_cases h0 : z (50 + (k * 4 + s)) = 0
        · rw [h0, if_pos (show nI 0 = (0 : Int32) from rfl)]
          rfl
        · rw [if_neg (show ¬ nI (z (50 + (k * 4 + s))) = (0 : Int32) from fun q => h0 ((i_eq (b := 0) (by omega) (by omega)).mp q)), cl_last (o := 15) hc (by omega) (by omega) h0, if_neg h0]
          rfl
      have hM0 : F_X8_met (nI k) (nI s) a3 σ = if fr_ib a3 2 = false then some (-1000001, σ) else fr_bS (if a3 = 0 then some (nI (z (50 + (k * 4 + s)))) else some (if z (50 + (k * 4 + s)) = 0 then -1000000 else nI (z (86 + (k * 4 + s))))) (fun v10 => some (v10, σ)) := by
        unfold F_X8_met
        rw [rf_isRoad hr b2, hi, fr_bP_mk, if_neg fr_nb, rf_isPerson hr b3, hj, fr_bP_mk, if_neg fr_nb, rf_in0 (n := 2) a3 rfl, fr_bP_mk]
        cases h3 : fr_ib a3 2
        · rfl
        · rw [if_neg fr_nb, if_neg fr_nt]
          rw [show (50 : Int32) = nI 50 from rfl, show (86 : Int32) = nI 86 from rfl, show (4 : Int32) = nI 4 from rfl, i_mul, i_add, i_add, i_add, i_add, i_chk (by omega) (by omega), i_chk (by omega) (by omega), i_ix (by omega), i_ix (by omega), show 50 + 4 * k + s = 50 + (k * 4 + s) by omega, show 86 + 4 * k + s = 86 + (k * 4 + s) by omega, hr.1 (50 + (k * 4 + s)) (by omega), hr.2 hw.1 (k * 4 + s) (by omega)]
      cases h3 : fr_ib a3 2
      · refine ⟨-1000001, σ, σ, ?_, ?_, h.mono⟩
        · rw [hX0, if_neg (show ¬ _ = (0 : Int32) from ib_ne (k := 0) h3 (by omega) (by omega)), if_neg (show ¬ _ = (1 : Int32) from ib_ne (k := 1) h3 (by omega) (by omega))]
        · rw [hM0, h3]
          rfl
      · rcases ib01 h3 with rfl | rfl
        · exact ⟨nI (z (50 + (k * 4 + s))), σ, σ, by rw [hX0]; rfl, by rw [hM0, h3]; rfl, h.mono⟩
        · exact ⟨if z (50 + (k * 4 + s)) = 0 then -1000000 else nI (z (86 + (k * 4 + s))), σ, σ, by rw [hX0]; rfl, by rw [hM0, h3]; rfl, h.mono⟩
