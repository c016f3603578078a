section ACW
variable {N : Nat} {σ : fr_St}
theorem st_walk (hN : N ≤ 1000) (h : Rel N σ) (a1 a2 : Int32) : Ok N (F_X7_walk a1 a2) (F_X8_walk a1 a2) σ := by
  obtain ⟨z, hz, hc, hr, h4⟩ := h.2.2.2.1
  obtain ⟨b0, b1, b2, b3, b4⟩ := hz.b
  cases hi : fr_ib a1 (z 3)
  · refine ⟨-1000001, σ, σ, ?_, ?_, h.mono⟩
    · unfold F_X7_walk
      rw [cl_hasPerson (o := 15) hc b3, hi]
      rfl
    · unfold F_X8_walk
      rw [rf_isPerson hr b3, hi]
      rfl
  · cases hj : fr_ib a2 (z 2)
    · refine ⟨-1000001, σ, σ, ?_, ?_, h.mono⟩
      · unfold F_X7_walk
        rw [cl_hasPerson (o := 15) hc b3, hi, fr_bP_mk, if_neg fr_nb, cl_hasRoad (o := 15) hc b2, hj]
        rfl
      · unfold F_X8_walk
        rw [rf_isPerson hr b3, hi, fr_bP_mk, if_neg fr_nb, rf_isRoad hr b2, hj]
        rfl
    · obtain ⟨p, hp, rfl⟩ := ib_nI hi
      obtain ⟨k, hk, rfl⟩ := ib_nI hj
      have hw := hz.wf 3 (by omega)
      have h4 := Rland.there hz h4 3 (by omega)
      have hb := hw.2.2.2.2.2.2.2.2.1 p hp
      have hX0 : F_X7_walk (nI p) (nI k) σ = if (decide (z (23 + k) = z (6 + p) ∨ z (32 + k) = z (6 + p)) && opn z k (z (10 + p)) (z 4)) = false then some (-1000002, σ) else fr_bS (F_X0_keep σ) (fun s11 => fr_bS (F_X3_goOver 15 (nI p) (nI k) s11) (fun s13 => F_X3_placeOf 15 (nI p) s13)) := by
        unfold F_X7_walk
        rw [cl_hasPerson (o := 15) hc b3, hi, fr_bP_mk, if_neg fr_nb, cl_hasRoad (o := 15) hc b2, hj, fr_bP_mk, if_neg fr_nb, cl_canGo hc hw (by omega) hp hk, fr_bP_mk]
        cases (decide (z (23 + k) = z (6 + p) ∨ z (32 + k) = z (6 + p)) && opn z k (z (10 + p)) (z 4))
        · rfl
        · rw [if_neg fr_nb, if_neg fr_nt]
          congr 1
          funext s11
          congr 1
          funext s13
          unfold F_X3_placeOf
          split <;> rfl
      have hM0 : ∀ t : fr_St, t 63 = σ 63 → F_X8_walk (nI p) (nI k) t = if (decide (z (23 + k) = z (6 + p) ∨ z (32 + k) = z (6 + p)) && opn z k (z (10 + p)) (z 4)) = false then some (-1000002, t) else fr_bS (F_X8_note t) (fun s11 => fr_bS (F_X8_goOver (nI p) (nI k) s11) (fun s13 => some (s13 63 (6 + p), s13))) := by
        intro t ht
        have hr1 : RR z (t 63) := by rw [ht]; exact hr
        unfold F_X8_walk
        rw [rf_isPerson hr1 b3, hi, fr_bP_mk, if_neg fr_nb, rf_isRoad hr1 b2, hj, fr_bP_mk, if_neg fr_nb, show (6 : Int32) = nI 6 from rfl, i_add, i_chk (by omega) (by omega), i_ix (by omega), hr1.1 (6 + p) (by omega), rf_across hr1 hw (by omega) (by omega), fr_bP_mk]
        by_cases he : z (23 + k) = z (6 + p) ∨ z (32 + k) = z (6 + p)
        · have ea : (if z (23 + k) = z (6 + p) then nI (z (32 + k)) else if z (32 + k) = z (6 + p) then nI (z (23 + k)) else -1) = nI (acr z k (z (6 + p))) := by
            unfold acr
            by_cases e1 : z (23 + k) = z (6 + p)
            · rw [if_pos e1, if_pos e1]
            · rw [if_neg e1, if_neg e1, if_pos (he.resolve_left e1)]
          have eb : acr z k (z (6 + p)) < 100 := by
            have := hw.2.2.2.2.2.2.2.2.2.2 k (by omega)
            unfold acr
            split <;> omega
          rw [ea, if_neg (nI_pos (by omega)), rf_soleOf hr1 (by omega), fr_bP_mk, rf_opens hr1 hw (by omega) (by omega) (by omega), fr_bP_mk, decide_eq_true he, Bool.true_and]
          cases opn z k (z (10 + p)) (z 4)
          · rfl
          · rw [if_neg fr_nb, if_neg fr_nt]
            congr 1
            funext s11
            congr 1
            funext s13
            rw [i_chk (by omega) (by omega)]
        · rw [if_neg (fun q => he (Or.inl q)), if_neg (fun q => he (Or.inr q)), if_pos (by decide), decide_eq_false he]
          rfl
      cases hg : (decide (z (23 + k) = z (6 + p) ∨ z (32 + k) = z (6 + p)) && opn z k (z (10 + p)) (z 4))
      · exact ⟨-1000002, σ, σ, by rw [hX0, hg]; rfl, by rw [hM0 σ rfl, hg]; rfl, h.mono⟩
      · have he : z (23 + k) = z (6 + p) ∨ z (32 + k) = z (6 + p) := by
          simp only [Bool.and_eq_true, decide_eq_true_eq] at hg
          exact hg.1
        obtain ⟨s, s1, t, τ, ks, cs, kg, kt, ct, kh, c1, r1, q63, q59, hR⟩ := act_run h hw hc hr h4 (z' := gz z p k) (F_X3_goOver 15 (nI p) (nI k)) (F_X8_goOver (nI p) (nI k)) (fun s hs => cl_goOver hs hw hp hk) (fun t ht => rf_goOver ht hw hp hk he) ((WF_gz hw hp hk).mono (by omega))
        refine ⟨nI (acr z k (z (6 + p))), s1, τ, ?_, ?_, hR⟩
        · rw [hX0, hg, if_neg fr_nt, ks, fr_bS_mk, kg, fr_bS_mk, cl_placeOf (o := 15) c1 (by omega), gz_at (by omega)]
        · rw [hM0 s1 q63, hg, if_neg fr_nt, kt, fr_bS_mk, kh, fr_bS_mk, r1.1 (6 + p) (by omega), gz_at (by omega)]
theorem st_lead (hN : N ≤ 1000) (h : Rel N σ) (a1 a2 a3 : Int32) : Ok N (F_X7_lead a1 a2 a3) (F_X8_lead a1 a2 a3) σ := by
  obtain ⟨z, hz, hc, hr, h4⟩ := h.2.2.2.1
  obtain ⟨b0, b1, b2, b3, b4⟩ := hz.b
  cases h2 : (fr_ib a1 (z 3) && fr_ib a2 (z 3) && decide (a1 ≠ a2))
  · refine ⟨-1000001, σ, σ, ?_, ?_, h.mono⟩
    · unfold F_X7_lead
      rw [cl_areTwo (o := 15) hc b3, h2]
      rfl
    · unfold F_X8_lead
      rw [rf_areTwo hr b3, h2]
      rfl
  · cases hj : fr_ib a3 (z 2)
    · refine ⟨-1000001, σ, σ, ?_, ?_, h.mono⟩
      · unfold F_X7_lead
        rw [cl_areTwo (o := 15) hc b3, h2, fr_bP_mk, if_neg fr_nb, cl_hasRoad (o := 15) hc b2, hj]
        rfl
      · unfold F_X8_lead
        rw [rf_areTwo hr b3, h2, fr_bP_mk, if_neg fr_nb, rf_isRoad hr b2, hj]
        rfl
    · obtain ⟨p, q, hp, hq, rfl, rfl, hpq⟩ := two_iff h2
      obtain ⟨k, hk, rfl⟩ := ib_nI hj
      have hw := hz.wf 3 (by omega)
      have h4 := Rland.there hz h4 3 (by omega)
      have hb := hw.2.2.2.2.2.2.2.2.1 p hp
      have hb2 := hw.2.2.2.2.2.2.2.2.1 q hq
      have hX0 : F_X7_lead (nI p) (nI q) (nI k) σ = if z (6 + p) = z (6 + q) then (if (decide (z (23 + k) = z (6 + p) ∨ z (32 + k) = z (6 + p)) && opn z k (z (10 + p)) (z 4)) = false then some (-1000002, σ) else fr_bS (F_X0_keep σ) (fun s11 => fr_bS (F_X3_goOver 15 (nI p) (nI k) s11) (fun s13 => fr_bS (F_X3_goOver 15 (nI q) (nI k) s13) (fun s15 => F_X3_placeOf 15 (nI p) s15)))) else some (-1000002, σ) := by
        unfold F_X7_lead
        rw [cl_areTwo (o := 15) hc b3, h2, fr_bP_mk, if_neg fr_nb, cl_hasRoad (o := 15) hc b2, hj, fr_bP_mk, if_neg fr_nb, cl_placeOf (o := 15) hc (by omega), fr_bP_mk, cl_placeOf (o := 15) hc (by omega), fr_bP_mk]
        by_cases ee : z (6 + p) = z (6 + q)
        · rw [if_pos (by rw [ee]), if_pos ee, cl_canGo hc hw (by omega) hp hk, fr_bP_mk]
          cases (decide (z (23 + k) = z (6 + p) ∨ z (32 + k) = z (6 + p)) && opn z k (z (10 + p)) (z 4))
          · rfl
          · rw [if_neg fr_nb, if_neg fr_nt]
            congr 1
            funext s11
            congr 1
            funext s13
            congr 1
            funext s15
            unfold F_X3_placeOf
            split <;> rfl
        · rw [if_neg (fun w => ee ((i_eq (by omega) (by omega)).mp w)), if_neg ee]
      have hM0 : ∀ t : fr_St, t 63 = σ 63 → F_X8_lead (nI p) (nI q) (nI k) t = if z (6 + p) = z (6 + q) then (if (decide (z (23 + k) = z (6 + p) ∨ z (32 + k) = z (6 + p)) && opn z k (z (10 + p)) (z 4)) = false then some (-1000002, t) else fr_bS (F_X8_note t) (fun s11 => fr_bS (F_X8_goOver (nI p) (nI k) s11) (fun s13 => fr_bS (F_X8_goOver (nI q) (nI k) s13) (fun s15 => some (s15 63 (6 + p), s15))))) else some (-1000002, t) := by
        intro t ht
        have hr1 : RR z (t 63) := by rw [ht]; exact hr
        unfold F_X8_lead
        rw [rf_areTwo hr1 b3, h2, fr_bP_mk, if_neg fr_nb, rf_isRoad hr1 b2, hj, fr_bP_mk, if_neg fr_nb, show (6 : Int32) = nI 6 from rfl, i_add, i_add, i_chk (by omega) (by omega), i_chk (by omega) (by omega), i_ix (by omega), i_ix (by omega), hr1.1 (6 + p) (by omega), hr1.1 (6 + q) (by omega)]
        by_cases ee : z (6 + p) = z (6 + q)
        · rw [if_pos (by rw [ee]), if_pos ee, fr_bS_mk, if_neg (by decide), i_chk (by omega) (by omega), rf_across hr1 hw (by omega) (by omega), fr_bP_mk]
          by_cases he : z (23 + k) = z (6 + p) ∨ z (32 + k) = z (6 + p)
          · have ea : (if z (23 + k) = z (6 + p) then nI (z (32 + k)) else if z (32 + k) = z (6 + p) then nI (z (23 + k)) else -1) = nI (acr z k (z (6 + p))) := by
              unfold acr
              by_cases e1 : z (23 + k) = z (6 + p)
              · rw [if_pos e1, if_pos e1]
              · rw [if_neg e1, if_neg e1, if_pos (he.resolve_left e1)]
            have eb : acr z k (z (6 + p)) < 100 := by
              have := hw.2.2.2.2.2.2.2.2.2.2 k (by omega)
              unfold acr
              split <;> omega
            rw [ea, if_neg (nI_pos (by omega)), rf_soleOf hr1 (by omega), fr_bP_mk, rf_opens hr1 hw (by omega) (by omega) (by omega), fr_bP_mk, decide_eq_true he, Bool.true_and]
            cases opn z k (z (10 + p)) (z 4)
            · rfl
            · rw [if_neg fr_nb, if_neg fr_nt]
              congr 1
              funext s11
              congr 1
              funext s13
              congr 1
              funext s15
              rw [i_chk (by omega) (by omega)]
          · rw [if_neg (fun w => he (Or.inl w)), if_neg (fun w => he (Or.inr w)), if_pos (by decide), decide_eq_false he]
            rfl
        · rw [if_neg (fun w => ee ((i_eq (by omega) (by omega)).mp w)), if_neg ee, fr_bS_mk, if_pos rfl]
      by_cases ee : z (6 + p) = z (6 + q)
      · cases hg : (decide (z (23 + k) = z (6 + p) ∨ z (32 + k) = z (6 + p)) && opn z k (z (10 + p)) (z 4))
        · exact ⟨-1000002, σ, σ, by rw [hX0, hg, if_pos ee]; rfl, by rw [hM0 σ rfl, hg, if_pos ee]; rfl, h.mono⟩
        · have he : z (23 + k) = z (6 + p) ∨ z (32 + k) = z (6 + p) := by
            simp only [Bool.and_eq_true, decide_eq_true_eq] at hg
            exact hg.1
          have g3 : gz z p k 3 = z 3 := gz_out (by omega) (by omega) (by omega)
          have g2 : gz z p k 2 = z 2 := gz_out (by omega) (by omega) (by omega)
          have hw1 := WF_gz hw hp hk
          have he2 : gz z p k (23 + k) = gz z p k (6 + q) ∨ gz z p k (32 + k) = gz z p k (6 + q) := by
            rw [gz_out (x := 23 + k) (by omega) (by omega) (by omega), gz_out (x := 32 + k) (by omega) (by omega) (by omega), gz_out (x := 6 + q) (by omega) (by omega) (by omega), ← ee]
            exact he
          obtain ⟨s, s1, t, τ, ks, cs, kg, kt, ct, kh, c1, r1, q63, q59, hR⟩ := act_run h hw hc hr h4 (z' := gz (gz z p k) q k) (fun s => fr_bS (F_X3_goOver 15 (nI p) (nI k) s) (fun s13 => F_X3_goOver 15 (nI q) (nI k) s13)) (fun s => fr_bS (F_X8_goOver (nI p) (nI k) s) (fun s13 => F_X8_goOver (nI q) (nI k) s13))
            (fun s hs => by
              obtain ⟨u, e1, e2, e3⟩ := cl_goOver hs hw hp hk
              obtain ⟨v, e4, e5, e6⟩ := cl_goOver e3 hw1 (show q < gz z p k 3 by omega) (show k < gz z p k 2 by omega)
              exact ⟨v, by rw [e1]; exact e4, fun b hb => by rw [e5 b hb, e2 b hb], e6⟩)
            (fun s hs => by
              obtain ⟨u, e1, e2, e3⟩ := rf_goOver hs hw hp hk he
              obtain ⟨v, e4, e5, e6⟩ := rf_goOver e3 hw1 (show q < gz z p k 3 by omega) (show k < gz z p k 2 by omega) he2
              exact ⟨v, by rw [e1]; exact e4, fun b hb => by rw [e5 b hb, e2 b hb], e6⟩) ((WF_gz hw1 (show q < gz z p k 3 by omega) (show k < gz z p k 2 by omega)).mono (by omega))
          have hv : gz (gz z p k) q k (6 + p) = acr z k (z (6 + p)) := by rw [gz_out (by omega) (by omega) (by omega), gz_at (by omega)]
          obtain ⟨u, e1, e2⟩ := fr_bS_some (show fr_bS (F_X3_goOver 15 (nI p) (nI k) s) (fun s13 => F_X3_goOver 15 (nI q) (nI k) s13) = some s1 from kg)
          obtain ⟨u', e3, e4⟩ := fr_bS_some (show fr_bS (F_X8_goOver (nI p) (nI k) t) (fun s13 => F_X8_goOver (nI q) (nI k) s13) = some τ from kh)
          refine ⟨nI (acr z k (z (6 + p))), s1, τ, ?_, ?_, hR⟩
          · rw [hX0, hg, if_pos ee, if_neg fr_nt, ks, fr_bS_mk, e1, fr_bS_mk, e2, fr_bS_mk, cl_placeOf (o := 15) c1 (by omega), hv]
          · rw [hM0 s1 q63, hg, if_pos ee, if_neg fr_nt, kt, fr_bS_mk, e3, fr_bS_mk, e4, fr_bS_mk, r1.1 (6 + p) (by omega), hv]
      · exact ⟨-1000002, σ, σ, by rw [hX0, if_neg ee], by rw [hM0 σ rfl, if_neg ee], h.mono⟩
/-- the land when the first j roads have forgotten the sole s -/
def hz0 (z : Nat → Nat) (s : Nat) : Nat → Nat → Nat
  | 0 => z
  | j + 1 => zup (hz0 z s j) (50 + (j * 4 + s)) 0
theorem hz0_out {z : Nat → Nat} {s x : Nat} : ∀ {j : Nat}, (∀ i, i < j → x ≠ 50 + (i * 4 + s)) → hz0 z s j x = z x
  | 0, _ => rfl
  | j + 1, h => by
    show zup (hz0 z s j) (50 + (j * 4 + s)) 0 x = z x
    rw [zup_ne _ _ (h j (by omega)), hz0_out (fun i hi => h i (by omega))]
theorem WF_hz0 {z : Nat → Nat} {B s : Nat} (hs : s < 4) (h : WFl z B) : ∀ {j : Nat}, j ≤ 9 → WFl (hz0 z s j) B
  | 0, _ => h
  | j + 1, hj => by
    obtain ⟨a, b, c, d, e, f, g, i, k, m, l⟩ := WF_hz0 hs h (show j ≤ 9 by omega)
    have n : ∀ x, (x < 50 ∨ 86 ≤ x) → hz0 z s (j + 1) x = hz0 z s j x := fun x hx => zup_ne _ _ (by omega)
    unfold WFl
    rw [n 0 (by omega), n 1 (by omega), n 2 (by omega), n 3 (by omega), n 4 (by omega)]
    refine ⟨a, b, c, d, e, f, g, fun x hx => ?_, fun x hx => ?_, fun x hx => ?_, fun x hx => ?_⟩
    · rw [n _ (by omega), n _ (by omega), n _ (by omega), n _ (by omega)]; exact i x hx
    · rw [n _ (by omega), n _ (by omega)]; exact k x hx
    · rw [n (86 + x) (by omega)]
      refine ⟨?_, (m x hx).2⟩
      show zup (hz0 z s j) (50 + (j * 4 + s)) 0 (50 + x) ≤ B
      unfold zup
      split
      · omega
      · exact (m x hx).1
    · rw [n _ (by omega), n _ (by omega), n _ (by omega), n _ (by omega)]; exact l x hx
theorem cl_forget {z : Nat → Nat} {B s : Nat} (hw : WFl z B) (hB : B ≤ 100000) (hs : s < 4) : ∀ (m j n : Nat) (σ : fr_St), j + m = z 2 → m < n → CR (hz0 z s j) (σ 16) → ∃ τ, L_X3_forgetSole_4 15 (nI s) n (nI (cnt (fun k => decide (0 < z (50 + (k * 4 + s)))) j)) (nI j) σ = some (nI (cnt (fun k => decide (0 < z (50 + (k * 4 + s)))) (z 2)), nI (z 2), τ) ∧ (∀ b, b ≠ 16 → τ b = σ b) ∧ CR (hz0 z s (z 2)) (τ 16) := by
  have h2 := hw.2.2.2.2.1
  intro m
  induction m with
  | zero =>
    intro j n σ hj hn hc
    obtain ⟨n, rfl⟩ : ∃ m, n = m + 1 := ⟨n - 1, by omega⟩
    have hj : j = z 2 := by omega
    subst hj
    refine ⟨σ, ?_, fun _ _ => rfl, hc⟩
    rw [L_X3_forgetSole_4, cl_roads (o := 15) hc, fr_bP_mk, hz0_out (fun i hi => by omega), if_pos ((i_le (by omega) (by omega)).mpr (Nat.le_refl _))]
  | succ m ih =>
    intro j n σ hj hn hc
    obtain ⟨n, rfl⟩ : ∃ m, n = m + 1 := ⟨n - 1, by omega⟩
    have hz : hz0 z s j (50 + (j * 4 + s)) = z (50 + (j * 4 + s)) := hz0_out (fun i hi => by omega)
    have hb := (hw.2.2.2.2.2.2.2.2.2.1 (j * 4 + s) (by omega)).1
    obtain ⟨τ, e1, e2, e3⟩ := ih (j + 1) n (fr_up σ 16 (50 + (j * 4 + s)) (nI 0)) (by omega) (by omega) (by rw [fr_up_at]; exact CR_zero hc (by omega))
    refine ⟨τ, ?_, fun b hb => by rw [e2 b hb, fr_up_ne _ _ _ hb], e3⟩
    rw [← e1, L_X3_forgetSole_4, cl_roads (o := 15) hc, fr_bP_mk, hz0_out (fun i hi => by omega), if_neg (fun q => absurd ((i_le (by omega) (by omega)).mp q) (by omega)), cl_times (o := 15) hc (by omega) hs, fr_bP_mk, hz]
    unfold F_X3_meeting
    rw [show (4 : Int32) = nI 4 from rfl, show (50 : Int32) = nI 50 from rfl, i_mul, i_add]
    simp only [fr_bP_mk, i_add]
    simp only [i_chk (show 50 + (j * 4 + s) < 122 by omega) (show 122 < 2147483648 by decide), i_ix (show 50 + (j * 4 + s) < 2147483648 by omega)]
    show fr_bS (if nI (z (50 + (j * 4 + s))) ≤ nI 0 then some (nI (cnt _ j)) else fr_let (nI (cnt _ j) + 1) (fun v16 => some v16)) _ = L_X3_forgetSole_4 15 (nI s) n (nI (cnt _ j + if decide (0 < z (50 + (j * 4 + s))) = true then 1 else 0)) (nI (j + 1)) _
    by_cases e : 0 < z (50 + (j * 4 + s))
    · rw [if_neg (fun q => absurd ((i_le (b := 0) (by omega) (by omega)).mp q) (by omega)), fr_let_eq, fr_bS_mk, fr_let_eq, fr_let_eq, if_pos (decide_eq_true e), nI_1, nI_1]
      rfl
    · rw [if_pos ((i_le (b := 0) (by omega) (by omega)).mpr (by omega)), fr_bS_mk, fr_let_eq, fr_let_eq, if_neg (by rw [decide_eq_false e]; exact fun w => by cases w), Nat.add_zero, nI_1]
      rfl
theorem rf_forget {z : Nat → Nat} {B s p : Nat} (hw : WFl z B) (hB : B ≤ 100000) (hp : p < z 3) (hs : z (10 + p) = s) (hs4 : s < 4) : ∀ (m j n : Nat) (σ : fr_St), j + m = z 2 → m < n → RR (hz0 z s j) (σ 63) → ∃ τ, L_X8_heels_19 (nI p) n (nI (cnt (fun k => decide (0 < z (50 + (k * 4 + s)))) j)) (nI j) σ = some (nI (cnt (fun k => decide (0 < z (50 + (k * 4 + s)))) (z 2)), nI (z 2), τ) ∧ (∀ b, b ≠ 63 → τ b = σ b) ∧ RR (hz0 z s (z 2)) (τ 63) := by
  have h2 := hw.2.2.2.2.1
  have h3 := hw.2.2.2.2.2.1
  intro m
  induction m with
  | zero =>
    intro j n σ hj hn hc
    obtain ⟨n, rfl⟩ : ∃ m, n = m + 1 := ⟨n - 1, by omega⟩
    have hj : j = z 2 := by omega
    subst hj
    refine ⟨σ, ?_, fun _ _ => rfl, hc⟩
    rw [L_X8_heels_19, hc.1 2 (by omega), hz0_out (fun i hi => by omega), if_pos ((i_le (by omega) (by omega)).mpr (Nat.le_refl _))]
  | succ m ih =>
    intro j n σ hj hn hc
    obtain ⟨n, rfl⟩ : ∃ m, n = m + 1 := ⟨n - 1, by omega⟩
    have hz : hz0 z s j (50 + (j * 4 + s)) = z (50 + (j * 4 + s)) := hz0_out (fun i hi => by omega)
    have hso : hz0 z s j (10 + p) = s := by rw [hz0_out (fun i hi => by omega)]; exact hs
    have hb := (hw.2.2.2.2.2.2.2.2.2.1 (j * 4 + s) (by omega)).1
    obtain ⟨τ, e1, e2, e3⟩ := ih (j + 1) n (fr_up (fr_up σ 63 (50 + (j * 4 + s)) (nI 0)) 63 (86 + (j * 4 + s)) (-1000000)) (by omega) (by omega) (by rw [fr_up_at, fr_up_at]; exact RR_zero hc (by omega))
    refine ⟨τ, ?_, fun b hb => by rw [e2 b hb, fr_up_ne _ _ _ hb, fr_up_ne _ _ _ hb], e3⟩
    rw [← e1, L_X8_heels_19, hc.1 2 (by omega), hz0_out (fun i hi => by omega), if_neg (fun q => absurd ((i_le (by omega) (by omega)).mp q) (by omega)), rf_soleOf hc (by omega), fr_bP_mk, hso, fr_let_eq, show (4 : Int32) = nI 4 from rfl, show (50 : Int32) = nI 50 from rfl, show (86 : Int32) = nI 86 from rfl, i_mul, i_add, show 4 * j + s = j * 4 + s by omega, i_add, i_add, i_chk (by omega) (by omega), i_ix (by omega), i_ix (by omega), hc.1 (50 + (j * 4 + s)) (by omega), hz]
    show fr_bS (if nI (z (50 + (j * 4 + s))) ≤ nI 0 then some (nI 0) else some (nI 1)) _ = L_X8_heels_19 (nI p) n (nI (cnt _ j + if decide (0 < z (50 + (j * 4 + s))) = true then 1 else 0)) (nI (j + 1)) _
    by_cases e : 0 < z (50 + (j * 4 + s))
    · rw [if_neg (fun q => absurd ((i_le (b := 0) (by omega) (by omega)).mp q) (by omega)), fr_bS_mk, if_pos (decide_eq_true e), fr_let_eq, i_add, i_chk (by omega) (by omega), fr_let_eq, i_chk (by omega) (by omega), fr_let_eq, fr_let_eq, nI_1]
      rfl
    · rw [if_pos ((i_le (b := 0) (by omega) (by omega)).mpr (by omega)), fr_bS_mk, if_neg (by rw [decide_eq_false e]; exact fun w => by cases w), fr_let_eq, i_add, i_chk (by omega) (by omega), fr_let_eq, i_chk (by omega) (by omega), fr_let_eq, fr_let_eq, nI_1]
      rfl
theorem st_heels (hN : N ≤ 1000) (h : Rel N σ) (a1 : Int32) : Ok N (F_X7_heels a1) (F_X8_heels a1) σ := by
  obtain ⟨z, hz, hc, hr, h4⟩ := h.2.2.2.1
  obtain ⟨b0, b1, b2, b3, b4⟩ := hz.b
  cases hi : fr_ib a1 (z 3)
  · refine ⟨-1000001, σ, σ, ?_, ?_, h.mono⟩
    · unfold F_X7_heels
      rw [cl_hasPerson (o := 15) hc b3, hi]
      rfl
    · unfold F_X8_heels
      rw [rf_isPerson hr b3, hi]
      rfl
  · obtain ⟨p, hp, rfl⟩ := ib_nI hi
    have hw := hz.wf 3 (by omega)
    have h4 := Rland.there hz h4 3 (by omega)
    have hb := hw.2.2.2.2.2.2.2.2.1 p hp
    have hfu := fr_fu_big
    let f := fun k => decide (0 < z (50 + (k * 4 + z (10 + p))))
    have kX : ∀ s : fr_St, CR z (s 16) → ∃ τ, F_X3_forgetSole 15 (nI (z (10 + p))) s = some (nI (cnt f (z 2)), τ) ∧ (∀ b, b ≠ 16 → τ b = s b) ∧ CR (hz0 z (z (10 + p)) (z 2)) (τ 16) := by
      intro s hs
      obtain ⟨τ, e1, e2, e3⟩ := cl_forget hw (by omega) (show z (10 + p) < 4 by omega) (z 2) 0 fr_fu s (by omega) (by omega) hs
      refine ⟨τ, ?_, e2, e3⟩
      unfold F_X3_forgetSole
      rw [show (0 : Int32) = nI 0 from rfl, show L_X3_forgetSole_4 15 (nI (z (10 + p))) fr_fu (nI 0) (nI 0) s = _ from e1]
      rfl
    have kM : ∀ t : fr_St, RR z (t 63) → ∃ τ, L_X8_heels_19 (nI p) fr_fu 0 0 t = some (nI (cnt f (z 2)), nI (z 2), τ) ∧ (∀ b, b ≠ 63 → τ b = t b) ∧ RR (hz0 z (z (10 + p)) (z 2)) (τ 63) := fun t ht => rf_forget hw (by omega) hp rfl (show z (10 + p) < 4 by omega) (z 2) 0 fr_fu t (by omega) (by omega) ht
    obtain ⟨s, s1, t, τ, ks, cs, kg, kt, ct, kh, c1, r1, q63, q59, hR⟩ := act_run h hw hc hr h4 (z' := hz0 z (z (10 + p)) (z 2)) (fun s => fr_bP (F_X3_forgetSole 15 (nI (z (10 + p))) s) (fun _ u => some u)) (fun t => fr_bP (L_X8_heels_19 (nI p) fr_fu 0 0 t) (fun _ q => some q.2))
      (fun s hs => by
        obtain ⟨u, e1, e2, e3⟩ := kX s hs
        exact ⟨u, by rw [e1]; rfl, e2, e3⟩)
      (fun t ht => by
        obtain ⟨u, e1, e2, e3⟩ := kM t ht
        exact ⟨u, by rw [e1]; rfl, e2, e3⟩) ((WF_hz0 (by omega) hw (by omega)).mono (by omega))
    obtain ⟨u, e1, -, -⟩ := kX s cs
    obtain ⟨u', e2, -, -⟩ := kM t ct
    have eu : u = s1 := by
      have := kg
      rw [e1] at this
      exact Option.some.inj this
    have eu' : u' = τ := by
      have := kh
      rw [e2] at this
      exact Option.some.inj this
    subst eu
    subst eu'
    have hr1 : RR z (u 63) := by rw [q63]; exact hr
    refine ⟨nI (cnt f (z 2)), u, u', ?_, ?_, hR⟩
    · unfold F_X7_heels
      rw [cl_hasPerson (o := 15) hc b3, hi, fr_bP_mk, if_neg fr_nb, ks, fr_bS_mk, cl_soleOf (o := 15) cs (by omega), fr_bP_mk, e1, fr_bP_mk]
    · unfold F_X8_heels
      rw [rf_isPerson hr1 b3, hi, fr_bP_mk, if_neg fr_nb, kt, fr_bS_mk, e2, fr_bP_mk]
      rfl
end ACW
