section LED
variable {N : Nat} {σ : fr_St} {z : Nat → Nat} {B : Nat}
theorem cl_zo (x : Int32) (σ : fr_St) : F_X7_isZeroOrOne x σ = some (fr_ib x 2, σ) := by
  unfold F_X7_isZeroOrOne
  cases h : fr_ib x 2
  · rw [if_neg (show ¬ x = (0 : Int32) from ib_ne (k := 0) h (by omega) (by omega)), if_neg (show ¬ x = (1 : Int32) from ib_ne (k := 1) h (by omega) (by omega))]
    rfl
  · rcases ib01 h with rfl | rfl <;> rfl
theorem Rel_sc2 {s t : fr_St} (h : Rel N σ) (e : ∀ a, ¬ scr a → s a = σ a) (e2 : ∀ a, ¬ scr a → t a = s a) : Rel (N + 1) t := (Rel_scr h (fun a ha => by rw [e2 a ha, e a ha])).mono
theorem st_led (hN : N ≤ 1000) (h : Rel N σ) (a1 a2 a3 : Int32) : Ok N (F_X7_led a1 a2 a3) (F_X8_led a1 a2 a3) σ := by
  obtain ⟨z, hz, hc, hr, h4⟩ := h.2.2.2.1
  obtain ⟨b0, b1, b2, b3, b4⟩ := hz.b
  cases h2 : (fr_ib a1 (z 3) && fr_ib a2 (z 3) && decide (a1 ≠ a2))
  · refine ⟨-1000001, σ, σ, ?_, ?_, h.mono⟩
    · unfold F_X7_led
      rw [cl_areTwo (o := 15) hc b3, h2]
      rfl
    · unfold F_X8_led
      rw [rf_areTwo hr b3, h2]
      rfl
  · cases hj : fr_ib a3 (z 1)
    · refine ⟨-1000001, σ, σ, ?_, ?_, h.mono⟩
      · unfold F_X7_led
        rw [cl_areTwo (o := 15) hc b3, h2, fr_bP_mk, if_neg fr_nb, cl_hasPlace (o := 15) hc b1, hj]
        rfl
      · unfold F_X8_led
        rw [rf_areTwo hr b3, h2, fr_bP_mk, if_neg fr_nb, rf_isPlace hr b1, hj]
        rfl
    · obtain ⟨q, q', hq, hq', rfl, rfl, hne⟩ := two_iff h2
      obtain ⟨p, hp, rfl⟩ := ib_nI hj
      have hw := hz.wf 3 (by omega)
      have hb := hw.2.2.2.2.2.2.2.2.1 q hq
      have hb' := hw.2.2.2.2.2.2.2.2.1 q' hq'
      have hU : opm z q ||| opm z q' < 512 := Nat.lt_of_lt_of_le (Nat.or_lt_two_pow opm_lt opm_lt) (Nat.pow_le_pow_right (by omega) b2)
      have hdb := dst_b hw (U := opm z q ||| opm z q') (more := 0) (f := z (6 + q)) (by omega) p
      obtain ⟨s0, w1, w2, w3⟩ := cl_weighOpen hc hw hU
      have hc1 : CR z (s0 16) := by rw [w2 16 (by omega)]; exact hc
      obtain ⟨s, k1, k2, k3⟩ := cl_measure (g := wgt z (opm z q ||| opm z q') 0) (c := 9) (ka := 48) (f := z (6 + q)) hc1 hw (by omega) (by omega) (by omega) (fun k => wgt_le hw (by omega) k) w3 (by omega)
      have hX : F_X7_led (nI q) (nI q') (nI p) σ = some (orN (dst z (opm z q ||| opm z q') 0 (z (6 + q)) p), s) := by
        unfold F_X7_led F_X5_ledTo
        rw [cl_areTwo (o := 15) hc b3, h2, fr_bP_mk, if_neg fr_nb, cl_hasPlace (o := 15) hc b1, hj, fr_bP_mk, if_neg fr_nb, cl_openTo (o := 15) hc hw (by omega) hq, fr_bP_mk, cl_openTo (o := 15) hc hw (by omega) hq', fr_bP_mk, i_or, w1, fr_bS_mk, cl_placeOf (o := 15) hc1 (by omega), fr_bP_mk, k1, fr_bS_mk, i_chk (by omega) (by omega), i_ix (by omega), k3 p (by omega), cl_noneIf (by unfold dst at hdb; omega)]
        rfl
      have hr1 : RR z (s 63) := by rw [k2 63 (by omega), w2 63 (by omega)]; exact hr
      obtain ⟨t, r1, r2, r3⟩ := rf_far hr1 hw hU (show 0 ≤ 1000 by omega) (show z (6 + q) < 8 by omega)
      have hM : F_X8_led (nI q) (nI q') (nI p) s = some (orN (dst z (opm z q ||| opm z q') 0 (z (6 + q)) p), t) := by
        unfold F_X8_led
        rw [rf_areTwo hr1 b3, h2, fr_bP_mk, if_neg fr_nb, rf_isPlace hr1 b1, hj, fr_bP_mk, if_neg fr_nb, show (6 : Int32) = nI 6 from rfl, i_add, i_chk (by omega) (by omega), i_ix (by omega), rf_soleOf hr1 (by omega), fr_bP_mk, rf_openTo hr1 hw (by omega) (by omega), fr_bP_mk, rf_soleOf hr1 (by omega), fr_bP_mk, rf_openTo hr1 hw (by omega) (by omega), fr_bP_mk, hr1.1 (6 + q) (by omega), i_or]
        rw [show F_X8_findFars (nI (z (6 + q))) (nI (msk (fun k => opn z k (z (10 + q)) (z 4)) (z 2) ||| msk (fun k => opn z k (z (10 + q')) (z 4)) (z 2))) (0 : Int32) s = some t from r1, fr_bS_mk, i_chk (by omega) (by omega), i_ix (by omega), r3 p (by omega), rf_orNone (by omega)]
        rfl
      exact ⟨_, s, t, hX, hM, Rel_sc2 h (fun a ha => by rw [k2 a (fun q => ha (by unfold scr; omega)), w2 a (fun q => ha (by unfold scr; omega))]) (fun a ha => r2 a (fun q => ha (by unfold scr; omega)))⟩
theorem st_introduced (hN : N ≤ 1000) (h : Rel N σ) (a1 a2 a3 : Int32) : Ok N (F_X7_introduced a1 a2 a3) (F_X8_introduced a1 a2 a3) σ := by
  obtain ⟨z, hz, hc, hr, h4⟩ := h.2.2.2.1
  obtain ⟨b0, b1, b2, b3, b4⟩ := hz.b
  cases hi : fr_ib a1 (z 3)
  · refine ⟨-1000001, σ, σ, ?_, ?_, h.mono⟩
    · unfold F_X7_introduced
      rw [cl_hasPerson (o := 15) hc b3, hi]
      rfl
    · unfold F_X8_introduced
      rw [rf_isPerson hr b3, hi]
      rfl
  · cases hj : fr_ib a2 (z 1)
    · refine ⟨-1000001, σ, σ, ?_, ?_, h.mono⟩
      · unfold F_X7_introduced
        rw [cl_hasPerson (o := 15) hc b3, hi, fr_bP_mk, if_neg fr_nb, cl_hasPlace (o := 15) hc b1, hj]
        rfl
      · unfold F_X8_introduced
        rw [rf_isPerson hr b3, hi, fr_bP_mk, if_neg fr_nb, rf_isPlace hr b1, hj]
        rfl
    · cases h3 : fr_ib a3 2
      · refine ⟨-1000001, σ, σ, ?_, ?_, h.mono⟩
        · unfold F_X7_introduced
          rw [cl_hasPerson (o := 15) hc b3, hi, fr_bP_mk, if_neg fr_nb, cl_hasPlace (o := 15) hc b1, hj, fr_bP_mk, if_neg fr_nb, cl_zo, h3]
          rfl
        · unfold F_X8_introduced
          rw [rf_isPerson hr b3, hi, fr_bP_mk, if_neg fr_nb, rf_isPlace hr b1, hj, fr_bP_mk, if_neg fr_nb, rf_in0 (n := 2) a3 rfl, h3]
          rfl
      · obtain ⟨q, hq, rfl⟩ := ib_nI hi
        obtain ⟨p, hp, rfl⟩ := ib_nI hj
        have hw := hz.wf 3 (by omega)
        have hb := hw.2.2.2.2.2.2.2.2.1 q hq
        have hU : opm z q < 512 := Nat.lt_of_lt_of_le opm_lt (Nat.pow_le_pow_right (by omega) b2)
        have hdb := dst_b hw (U := opm z q) (more := 1000) (f := z (6 + q)) (by omega) p
        obtain ⟨s0, w1, w2, w3⟩ := cl_weighIntro hc hw hU
        have hc1 : CR z (s0 16) := by rw [w2 16 (by omega)]; exact hc
        obtain ⟨s, k1, k2, k3⟩ := cl_measure (g := wgt z (opm z q) 1000) (c := 1009) (ka := 48) (f := z (6 + q)) hc1 hw (by omega) (by omega) (by omega) (fun k => wgt_le hw (by omega) k) w3 (by omega)
        have k3' : s 48 p = nI (dst z (opm z q) 1000 (z (6 + q)) p) := k3 p (by omega)
        have hr1 : RR z (s 63) := by rw [k2 63 (by omega), w2 63 (by omega)]; exact hr
        obtain ⟨t, r1, r2, r3⟩ := rf_far hr1 hw hU (show 1000 ≤ 1000 by omega) (show z (6 + q) < 8 by omega)
        generalize hd : dst z (opm z q) 1000 (z (6 + q)) p = d at hdb k3'
        have r3' : t 68 p = nI (cap d) := by rw [r3 p (by omega), hd]
        have hX : F_X7_introduced (nI q) (nI p) a3 σ = some (if d < 1000000 then (if a3 = 0 then nI (d / 1000) else nI (d % 1000)) else -1000000, s) := by
          unfold F_X7_introduced F_X5_introducedTo
          rw [cl_hasPerson (o := 15) hc b3, hi, fr_bP_mk, if_neg fr_nb, cl_hasPlace (o := 15) hc b1, hj, fr_bP_mk, if_neg fr_nb, cl_zo, h3, fr_bP_mk, if_neg fr_nb, cl_openTo (o := 15) hc hw (by omega) hq, fr_bP_mk, w1, fr_bS_mk, cl_placeOf (o := 15) hc1 (by omega), fr_bP_mk, k1, fr_bS_mk]
          simp only [i_chk (show p < 8 by omega) (show 8 < 2147483648 by decide), i_ix (show p < 2147483648 by omega), k3']
          by_cases e : d < 1000000
          · rw [if_pos (show nI d < (1000000 : Int32) from (i_lt (b := 1000000) (by omega) (by omega)).mpr e), if_pos e, show (1000 : Int32) = nI 1000 from rfl, i_rem (by omega) (by omega) (by omega), i_div (by omega) (by omega) (by omega)]
            rcases ib01 h3 with rfl | rfl <;> rfl
          · rw [if_neg (show ¬ nI d < (1000000 : Int32) from fun q => e ((i_lt (b := 1000000) (by omega) (by omega)).mp q)), if_neg e]
            rfl
        have hM : F_X8_introduced (nI q) (nI p) a3 s = some (if d < 1000000 then (if a3 = 0 then nI (d / 1000) else nI (d % 1000)) else -1000000, t) := by
          unfold F_X8_introduced
          rw [rf_isPerson hr1 b3, hi, fr_bP_mk, if_neg fr_nb, rf_isPlace hr1 b1, hj, fr_bP_mk, if_neg fr_nb, rf_in0 (n := 2) a3 rfl, h3, fr_bP_mk, if_neg fr_nb, show (6 : Int32) = nI 6 from rfl, i_add, i_chk (by omega) (by omega), i_ix (by omega), rf_soleOf hr1 (by omega), fr_bP_mk, rf_openTo hr1 hw (by omega) (by omega), fr_bP_mk, hr1.1 (6 + q) (by omega)]
          rw [show F_X8_findFars (nI (z (6 + q))) (nI (msk (fun k => opn z k (z (10 + q)) (z 4)) (z 2))) (1000 : Int32) s = some t from r1, fr_bS_mk]
          simp only [i_chk (show p < 8 by omega) (show 8 < 2147483648 by decide), i_ix (show p < 2147483648 by omega), r3']
          by_cases e : d < 1000000
          · have ec : cap d = d := by unfold cap; rw [if_neg (by omega)]
            rw [ec, if_pos (show nI d < (100000 : Int32) from (i_lt (b := 100000) (by omega) (by omega)).mpr (by omega)), if_pos e, show (1000 : Int32) = nI 1000 from rfl, i_rem (by omega) (by omega) (by omega), i_div (by omega) (by omega) (by omega)]
            rcases ib01 h3 with rfl | rfl <;> rfl
          · have ec : cap d = 100000 := by unfold cap; rw [if_pos (by omega)]
            rw [ec, if_neg (show ¬ nI 100000 < (100000 : Int32) by decide), if_neg e]
            rfl
        exact ⟨_, s, t, hX, hM, Rel_sc2 h (fun a ha => by rw [k2 a (fun q => ha (by unfold scr; omega)), w2 a (fun q => ha (by unfold scr; omega))]) (fun a ha => r2 a (fun q => ha (by unfold scr; omega)))⟩
/-- the first place of the least sum among the first n -/
def am (S : Nat → Nat) : Nat → Nat
  | 0 => 0
  | n + 1 => if S n < S (am S n) then n else am S n
theorem am_lt (S : Nat → Nat) : ∀ n, am S (n + 1) ≤ n
  | 0 => by show (if S 0 < S (am S 0) then 0 else am S 0) ≤ 0; split <;> exact Nat.le_refl _
  | n + 1 => by
    have := am_lt S n
    show (if S (n + 1) < S (am S (n + 1)) then n + 1 else am S (n + 1)) ≤ n + 1
    split <;> omega
theorem mt_cls (hc : CR z (σ 16)) (hw : WFl z B) {D E : Nat → Nat} (hD : DR σ 48 D) (hE : DR σ 49 E) (hDb : ∀ p, D p ≤ 1000000) (hEb : ∀ p, E p ≤ 1000000) : ∀ (m j n : Nat), 1 ≤ j → j + m = z 1 → m < n → L_X5_meetingOf_24 n (nI (am (fun p => D p + E p) j)) (nI j) σ = some (nI (am (fun p => D p + E p) (z 1)), nI (z 1), σ) := by
  have h1 := hw.2.2.2.1
  intro m
  induction m with
  | zero =>
    intro j n hj1 hj hn
    obtain ⟨n, rfl⟩ : ∃ m, n = m + 1 := ⟨n - 1, by omega⟩
    have hj : j = z 1 := by omega
    rw [L_X5_meetingOf_24, cl_places (o := 15) hc, fr_bP_mk, hj, if_pos ((i_le (by omega) (by omega)).mpr (Nat.le_refl _))]
  | succ m ih =>
    intro j n hj1 hj hn
    obtain ⟨n, rfl⟩ : ∃ m, n = m + 1 := ⟨n - 1, by omega⟩
    have ha : am (fun p => D p + E p) j < 8 := by
      obtain ⟨i, rfl⟩ : ∃ i, j = i + 1 := ⟨j - 1, by omega⟩
      have := am_lt (fun p => D p + E p) i
      omega
    rw [← ih (j + 1) n (by omega) (by omega) (by omega), L_X5_meetingOf_24, cl_places (o := 15) hc, fr_bP_mk, if_neg (fun q => absurd ((i_le (by omega) (by omega)).mp q) (by omega))]
    simp only [i_chk (show j < 8 by omega) (show 8 < 2147483648 by decide), i_chk ha (show 8 < 2147483648 by decide), i_ix (show j < 2147483648 by omega), i_ix (show am (fun p => D p + E p) j < 2147483648 by omega), hD j (by omega), hE j (by omega), hD _ ha, hE _ ha, i_add]
    have b1 := hDb j
    have b2 := hEb j
    have b3 := hDb (am (fun p => D p + E p) j)
    have b4 := hEb (am (fun p => D p + E p) j)
    show _ = L_X5_meetingOf_24 n (nI (if D j + E j < D (am (fun p => D p + E p) j) + E (am (fun p => D p + E p) j) then j else am (fun p => D p + E p) j)) (nI (j + 1)) σ
    by_cases e : D j + E j < D (am (fun p => D p + E p) j) + E (am (fun p => D p + E p) j)
    · rw [if_neg (fun q => absurd ((i_le (by omega) (by omega)).mp q) (by omega)), fr_bS_mk, fr_let_eq, nI_1, if_pos e]
    · rw [if_pos ((i_le (by omega) (by omega)).mpr (by omega)), fr_bS_mk, fr_let_eq, nI_1, if_neg e]
theorem mt_ref (hr : RR z (σ 63)) (hw : WFl z B) {D E : Nat → Nat} (hD : ∀ p, p < 8 → σ 70 p = nI (cap (D p))) (hE : DM σ E) (hDb : ∀ p, D p = 1000000 ∨ D p ≤ 648) (hEb : ∀ p, E p = 1000000 ∨ E p ≤ 648) : ∀ (m j n : Nat), j + m = z 1 → m < n → L_X8_meet_109 n (if 0 < j ∧ D (am (fun p => D p + E p) j) + E (am (fun p => D p + E p) j) < 1000000 then nI (am (fun p => D p + E p) j) else -1000000) (if 0 < j ∧ D (am (fun p => D p + E p) j) + E (am (fun p => D p + E p) j) < 1000000 then nI (D (am (fun p => D p + E p) j) + E (am (fun p => D p + E p) j)) else nI 100000) (nI j) σ = some (if 0 < z 1 ∧ D (am (fun p => D p + E p) (z 1)) + E (am (fun p => D p + E p) (z 1)) < 1000000 then nI (am (fun p => D p + E p) (z 1)) else -1000000, if 0 < z 1 ∧ D (am (fun p => D p + E p) (z 1)) + E (am (fun p => D p + E p) (z 1)) < 1000000 then nI (D (am (fun p => D p + E p) (z 1)) + E (am (fun p => D p + E p) (z 1))) else nI 100000, nI (z 1), σ) := by
  have h1 := hw.2.2.2.1
  intro m
  induction m with
  | zero =>
    intro j n hj hn
    obtain ⟨n, rfl⟩ : ∃ m, n = m + 1 := ⟨n - 1, by omega⟩
    have hj : j = z 1 := by omega
    rw [L_X8_meet_109, hr.1 1 (by omega), hj, if_pos ((i_le (by omega) (by omega)).mpr (Nat.le_refl _))]
  | succ m ih =>
    intro j n hj hn
    obtain ⟨n, rfl⟩ : ∃ m, n = m + 1 := ⟨n - 1, by omega⟩
    rw [← ih (j + 1) n (by omega) (by omega), L_X8_meet_109, hr.1 1 (by omega), if_neg (fun q => absurd ((i_le (by omega) (by omega)).mp q) (by omega))]
    simp only [i_chk (show j < 8 by omega) (show 8 < 2147483648 by decide), i_ix (show j < 2147483648 by omega), hD j (by omega), hE j (by omega), i_add, fr_let_eq]
    have b1 := hDb j
    have b2 := hEb j
    have b3 := hDb (am (fun p => D p + E p) j)
    have b4 := hEb (am (fun p => D p + E p) j)
    have c1 := cap_b (show D j = 1000000 ∨ D j ≤ 72648 by omega)
    have c2 := cap_b (show E j = 1000000 ∨ E j ≤ 72648 by omega)
    have ea : am (fun p => D p + E p) (j + 1) = if D j + E j < D (am (fun p => D p + E p) j) + E (am (fun p => D p + E p) j) then j else am (fun p => D p + E p) j := rfl
    have hu : j = 0 → am (fun p => D p + E p) j = 0 := fun q => by rw [q]; rfl
    generalize am (fun p => D p + E p) j = u at b3 b4 ea hu ⊢
    rw [ea]
    by_cases f1 : D j + E j < 1000000
    · have d1 : cap (D j) = D j := c1.2.2 (by omega)
      have d2 : cap (E j) = E j := c2.2.2 (by omega)
      rw [d1, d2]
      by_cases f2 : 0 < j ∧ D u + E u < 1000000
      · rw [if_pos f2, if_pos f2]
        by_cases f3 : D j + E j < D u + E u
        · rw [if_neg (fun q => absurd ((i_le (by omega) (by omega)).mp q) (by omega)), fr_bP_mk, nI_1, if_pos f3, if_pos ⟨by omega, f1⟩, if_pos ⟨by omega, f1⟩]
        · rw [if_pos ((i_le (by omega) (by omega)).mpr (by omega)), fr_bP_mk, nI_1, if_neg f3, if_pos ⟨by omega, f2.2⟩, if_pos ⟨by omega, f2.2⟩]
      · rw [if_neg f2, if_neg f2, if_neg (fun q => absurd ((i_le (by omega) (by omega)).mp q) (by omega)), fr_bP_mk, nI_1]
        by_cases f3 : D j + E j < D u + E u
        · rw [if_pos f3, if_pos ⟨by omega, f1⟩, if_pos ⟨by omega, f1⟩]
        · have j0 : j = 0 := by omega
          have u0 := hu j0
          subst j0
          subst u0
          rw [if_neg f3, if_pos ⟨by omega, f1⟩, if_pos ⟨by omega, f1⟩]
    · have d3 : 100000 ≤ cap (D j) + cap (E j) := by
        rcases b1 with q | q
        · have : cap (D j) = 100000 := by unfold cap; rw [if_pos (by omega)]
          omega
        · have : cap (E j) = 100000 := by unfold cap; rw [if_pos (by omega)]
          omega
      by_cases f2 : 0 < j ∧ D u + E u < 1000000
      · rw [if_pos f2, if_pos f2, if_pos ((i_le (by omega) (by omega)).mpr (by omega)), fr_bP_mk, nI_1, if_neg (show ¬ D j + E j < D u + E u by omega), if_pos ⟨by omega, f2.2⟩, if_pos ⟨by omega, f2.2⟩]
      · have g : ¬ (0 < j + 1 ∧ D (if D j + E j < D u + E u then j else u) + E (if D j + E j < D u + E u then j else u) < 1000000) := by
          intro ⟨_, q⟩
          by_cases f3 : D j + E j < D u + E u
          · rw [if_pos f3] at q
            exact f1 q
          · rw [if_neg f3] at q
            by_cases j0 : j = 0
            · have u0 := hu j0
              subst j0
              subst u0
              exact f1 q
            · exact f2 ⟨by omega, q⟩
        rw [if_neg f2, if_neg f2, if_pos ((i_le (by omega) (by omega)).mpr (by omega)), fr_bP_mk, nI_1, if_neg g, if_neg g]
end LED
