section WAY
variable {N : Nat} {σ : fr_St} {z : Nat → Nat} {B : Nat}
theorem ff_step (hr : RR z (σ 63)) (hw : WFl z B) {U more c t : Nat} {D : Nat → Nat} (hU : U < 512) (hm : more ≤ 1000) (hcm : more + 9 ≤ c) (hc : c ≤ 1009) (ht : t < 72) (hD : DM σ D) (hf : fin c t D) (n : Nat) : ∃ τ, L_X8_findFars_38 (nI U) (nI more) (n + 1) (nI t) σ = L_X8_findFars_38 (nI U) (nI more) n (nI (t + 1)) τ ∧ (∀ x, x ≠ 68 → τ x = σ x) ∧ DM τ (rx z (wgt z U more) D (t % 9)) := by
  have hk : t % 9 < 9 := Nat.mod_lt _ (by omega)
  have h2 := hw.2.2.2.2.1
  have hDb : ∀ p, D p = 1000000 ∨ D p ≤ 71639 := fun p => by
    have h1 := hf p
    have : t * c ≤ 71 * 1009 := Nat.mul_le_mul (by omega) hc
    omega
  have skip : wgt z U more (t % 9) = 0 → DM σ (rx z (wgt z U more) D (t % 9)) := fun h => by
    unfold rx
    rw [if_pos h]
    exact hD
  rw [ff_unf, if_neg (show ¬ (72 : Int32) ≤ nI t from fun q => absurd ((i_le (a := 72) (by omega) (by omega)).mp q) (by omega)), show (9 : Int32) = nI 9 from rfl, i_rem (by omega) (by omega) (by omega), fr_let_eq, rf_has hU hk, fr_bP_mk, fr_let_eq, hr.1 2 (by omega)]
  by_cases hM : z 2 ≤ t % 9
  · refine ⟨σ, ?_, fun _ _ => rfl, skip ?_⟩
    · rw [if_pos ((i_le (by omega) (by omega)).mpr hM), fr_bS_mk, fr_let_eq, nI_1]
    · unfold wgt
      rw [if_neg (by omega)]
  · rw [if_neg (fun q => hM ((i_le (by omega) (by omega)).mp q))]
    have hl := hw.2.2.2.2.2.2.2.1 (t % 9) (by omega)
    cases hb : U.testBit (t % 9)
    · rw [if_pos (show fr_bi false = 0 from rfl)]
      by_cases h0 : more = 0
      · refine ⟨σ, ?_, fun _ _ => rfl, skip ?_⟩
        · rw [if_pos (show nI more ≤ (0 : Int32) from (i_le (b := 0) (by omega) (by omega)).mpr (by omega)), fr_bS_mk, fr_let_eq, nI_1]
        · unfold wgt
          rw [if_pos (by omega), hb, if_neg (by decide), if_pos h0]
      · have eg : wgt z U more (t % 9) = z (41 + t % 9) + more := by
          unfold wgt
          rw [if_pos (by omega), hb, if_neg (by decide), if_neg h0]
        obtain ⟨τ, k1, k2, k3⟩ := ff_body (g := wgt z U more) (k3 := nI more) (v5 := fr_bi false) (e := more) hr hw (show t % 9 < z 2 by omega) hD hDb (by omega) (by omega) rfl (by omega)
        refine ⟨τ, ?_, k2, k3⟩
        rw [if_neg (show ¬ nI more ≤ (0 : Int32) from fun q => absurd ((i_le (b := 0) (by omega) (by omega)).mp q) (by omega)), k1, fr_bS_mk, fr_let_eq, nI_1]
    · have eg : wgt z U more (t % 9) = z (41 + t % 9) := by
        unfold wgt
        rw [if_pos (by omega), hb, if_pos rfl]
      obtain ⟨τ, k1, k2, k3⟩ := ff_body (g := wgt z U more) (k3 := nI more) (v5 := fr_bi true) (e := 0) hr hw (show t % 9 < z 2 by omega) hD hDb (by omega) (by omega) rfl (by omega)
      refine ⟨τ, ?_, k2, k3⟩
      rw [if_neg fr_nb, k1, fr_bS_mk, fr_let_eq, nI_1]
theorem ff_rounds (hw : WFl z B) {U more c f : Nat} (hU : U < 512) (hm : more ≤ 1000) (hcm : more + 9 ≤ c) (hc : c ≤ 1009) : ∀ (m q j n : Nat) (σ : fr_St), q < 8 → j < 9 → 9 * q + j + m = 72 → m < n → RR z (σ 63) → DM σ (dn z (wgt z U more) (dI z (wgt z U more) 9 (D0 f) q) j) → ∃ τ, L_X8_findFars_38 (nI U) (nI more) n (nI (9 * q + j)) σ = some (nI 72, τ) ∧ (∀ x, x ≠ 68 → τ x = σ x) ∧ DM τ (dI z (wgt z U more) 9 (D0 f) 8) := by
  have hg : ∀ k, wgt z U more k ≤ c := fun k => wgt_le hw hcm k
  intro m
  induction m with
  | zero => intro q j n σ hq hj he hn; omega
  | succ m ih =>
    intro q j n σ hq hj he hn hr hD
    obtain ⟨n, rfl⟩ : ∃ m, n = m + 1 := ⟨n - 1, by omega⟩
    have hfin := dn_fin (z := z) hg hc (dI_fin (z := z) hg hc (show 9 ≤ 9 by omega) (D0_fin c f) q (by omega)) j (by omega)
    obtain ⟨s, k1, k2, k3⟩ := ff_step hr hw hU hm hcm hc (show 9 * q + j < 72 by omega) hD hfin n
    rw [show (9 * q + j) % 9 = j by omega] at k3
    have hr1 : RR z (s 63) := by rw [k2 63 (by omega)]; exact hr
    rw [k1]
    by_cases hj1 : j + 1 < 9
    · obtain ⟨τ, r1, r2, r3⟩ := ih q (j + 1) n s hq hj1 (by omega) (by omega) hr1 k3
      exact ⟨τ, r1, fun x hx => by rw [r2 x hx, k2 x hx], r3⟩
    · have hj9 : j + 1 = 9 := by omega
      have k3' : DM s (dI z (wgt z U more) 9 (D0 f) (q + 1)) := by
        have hj8 : j = 8 := by omega
        rw [hj8] at k3
        exact k3
      rw [show 9 * q + j + 1 = 9 * (q + 1) + 0 by omega]
      by_cases hq1 : q + 1 < 8
      · obtain ⟨τ, r1, r2, r3⟩ := ih (q + 1) 0 n s hq1 (by omega) (by omega) (by omega) hr1 k3'
        exact ⟨τ, r1, fun x hx => by rw [r2 x hx, k2 x hx], r3⟩
      · have hq8 : q + 1 = 8 := by omega
        obtain ⟨n, rfl⟩ : ∃ m, n = m + 1 := ⟨n - 1, by omega⟩
        rw [hq8] at k3' ⊢
        exact ⟨s, by rw [ff_unf, if_pos (show (72 : Int32) ≤ nI (9 * 8 + 0) by decide)], k2, k3'⟩
theorem dn_more {g D : Nat → Nat} {M : Nat} (hg : ∀ k, M ≤ k → g k = 0) : ∀ d, dn z g D (M + d) = dn z g D M
  | 0 => rfl
  | d + 1 => by
    show rx z g (dn z g D (M + d)) (M + d) = _
    unfold rx
    rw [if_pos (hg (M + d) (by omega)), dn_more hg d]
theorem dI_more {g D : Nat → Nat} {M : Nat} (hM : M ≤ 9) (hg : ∀ k, M ≤ k → g k = 0) : ∀ n, dI z g 9 D n = dI z g M D n
  | 0 => rfl
  | n + 1 => by
    show dn z g (dI z g 9 D n) 9 = dn z g (dI z g M D n) M
    rw [dI_more hM hg n]
    have := dn_more (z := z) (D := dI z g M D n) hg (9 - M)
    rw [show M + (9 - M) = 9 by omega] at this
    exact this
theorem rf_far (hr : RR z (σ 63)) (hw : WFl z B) {U more f : Nat} (hU : U < 512) (hm : more ≤ 1000) (hf : f < 8) : ∃ τ, F_X8_findFars (nI f) (nI U) (nI more) σ = some τ ∧ (∀ x, x ≠ 68 → τ x = σ x) ∧ DM τ (dst z U more f) := by
  have h2 := hw.2.2.2.2.1
  have hfu := fr_fu_big
  have hi : L_X8_findFars_3 (nI f) fr_fu 0 σ = some (nI 8, fr_row σ 68 (blk (σ 68) 0 8 (fun p => nI (cap (D0 f p))))) := by
    refine wr_loop0 (L_X8_findFars_3 (nI f)) 68 0 8 (fun p => nI (cap (D0 f p))) σ (by omega) (fun n s => ?_) (fun n j g hj => ?_)
    · rw [L_X8_findFars_3, if_pos (show (8 : Int32) ≤ nI 8 by decide)]
    · rw [L_X8_findFars_3, if_neg (show ¬ (8 : Int32) ≤ nI j from fun q => absurd ((i_le (a := 8) (by omega) (by omega)).mp q) (by omega))]
      have e : (if nI j = nI f then some (0 : Int32) else some (100000 : Int32)) = some (nI (cap (D0 f j))) := by
        unfold D0 cap
        by_cases q : j = f
        · rw [if_pos (by rw [q]), if_pos q]; rfl
        · rw [if_neg (fun w => q ((i_eq (by omega) (by omega)).mp w)), if_neg q]; rfl
      rw [e, fr_bS_mk, i_chk hj (by omega), fr_let_eq, fr_let_eq, i_ix (by omega), fr_up_row, nI_1, Nat.zero_add]
  obtain ⟨τ, k1, k2, k3⟩ := ff_rounds (f := f) hw hU hm (show more + 9 ≤ 1009 by omega) (by omega) 72 0 0 fr_fu (fr_row σ 68 (blk (σ 68) 0 8 (fun p => nI (cap (D0 f p))))) (by omega) (by omega) (by omega) (by omega) (by rw [fr_row_ne _ _ (by omega)]; exact hr) (fun p hp => by rw [fr_row_same, blk_in0 hp]; rfl)
  refine ⟨τ, ?_, fun x hx => by rw [k2 x hx, fr_row_ne _ _ hx], ?_⟩
  · unfold F_X8_findFars
    rw [hi, fr_bP_mk, show L_X8_findFars_38 (nI U) (nI more) fr_fu (0 : Int32) _ = _ from k1]
    rfl
  · unfold dst
    rw [dI_more h2 (fun k hk => by unfold wgt; rw [if_neg (by omega)])] at k3
    exact k3
theorem cl_weighOpen (hc : CR z (σ 16)) (hw : WFl z B) {U : Nat} (hU : U < 512) : ∃ τ, F_X5_weighOpen (nI U) σ = some τ ∧ (∀ x, x ≠ 47 → τ x = σ x) ∧ WR τ (z 2) (wgt z U 0) := by
  have h2 := hw.2.2.2.2.1
  have hc' : ∀ f, CR z ((fr_row σ 47 f) 16) := fun f => by rw [fr_row_ne _ _ (by omega)]; exact hc
  let src := fun k => if wgt z U 0 k = 0 then (-1 : Int32) else nI (wgt z U 0 k)
  refine ⟨fr_row σ 47 (blk (σ 47) 0 (z 2) src), ?_, fun x hx => fr_row_ne _ _ hx, fun k hk => by rw [fr_row_same, blk_in0 hk]⟩
  have key : ∀ (m j n : Nat), j + m = z 2 → m < n → L_X5_weighOpen_2 (nI U) n (nI j) (fr_row σ 47 (blk (σ 47) 0 j src)) = some (nI (z 2), fr_row σ 47 (blk (σ 47) 0 (z 2) src)) := by
    intro m
    induction m with
    | zero =>
      intro j n hj hn
      obtain ⟨n, rfl⟩ : ∃ m, n = m + 1 := ⟨n - 1, by omega⟩
      have hj : j = z 2 := by omega
      rw [L_X5_weighOpen_2, cl_roads (o := 15) (hc' _), fr_bP_mk, hj, if_pos ((i_le (by omega) (by omega)).mpr (Nat.le_refl _))]
    | succ m ih =>
      intro j n hj hn
      obtain ⟨n, rfl⟩ : ∃ m, n = m + 1 := ⟨n - 1, by omega⟩
      have hl := hw.2.2.2.2.2.2.2.1 j (by omega)
      have e := i_bit hU (show j < 9 by omega)
      rw [← ih (j + 1) n (by omega) (by omega), ← blk_s, ← fr_up_row, L_X5_weighOpen_2, cl_roads (o := 15) (hc' _), fr_bP_mk, if_neg (fun q => absurd ((i_le (by omega) (by omega)).mp q) (by omega)), cl_longOf (o := 15) (hc' _) (by omega), fr_bP_mk, Nat.zero_add]
      have es : src j = if U.testBit j = true then nI (z (41 + j)) else -1 := by
        show (if wgt z U 0 j = 0 then (-1 : Int32) else nI (wgt z U 0 j)) = _
        unfold wgt
        rw [if_pos (show j < z 2 by omega)]
        cases U.testBit j
        · rfl
        · simp only [if_true]
          rw [if_neg (by omega)]
      rw [es]
      by_cases hb : U.testBit j = true
      · rw [if_pos (show (nI U >>> (nI j &&& 31)) &&& (1 : Int32) = 1 from e.mpr hb), if_pos hb, fr_bP_mk, i_chk (by omega) (by omega), fr_let_eq, fr_let_eq, i_ix (by omega), nI_1]
      · rw [if_neg (show ¬ (nI U >>> (nI j &&& 31)) &&& (1 : Int32) = 1 from fun q => hb (e.mp q)), if_neg hb, fr_bP_mk, i_chk (by omega) (by omega), fr_let_eq, fr_let_eq, i_ix (by omega), nI_1]
  unfold F_X5_weighOpen
  have := key (z 2) 0 fr_fu (by omega) (by have := fr_fu_big; omega)
  rw [blk_0, fr_row_self] at this
  rw [show L_X5_weighOpen_2 (nI U) fr_fu 0 σ = _ from this]
  rfl
theorem cl_weighIntro (hc : CR z (σ 16)) (hw : WFl z B) {U : Nat} (hU : U < 512) : ∃ τ, F_X5_weighIntroductions (nI U) σ = some τ ∧ (∀ x, x ≠ 47 → τ x = σ x) ∧ WR τ (z 2) (wgt z U 1000) := by
  have h2 := hw.2.2.2.2.1
  have hc' : ∀ f, CR z ((fr_row σ 47 f) 16) := fun f => by rw [fr_row_ne _ _ (by omega)]; exact hc
  let src := fun k => nI (wgt z U 1000 k)
  refine ⟨fr_row σ 47 (blk (σ 47) 0 (z 2) src), ?_, fun x hx => fr_row_ne _ _ hx, fun k hk => ?_⟩
  · have key : ∀ (m j n : Nat), j + m = z 2 → m < n → L_X5_weighIntroductions_2 (nI U) n (nI j) (fr_row σ 47 (blk (σ 47) 0 j src)) = some (nI (z 2), fr_row σ 47 (blk (σ 47) 0 (z 2) src)) := by
      intro m
      induction m with
      | zero =>
        intro j n hj hn
        obtain ⟨n, rfl⟩ : ∃ m, n = m + 1 := ⟨n - 1, by omega⟩
        have hj : j = z 2 := by omega
        rw [L_X5_weighIntroductions_2, cl_roads (o := 15) (hc' _), fr_bP_mk, hj, if_pos ((i_le (by omega) (by omega)).mpr (Nat.le_refl _))]
      | succ m ih =>
        intro j n hj hn
        obtain ⟨n, rfl⟩ : ∃ m, n = m + 1 := ⟨n - 1, by omega⟩
        have e := i_bit hU (show j < 9 by omega)
        rw [← ih (j + 1) n (by omega) (by omega), ← blk_s, ← fr_up_row, L_X5_weighIntroductions_2, cl_roads (o := 15) (hc' _), fr_bP_mk, if_neg (fun q => absurd ((i_le (by omega) (by omega)).mp q) (by omega)), cl_longOf (o := 15) (hc' _) (by omega), fr_bP_mk, Nat.zero_add]
        have es : src j = if U.testBit j = true then nI (z (41 + j)) else nI (z (41 + j) + 1000) := by
          show nI (wgt z U 1000 j) = _
          unfold wgt
          rw [if_pos (show j < z 2 by omega)]
          cases U.testBit j <;> rfl
        rw [es]
        by_cases hb : U.testBit j = true
        · rw [if_pos (show (nI U >>> (nI j &&& 31)) &&& (1 : Int32) = 1 from e.mpr hb), if_pos hb, fr_bS_mk, i_chk (by omega) (by omega), fr_let_eq, fr_let_eq, i_ix (by omega), nI_1, show (0 : Int32) = nI 0 from rfl, i_add]
          rfl
        · rw [if_neg (show ¬ (nI U >>> (nI j &&& 31)) &&& (1 : Int32) = 1 from fun q => hb (e.mp q)), if_neg hb, fr_bS_mk, i_chk (by omega) (by omega), fr_let_eq, fr_let_eq, i_ix (by omega), nI_1, show (1000 : Int32) = nI 1000 from rfl, i_add]
    unfold F_X5_weighIntroductions
    have := key (z 2) 0 fr_fu (by omega) (by have := fr_fu_big; omega)
    rw [blk_0, fr_row_self] at this
    rw [show L_X5_weighIntroductions_2 (nI U) fr_fu 0 σ = _ from this]
    rfl
  · have hl := hw.2.2.2.2.2.2.2.1 k hk
    rw [fr_row_same, blk_in0 hk]
    have : wgt z U 1000 k ≠ 0 := by
      unfold wgt
      rw [if_pos hk]
      split
      · omega
      · rw [if_neg (by omega)]; omega
    rw [if_neg this]
theorem dst_b (hw : WFl z B) {U more f : Nat} (hm : more ≤ 1000) (p : Nat) : dst z U more f p = 1000000 ∨ dst z U more f p ≤ 72 * (more + 9) := by
  have h2 := hw.2.2.2.2.1
  have := dI_fin (z := z) (D := D0 f) (M := z 2) (fun k => wgt_le (U := U) hw (Nat.le_refl (more + 9)) k) (by omega) h2 (D0_fin _ f) 8 (by omega) p
  exact this
theorem cl_measureWays (hc : CR z (σ 16)) (hw : WFl z B) (hB : B ≤ 100000) {q ka : Nat} (hka : ka = 48 ∨ ka = 49) (hq : q < z 3) : ∃ τ, F_X5_measureWays (nI q) ka σ = some τ ∧ (∀ x, x ≠ 47 → x ≠ ka → τ x = σ x) ∧ DR τ ka (dst z (opm z q) 0 (z (6 + q))) := by
  have h2 := hw.2.2.2.2.1
  have h3 := hw.2.2.2.2.2.1
  have h1 := hw.2.2.2.1
  have hb := hw.2.2.2.2.2.2.2.2.1 q hq
  have hU : opm z q < 512 := Nat.lt_of_lt_of_le opm_lt (Nat.pow_le_pow_right (by omega) h2)
  obtain ⟨s, k1, k2, k3⟩ := cl_weighOpen hc hw hU
  have hc1 : CR z (s 16) := by rw [k2 16 (by omega)]; exact hc
  obtain ⟨τ, r1, r2, r3⟩ := cl_measure (g := wgt z (opm z q) 0) (c := 9) (ka := ka) (f := z (6 + q)) hc1 hw (by omega) (by omega) (by omega) (fun k => wgt_le hw (by omega) k) k3 (by omega)
  refine ⟨τ, ?_, fun x hx hx2 => by rw [r2 x hx2, k2 x hx], r3⟩
  unfold F_X5_measureWays
  rw [cl_openTo (o := 15) hc hw hB hq, fr_bP_mk, k1, fr_bS_mk, cl_placeOf (o := 15) hc1 (by omega), fr_bP_mk, r1, fr_bS_mk]
/-- a length, or none -/
def orN (x : Nat) : Int32 := if x < 1000000 then nI x else -1000000
theorem cl_noneIf {x : Nat} (hx : x ≤ 1000000) (σ : fr_St) : F_X5_noneIfFar (nI x) σ = some (orN x, σ) := by
  unfold F_X5_noneIfFar orN
  by_cases e : x < 1000000
  · rw [if_pos (show nI x < (1000000 : Int32) from (i_lt (b := 1000000) (by omega) (by omega)).mpr e), if_pos e]
    rfl
  · rw [if_neg (show ¬ nI x < (1000000 : Int32) from fun q => e ((i_lt (b := 1000000) (by omega) (by omega)).mp q)), if_neg e]
    rfl
theorem rf_orNone {x : Nat} (hx : x = 1000000 ∨ x ≤ 72648) (σ : fr_St) : F_X8_orNone (nI (cap x)) σ = some (orN x, σ) := by
  unfold F_X8_orNone orN cap
  by_cases e : x < 1000000
  · rw [if_neg (show ¬ x = 1000000 by omega), if_pos (show nI x < (100000 : Int32) from (i_lt (b := 100000) (by omega) (by omega)).mpr (by omega)), if_pos e]
    rfl
  · rw [if_pos (show x = 1000000 by omega), if_neg (show ¬ nI 100000 < (100000 : Int32) by decide), if_neg e]
    rfl
theorem st_way (hN : N ≤ 1000) (h : Rel N σ) (a1 a2 : Int32) : Ok N (F_X7_way a1 a2) (F_X8_way a1 a2) σ := by
  obtain ⟨z, hz, hc, hr, h4⟩ := h.2.2.2.1
  obtain ⟨b0, b1, b2, b3, b4⟩ := hz.b
  cases hi : fr_ib a1 (z 3)
  · refine ⟨-1000001, σ, σ, ?_, ?_, h.mono⟩
    · unfold F_X7_way
      rw [cl_hasPerson (o := 15) hc b3, hi]
      rfl
    · unfold F_X8_way
      rw [rf_isPerson hr b3, hi]
      rfl
  · cases hj : fr_ib a2 (z 1)
    · refine ⟨-1000001, σ, σ, ?_, ?_, h.mono⟩
      · unfold F_X7_way
        rw [cl_hasPerson (o := 15) hc b3, hi, fr_bP_mk, if_neg fr_nb, cl_hasPlace (o := 15) hc b1, hj]
        rfl
      · unfold F_X8_way
        rw [rf_isPerson hr b3, hi, fr_bP_mk, if_neg fr_nb, rf_isPlace hr b1, hj]
        rfl
    · obtain ⟨q, hq, rfl⟩ := ib_nI hi
      obtain ⟨p, hp, rfl⟩ := ib_nI hj
      have hw := hz.wf 3 (by omega)
      have hb := hw.2.2.2.2.2.2.2.2.1 q hq
      have hU : opm z q < 512 := Nat.lt_of_lt_of_le opm_lt (Nat.pow_le_pow_right (by omega) b2)
      have hdb := dst_b hw (U := opm z q) (more := 0) (f := z (6 + q)) (by omega) p
      obtain ⟨s, k1, k2, k3⟩ := cl_measureWays hc hw (by omega) (Or.inl rfl) hq
      have hX : F_X7_way (nI q) (nI p) σ = some (orN (dst z (opm z q) 0 (z (6 + q)) p), s) := by
        unfold F_X7_way F_X5_wayTo
        rw [cl_hasPerson (o := 15) hc b3, hi, fr_bP_mk, if_neg fr_nb, cl_hasPlace (o := 15) hc b1, hj, fr_bP_mk, if_neg fr_nb, k1, fr_bS_mk, i_chk (by omega) (by omega), i_ix (by omega), k3 p (by omega), cl_noneIf (by omega)]
        rfl
      have hr1 : RR z (s 63) := by rw [k2 63 (by omega) (by omega)]; exact hr
      obtain ⟨t, r1, r2, r3⟩ := rf_far hr1 hw hU (show 0 ≤ 1000 by omega) (show z (6 + q) < 8 by omega)
      have hM : F_X8_way (nI q) (nI p) s = some (orN (dst z (opm z q) 0 (z (6 + q)) p), t) := by
        unfold F_X8_way
        rw [rf_isPerson hr1 b3, hi, fr_bP_mk, if_neg fr_nb, rf_isPlace hr1 b1, hj, fr_bP_mk, if_neg fr_nb, show (6 : Int32) = nI 6 from rfl, i_add, i_chk (by omega) (by omega), i_ix (by omega), rf_soleOf hr1 (by omega), fr_bP_mk, rf_openTo hr1 hw (by omega) (by omega), fr_bP_mk, hr1.1 (6 + q) (by omega)]
        rw [show F_X8_findFars (nI (z (6 + q))) (nI (msk (fun k => opn z k (z (10 + q)) (z 4)) (z 2))) (0 : Int32) s = some t from r1, fr_bS_mk, i_chk (by omega) (by omega), i_ix (by omega), r3 p (by omega), rf_orNone (by omega)]
        rfl
      exact ⟨_, s, t, hX, hM, (Rel_scr h (fun a ha => by
        rw [r2 a (fun q => ha (by unfold scr; omega)), k2 a (fun q => ha (by unfold scr; omega)) (fun q => ha (by unfold scr; omega))])).mono⟩
end WAY
