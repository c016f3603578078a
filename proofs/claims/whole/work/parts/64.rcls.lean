/-! ===== round: the class's loops ===== -/
section RMC
variable {N : Nat} {σ : fr_St} {z : Nat → Nat} {B : Nat}
theorem cb_sp {j : Nat} (hj : j < 8) : fr_cb (0 : Int32) (nI j * (8 : Int32)) (8 : Int32) 8 64 = true := by
  have : ∀ j, j < 8 → fr_cb (0 : Int32) (nI j * (8 : Int32)) (8 : Int32) 8 64 = true := by decide +kernel
  exact this j hj
theorem cl_spans (hc : CR z (σ 16)) (hw : WFl z B) {U : Nat} (hU : U < 512) : ∃ τ, F_X5_measureSpans (nI U) σ = some τ ∧ (∀ x, x ≠ 47 → x ≠ 48 → x ≠ 50 → τ x = σ x) ∧ ∀ p q, p < z 1 → q < 8 → τ 50 (p * 8 + q) = nI (dst z U 0 p q) := by
  have h1 := hw.2.2.2.1
  obtain ⟨s0, w1, w2, w3⟩ := cl_weighOpen hc hw hU
  have key : ∀ (m j n : Nat) (σ : fr_St), j + m = z 1 → m < n → CR z (σ 16) → WR σ (z 2) (wgt z U 0) → (∀ p q, p < j → q < 8 → σ 50 (p * 8 + q) = nI (dst z U 0 p q)) → ∃ τ, L_X5_measureSpans_7 n (nI j) σ = some (nI (z 1), τ) ∧ (∀ x, x ≠ 48 → x ≠ 50 → τ x = σ x) ∧ ∀ p q, p < z 1 → q < 8 → τ 50 (p * 8 + q) = nI (dst z U 0 p q) := by
    intro m
    induction m with
    | zero =>
      intro j n σ hj hn hc hW hS
      obtain ⟨n, rfl⟩ : ∃ m, n = m + 1 := ⟨n - 1, by omega⟩
      have hj : j = z 1 := by omega
      subst hj
      refine ⟨σ, ?_, fun _ _ _ => rfl, hS⟩
      rw [L_X5_measureSpans_7, cl_places (o := 15) hc, fr_bP_mk, if_pos ((i_le (by omega) (by omega)).mpr (Nat.le_refl _))]
    | succ m ih =>
      intro j n σ hj hn hc hW hS
      obtain ⟨n, rfl⟩ : ∃ m, n = m + 1 := ⟨n - 1, by omega⟩
      obtain ⟨s, k1, k2, k3⟩ := cl_measure (g := wgt z U 0) (c := 9) (ka := 48) (f := j) hc hw (by omega) (by omega) (by omega) (fun k => wgt_le hw (by omega) k) hW (by omega)
      have e8 : fr_ix (nI j * (8 : Int32)) = j * 8 := by
        show fr_ix (nI j * nI 8) = j * 8
        rw [i_mul, i_ix (by omega)]
      obtain ⟨τ, r1, r2, r3⟩ := ih (j + 1) n (fr_row s 50 (va_cpy (s 48) (s 50) (fr_ix (0 : Int32)) (fr_ix (nI j * (8 : Int32))) (fr_ix (8 : Int32)))) (by omega) (by omega) (by rw [fr_row_ne _ _ (by omega), k2 16 (by omega)]; exact hc) (fun k hk => by rw [fr_row_ne _ _ (by omega), k2 47 (by omega)]; exact hW k hk) (fun p q hp hq => by
        rw [fr_row_same, e8]
        show (if j * 8 ≤ p * 8 + q ∧ p * 8 + q < j * 8 + 8 then s 48 (0 + (p * 8 + q - j * 8)) else s 50 (p * 8 + q)) = _
        by_cases e : p = j
        · subst e
          rw [if_pos (by omega), show 0 + (p * 8 + q - p * 8) = q by omega]
          exact k3 q hq
        · rw [if_neg (by omega), k2 50 (by omega)]
          exact hS p q (by omega) hq)
      refine ⟨τ, ?_, fun x h48 h50 => by rw [r2 x h48 h50, fr_row_ne _ _ h50, k2 x h48], r3⟩
      rw [L_X5_measureSpans_7, cl_places (o := 15) hc, fr_bP_mk, if_neg (fun q => absurd ((i_le (by omega) (by omega)).mp q) (by omega)), k1, fr_bS_mk, if_pos (cb_sp (by omega)), fr_let_eq, fr_let_eq, nI_1]
      exact r1
  obtain ⟨τ, r1, r2, r3⟩ := key (z 1) 0 fr_fu s0 (by omega) (by have := fr_fu_big; omega) (by rw [w2 16 (by omega)]; exact hc) w3 (fun p q hp => absurd hp (Nat.not_lt_zero _))
  refine ⟨τ, ?_, fun x h47 h48 h50 => by rw [r2 x h48 h50, w2 x h47], r3⟩
  unfold F_X5_measureSpans
  rw [w1, fr_bS_mk, show L_X5_measureSpans_7 fr_fu (0 : Int32) s0 = _ from r1, fr_bP_mk]
theorem due_bit (U r : Nat) : (dueM z U).testBit r = (decide (r < z 2) && (U.testBit r && decide (z (14 + r) < 4))) := msk_bit _ _ _
theorem cl_list (hc : CR z (σ 16)) (hw : WFl z B) {U : Nat} (hU : U < 512) : ∃ (τ : fr_St) (w : Nat → Nat) (c : Nat), F_X5_listWanted (nI U) σ = some (nI c, τ) ∧ (∀ x, x ≠ 51 → τ x = σ x) ∧ WN z U w c ∧ ∀ k, k < c → τ 51 k = nI (w k) := by
  have h2 := hw.2.2.2.2.1
  have key : ∀ (m j n c : Nat) (w : Nat → Nat) (σ : fr_St), j + m = z 2 → m < n → CR z (σ 16) → c ≤ j → (∀ k, k < c → σ 51 k = nI (w k) ∧ w k < j ∧ (dueM z U).testBit (w k) = true) → (∀ r, r < j → (dueM z U).testBit r = true → ∃ k, k < c ∧ w k = r) → (∀ k k', k < c → k' < c → w k = w k' → k = k') → ∃ (τ : fr_St) (w' : Nat → Nat) (c' : Nat), L_X5_listWanted_4 (nI U) n (nI c) (nI j) σ = some (nI c', nI (z 2), τ) ∧ (∀ x, x ≠ 51 → τ x = σ x) ∧ c' ≤ z 2 ∧ (∀ k, k < c' → τ 51 k = nI (w' k) ∧ w' k < z 2 ∧ (dueM z U).testBit (w' k) = true) ∧ (∀ r, r < z 2 → (dueM z U).testBit r = true → ∃ k, k < c' ∧ w' k = r) ∧ (∀ k k', k < c' → k' < c' → w' k = w' k' → k = k') := by
    intro m
    induction m with
    | zero =>
      intro j n c w σ hj hn hc hcj hA hB hI
      obtain ⟨n, rfl⟩ : ∃ m, n = m + 1 := ⟨n - 1, by omega⟩
      have hj : j = z 2 := by omega
      subst hj
      refine ⟨σ, w, c, ?_, fun _ _ => rfl, hcj, hA, hB, hI⟩
      rw [L_X5_listWanted_4, cl_roads (o := 15) hc, fr_bP_mk, if_pos ((i_le (by omega) (by omega)).mpr (Nat.le_refl _))]
    | succ m ih =>
      intro j n c w σ hj hn hc hcj hA hB hI
      obtain ⟨n, rfl⟩ : ∃ m, n = m + 1 := ⟨n - 1, by omega⟩
      have e := i_bit hU (show j < 9 by omega)
      have hdb := due_bit (z := z) U j
      have skip : (dueM z U).testBit j = false → ∃ (τ : fr_St) (w' : Nat → Nat) (c' : Nat), L_X5_listWanted_4 (nI U) n (nI c) (nI (j + 1)) σ = some (nI c', nI (z 2), τ) ∧ (∀ x, x ≠ 51 → τ x = σ x) ∧ c' ≤ z 2 ∧ (∀ k, k < c' → τ 51 k = nI (w' k) ∧ w' k < z 2 ∧ (dueM z U).testBit (w' k) = true) ∧ (∀ r, r < z 2 → (dueM z U).testBit r = true → ∃ k, k < c' ∧ w' k = r) ∧ (∀ k k', k < c' → k' < c' → w' k = w' k' → k = k') := by
        intro hno
        exact ih (j + 1) n c w σ (by omega) (by omega) hc (by omega) (fun k hk => ⟨(hA k hk).1, by have := (hA k hk).2.1; omega, (hA k hk).2.2⟩) (fun r hr hd => by
          by_cases q : r = j
          · subst q; rw [hno] at hd; cases hd
          · exact hB r (by omega) hd) hI
      rw [L_X5_listWanted_4, cl_roads (o := 15) hc, fr_bP_mk, if_neg (fun q => absurd ((i_le (by omega) (by omega)).mp q) (by omega))]
      by_cases hb : U.testBit j = true
      · rw [if_pos (show (nI U >>> (nI j &&& 31)) &&& (1 : Int32) = 1 from e.mpr hb), cl_obm (o := 15) hc hw (by omega), fr_bP_mk]
        by_cases hk : z (14 + j) < 4
        · have hyes : (dueM z U).testBit j = true := by
            rw [hdb, hb, decide_eq_true hk, decide_eq_true (show j < z 2 by omega)]
            rfl
          rw [decide_eq_true hk, if_neg fr_nb, i_chk (show c < 9 by omega) (by omega), fr_let_eq, fr_let_eq, fr_bP_mk, fr_let_eq, i_ix (by omega), nI_1, nI_1]
          obtain ⟨τ, w', c', r1, r2, r3⟩ := ih (j + 1) n (c + 1) (zup w c j) (fr_up σ 51 c (nI j)) (by omega) (by omega) (by rw [fr_up_ne _ _ _ (by omega)]; exact hc) (by omega) (fun k hk => by
            rw [fr_up_at]
            by_cases q : k = c
            · subst q
              rw [upd_at, zup_at]
              exact ⟨rfl, by omega, hyes⟩
            · rw [upd_ne _ _ q, zup_ne _ _ q]
              have := hA k (by omega)
              exact ⟨this.1, by omega, this.2.2⟩) (fun r hr hd => by
            by_cases q : r = j
            · subst q
              exact ⟨c, by omega, zup_at _ _ _⟩
            · obtain ⟨k, a1, a2⟩ := hB r (by omega) hd
              exact ⟨k, by omega, by rw [zup_ne _ _ (by omega)]; exact a2⟩) (fun k k' hk hk' => by
            by_cases q : k = c
            · by_cases q' : k' = c
              · intro _; omega
              · rw [q, zup_at, zup_ne _ _ q']
                intro w0
                have := (hA k' (by omega)).2.1
                omega
            · by_cases q' : k' = c
              · rw [q', zup_at, zup_ne _ _ q]
                intro w0
                have := (hA k (by omega)).2.1
                omega
              · rw [zup_ne _ _ q, zup_ne _ _ q']
                exact hI k k' (by omega) (by omega))
          exact ⟨τ, w', c', r1, fun x hx => by rw [r2 x hx, fr_up_ne _ _ _ hx], r3⟩
        · rw [decide_eq_false hk, if_pos (show fr_bi false = 0 from rfl), fr_bP_mk, fr_let_eq, nI_1]
          exact skip (by rw [hdb, decide_eq_false hk]; simp)
      · rw [if_neg (show ¬ (nI U >>> (nI j &&& 31)) &&& (1 : Int32) = 1 from fun q => hb (e.mp q)), fr_bP_mk, fr_let_eq, nI_1]
        exact skip (by rw [hdb, Bool.eq_false_iff.mpr hb]; simp)
  obtain ⟨τ, w, c, r1, r2, r3, r4, r5, r6⟩ := key (z 2) 0 fr_fu 0 (fun _ => 0) σ (by omega) (by have := fr_fu_big; omega) hc (by omega) (fun k hk => absurd hk (Nat.not_lt_zero _)) (fun r hr => absurd hr (Nat.not_lt_zero _)) (fun k k' hk => absurd hk (Nat.not_lt_zero _))
  refine ⟨τ, w, c, ?_, r2, ⟨by omega, fun k hk => (r4 k hk).2, fun r hd => r5 r ?_ hd, r6⟩, fun k hk => (r4 k hk).1⟩
  · unfold F_X5_listWanted
    rw [show L_X5_listWanted_4 (nI U) fr_fu (0 : Int32) (0 : Int32) σ = _ from r1]
    rfl
  · rw [due_bit, Bool.and_eq_true] at hd
    exact of_decide_eq_true hd.1
/-- the class's rows while the costs are told -/
def DS (z : Nat → Nat) (U : Nat) (w : Nat → Nat) (c : Nat) (σ : fr_St) (C : Nat → Nat) : Prop := CR z (σ 16) ∧ (∀ p q, p < z 1 → q < 8 → σ 50 (p * 8 + q) = nI (dst z U 0 p q)) ∧ (∀ k, k < c → σ 51 k = nI (w k)) ∧ (∀ i, i < 4096 → σ 52 i = nI (C i)) ∧ ∀ i, C i ≤ 1000000
def KP (z : Nat → Nat) (U : Nat) (w : Nat → Nat) (c d : Nat) (C C' : Nat → Nat) : Prop := (∀ d' k' r', d' ≤ d → r' < 8 → cl1 z U w C d' k' r' → cl1 z U w C' d' k' r') ∧ (∀ R, RC z U R → Sd z U w c R C → Sd z U w c R C') ∧ ∀ i, C' i ≤ C i
theorem KP.rf {U : Nat} {w : Nat → Nat} {c d : Nat} {C : Nat → Nat} : KP z U w c d C C := ⟨fun _ _ _ _ _ h => h, fun _ _ h => h, fun _ => Nat.le_refl _⟩
theorem KP.tr {U : Nat} {w : Nat → Nat} {c d e : Nat} {C C' C'' : Nat → Nat} (h : KP z U w c d C C') (h2 : KP z U w c e C' C'') (hde : d ≤ e) : KP z U w c d C C'' := ⟨fun d' k' r' a b q => h2.1 d' k' r' (by omega) b (h.1 d' k' r' a b q), fun R a q => h2.2.1 R a (h.2.1 R a q), fun i => Nat.le_trans (h2.2.2 i) (h.2.2 i)⟩
theorem i_mn {x y : Nat} (hx : x < 2147483648) (hy : y < 2147483648) : (if nI y < nI x then nI y else nI x) = nI (mn x y) := by
  unfold mn
  by_cases h : y < x
  · rw [if_pos ((i_lt hy hx).mpr h), if_pos h]
  · rw [if_neg (fun q => h ((i_lt hy hx).mp q)), if_neg h]
theorem due_U (U r : Nat) (h : (dueM z U).testBit r = true) : U.testBit r = true := by
  rw [due_bit, Bool.and_eq_true, Bool.and_eq_true] at h
  exact h.2.1
theorem dw_loop (hw : WFl z B) {U : Nat} {w : Nat → Nat} {c : Nat} (hN : WN z U w c) {d k : Nat} (hd : d < 512) (hk : k < c) (hb : d.testBit k = false) : ∀ (m pl n : Nat) (σ : fr_St) (C : Nat → Nat), pl + m = z 1 → m < n → DS z U w c σ C → (∀ r, r < pl → cl1 z U w C d k r) → ∃ τ C', L_X5_doWanted_40 (nI d) (nI (w k)) (nI ((d ||| 2 ^ k) * 8)) (nI (z (23 + w k))) (nI (z (32 + w k))) n (nI pl) σ = some (nI (z 1), τ) ∧ (∀ x, x ≠ 52 → τ x = σ x) ∧ DS z U w c τ C' ∧ KP z U w c d C C' ∧ ∀ r, r < z 1 → cl1 z U w C' d k r := by
  have h1 := hw.2.2.2.1
  have h2 := hw.2.2.2.2.1
  have hc9 := hN.1
  obtain ⟨hr, hdue⟩ := hN.2.1 k hk
  have hl := hw.2.2.2.2.2.2.2.1 (w k) hr
  have ht := or_512 hd (show k < 9 by omega)
  have hg := or_gt hb
  intro m
  induction m with
  | zero =>
    intro pl n σ C hp hn hS hcl
    obtain ⟨n, rfl⟩ : ∃ m, n = m + 1 := ⟨n - 1, by omega⟩
    have hp : pl = z 1 := by omega
    subst hp
    refine ⟨σ, C, ?_, fun _ _ => rfl, hS, KP.rf, hcl⟩
    rw [L_X5_doWanted_40, cl_places (o := 15) hS.1, fr_bP_mk, if_pos ((i_le (by omega) (by omega)).mpr (Nat.le_refl _))]
  | succ m ih =>
    intro pl n σ C hp hn hS hcl
    obtain ⟨n, rfl⟩ : ∃ m, n = m + 1 := ⟨n - 1, by omega⟩
    obtain ⟨hc, h50, h51, h52, hC⟩ := hS
    generalize htd : (d ||| 2 ^ k) = t at ht hg
    have c1 := hC (d * 8 + pl)
    have c2 := hC (t * 8 + z (32 + w k))
    have c3 := hC (t * 8 + z (23 + w k))
    have d1 := dst_le (z := z) (U := U) (f := pl) (z (23 + w k))
    have d2 := dst_le (z := z) (U := U) (f := pl) (z (32 + w k))
    have ne : z (23 + w k) ≠ z (32 + w k) := hl.2.2.2.2.1
    have hput : ∀ i, i < 4096 → (fr_up (fr_up σ 52 (t * 8 + z (32 + w k)) (nI (mn (C (t * 8 + z (32 + w k))) (C (d * 8 + pl) + z (41 + w k) + dst z U 0 pl (z (23 + w k)))))) 52 (t * 8 + z (23 + w k)) (nI (mn (C (t * 8 + z (23 + w k))) (C (d * 8 + pl) + z (41 + w k) + dst z U 0 pl (z (32 + w k)))))) 52 i = nI (dws z U C d t (w k) pl i) := by
      intro i hi
      rw [fr_up_at, fr_up_at]
      exact uz Iff.rfl (uz Iff.rfl (h52 i hi))
    have hf : ∀ x, x ≠ 52 → (fr_up (fr_up σ 52 (t * 8 + z (32 + w k)) (nI (mn (C (t * 8 + z (32 + w k))) (C (d * 8 + pl) + z (41 + w k) + dst z U 0 pl (z (23 + w k)))))) 52 (t * 8 + z (23 + w k)) (nI (mn (C (t * 8 + z (23 + w k))) (C (d * 8 + pl) + z (41 + w k) + dst z U 0 pl (z (32 + w k)))))) x = σ x := fun x hx => by rw [fr_up_ne _ _ _ hx, fr_up_ne _ _ _ hx]
    have hDS : DS z U w c (fr_up (fr_up σ 52 (t * 8 + z (32 + w k)) (nI (mn (C (t * 8 + z (32 + w k))) (C (d * 8 + pl) + z (41 + w k) + dst z U 0 pl (z (23 + w k)))))) 52 (t * 8 + z (23 + w k)) (nI (mn (C (t * 8 + z (23 + w k))) (C (d * 8 + pl) + z (41 + w k) + dst z U 0 pl (z (32 + w k)))))) (dws z U C d t (w k) pl) := ⟨by rw [hf 16 (by omega)]; exact hc, by rw [hf 50 (by omega)]; exact h50, by rw [hf 51 (by omega)]; exact h51, hput, fun i => Nat.le_trans (dws_le U C d t (w k) pl i) (hC i)⟩
    have hKP : KP z U w c d C (dws z U C d t (w k) pl) := by
      rw [← htd]
      exact ⟨fun d' k' r' a b q => dws_old U w C hb a b q, fun R hR q => dws_Sd hw hR hN (fun r => due_U U r) q hd hk hb (by omega), fun i => dws_le U C d _ (w k) pl i⟩
    obtain ⟨τ, C', r1, r2, r3, r4, r5⟩ := ih (pl + 1) n _ (dws z U C d t (w k) pl) (by omega) (by omega) hDS (fun r hr' => by
      by_cases q : r = pl
      · subst q
        rw [← htd]
        exact dws_new U C hb (by omega) ne
      · exact hKP.1 d k r (Nat.le_refl _) (by omega) (hcl r (by omega)))
    refine ⟨τ, C', ?_, fun x hx => by rw [r2 x hx, hf x hx], r3, hKP.tr r4 (Nat.le_refl _), r5⟩
    rw [← r1, L_X5_doWanted_40, cl_places (o := 15) hc, fr_bP_mk, if_neg (fun q => absurd ((i_le (by omega) (by omega)).mp q) (by omega)), cl_longOf (o := 15) hc (by omega), htd]
    have u2 : (fr_up σ 52 (t * 8 + z (32 + w k)) (nI (mn (C (t * 8 + z (32 + w k))) (C (d * 8 + pl) + z (41 + w k) + dst z U 0 pl (z (23 + w k)))))) 52 (t * 8 + z (23 + w k)) = nI (C (t * 8 + z (23 + w k))) := by rw [fr_up_at, upd_ne _ _ (by omega), h52 _ (by omega)]
    simp only [show (8 : Int32) = nI 8 from rfl, fr_bP_mk, fr_let_eq, i_mul, i_add, i_chk (show d * 8 + pl < 4096 by omega) (show 4096 < 2147483648 by decide), i_chk (show pl * 8 + z (23 + w k) < 64 by omega) (show 64 < 2147483648 by decide), i_chk (show pl * 8 + z (32 + w k) < 64 by omega) (show 64 < 2147483648 by decide), i_chk (show t * 8 + z (23 + w k) < 4096 by omega) (show 4096 < 2147483648 by decide), i_chk (show t * 8 + z (32 + w k) < 4096 by omega) (show 4096 < 2147483648 by decide), i_ix (show d * 8 + pl < 2147483648 by omega), i_ix (show pl * 8 + z (23 + w k) < 2147483648 by omega), i_ix (show pl * 8 + z (32 + w k) < 2147483648 by omega), i_ix (show t * 8 + z (23 + w k) < 2147483648 by omega), i_ix (show t * 8 + z (32 + w k) < 2147483648 by omega), h52 (d * 8 + pl) (by omega), h52 (t * 8 + z (32 + w k)) (by omega), h50 pl (z (23 + w k)) (by omega) (by omega), h50 pl (z (32 + w k)) (by omega) (by omega), i_mn (show C (t * 8 + z (32 + w k)) < 2147483648 by omega) (show C (d * 8 + pl) + z (41 + w k) + dst z U 0 pl (z (23 + w k)) < 2147483648 by omega), u2, i_mn (show C (t * 8 + z (23 + w k)) < 2147483648 by omega) (show C (d * 8 + pl) + z (41 + w k) + dst z U 0 pl (z (32 + w k)) < 2147483648 by omega), nI_1]
theorem cl_dw (hw : WFl z B) {U : Nat} {w : Nat → Nat} {c : Nat} (hN : WN z U w c) {d k : Nat} (hd : d < 512) (hk : k < c) (hb : d.testBit k = false) {C : Nat → Nat} (hS : DS z U w c σ C) : ∃ τ C', F_X5_doWanted (nI d) (nI k) σ = some τ ∧ (∀ x, x ≠ 52 → τ x = σ x) ∧ DS z U w c τ C' ∧ KP z U w c d C C' ∧ ∀ r, r < z 1 → cl1 z U w C' d k r := by
  have hc9 := hN.1
  have h1 := hw.2.2.2.1
  have h2 := hw.2.2.2.2.1
  obtain ⟨hr, hdue⟩ := hN.2.1 k hk
  obtain ⟨τ, C', r1, r2, r3, r4, r5⟩ := dw_loop hw hN hd hk hb (z 1) 0 fr_fu σ C (by omega) (by have := fr_fu_big; omega) hS (fun r hr => absurd hr (Nat.not_lt_zero _))
  refine ⟨τ, C', ?_, r2, r3, r4, r5⟩
  unfold F_X5_doWanted
  rw [i_chk (show k < 9 by omega) (by omega), fr_let_eq, fr_let_eq, i_ix (by omega), hS.2.2.1 k hk, cl_oneEnd (o := 15) hS.1 (by omega), fr_bP_mk, cl_otherEnd (o := 15) hS.1 (by omega), fr_bP_mk, show (1 : Int32) = nI 1 from rfl, show (31 : Int32) = nI 31 from rfl, i_shl (by omega), i_or, show (8 : Int32) = nI 8 from rfl, i_mul, show L_X5_doWanted_40 (nI d) (nI (w k)) (nI ((d ||| 2 ^ k) * 8)) (nI (z (23 + w k))) (nI (z (32 + w k))) fr_fu (0 : Int32) σ = _ from r1, fr_bP_mk]
theorem i_bit0 {w a : Nat} (hw : w < 512) (ha : a < 9) : ((nI w >>> (nI a &&& nI 31)) &&& nI 1 = nI 0) ↔ w.testBit a = false := by
  have : ∀ w, w < 512 → ∀ a, a < 9 → (((nI w >>> (nI a &&& nI 31)) &&& nI 1 = nI 0) ↔ w.testBit a = false) := by decide +kernel
  exact this w hw a ha
theorem ro_67 (hw : WFl z B) {U : Nat} {w : Nat → Nat} {c : Nat} (hN : WN z U w c) {d : Nat} (hd : d < 512) : ∀ (m k n : Nat) (σ : fr_St) (C : Nat → Nat), k + m = c → m < n → DS z U w c σ C → (∀ k' r, k' < k → d.testBit k' = false → r < z 1 → cl1 z U w C d k' r) → ∃ τ C', L_X5_roundOf_67 (nI c) (nI d) n (nI k) σ = some (nI c, τ) ∧ (∀ x, x ≠ 52 → τ x = σ x) ∧ DS z U w c τ C' ∧ KP z U w c d C C' ∧ ∀ k' r, k' < c → d.testBit k' = false → r < z 1 → cl1 z U w C' d k' r := by
  have hc9 := hN.1
  have h1 := hw.2.2.2.1
  intro m
  induction m with
  | zero =>
    intro k n σ C hk hn hS hcl
    obtain ⟨n, rfl⟩ : ∃ m, n = m + 1 := ⟨n - 1, by omega⟩
    have hk : k = c := by omega
    subst hk
    refine ⟨σ, C, ?_, fun _ _ => rfl, hS, KP.rf, hcl⟩
    rw [L_X5_roundOf_67, if_pos ((i_le (by omega) (by omega)).mpr (Nat.le_refl _))]
  | succ m ih =>
    intro k n σ C hk hn hS hcl
    obtain ⟨n, rfl⟩ : ∃ m, n = m + 1 := ⟨n - 1, by omega⟩
    have e := i_bit0 hd (show k < 9 by omega)
    rw [L_X5_roundOf_67, if_neg (fun q => absurd ((i_le (by omega) (by omega)).mp q) (by omega))]
    by_cases hb : d.testBit k = false
    · rw [if_pos (show (nI d >>> (nI k &&& 31)) &&& (1 : Int32) = 0 from e.mpr hb)]
      obtain ⟨s, C1, r1, r2, r3, r4, r5⟩ := cl_dw hw hN hd (show k < c by omega) hb hS
      obtain ⟨τ, C', q1, q2, q3, q4, q5⟩ := ih (k + 1) n s C1 (by omega) (by omega) r3 (fun k' r hk' hb' hr => by
        by_cases q : k' = k
        · subst q; exact r5 r hr
        · exact r4.1 d k' r (Nat.le_refl _) (by omega) (hcl k' r (by omega) hb' hr))
      refine ⟨τ, C', ?_, fun x hx => by rw [q2 x hx, r2 x hx], q3, r4.tr q4 (Nat.le_refl _), q5⟩
      rw [r1, fr_bS_mk, fr_bS_mk, fr_let_eq, nI_1]
      exact q1
    · rw [if_neg (show ¬ (nI d >>> (nI k &&& 31)) &&& (1 : Int32) = 0 from fun q => hb (e.mp q)), fr_bS_mk, fr_let_eq, nI_1]
      exact ih (k + 1) n σ C (by omega) (by omega) hS (fun k' r hk' hb' hr => by
        by_cases q : k' = k
        · subst q; exact absurd hb' hb
        · exact hcl k' r (by omega) hb' hr)
theorem ro_57 (hw : WFl z B) {U : Nat} {w : Nat → Nat} {c : Nat} (hN : WN z U w c) : ∀ (m d n : Nat) (σ : fr_St) (C : Nat → Nat), d + m = 2 ^ c - 1 → m < n → DS z U w c σ C → (∀ d' k r, d' < d → k < c → d'.testBit k = false → r < z 1 → cl1 z U w C d' k r) → ∃ τ C', L_X5_roundOf_57 (nI c) (nI (2 ^ c - 1)) n (nI d) σ = some (nI (2 ^ c - 1), τ) ∧ (∀ x, x ≠ 52 → τ x = σ x) ∧ DS z U w c τ C' ∧ ((∀ R, RC z U R → Sd z U w c R C → Sd z U w c R C') ∧ ∀ i, C' i ≤ C i) ∧ ∀ d' k r, d' < 2 ^ c - 1 → k < c → d'.testBit k = false → r < z 1 → cl1 z U w C' d' k r := by
  have hc9 := hN.1
  have h1 := hw.2.2.2.1
  have hpw : 2 ^ c ≤ 512 := show 2 ^ c ≤ 2 ^ 9 from Nat.pow_le_pow_right (by omega) hc9
  intro m
  induction m with
  | zero =>
    intro d n σ C hd hn hS hcl
    obtain ⟨n, rfl⟩ : ∃ m, n = m + 1 := ⟨n - 1, by omega⟩
    have hd : d = 2 ^ c - 1 := by omega
    rw [← hd]
    refine ⟨σ, C, ?_, fun _ _ => rfl, hS, ⟨fun _ _ q => q, fun _ => Nat.le_refl _⟩, hcl⟩
    rw [L_X5_roundOf_57, if_pos ((i_le (by omega) (by omega)).mpr (Nat.le_refl _))]
  | succ m ih =>
    intro d n σ C hd hn hS hcl
    obtain ⟨n, rfl⟩ : ∃ m, n = m + 1 := ⟨n - 1, by omega⟩
    obtain ⟨s, C1, r1, r2, r3, r4, r5⟩ := ro_67 hw hN (show d < 512 by omega) c 0 fr_fu σ C (by omega) (by have := fr_fu_big; omega) hS (fun k' r hk' => absurd hk' (Nat.not_lt_zero _))
    obtain ⟨τ, C', q1, q2, q3, q4, q5⟩ := ih (d + 1) n s C1 (by omega) (by omega) r3 (fun d' k r hd' hk hb hr => by
      by_cases q : d' = d
      · subst q; exact r5 k r hk hb hr
      · exact r4.1 d' k r (by omega) (by omega) (hcl d' k r (by omega) hk hb hr))
    refine ⟨τ, C', ?_, fun x hx => by rw [q2 x hx, r2 x hx], q3, ⟨fun R hR q => q4.1 R hR (r4.2.1 R hR q), fun i => Nat.le_trans (q4.2 i) (r4.2.2 i)⟩, q5⟩
    rw [L_X5_roundOf_57, if_neg (fun q => absurd ((i_le (by omega) (by omega)).mp q) (by omega)), show L_X5_roundOf_67 (nI c) (nI d) fr_fu (0 : Int32) σ = _ from r1, fr_bP_mk, fr_let_eq, nI_1]
    exact q1
theorem ro_111 (hw : WFl z B) {U : Nat} {w : Nat → Nat} {c f : Nat} (hN : WN z U w c) (hf : f < 8) {C : Nat → Nat} (hS : DS z U w c σ C) : ∀ (m j n : Nat), j + m = z 1 → m < n → L_X5_roundOf_111 (nI f) (nI (2 ^ c - 1)) n (nI (mnl (fun r => C ((2 ^ c - 1) * 8 + r) + dst z U 0 r f) 1000000 j)) (nI j) σ = some (nI (mnl (fun r => C ((2 ^ c - 1) * 8 + r) + dst z U 0 r f) 1000000 (z 1)), nI (z 1), σ) := by
  have hc9 := hN.1
  have h1 := hw.2.2.2.1
  have hpw : 2 ^ c ≤ 512 := show 2 ^ c ≤ 2 ^ 9 from Nat.pow_le_pow_right (by omega) hc9
  have hp0 : 0 < 2 ^ c := Nat.pow_pos (by omega)
  intro m
  induction m with
  | zero =>
    intro j n hj hn
    obtain ⟨n, rfl⟩ : ∃ m, n = m + 1 := ⟨n - 1, by omega⟩
    have hj : j = z 1 := by omega
    rw [L_X5_roundOf_111, cl_places (o := 15) hS.1, fr_bP_mk, hj, if_pos ((i_le (by omega) (by omega)).mpr (Nat.le_refl _))]
  | succ m ih =>
    intro j n hj hn
    obtain ⟨n, rfl⟩ : ∃ m, n = m + 1 := ⟨n - 1, by omega⟩
    have c1 := hS.2.2.2.2 ((2 ^ c - 1) * 8 + j)
    have d1 := dst_le (z := z) (U := U) (f := j) f
    have hle := mnl_le (fun r => C ((2 ^ c - 1) * 8 + r) + dst z U 0 r f) 1000000 j
    have em : mnl (fun r => C ((2 ^ c - 1) * 8 + r) + dst z U 0 r f) 1000000 (j + 1) = mn (mnl (fun r => C ((2 ^ c - 1) * 8 + r) + dst z U 0 r f) 1000000 j) (C ((2 ^ c - 1) * 8 + j) + dst z U 0 j f) := rfl
    rw [← ih (j + 1) n (by omega) (by omega), em, L_X5_roundOf_111, cl_places (o := 15) hS.1, fr_bP_mk, if_neg (fun q => absurd ((i_le (by omega) (by omega)).mp q) (by omega))]
    generalize mnl (fun r => C ((2 ^ c - 1) * 8 + r) + dst z U 0 r f) 1000000 j = b at hle ⊢
    generalize htd : 2 ^ c - 1 = t at *
    simp only [show (8 : Int32) = nI 8 from rfl, fr_let_eq, i_mul, i_add, i_chk (show t * 8 + j < 4096 by omega) (show 4096 < 2147483648 by decide), i_chk (show j * 8 + f < 64 by omega) (show 64 < 2147483648 by decide), i_ix (show t * 8 + j < 2147483648 by omega), i_ix (show j * 8 + f < 2147483648 by omega), hS.2.2.2.1 (t * 8 + j) (by omega), hS.2.1 j f (by omega) hf, i_mn (show b < 2147483648 by omega) (show C (t * 8 + j) + dst z U 0 j f < 2147483648 by omega), nI_1]
theorem sbs_0 (y : Nat) : sbs 0 y := fun j hj => by rw [Nat.zero_testBit] at hj; cases hj
theorem cl_round (hc : CR z (σ 16)) (hw : WFl z B) (hB : B ≤ 100000) {q : Nat} (hq : q < z 3) : ∃ (τ : fr_St) (w : Nat → Nat) (c : Nat) (C : Nat → Nat), F_X5_roundOf (nI q) σ = some (orN (mnl (fun r => C ((2 ^ c - 1) * 8 + r) + dst z (opm z q) 0 r (z (6 + q))) 1000000 (z 1)), τ) ∧ (∀ x, ¬ scr x → τ x = σ x) ∧ WN z (opm z q) w c ∧ (∀ d k r, d < 2 ^ c → k < c → d.testBit k = false → r < z 1 → cl1 z (opm z q) w C d k r) ∧ ((∀ R, RC z (opm z q) R → R (512 * z (6 + q)) = 0 → Sd z (opm z q) w c R C) ∧ C (z (6 + q)) = 0) := by
  have h1 := hw.2.2.2.1
  have h2 := hw.2.2.2.2.1
  have h3 := hw.2.2.2.2.2.1
  have hp := (hw.2.2.2.2.2.2.2.2.1 q hq).1
  have hU : opm z q < 512 := Nat.lt_of_lt_of_le opm_lt (Nat.pow_le_pow_right (by omega) h2)
  obtain ⟨s1, a1, a2, a3⟩ := cl_spans hc hw hU
  obtain ⟨s2, w, c, b1, b2, b3, b4⟩ := cl_list (σ := s1) (by rw [a2 16 (by omega) (by omega) (by omega)]; exact hc) hw hU
  have hc9 := b3.1
  have hpw : 2 ^ c ≤ 512 := show 2 ^ c ≤ 2 ^ 9 from Nat.pow_le_pow_right (by omega) hc9
  have hp0 : 0 < 2 ^ c := Nat.pow_pos (by omega)
  have hS0 : DS z (opm z q) w c (fr_up (fr_row s2 52 (blk (s2 52) 0 4096 (fun _ => 1000000))) 52 (z (6 + q)) 0) (fun i => if i = z (6 + q) then 0 else 1000000) := by
    have hf : ∀ x, x ≠ 52 → (fr_up (fr_row s2 52 (blk (s2 52) 0 4096 (fun _ => 1000000))) 52 (z (6 + q)) 0) x = s2 x := fun x hx => by rw [fr_up_ne _ _ _ hx, fr_row_ne _ _ hx]
    refine ⟨by rw [hf 16 (by omega), b2 16 (by omega), a2 16 (by omega) (by omega) (by omega)]; exact hc, by rw [hf 50 (by omega), b2 50 (by omega)]; exact a3, by rw [hf 51 (by omega)]; exact b4, fun i hi => ?_, fun i => by show (if i = z (6 + q) then 0 else 1000000) ≤ 1000000; split <;> omega⟩
    rw [fr_up_row, fr_row_same]
    show upd (blk (s2 52) 0 4096 (fun _ => 1000000)) (z (6 + q)) 0 i = nI (if i = z (6 + q) then 0 else 1000000)
    by_cases e : i = z (6 + q)
    · subst e
      rw [upd_at, if_pos rfl]
      rfl
    · rw [upd_ne _ _ e, if_neg e, blk_in0 hi]
      rfl
  obtain ⟨τ, C, q1, q2, q3, q4, q5⟩ := ro_57 hw b3 (2 ^ c - 1) 0 fr_fu _ _ (by omega) (by have := fr_fu_big; omega) hS0 (fun d' k r hd' => absurd hd' (Nat.not_lt_zero _))
  have hle := mnl_le (fun r => C ((2 ^ c - 1) * 8 + r) + dst z (opm z q) 0 r (z (6 + q))) 1000000 (z 1)
  have r1 := ro_111 hw b3 (show z (6 + q) < 8 by omega) q3 (z 1) 0 fr_fu (by omega) (by have := fr_fu_big; omega)
  refine ⟨τ, w, c, C, ?_, fun x hx => ?_, b3, fun d k r hd hk hb hr => q5 d k r ?_ hk hb hr, ⟨fun R hR hR0 => q4.1 R hR ?_, ?_⟩⟩
  · unfold F_X5_roundOf
    rw [cl_placeOf (o := 15) hc (by omega), fr_bP_mk, cl_openTo (o := 15) hc hw hB hq, fr_bP_mk, a1, fr_bS_mk, b1, fr_bP_mk, fr_let_eq, fill_eq 52 4096 _ s2 (by omega), fr_bS_mk, i_chk (show z (6 + q) < 4096 by omega) (by omega), fr_let_eq, i_ix (by omega), show (1 : Int32) = nI 1 from rfl, show (31 : Int32) = nI 31 from rfl, i_shl (by omega), i_sub (by omega), show L_X5_roundOf_57 (nI c) (nI (2 ^ c - 1)) fr_fu (0 : Int32) _ = _ from q1, fr_bP_mk, show L_X5_roundOf_111 (nI (z (6 + q))) (nI (2 ^ c - 1)) fr_fu (1000000 : Int32) (0 : Int32) τ = _ from r1, fr_bP_mk, fr_pP_mk, cl_noneIf hle, fr_bP_mk]
  · have hx' : x ≠ 47 ∧ x ≠ 48 ∧ x ≠ 50 ∧ x ≠ 51 ∧ x ≠ 52 := by unfold scr at hx; omega
    rw [q2 x hx'.2.2.2.2, fr_up_ne _ _ _ hx'.2.2.2.2, fr_row_ne _ _ hx'.2.2.2.2, b2 x hx'.2.2.2.1, a2 x hx'.1 hx'.2.1 hx'.2.2.1]
  · have : d ≠ 2 ^ c - 1 := fun e => by
      rw [e, ← msk_true c, msk_bit, decide_eq_true hk] at hb
      cases hb
    omega
  · intro d p hd hp8
    show (if d * 8 + p = z (6 + q) then 0 else 1000000) = 1000000 ∨ _
    by_cases e : d * 8 + p = z (6 + q)
    · have e0 : d = 0 := by omega
      subst e0
      have e1 : p = z (6 + q) := by omega
      subst e1
      refine Or.inr ⟨?_, 0, by omega, sbs_0 _, fun k _ hk => (by rw [Nat.zero_testBit] at hk; cases hk), ?_⟩
      · show (if 0 * 8 + z (6 + q) = z (6 + q) then 0 else 1000000) ≤ _
        rw [if_pos e]
        exact Nat.zero_le _
      · show R (512 * z (6 + q) + 0) ≤ (if 0 * 8 + z (6 + q) = z (6 + q) then 0 else 1000000)
        rw [if_pos e, Nat.add_zero, hR0]
        exact Nat.le_refl _
    · exact Or.inl (if_neg e)
  · have := q4.2 (z (6 + q))
    rw [if_pos rfl] at this
    omega
end RMC
