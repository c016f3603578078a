section RPE
variable {s t : fr_St} {T : Nat → Nat} {m p : Nat} {z : Nat → Nat}
theorem cl_meetToday {o : Nat} (hc : CR z (s (o + 1))) {k q : Nat} (hk : k < 9) (hq : q < 4) : ∃ s', F_X3_meetToday o (nI k) (nI q) s = some s' ∧ (∀ x, x ≠ o + 1 → s' x = s x) ∧ CR (zup (zup z (50 + (k * 4 + q)) (z (50 + (k * 4 + q)) + 1)) (86 + (k * 4 + q)) (z 4)) (s' (o + 1)) := by
  have e1 : s (o + 1) (50 + (k * 4 + q)) = nI (z (50 + (k * 4 + q))) := (hc.2.2.2 (k * 4 + q) (by omega)).1
  have e2 : (fr_up s (o + 1) (50 + (k * 4 + q)) (nI (z (50 + (k * 4 + q)) + 1))) (o + 1) 4 = nI (z 4) := by rw [fr_up_at, upd_ne _ _ (by omega), hc.1 4 (by omega)]
  refine ⟨fr_up (fr_up s (o + 1) (50 + (k * 4 + q)) (nI (z (50 + (k * 4 + q)) + 1))) (o + 1) (86 + (k * 4 + q)) (nI (z 4)), ?_, fun x hx => by rw [fr_up_ne _ _ _ hx, fr_up_ne _ _ _ hx], ?_⟩
  · unfold F_X3_meetToday F_X3_meeting
    rw [fr_bP_mk, show (4 : Int32) = nI 4 from rfl, show (50 : Int32) = nI 50 from rfl, show (86 : Int32) = nI 86 from rfl, i_mul, i_add, i_add, i_add, i_chk (by omega) (by omega), i_chk (by omega) (by omega), i_ix (by omega), e1, nI_1, fr_let_eq]
    show fr_bP (some ((fr_up s (o + 1) (50 + (k * 4 + q)) (nI (z (50 + (k * 4 + q)) + 1))) (o + 1) 4, _)) _ = _
    rw [e2, fr_bP_mk, i_chk (by omega) (by omega), i_ix (by omega), fr_let_eq]
  · rw [fr_up_at, fr_up_at]
    exact CR_meet hc (by omega) _ _
/-- who met which road: the first j roads -/
def pzl (z : Nat → Nat) (K q : Nat) : Nat → (Nat → Nat)
  | 0 => z
  | j + 1 => if K.testBit j = true ∧ z (14 + j) ≠ 5 then zup (pzl z K q j) (50 + (j * 4 + q)) 2 else pzl z K q j
theorem pzl_out {K q x : Nat} : ∀ {j : Nat}, (∀ i, i < j → x ≠ 50 + (i * 4 + q)) → pzl z K q j x = z x
  | 0, _ => rfl
  | j + 1, h => by
    show (if K.testBit j = true ∧ z (14 + j) ≠ 5 then zup (pzl z K q j) (50 + (j * 4 + q)) 2 else pzl z K q j) x = z x
    have ih := pzl_out (K := K) (q := q) (j := j) (fun i hi => h i (by omega))
    split
    · rw [zup_ne _ _ (h j (by omega)), ih]
    · exact ih
theorem pzl_le {K q x : Nat} (hx : z x ≤ 2) : ∀ j, pzl z K q j x ≤ 2
  | 0 => hx
  | j + 1 => by
    show (if K.testBit j = true ∧ z (14 + j) ≠ 5 then zup (pzl z K q j) (50 + (j * 4 + q)) 2 else pzl z K q j) x ≤ 2
    have ih := pzl_le (K := K) (q := q) hx j
    split
    · unfold zup
      split
      · omega
      · exact ih
    · exact ih
theorem ap_loop {K q : Nat} (hK : K < 512) (hq : q < 4) (h2 : z 2 ≤ 9) (h4 : z 4 = 0) (hb : ∀ k, k < 9 → z (14 + k) ≤ 5) (h0 : ∀ k, k < 9 → z (50 + (k * 4 + q)) = 0 ∧ z (86 + (k * 4 + q)) = 0) : ∀ (d j n : Nat) (s : fr_St), j + d = z 2 → d < n → CR (pzl z K q j) (s 18) → ∃ s', L_X3_addPerson_44 17 (nI K) (nI q) n (nI j) s = some (nI (z 2), s') ∧ (∀ x, x ≠ 18 → s' x = s x) ∧ CR (pzl z K q (z 2)) (s' 18) := by
  intro d
  induction d with
  | zero =>
    intro j n s hj hn hc
    obtain ⟨n, rfl⟩ : ∃ m, n = m + 1 := ⟨n - 1, by omega⟩
    have hj : j = z 2 := by omega
    refine ⟨s, ?_, fun x _ => rfl, by rw [← hj]; exact hc⟩
    rw [L_X3_addPerson_44, cl_roads (o := 17) hc, pzl_out (fun i hi => by omega), fr_bP_mk, hj, if_pos ((i_le (by omega) (by omega)).mpr (Nat.le_refl _))]
  | succ d ih =>
    intro j n s hj hn hc
    obtain ⟨n, rfl⟩ : ∃ m, n = m + 1 := ⟨n - 1, by omega⟩
    have hl := hb j (by omega)
    have e := i_bit hK (show j < 9 by omega)
    have step : ∀ s1 : fr_St, (∀ x, x ≠ 18 → s1 x = s x) → CR (pzl z K q (j + 1)) (s1 18) → L_X3_addPerson_44 17 (nI K) (nI q) (n + 1) (nI j) s = L_X3_addPerson_44 17 (nI K) (nI q) n (nI (j + 1)) s1 → ∃ s', L_X3_addPerson_44 17 (nI K) (nI q) (n + 1) (nI j) s = some (nI (z 2), s') ∧ (∀ x, x ≠ 18 → s' x = s x) ∧ CR (pzl z K q (z 2)) (s' 18) := by
      intro s1 f1 c1 e1
      obtain ⟨s', g1, g2, g3⟩ := ih (j + 1) n s1 (by omega) (by omega) c1
      exact ⟨s', by rw [e1, g1], fun x hx => by rw [g2 x hx, f1 x hx], g3⟩
    have hkd : pzl z K q j (14 + j) = z (14 + j) := pzl_out (fun i hi => by omega)
    have same : ¬ (K.testBit j = true ∧ z (14 + j) ≠ 5) → pzl z K q (j + 1) = pzl z K q j := fun h => by
      show (if K.testBit j = true ∧ z (14 + j) ≠ 5 then _ else pzl z K q j) = _
      rw [if_neg h]
    by_cases hbt : K.testBit j = true
    · by_cases h5 : z (14 + j) = 5
      · refine step s (fun x _ => rfl) (by rw [same (fun q => q.2 h5)]; exact hc) ?_
        rw [L_X3_addPerson_44, cl_roads (o := 17) hc, pzl_out (fun i hi => by omega), fr_bP_mk, if_neg (fun q => absurd ((i_le (by omega) (by omega)).mp q) (by omega)), if_pos (show (nI K >>> (nI j &&& 31)) &&& (1 : Int32) = 1 from e.mpr hbt), cl_kindOf (o := 17) hc (by omega), fr_bP_mk, hkd, if_pos (by rw [h5]; rfl), fr_bS_mk, fr_let_eq, nI_1]
      · obtain ⟨s1, a1, a2, a3⟩ := cl_meetToday (o := 17) hc (k := j) (q := q) (by omega) hq
        obtain ⟨s2, b1, b2, b3⟩ := cl_meetToday (o := 17) a3 (k := j) (q := q) (by omega) hq
        have hz0 : pzl z K q j (50 + (j * 4 + q)) = 0 := by rw [pzl_out (fun i hi => by omega)]; exact (h0 j (by omega)).1
        have hz8 : pzl z K q j (86 + (j * 4 + q)) = 0 := by rw [pzl_out (fun i hi => by omega)]; exact (h0 j (by omega)).2
        have hz4 : pzl z K q j 4 = 0 := by rw [pzl_out (fun i hi => by omega)]; exact h4
        have ez : zup (zup (zup (zup (pzl z K q j) (50 + (j * 4 + q)) (pzl z K q j (50 + (j * 4 + q)) + 1)) (86 + (j * 4 + q)) (pzl z K q j 4)) (50 + (j * 4 + q)) (zup (zup (pzl z K q j) (50 + (j * 4 + q)) (pzl z K q j (50 + (j * 4 + q)) + 1)) (86 + (j * 4 + q)) (pzl z K q j 4) (50 + (j * 4 + q)) + 1)) (86 + (j * 4 + q)) (zup (zup (pzl z K q j) (50 + (j * 4 + q)) (pzl z K q j (50 + (j * 4 + q)) + 1)) (86 + (j * 4 + q)) (pzl z K q j 4) 4) = pzl z K q (j + 1) := by
          show _ = (if K.testBit j = true ∧ z (14 + j) ≠ 5 then zup (pzl z K q j) (50 + (j * 4 + q)) 2 else pzl z K q j)
          rw [if_pos ⟨hbt, h5⟩, zup_ne _ _ (show 4 ≠ 86 + (j * 4 + q) by omega), zup_ne _ _ (show 4 ≠ 50 + (j * 4 + q) by omega), zup_ne _ _ (show 50 + (j * 4 + q) ≠ 86 + (j * 4 + q) by omega), zup_at, hz0, hz4, zup_comm _ _ _ (show 86 + (j * 4 + q) ≠ 50 + (j * 4 + q) by omega), zup_zup, zup_zup]
          exact zup_self (by rw [zup_ne _ _ (by omega)]; exact hz8)
        rw [ez] at b3
        refine step s2 (fun x hx => by rw [b2 x hx, a2 x hx]) b3 ?_
        rw [L_X3_addPerson_44, cl_roads (o := 17) hc, pzl_out (fun i hi => by omega), fr_bP_mk, if_neg (fun q => absurd ((i_le (by omega) (by omega)).mp q) (by omega)), if_pos (show (nI K >>> (nI j &&& 31)) &&& (1 : Int32) = 1 from e.mpr hbt), cl_kindOf (o := 17) hc (by omega), fr_bP_mk, hkd, if_neg (show ¬ nI (z (14 + j)) = (5 : Int32) from fun q => h5 ((i_eq (b := 5) (by omega) (by omega)).mp q)), a1, fr_bS_mk, b1, fr_bS_mk, fr_bS_mk, fr_let_eq, nI_1]
    · refine step s (fun x _ => rfl) (by rw [same (fun q => hbt q.1)]; exact hc) ?_
      rw [L_X3_addPerson_44, cl_roads (o := 17) hc, pzl_out (fun i hi => by omega), fr_bP_mk, if_neg (fun q => absurd ((i_le (by omega) (by omega)).mp q) (by omega)), if_neg (show ¬ (nI K >>> (nI j &&& 31)) &&& (1 : Int32) = 1 from fun q => hbt (e.mp q)), fr_bS_mk, fr_let_eq, nI_1]
def zp0 (z : Nat → Nat) (a : Nat) : Nat → Nat := zup (zup (zup z (6 + z 3) a) (10 + z 3) (z 3)) 3 (z 3 + 1)
def zpe (z : Nat → Nat) (a K : Nat) : Nat → Nat := pzl (zp0 z a) K (z 3) (z 2)
theorem zp0_out {a x : Nat} (h1 : x ≠ 3) (h2 : x < 6 ∨ 14 ≤ x) (h4 : z 3 < 4) : zp0 z a x = z x := by
  unfold zp0
  rw [zup_ne _ _ h1, zup_ne _ _ (by omega), zup_ne _ _ (by omega)]
theorem cl_addPerson (hc : CR z (s 18)) (hd : DW z) (h4 : z 3 < 4) {a K : Nat} (hK : K < 512) : ∃ s', F_X3_addPerson 17 (nI a) (nI K) s = some s' ∧ (∀ x, x ≠ 18 → s' x = s x) ∧ CR (zpe z a K) (s' 18) := by
  obtain ⟨hw, hd4, hd5, hd6⟩ := hd
  have h2 := hw.2.2.2.2.1
  have c1 := CR_up hc (i := 42 + z 3) (K := 6 + z 3) a (Or.inr (Or.inr (Or.inl ⟨z 3, h4, rfl, rfl⟩)))
  have c2 := CR_up c1 (i := 46 + z 3) (K := 10 + z 3) (z 3) (Or.inr (Or.inr (Or.inr ⟨z 3, h4, rfl, rfl⟩)))
  have c3 := CR_upR c2 (i := 3) (K := 3) (z 3 + 1) (by omega)
  have e3 : (fr_up (fr_up s 18 (42 + z 3) (nI a)) 18 (46 + z 3) (nI (z 3))) 18 3 = nI (z 3) := by
    rw [fr_up_at, upd_ne _ _ (by omega), fr_up_at, upd_ne _ _ (by omega), hc.1 3 (by omega)]
  obtain ⟨s', g1, g2, g3⟩ := ap_loop (z := zp0 z a) (K := K) (q := z 3) hK h4 (by rw [zp0_out (by omega) (by omega) h4]; exact h2) (by rw [zp0_out (by omega) (by omega) h4]; exact hd4) (fun k hk => by rw [zp0_out (by omega) (by omega) h4]; exact (hw.2.2.2.2.2.2.2.2.2.2 k hk).1) (fun k hk => by
    rw [zp0_out (by omega) (by omega) h4, zp0_out (by omega) (by omega) h4]
    refine ⟨hd6 k (z 3) hk h4 (by omega), ?_⟩
    have := (hw.2.2.2.2.2.2.2.2.2.1 (k * 4 + z 3) (by omega)).2
    omega) (z 2) 0 fr_fu (fr_up (fr_up (fr_up s 18 (42 + z 3) (nI a)) 18 (46 + z 3) (nI (z 3))) 18 3 (nI (z 3 + 1))) (by rw [zp0_out (by omega) (by omega) h4]; omega) (by have := fr_fu_big; omega) (by
      rw [fr_up_at, fr_up_at, fr_up_at]
      exact c3)
  rw [zp0_out (by omega) (by omega) h4] at g1 g3
  refine ⟨s', ?_, fun x hx => by rw [g2 x hx, fr_up_ne _ _ _ hx, fr_up_ne _ _ _ hx, fr_up_ne _ _ _ hx], g3⟩
  unfold F_X3_addPerson
  rw [cl_people (o := 17) hc, fr_bP_mk, if_pos (show nI (z 3) < (4 : Int32) from (i_lt (b := 4) (by omega) (by omega)).mpr h4), show (42 : Int32) = nI 42 from rfl, show (46 : Int32) = nI 46 from rfl, i_add, i_add, i_chk (by omega) (by omega), i_ix (by omega), fr_let_eq, i_chk (by omega) (by omega), i_ix (by omega), fr_let_eq, fr_let_eq]
  show fr_bP (L_X3_addPerson_44 17 (nI K) (nI (z 3)) fr_fu (0 : Int32) (fr_up _ 18 3 ((fr_up (fr_up s 18 (42 + z 3) (nI a)) 18 (46 + z 3) (nI (z 3))) 18 3 + (1 : Int32)))) _ = _
  rw [e3, nI_1, show L_X3_addPerson_44 17 (nI K) (nI (z 3)) fr_fu (0 : Int32) _ = _ from g1]
  rfl
theorem DW_zpe (h : DW z) (h4 : z 3 < 4) {a K : Nat} (ha : a < z 1) : DW (zpe z a K) ∧ zpe z a K 3 = z 3 + 1 ∧ zpe z a K 2 = z 2 ∧ zpe z a K 1 = z 1 := by
  obtain ⟨⟨a0, b0, c0, d0, e0, f0, g0, i0, j0, m0, l0⟩, h40, h50, h60⟩ := h
  have lo : ∀ x, x ≠ 3 → (x < 6 ∨ 14 ≤ x) → x < 50 ∨ 86 ≤ x → zpe z a K x = z x := fun x h3 h1 h2 => by
    unfold zpe
    rw [pzl_out (fun i hi => by omega), zp0_out h3 h1 h4]
  have v3 : zpe z a K 3 = z 3 + 1 := by
    unfold zpe
    rw [pzl_out (fun i hi => by omega)]
    exact zup_at _ _ _
  have v6 : ∀ q, q < 4 → zpe z a K (6 + q) = if q = z 3 then a else z (6 + q) := fun q hq => by
    unfold zpe zp0
    rw [pzl_out (fun i hi => by omega), zup_ne _ _ (by omega), zup_ne _ _ (by omega)]
    by_cases e : q = z 3
    · rw [if_pos e, e, zup_at]
    · rw [if_neg e, zup_ne _ _ (by omega)]
  have v10 : ∀ q, q < 4 → zpe z a K (10 + q) = if q = z 3 then z 3 else z (10 + q) := fun q hq => by
    unfold zpe zp0
    rw [pzl_out (fun i hi => by omega), zup_ne _ _ (by omega)]
    by_cases e : q = z 3
    · rw [if_pos e, e, zup_at]
    · rw [if_neg e, zup_ne _ _ (by omega), zup_ne _ _ (by omega)]
  refine ⟨⟨?_, by rw [lo 4 (by omega) (by omega) (by omega)]; exact h40, by rw [lo 5 (by omega) (by omega) (by omega)]; exact h50, fun r q hr hq h => ?_⟩, v3, lo 2 (by omega) (by omega) (by omega), lo 1 (by omega) (by omega) (by omega)⟩
  · unfold WFl
    rw [v3, lo 0 (by omega) (by omega) (by omega), lo 1 (by omega) (by omega) (by omega), lo 2 (by omega) (by omega) (by omega), lo 4 (by omega) (by omega) (by omega)]
    refine ⟨a0, b0, c0, d0, e0, by omega, g0, fun k hk => ?_, fun q hq => ?_, fun j hj => ?_, fun k hk => ?_⟩
    · rw [lo (14 + k) (by omega) (by omega) (by omega), lo (23 + k) (by omega) (by omega) (by omega), lo (32 + k) (by omega) (by omega) (by omega), lo (41 + k) (by omega) (by omega) (by omega)]
      exact i0 k hk
    · rw [v6 q (by omega), v10 q (by omega)]
      by_cases e : q = z 3
      · rw [if_pos e, if_pos e]
        omega
      · rw [if_neg e, if_neg e]
        have := j0 q (by omega)
        omega
    · have hm := m0 j hj
      refine ⟨?_, by rw [lo (86 + j) (by omega) (by omega) (by omega)]; exact hm.2⟩
      unfold zpe
      exact pzl_le (by rw [zp0_out (by omega) (by omega) h4]; exact hm.1) _
    · rw [lo (14 + k) (by omega) (by omega) (by omega), lo (23 + k) (by omega) (by omega) (by omega), lo (32 + k) (by omega) (by omega) (by omega), lo (41 + k) (by omega) (by omega) (by omega)]
      exact l0 k hk
  · rw [v3] at h
    unfold zpe
    rw [pzl_out (fun i hi => by omega), zp0_out (by omega) (by omega) h4]
    exact h60 r q hr hq (by omega)
theorem rp_loop {K q : Nat} (hK : K < 512) (hq : q < 4) (h0 : 1 ≤ z 0) (h2 : z 2 ≤ 9) (hb : ∀ k, k < 9 → z (14 + k) ≤ 5) (hz : ∀ k, k < 9 → z (50 + (k * 4 + q)) = 0 ∧ z (86 + (k * 4 + q)) = 0) : ∀ (d j n : Nat) (t : fr_St), j + d = z 2 → d < n → RR (pzl z K q j) (t 66) → ∃ t', L_X8_readPerson_103 (nI q) (nI K) n (nI j) t = some (nI (z 2), t') ∧ (∀ x, x ≠ 66 → t' x = t x) ∧ RR (pzl z K q (z 2)) (t' 66) := by
  intro d
  induction d with
  | zero =>
    intro j n t hj hn hr
    obtain ⟨n, rfl⟩ : ∃ m, n = m + 1 := ⟨n - 1, by omega⟩
    have hj : j = z 2 := by omega
    refine ⟨t, ?_, fun x _ => rfl, by rw [← hj]; exact hr⟩
    rw [L_X8_readPerson_103, hr.1 2 (by omega), pzl_out (fun i hi => by omega), hj, if_pos ((i_le (by omega) (by omega)).mpr (Nat.le_refl _))]
  | succ d ih =>
    intro j n t hj hn hr
    obtain ⟨n, rfl⟩ : ∃ m, n = m + 1 := ⟨n - 1, by omega⟩
    have hl := hb j (by omega)
    have hkd : pzl z K q j (14 + j) = z (14 + j) := pzl_out (fun i hi => by omega)
    have hz0 : pzl z K q j (50 + (j * 4 + q)) = 0 := by rw [pzl_out (fun i hi => by omega)]; exact (hz j (by omega)).1
    have hz8 : pzl z K q j (86 + (j * 4 + q)) = 0 := by rw [pzl_out (fun i hi => by omega)]; exact (hz j (by omega)).2
    have em : fr_bS (if fr_bi (K.testBit j) = 0 then some (0 : Int32) else (if nI (z (14 + j)) = (5 : Int32) then some (0 : Int32) else some (1 : Int32))) some = some (if K.testBit j = true ∧ z (14 + j) ≠ 5 then (1 : Int32) else 0) := by
      cases K.testBit j
      · rfl
      · by_cases h5 : z (14 + j) = 5
        · rw [if_neg fr_nb, if_pos (by rw [h5]; rfl), if_neg (fun q => q.2 h5)]
          rfl
        · rw [if_neg fr_nb, if_neg (show ¬ nI (z (14 + j)) = (5 : Int32) from fun q => h5 ((i_eq (b := 5) (by omega) (by omega)).mp q)), if_pos ⟨rfl, h5⟩]
          rfl
    have em' : (if fr_bi (K.testBit j) = 0 then some (0 : Int32) else (if nI (z (14 + j)) = (5 : Int32) then some (0 : Int32) else some (1 : Int32))) = some (if K.testBit j = true ∧ z (14 + j) ≠ 5 then (1 : Int32) else 0) := by
      rw [← em]
      generalize (if fr_bi (K.testBit j) = 0 then some (0 : Int32) else (if nI (z (14 + j)) = (5 : Int32) then some (0 : Int32) else some (1 : Int32))) = x
      cases x <;> rfl
    have st : ∀ v7 v12 : Int32, (if (if K.testBit j = true ∧ z (14 + j) ≠ 5 then (1 : Int32) else 0) = 0 then some (0 : Int32) else some (2 : Int32)) = some v7 → (if (if K.testBit j = true ∧ z (14 + j) ≠ 5 then (1 : Int32) else 0) = 0 then some (-1000000 : Int32) else some (0 : Int32)) = some v12 → L_X8_readPerson_103 (nI q) (nI K) (n + 1) (nI j) t = L_X8_readPerson_103 (nI q) (nI K) n (nI (j + 1)) (fr_up (fr_up t 66 (50 + (j * 4 + q)) v7) 66 (86 + (j * 4 + q)) v12) := by
      intro v7 v12 h7 h12
      rw [L_X8_readPerson_103, hr.1 2 (by omega), pzl_out (fun i hi => by omega), if_neg (fun q => absurd ((i_le (by omega) (by omega)).mp q) (by omega)), rf_has hK (by omega), fr_bP_mk, show (14 : Int32) = nI 14 from rfl, show (50 : Int32) = nI 50 from rfl, show (86 : Int32) = nI 86 from rfl, show (4 : Int32) = nI 4 from rfl, i_mul, i_add, i_add, i_add, i_add, i_add, i_chk (by omega) (by omega), i_ix (by omega), hr.1 (14 + j) (by omega), hkd, em', fr_bS_mk, h7, fr_bS_mk, i_chk (by omega) (by omega), fr_let_eq, h12, fr_bS_mk, i_chk (by omega) (by omega), fr_let_eq, fr_let_eq, i_ix (by omega), i_ix (by omega), show 50 + 4 * j + q = 50 + (j * 4 + q) by omega, show 86 + 4 * j + q = 86 + (j * 4 + q) by omega, nI_1]
    by_cases hmt : K.testBit j = true ∧ z (14 + j) ≠ 5
    · have ez : pzl z K q (j + 1) = zup (pzl z K q j) (50 + (j * 4 + q)) 2 := if_pos hmt
      have r1 : RR (pzl z K q (j + 1)) ((fr_up (fr_up t 66 (50 + (j * 4 + q)) 2) 66 (86 + (j * 4 + q)) 0) 66) := by
        have := RR_meet hr (J := j * 4 + q) (by omega) (t := 2) 0 (by omega)
        rw [zup_self (show zup (pzl z K q j) (50 + (j * 4 + q)) 2 (86 + (j * 4 + q)) = 0 by rw [zup_ne _ _ (by omega)]; exact hz8)] at this
        rw [ez, fr_up_at, fr_up_at]
        exact this
      obtain ⟨t', g1, g2, g3⟩ := ih (j + 1) n _ (by omega) (by omega) r1
      refine ⟨t', ?_, fun x hx => by rw [g2 x hx, fr_up_ne _ _ _ hx, fr_up_ne _ _ _ hx], g3⟩
      rw [st 2 0 (by rw [if_pos hmt]; rfl) (by rw [if_pos hmt]; rfl), g1]
    · have ez : pzl z K q (j + 1) = pzl z K q j := if_neg hmt
      have r1 : RR (pzl z K q (j + 1)) ((fr_up (fr_up t 66 (50 + (j * 4 + q)) 0) 66 (86 + (j * 4 + q)) (-1000000)) 66) := by
        have := RR_zero hr (J := j * 4 + q) (by omega)
        rw [zup_self hz0] at this
        rw [ez, fr_up_at, fr_up_at]
        exact this
      obtain ⟨t', g1, g2, g3⟩ := ih (j + 1) n _ (by omega) (by omega) r1
      refine ⟨t', ?_, fun x hx => by rw [g2 x hx, fr_up_ne _ _ _ hx, fr_up_ne _ _ _ hx], g3⟩
      rw [st 0 (-1000000) (by rw [if_neg hmt]; rfl) (by rw [if_neg hmt]; rfl), g1]
theorem pe_cls (hm : m ≤ 120) (hT : ∀ i, i < 120 → T i ≤ 255) (hp : p ≤ m) (he : EC T m s) (h2 : s 13 2 = nI p) (hc : CR z (s 18)) (hd : DW z) (h4 : z 3 < 4) :
  (¬ isN T m p 0 (z 1 - 1) → FailC s (F_X4_readPerson s) (nf T m p) p) ∧
  (isN T m p 0 (z 1 - 1) → (¬ isL T m (nx T m p) 44 → FailC s (F_X4_readPerson s) 1 (nx T m p)) ∧
  (isL T m (nx T m p) 44 → (¬ isN T m (nx T m (nx T m p)) 0 (2 ^ z 2 - 1) → FailC s (F_X4_readPerson s) (nf T m (nx T m (nx T m p))) (nx T m (nx T m p))) ∧
  (isN T m (nx T m (nx T m p)) 0 (2 ^ z 2 - 1) → (¬ isL T m (nx T m (nx T m (nx T m p))) 59 → FailC s (F_X4_readPerson s) 1 (nx T m (nx T m (nx T m p)))) ∧
  (isL T m (nx T m (nx T m (nx T m p))) 59 → ∃ s', F_X4_readPerson s = some (true, s') ∧ FC s s' ∧ s' 13 2 = nI (nx T m (nx T m (nx T m (nx T m p)))) ∧ CR (zpe z (vl T m p) (vl T m (nx T m (nx T m p)))) (s' 18))))) := by
  have hw := hd.1
  have hW1 := hw.2.2.1
  have hW2 := hw.2.2.2.1
  have hM := hw.2.2.2.2.1
  have hM9 : 2 ^ z 2 ≤ 2 ^ 9 := Nat.pow_le_pow_right (by omega) hM
  have hM0 : 1 ≤ 2 ^ z 2 := Nat.pow_pos (by omega)
  have hq2 := nx_le (T := T) hp
  have hq3 := nx_le (T := T) hq2
  have hq4 := nx_le (T := T) hq3
  have hW : nI (z 1) - (1 : Int32) = nI (z 1 - 1) := i_sub (b := 1) (by omega)
  have hS : (1 : Int32) <<< (nI (z 2) &&& 31) - (1 : Int32) = nI (2 ^ z 2 - 1) := by
    rw [show (1 : Int32) <<< (nI (z 2) &&& 31) = nI (2 ^ z 2) from i_shl (by omega)]
    exact i_sub (b := 1) hM0
  refine ⟨fun n1 => ?_, fun n1 => ?_⟩
  · obtain ⟨s1, e1, f1, f2, f3⟩ := (cl_takeN hm hT hp he h2 (lo := 0) (hi := z 1 - 1) (by omega) (by omega) (-1)).2 (fun q => n1 q.1)
    have e1 : F_X4_takeNumber (0 : Int32) (nI (z 1 - 1)) (-1 : Int32) s = some (false, s1) := e1
    refine ⟨s1, ?_, f1, f2, f3⟩
    unfold F_X4_readPerson
    rw [cl_places (o := 17) hc, fr_bP_mk, hW, e1]
    rfl
  obtain ⟨s1, e1, f1, g1, h21, v1⟩ := (cl_takeN hm hT hp he h2 (lo := 0) (hi := z 1 - 1) (by omega) (by omega) (-1)).1 ⟨n1, nI_n1 (ty_en n1.1)⟩
  have e1 : F_X4_takeNumber (0 : Int32) (nI (z 1 - 1)) (-1 : Int32) s = some (true, s1) := e1
  have hc1 : CR z (s1 18) := by rw [g1]; exact hc
  refine ⟨fun l2 => ?_, fun l2 => ?_⟩
  · obtain ⟨s2, e2, f2, f3, f4⟩ := (cl_take hm hT hq2 (he.fr f1) h21 (c := 44) (by omega)).2 l2
    have e2 : F_X4_take (44 : Int32) s1 = some (false, s2) := e2
    refine ⟨s2, ?_, f1.trans f2, f3, f4⟩
    unfold F_X4_readPerson
    rw [cl_places (o := 17) hc, fr_bP_mk, hW, e1, fr_bP_mk, if_neg fr_nb, fr_let_eq, cl_roads (o := 17) hc1, fr_bP_mk, fr_let_eq, e2]
    rfl
  obtain ⟨s2, e2, f2, g2, h22⟩ := (cl_take hm hT hq2 (he.fr f1) h21 (c := 44) (by omega)).1 l2
  have e2 : F_X4_take (44 : Int32) s1 = some (true, s2) := e2
  have F2 := f1.trans f2
  refine ⟨fun n3 => ?_, fun n3 => ?_⟩
  · obtain ⟨s3, e3, f3, f4, f5⟩ := (cl_takeN hm hT hq3 (he.fr F2) h22 (lo := 0) (hi := 2 ^ z 2 - 1) (by omega) (by omega) (-1)).2 (fun q => n3 q.1)
    have e3 : F_X4_takeNumber (0 : Int32) (nI (2 ^ z 2 - 1)) (-1 : Int32) s2 = some (false, s3) := e3
    refine ⟨s3, ?_, F2.trans f3, f4, f5⟩
    unfold F_X4_readPerson
    rw [cl_places (o := 17) hc, fr_bP_mk, hW, e1, fr_bP_mk, if_neg fr_nb, fr_let_eq, cl_roads (o := 17) hc1, fr_bP_mk, fr_let_eq, e2, fr_bP_mk, if_neg fr_nb, hS, e3]
    rfl
  obtain ⟨s3, e3, f3, g3, h23, v3⟩ := (cl_takeN hm hT hq3 (he.fr F2) h22 (lo := 0) (hi := 2 ^ z 2 - 1) (by omega) (by omega) (-1)).1 ⟨n3, nI_n1 (ty_en n3.1)⟩
  have e3 : F_X4_takeNumber (0 : Int32) (nI (2 ^ z 2 - 1)) (-1 : Int32) s2 = some (true, s3) := e3
  have F3 := F2.trans f3
  have hc3 : CR z (s3 18) := by rw [g3, g2, g1]; exact hc
  obtain ⟨s6, a1, a2, a3⟩ := cl_addPerson hc3 hd h4 (a := vl T m p) (K := vl T m (nx T m (nx T m p))) (by have := n3.2.2; omega)
  have f6 : FC s3 s6 := ⟨fun x _ h => a2 x h, by rw [a2 13 (by omega)]⟩
  have F6 := F3.trans f6
  have h26 : s6 13 2 = nI (nx T m (nx T m (nx T m p))) := by rw [a2 13 (by omega)]; exact h23
  refine ⟨fun l4 => ?_, fun l4 => ?_⟩
  · obtain ⟨s7, e7, f7, f8, f9⟩ := (cl_take hm hT hq4 (he.fr F6) h26 (c := 59) (by omega)).2 l4
    have e7 : F_X4_take (59 : Int32) s6 = some (false, s7) := e7
    refine ⟨s7, ?_, F6.trans f7, f8, f9⟩
    unfold F_X4_readPerson
    rw [cl_places (o := 17) hc, fr_bP_mk, hW, e1, fr_bP_mk, if_neg fr_nb, fr_let_eq, cl_roads (o := 17) hc1, fr_bP_mk, fr_let_eq, e2, fr_bP_mk, if_neg fr_nb, hS, e3, fr_bP_mk, if_neg fr_nb, v1, v3, a1, fr_bS_mk, e7]
    rfl
  obtain ⟨s7, e7, f7, g7, h27⟩ := (cl_take hm hT hq4 (he.fr F6) h26 (c := 59) (by omega)).1 l4
  have e7 : F_X4_take (59 : Int32) s6 = some (true, s7) := e7
  refine ⟨s7, ?_, F6.trans f7, h27, by rw [g7]; exact a3⟩
  unfold F_X4_readPerson
  rw [cl_places (o := 17) hc, fr_bP_mk, hW, e1, fr_bP_mk, if_neg fr_nb, fr_let_eq, cl_roads (o := 17) hc1, fr_bP_mk, fr_let_eq, e2, fr_bP_mk, if_neg fr_nb, hS, e3, fr_bP_mk, if_neg fr_nb, v1, v3, a1, fr_bS_mk, e7]
  rfl
theorem pe_ref {p0 : Nat} (hm : m ≤ 120) (hT : ∀ i, i < 120 → T i ≤ 255) (hp0 : p0 ≤ m) (hpe : p = nx T m p0) (he : ER T m t) (hk : K2 T m p0 t) (hr : RR z (t 66)) (hd : DW z) (h4 : z 3 < 4) :
  (¬ isN T m p 0 (z 1 - 1) → FailR t (F_X8_readPerson t) (nf T m p) p) ∧
  (isN T m p 0 (z 1 - 1) → (¬ isL T m (nx T m p) 44 → FailR t (F_X8_readPerson t) 1 (nx T m p)) ∧
  (isL T m (nx T m p) 44 → (¬ isN T m (nx T m (nx T m p)) 0 (2 ^ z 2 - 1) → FailR t (F_X8_readPerson t) (nf T m (nx T m (nx T m p))) (nx T m (nx T m p))) ∧
  (isN T m (nx T m (nx T m p)) 0 (2 ^ z 2 - 1) → (¬ isL T m (nx T m (nx T m (nx T m p))) 59 → FailR t (F_X8_readPerson t) 1 (nx T m (nx T m (nx T m p)))) ∧
  (isL T m (nx T m (nx T m (nx T m p))) 59 → ∃ t', F_X8_readPerson t = some (true, t') ∧ FR t t' ∧ K2 T m (nx T m (nx T m (nx T m (nx T m p)))) t' ∧ RR (zpe z (vl T m p) (vl T m (nx T m (nx T m p)))) (t' 66))))) := by
  obtain ⟨hw, hd4, hd5, hd6⟩ := hd
  have hW0 := hw.1
  have hW1 := hw.2.2.1
  have hW2 := hw.2.2.2.1
  have hM := hw.2.2.2.2.1
  have hM9 : 2 ^ z 2 ≤ 2 ^ 9 := Nat.pow_le_pow_right (by omega) hM
  have hM0 : 1 ≤ 2 ^ z 2 := Nat.pow_pos (by omega)
  have hp : p ≤ m := by rw [hpe]; exact nx_le hp0
  have hq2 := nx_le (T := T) hp
  have hq3 := nx_le (T := T) hq2
  have hW : nI (z 1) - (1 : Int32) = nI (z 1 - 1) := i_sub (b := 1) (by omega)
  have hS : (1 : Int32) <<< (nI (z 2) &&& 31) - (1 : Int32) = nI (2 ^ z 2 - 1) := by
    rw [show (1 : Int32) <<< (nI (z 2) &&& 31) = nI (2 ^ z 2) from i_shl (by omega)]
    exact i_sub (b := 1) hM0
  obtain ⟨u, u1, u2, u3, u4⟩ := rf_next2 hm hT hp0 he hk
  rw [← hpe] at u4
  have f1 : FR u (fr_up (fr_up u 66 3 (nI (z 3 + 1))) 66 (10 + z 3) (nI (z 3))) := ⟨fun x _ h => by rw [fr_up_ne _ _ _ h, fr_up_ne _ _ _ h], fun j _ => by rw [fr_up_ne _ _ _ (by omega), fr_up_ne _ _ _ (by omega)]⟩
  have F1 := u2.trans f1
  have k1 : K2 T m p (fr_up (fr_up u 66 3 (nI (z 3 + 1))) 66 (10 + z 3) (nI (z 3))) := by unfold K2; rw [fr_up_ne _ _ _ (by omega), fr_up_ne _ _ _ (by omega)]; exact u4
  have r1 : RR (zup (zup z 3 (z 3 + 1)) (10 + z 3) (z 3)) ((fr_up (fr_up u 66 3 (nI (z 3 + 1))) 66 (10 + z 3) (nI (z 3))) 66) := by rw [fr_up_at, fr_up_at, u3]; exact RR_up (RR_up hr _ (by omega)) _ (by omega)
  generalize ht1 : fr_up (fr_up u 66 3 (nI (z 3 + 1))) 66 (10 + z 3) (nI (z 3)) = t1 at F1 k1 r1
  have e63 : u 66 3 = nI (z 3) := by rw [u3]; exact hr.1 3 (by omega)
  have hst : F_X8_readPerson t = fr_bP (F_X8_takesNumber (0 : Int32) (nI (z 1 - 1)) (nI (6 + z 3)) (44 : Int32) t1) (fun b9 s8 => if (fr_bi b9) = 0 then (some (false, s8)) else (fr_let ((s8 59 12)) (fun v10 => fr_bP (F_X8_takesNumber (0 : Int32) (((1 : Int32) <<< ((s8 66 2) &&& 31)) - (1 : Int32)) (5 : Int32) (59 : Int32) s8) (fun b13 s12 => if (fr_bi b13) = 0 then (some (false, s12)) else (fr_let (fr_up s12 66 5 (0 : Int32)) (fun s14 => fr_bP (L_X8_readPerson_103 (nI (z 3)) v10 fr_fu (0 : Int32) s14) (fun v15 s16 => some (true, s16)))))))) := by
    unfold F_X8_readPerson
    rw [hr.1 3 (by omega), fr_let_eq, if_neg (show ¬ nI (z 3) = (4 : Int32) from fun q => absurd ((i_eq (b := 4) (by omega) (by omega)).mp q) (by omega)), u1, fr_bS_mk, e63, nI_1, fr_let_eq, show (10 : Int32) = nI 10 from rfl, show (6 : Int32) = nI 6 from rfl, i_add, i_add, i_chk (by omega) (by omega), i_ix (show 10 + z 3 < 2147483648 by omega), fr_let_eq, ht1, r1.1 1 (by omega), zup_ne _ _ (by omega), zup_ne _ _ (by omega), hW]
  rw [hst]
  have N1 := rf_takesN hm hT hp (he.fr F1) k1 (lo := 0) (hi := z 1 - 1) (a := 6 + z 3) (c := 44) (by omega) (by omega) (by omega) (by omega)
  refine ⟨fun n1 => ?_, fun n1 => ?_⟩
  · obtain ⟨t2, e2, f2, f3, f4⟩ := N1.2.2 n1
    have e2 : F_X8_takesNumber (0 : Int32) (nI (z 1 - 1)) (nI (6 + z 3)) (44 : Int32) t1 = _ := e2
    exact ⟨t2, by rw [e2]; rfl, F1.trans f2, f3, f4⟩
  refine ⟨fun l2 => ?_, fun l2 => ?_⟩
  · obtain ⟨t2, e2, f2, f3, f4⟩ := N1.2.1 ⟨n1, l2⟩
    have e2 : F_X8_takesNumber (0 : Int32) (nI (z 1 - 1)) (nI (6 + z 3)) (44 : Int32) t1 = _ := e2
    exact ⟨t2, by rw [e2]; rfl, F1.trans f2, f3, f4⟩
  obtain ⟨t2, e2, f2, g2, k2⟩ := N1.1 ⟨n1, l2⟩
  have e2 : F_X8_takesNumber (0 : Int32) (nI (z 1 - 1)) (nI (6 + z 3)) (44 : Int32) t1 = _ := e2
  have F2 := F1.trans f2
  have r2 : RR (zup (zup (zup z 3 (z 3 + 1)) (10 + z 3) (z 3)) (6 + z 3) (vl T m p)) (t2 66) := by rw [g2]; exact RR_up r1 _ (by omega)
  have e66 : t2 66 2 = nI (z 2) := by rw [r2.1 2 (by omega), zup_ne _ _ (by omega), zup_ne _ _ (by omega), zup_ne _ _ (by omega)]
  have N3 := rf_takesN hm hT hq3 (he.fr F2) k2 (lo := 0) (hi := 2 ^ z 2 - 1) (a := 5) (c := 59) (by omega) (by omega) (by omega) (by omega)
  refine ⟨fun n3 => ?_, fun n3 => ?_⟩
  · obtain ⟨t4, e4, f4, f5, f6⟩ := N3.2.2 n3
    refine ⟨t4, ?_, F2.trans f4, f5, f6⟩
    rw [e2, fr_bP_mk, if_neg fr_nb, fr_let_eq, e66, hS, show F_X8_takesNumber (0 : Int32) (nI (2 ^ z 2 - 1)) (5 : Int32) (59 : Int32) t2 = _ from e4]
    rfl
  refine ⟨fun l4 => ?_, fun l4 => ?_⟩
  · obtain ⟨t4, e4, f4, f5, f6⟩ := N3.2.1 ⟨n3, l4⟩
    refine ⟨t4, ?_, F2.trans f4, f5, f6⟩
    rw [e2, fr_bP_mk, if_neg fr_nb, fr_let_eq, e66, hS, show F_X8_takesNumber (0 : Int32) (nI (2 ^ z 2 - 1)) (5 : Int32) (59 : Int32) t2 = _ from e4]
    rfl
  obtain ⟨t4, e4, f4, g4, k4⟩ := N3.1 ⟨n3, l4⟩
  have F4 := F2.trans f4
  have ez : zup (zup (zup (zup (zup z 3 (z 3 + 1)) (10 + z 3) (z 3)) (6 + z 3) (vl T m p)) 5 (vl T m (nx T m (nx T m p)))) 5 0 = zp0 z (vl T m p) := by
    rw [zup_zup, zup_self (show zup (zup (zup z 3 (z 3 + 1)) (10 + z 3) (z 3)) (6 + z 3) (vl T m p) 5 = 0 by rw [zup_ne _ _ (by omega), zup_ne _ _ (by omega), zup_ne _ _ (by omega)]; exact hd5)]
    unfold zp0
    rw [zup_comm _ _ _ (show 3 ≠ 10 + z 3 by omega), zup_comm _ _ _ (show 3 ≠ 6 + z 3 by omega), zup_comm _ _ _ (show 10 + z 3 ≠ 6 + z 3 by omega)]
  have r5 : RR (zp0 z (vl T m p)) ((fr_up t4 66 5 0) 66) := by
    rw [← ez, fr_up_at, g4]
    exact RR_up (RR_up r2 _ (by omega)) _ (by omega)
  obtain ⟨t5, q1, q2, q3⟩ := rp_loop (z := zp0 z (vl T m p)) (K := vl T m (nx T m (nx T m p))) (q := z 3) (by have := n3.2.2; omega) h4 (by rw [zp0_out (by omega) (by omega) h4]; exact hW0) (by rw [zp0_out (by omega) (by omega) h4]; exact hM) (fun k hk => by rw [zp0_out (by omega) (by omega) h4]; exact (hw.2.2.2.2.2.2.2.2.2.2 k hk).1) (fun k hk => by
    rw [zp0_out (by omega) (by omega) h4, zp0_out (by omega) (by omega) h4]
    refine ⟨hd6 k (z 3) hk h4 (by omega), ?_⟩
    have := (hw.2.2.2.2.2.2.2.2.2.1 (k * 4 + z 3) (by omega)).2
    omega) (z 2) 0 fr_fu (fr_up t4 66 5 0) (by rw [zp0_out (by omega) (by omega) h4]; omega) (by have := fr_fu_big; omega) r5
  rw [zp0_out (by omega) (by omega) h4] at q1 q3
  have f5 : FR t4 t5 := ⟨fun x _ h => by rw [q2 x h, fr_up_ne _ _ _ h], fun j _ => by rw [q2 59 (by omega), fr_up_ne _ _ _ (by omega)]⟩
  refine ⟨t5, ?_, F4.trans f5, ?_, q3⟩
  · rw [e2, fr_bP_mk, if_neg fr_nb, fr_let_eq, e66, hS, show F_X8_takesNumber (0 : Int32) (nI (2 ^ z 2 - 1)) (5 : Int32) (59 : Int32) t2 = _ from e4, fr_bP_mk, if_neg fr_nb, fr_let_eq, k2.2.2.2.1 n3.1, show L_X8_readPerson_103 (nI (z 3)) (nI (vl T m (nx T m (nx T m p)))) fr_fu (0 : Int32) (fr_up t4 66 5 0) = _ from q1]
    rfl
  · unfold K2
    rw [q2 59 (by omega), fr_up_ne _ _ _ (by omega)]
    exact k4
end RPE
