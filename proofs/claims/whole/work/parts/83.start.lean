/-! ===== what the Statement gives at the start ===== -/
theorem ov_spec {args : Array Value} {s : State} (h : (Cond.arrayOver (.array .int)).before args s = true) : ∃ (comp c : ClassId) (k : Class), s.vm.findClass "[I" = some comp ∧ s.vm.classes[c]? = some k ∧ k.kind = .array comp (.array .int) ∧ s.vm.findClass "[[I" = some c := by
  have h' : (Cond.arrayOver (.array .int)).holds args s none s [] = true := h
  simp only [Cond.holds, Cond.value, beq_iff_eq] at h'
  have e1 : (FieldType.array .int).toString = "[I" := by decide +kernel
  have e2 : "[" ++ (FieldType.array .int).toString = "[[I" := by decide +kernel
  cases hc : s.vm.findClass (FieldType.array .int).toString with
  | none => simp [hc] at h'
  | some comp =>
    simp only [hc, Option.bind_some, Option.bind_eq_some_iff, Option.map_eq_some_iff] at h'
    obtain ⟨c, hi, k, hk, hb⟩ := h'
    obtain ⟨hlt, hp, -⟩ := Array.findIdx?_eq_some_iff_getElem.mp hi
    have hkk : s.vm.classes[c] = k := (Array.getElem?_eq_some_iff.mp hk).2
    rw [hkk] at hp
    cases hkind : k.kind with
    | array component ty =>
      rw [hkind] at hb hp
      simp at hb hp
      refine ⟨comp, c, k, by rw [← e1]; exact hc, hk, by rw [hkind, hp, hb.1], by rw [← e2]; exact hb.2⟩
    | _ => rw [hkind] at hb; simp at hb
theorem l_K {s : State} {args : Array Value} (hts : ∀ w ∈ fr_tbl, w.before args s = true) (hov : (Cond.arrayOver (.array .int)).before args s = true) : ∃ (D : va_G) (cI cZ cJ : ClassId), va_K D fr_cls (n_tys cI cZ cJ) s ∧ fr_J s cI cJ := by
  obtain ⟨c0, i0, k0⟩ := u_known (C := RX0) (T := TX0) (N := 3) (n := 3) hts ix_X0 (hts _ is_X0)
  obtain ⟨c1, i1, k1⟩ := u_known (C := RX1) (T := TX1) (N := 3) (n := 3) hts ix_X1 (hts _ is_X1)
  obtain ⟨c2, i2, k2⟩ := u_known (C := RX3) (T := TX3) (N := 1) (n := 1) hts ix_X3 (hts _ is_X3)
  obtain ⟨c3, i3, k3⟩ := u_known (C := RX4) (T := TX4) (N := 7) (n := 7) hts ix_X4 (hts _ is_X4)
  obtain ⟨c4, i4, k4⟩ := u_known (C := RX5) (T := TX5) (N := 8) (n := 8) hts ix_X5 (hts _ is_X5)
  obtain ⟨c5, i5, k5⟩ := u_known (C := RX6) (T := TX6) (N := 3) (n := 3) hts ix_X6 (hts _ is_X6)
  obtain ⟨c6, i6, k6⟩ := u_known (C := RX7) (T := TX7) (N := 11) (n := 11) hts ix_X7 (hts _ is_X7)
  obtain ⟨c7, i7, k7⟩ := u_known (C := RX8) (T := TX8) (N := 26) (n := 26) hts ix_X8 (hts _ is_X8)
  obtain ⟨cI, kI, cc, a1, a2, a3⟩ := Cond.arrayClass_spec (hts _ ac_int)
  obtain ⟨cZ, kZ, cz, b1, b2, b3⟩ := Cond.arrayClass_spec (hts _ ac_boolean)
  obtain ⟨comp, cJ, kJ, o1, o2, o3, o4⟩ := ov_spec hov
  have e1 : "[" ++ (FieldType.int).toString = "[I" := by decide +kernel
  have hcI : comp = cI := by
    rw [e1] at a1
    exact Option.some.inj (o1.symm.trans a1)
  subst hcI
  refine ⟨((fun k => match k with | 0 => c0 | 1 => c1 | 2 => c2 | 3 => c3 | 4 => c4 | 5 => c5 | 6 => c6 | _ => c7), (fun k => match k with | 0 => i0 | 1 => i1 | 2 => i2 | 3 => i3 | 4 => i4 | 5 => i5 | 6 => i6 | _ => i7)), comp, cZ, cJ, ⟨?_, ?_⟩, o4, o1, kJ, kI, cc, o2, o3, a2, a3⟩
  · intro k q hq
    match k, hq with
    | 0, hq => cases hq; exact k0
    | 1, hq => cases hq; exact k1
    | 2, hq => cases hq; exact k2
    | 3, hq => cases hq; exact k3
    | 4, hq => cases hq; exact k4
    | 5, hq => cases hq; exact k5
    | 6, hq => cases hq; exact k6
    | 7, hq => cases hq; exact k7
    | k + 8, hq => simp [fr_cls] at hq
  · intro k q hq
    match k, hq with
    | 0, hq =>
      cases hq
      exact ⟨fun n z => ⟨fun k h => (by cases h), kI, a2, cc, a3⟩, a1⟩
    | 1, hq =>
      cases hq
      exact ⟨fun n z => ⟨fun k h => (by cases h), kZ, b2, cz, b3⟩, b1⟩
    | 2, hq =>
      cases hq
      refine ⟨fun n z => ⟨fun k h => (by cases h), kJ, o2, comp, o3⟩, ?_⟩
      have e2 : "[" ++ (FieldType.array .int).toString = "[[I" := by decide +kernel
      show s.vm.findClass ("[" ++ (FieldType.array .int).toString) = some cJ
      rw [e2]
      exact o4
    | k + 3, hq => simp [n_tys] at hq
/-- a constant array of six ints -/
theorem l_one {s : State} {args : Array Value} {C n : String} {f : Nat → Int32} {A : Nat → Prop} (hl : (Cond.laysStatic C n "[I").before args s = true) (hini : (Cond.initialized C).before args s = true) (harr : (Cond.arrayOf (.static C n "[I") .int).before args s = true) (hlen : (Cond.eq (.length (.static C n "[I")) (.int 6)).before args s = true) (hel : ∀ j, j < 6 → (Cond.eq (.elem (.static C n "[I") (.int (Int32.ofNat j))) (.int (f j))).before args s = true) (hA : ∀ a : Nat, a < s.heap.size → ¬ A a) : ∃ t : Nat, va_Z C n "[I" (.ref t) A s s.heap ∧ va_T .int t 6 (fun j => .int (f j)) A s s.heap := by
  obtain ⟨t, h1, h2⟩ := va_Tof (N := 6) (f := fun j => .int (f j)) (A := A) (by decide) harr (va_eqt hlen) (fun j hj => va_eqt (hel j hj)) hA
  exact ⟨t, va_Zref hl hini h1 hA, h2⟩
set_option maxRecDepth 100000 in
set_option maxHeartbeats 4000000 in
theorem l_S {s : State} {b : Nat} (hts : ∀ w ∈ lw_tbl, w.before #[Value.ref b] s = true) (hgv : (Jvm.Cond.and given_1 narrow_1).before #[Value.ref b] s = true) : ∃ t1 t2 t3 : Nat, ∀ A : Nat → Prop, (∀ a : Nat, a < s.heap.size → ¬ A a) → (va_Z "FeetRoads$Kinds" "ABOVE" "[I" (.ref t1) A s s.heap ∧ va_T .int t1 6 (fun j => .int (fr_cA j)) A s s.heap) ∧ (va_Z "FeetRoads$Asker" "SIZE_BODIES" "[I" (.ref t2) A s s.heap ∧ va_T .int t2 6 (fun j => .int (fr_cS j)) A s s.heap) ∧ (va_Z "FeetRoads$Asker" "MARK_BODIES" "[I" (.ref t3) A s s.heap ∧ va_T .int t3 6 (fun j => .int (fr_cM j)) A s s.heap) := by
  have hs := flat_of_before _ hgv
  have N0 : ∀ a : Nat, a < s.heap.size → ¬ (fun q : Nat => s.heap.size ≤ q) a := fun a h => Nat.not_le.mpr h
  obtain ⟨t1, x1, y1⟩ := l_one (C := "FeetRoads$Kinds") (n := "ABOVE") (f := fr_cA) (A := fun q => s.heap.size ≤ q) (hts _ (List.mem_of_getElem? (i := 840) (by decide +kernel))) (hts (Cond.initialized "FeetRoads$Kinds") (List.mem_of_getElem? (i := 76) (by decide +kernel))) (hs _ (by decide +kernel)) (hs _ (by decide +kernel)) (nl (nl (nl (nl (nl (nl nl0 (hs _ (by decide +kernel))) (hs _ (by decide +kernel))) (hs _ (by decide +kernel))) (hs _ (by decide +kernel))) (hs _ (by decide +kernel))) (hs _ (by decide +kernel))) N0
  obtain ⟨t2, x2, y2⟩ := l_one (C := "FeetRoads$Asker") (n := "SIZE_BODIES") (f := fr_cS) (A := fun q => s.heap.size ≤ q) (hts _ (List.mem_of_getElem? (i := 859) (by decide +kernel))) (hts (Cond.initialized "FeetRoads$Asker") (List.mem_of_getElem? (i := 72) (by decide +kernel))) (hs _ (by decide +kernel)) (hs _ (by decide +kernel)) (nl (nl (nl (nl (nl (nl nl0 (hs _ (by decide +kernel))) (hs _ (by decide +kernel))) (hs _ (by decide +kernel))) (hs _ (by decide +kernel))) (hs _ (by decide +kernel))) (hs _ (by decide +kernel))) N0
  obtain ⟨t3, x3, y3⟩ := l_one (C := "FeetRoads$Asker") (n := "MARK_BODIES") (f := fr_cM) (A := fun q => s.heap.size ≤ q) (hts _ (List.mem_of_getElem? (i := 861) (by decide +kernel))) (hts (Cond.initialized "FeetRoads$Asker") (List.mem_of_getElem? (i := 72) (by decide +kernel))) (hs _ (by decide +kernel)) (hs _ (by decide +kernel)) (nl (nl (nl (nl (nl (nl nl0 (hs _ (by decide +kernel))) (hs _ (by decide +kernel))) (hs _ (by decide +kernel))) (hs _ (by decide +kernel))) (hs _ (by decide +kernel))) (hs _ (by decide +kernel))) N0
  have any : ∀ {C n : String} {t : Nat} {f : Nat → Int32} {A : Nat → Prop}, (∀ a : Nat, a < s.heap.size → ¬ A a) → va_Z C n "[I" (.ref t) (fun q => s.heap.size ≤ q) s s.heap → va_T .int t 6 (fun j => .int (f j)) (fun q => s.heap.size ≤ q) s s.heap → va_Z C n "[I" (.ref t) A s s.heap ∧ va_T .int t 6 (fun j => .int (f j)) A s s.heap := by
    intro C n t f A hA z y
    obtain ⟨cf, kf, fi, ff, a, cell, h1, h2, h3, h4, h5, h6, h7, h8⟩ := z
    obtain ⟨cell2, g1, g2, g3, g4, g5, g6, g7⟩ := y
    exact ⟨⟨cf, kf, fi, ff, a, cell, h1, h2, h3, h4, h5, h6, h7, hA a (Array.getElem?_eq_some_iff.mp h5).1⟩, ⟨cell2, g1, g2, g3, g4, g5, g6, hA t (Array.getElem?_eq_some_iff.mp g1).1⟩⟩
  exact ⟨t1, t2, t3, fun A hA => ⟨any hA x1 y1, any hA x2 y2, any hA x3 y3⟩⟩
