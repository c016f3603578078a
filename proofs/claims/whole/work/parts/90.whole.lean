set_option maxHeartbeats 4000000 in
set_option maxRecDepth 100000 in
/-- THE LAW, from its entry -/
theorem whole_start {p : Program} {e : Env} {s : State} {m : MethodId} {below : List Frame} {meth : Method} {c : Code} (l : Launch) {b L : Nat} {xs : Nat → Int32} (hL : L ≤ 3072) (C0 : lw_At p s m meth c b L xs) : W p l e room_1 s m #[Value.ref b] below meth c s.heap [] 0 0 (lw_Z below #[Value.ref b] s) (entryFrame m ([Value.ref b] : List Value).toArray 4) := by
  obtain ⟨hx, hb, hr, hml, hown, hts, hX, hbl, hlocks, hgv⟩ := C0
  have htf : ∀ w ∈ fr_tbl, w.before #[Value.ref b] s = true := fun w hw => hts w (List.mem_filter.mp hw).1
  obtain ⟨D, cI, cZ, cJ, hK, hJ⟩ := l_K htf (hts _ (List.mem_of_getElem? (i := 105) (by decide +kernel)))
  obtain ⟨t1, t2, t3, hSt⟩ := l_S hts hgv
  have X : nX p s m #[Value.ref b] meth c D cI cZ cJ (fun q => s.heap.size ≤ q) cL_law RL 4 := ⟨hx, hb, hml, hown, htf, hK, hJ, hlocks, fun _ h => h⟩
  have hl := lv_entry ([.ref b]) (n := 4) (Nat.le_of_ble_eq_true rfl)
  rw [lg_entry_eq]
  have key : nV p l e room_1 s m #[Value.ref b] below meth c D (fun q => s.heap.size ≤ q) (lw_Z below #[Value.ref b] s) 4 0 0 [] 0 [(0, .ref b)] [] := by
    refine nv_new (C := RX7) (T := TX7) (N := 11) (ci := 6) (fs := [.null, .null, .null, .null, .null, .null, .null, .null, .null, .int 0, .int 0]) X tyX7 ix_X7 tyX7_ok cl_L_7 is_X7 in_RX7 rfl (by decide) (by decide) (by decide) dL_law_0 (fun h => ?_)
    refine nv_dup X dL_law_3 ?_
    refine nv_callI (R := room_1) (nA := 0) (As := []) (Y := []) X n_X7_init cd_X7_init mi_L_9 im_X7_init in_RX7 rfl (by decide +kernel) (by decide) rfl (Nat.le_of_ble_eq_true rfl) (by decide) (by decide) dL_law_4 rfl (fun u => ?_)
    obtain ⟨h0, h0q0, h1, h1q0, h1q1, h1q2, h2, h2q0, h3, h3q0, h4, h4q0, h5, h5q0, h5q1, h5q2, h5q3, h5q4, h5q5, h5q6, h6, h6q0, qm, qz⟩ := u
    refine nv_astore_n X dL_law_7 rfl (by decide) rfl ?_
    refine nv_new (C := RX8) (T := TX8) (N := 26) (ci := 7) (fs := [.null, .null, .null, .int 0, .int 0, .null, .null, .null, .int 0, .int 0, .int 0, .int 0, .int 0, .int 0, .int 0, .null, .null, .int 0, .null, .null, .null, .null, .null, .null, .null, .int 0]) X tyX8 ix_X8 tyX8_ok cl_L_10 is_X8 in_RX8 rfl (by decide) (by decide) (by decide) dL_law_8 (fun hm => ?_)
    refine nv_dup X dL_law_11 ?_
    refine nv_callI (R := room_1) (nA := 0) (As := []) X n_X8_init cd_X8_init mi_L_12 im_X8_init in_RX8 rfl (by decide +kernel) (by decide) rfl (Nat.le_of_ble_eq_true rfl) (by decide) (by decide) dL_law_12 rfl (fun u => ?_)
    obtain ⟨m0, m1, m2, m3, m4, m5, m6, m7, m8, m9, m10, m11, m12, m13, m14⟩ := u
    refine nv_astore_n X dL_law_15 rfl (by decide) rfl ?_
    refine nv_iconst (v := 0) X dL_law_16 (by decide) ?_
    refine nv_istore_n X dL_law_17 rfl (by decide) rfl ?_
    intro H locs ls hP hD hS hl
    have hP : va_P D fr_cls (lw_L cI cZ cJ h h0 h0q0 h1 h1q0 h1q1 h1q2 h2 h2q0 h3 h3q0 h4 h4q0 h5 h5q0 h5q1 h5q2 h5q3 h5q4 h5q5 h5q6 h6 h6q0 qm qz hm m0 m1 m2 m3 m4 m5 m6 m7 m8 m9 m10 m11 m12 m13 m14) H := hP
    have hD : va_D (fun q => s.heap.size ≤ q) (lw_L cI cZ cJ h h0 h0q0 h1 h1q0 h1q1 h1q2 h2 h2q0 h3 h3q0 h4 h4q0 h5 h5q0 h5q1 h5q2 h5q3 h5q4 h5q5 h5q6 h6 h6q0 qm qz hm m0 m1 m2 m3 m4 m5 m6 m7 m8 m9 m10 m11 m12 m13 m14) := hD
    have hPw := lw_wP (D := D) (t1 := t1) (t2 := t2) (t3 := t3) hP
    obtain ⟨hDD, hown'⟩ := lw_wD (D := D) (t1 := t1) (t2 := t2) (t3 := t3) hD
    refine W.widen (k := 600000) (n := 7302250) (by decide) (by decide) ?_
    have XX : lX p s m meth c (lw_g D cI cZ cJ t1 t2 t3 h h0 h0q0 h1 h1q0 h1q1 h1q2 h2 h2q0 h3 h3q0 h4 h4q0 h5 h5q0 h5q1 h5q2 h5q3 h5q4 h5q5 h5q6 h6 h6q0 qm qz hm m0 m1 m2 m3 m4 m5 m6 m7 m8 m9 m10 m11 m12 m13 m14) b L xs := ⟨⟨hx, hb, hml, hown, htf, hK, hDD, hSt _ (fun a ha q => absurd (hown' a q) (Nat.not_le.mpr ha)), hlocks⟩, hX, hbl, fun q hq => hq.elim (hown' q) id⟩
    exact l_loop XX hr hL (L + 1) 0 s0 (by omega) (by omega) Rel_0 H locs ls hPw ⟨hS.1, fun q h1 h2 => hS.2.1 q h1 (fun z => h2 (Or.inr z)), fun x hx => Or.inr (hS.2.2 x hx)⟩ (lv_sub hl [0, 3, 2, 1] rfl)
  exact key s.heap [] _ (fun k q h => by simp at h) ⟨fun i j p q h => by simp at h, fun k q h => by simp at h⟩ va_S.rf hl
