def bRoads (cI cZ cJ : ClassId) (h h0 h0q0 h1 h1q0 h1q1 h1q2 h2 h2q0 h3 h3q0 h4 h4q0 h5 h5q0 h5q1 h5q2 h5q3 h5q4 h5q5 h5q6 h6 h6q0 qm qz : Nat) : va_W := (h, .inr (6, [.ref h1, .ref h2, .ref h0, .ref h3, .ref h4, .ref h5, .ref h6, .ref qm, .ref qz, .int 0, .int 0])) :: ((((((((([] ++ bLand cI cJ h0 h0q0) ++ bShelf cI cJ h1 h1q0 h1q1 h1q2) ++ bReader cI cJ h2 h2q0) ++ bLand cI cJ h3 h3q0) ++ bActs cI cJ h4 h4q0) ++ bSeer cI cJ h5 h0 h5q0 h5q1 h5q2 h5q3 h5q4 h5q5 h5q6) ++ bAsker cI cJ h6 h0 h6q0) ++ mu_ws cI cJ 2 122 qm) ++ [(qz, .inl (cZ, 2, .inl (fun _ => (0 : Int32))))])
set_option maxRecDepth 100000 in
set_option maxHeartbeats 4000000 in
theorem n_X7_init {l : Launch} {D : va_G} {cI cZ cJ : ClassId} {h : Nat} : nM (S := Nat × Nat × Nat × Nat × Nat × Nat × Nat × Nat × Nat × Nat × Nat × Nat × Nat × Nat × Nat × Nat × Nat × Nat × Nat × Nat × Nat × Nat × Nat × Nat) l yX7_init cX7_init 2 2 58 8153 [.ref h] D cI cZ cJ [(h, .inr (6, [.null, .null, .null, .null, .null, .null, .null, .null, .null, .int 0, .int 0]))] (fun u => bRoads cI cZ cJ h u.1 u.2.1 u.2.2.1 u.2.2.2.1 u.2.2.2.2.1 u.2.2.2.2.2.1 u.2.2.2.2.2.2.1 u.2.2.2.2.2.2.2.1 u.2.2.2.2.2.2.2.2.1 u.2.2.2.2.2.2.2.2.2.1 u.2.2.2.2.2.2.2.2.2.2.1 u.2.2.2.2.2.2.2.2.2.2.2.1 u.2.2.2.2.2.2.2.2.2.2.2.2.1 u.2.2.2.2.2.2.2.2.2.2.2.2.2.1 u.2.2.2.2.2.2.2.2.2.2.2.2.2.2.1 u.2.2.2.2.2.2.2.2.2.2.2.2.2.2.2.1 u.2.2.2.2.2.2.2.2.2.2.2.2.2.2.2.2.1 u.2.2.2.2.2.2.2.2.2.2.2.2.2.2.2.2.2.1 u.2.2.2.2.2.2.2.2.2.2.2.2.2.2.2.2.2.2.1 u.2.2.2.2.2.2.2.2.2.2.2.2.2.2.2.2.2.2.2.1 u.2.2.2.2.2.2.2.2.2.2.2.2.2.2.2.2.2.2.2.2.1 u.2.2.2.2.2.2.2.2.2.2.2.2.2.2.2.2.2.2.2.2.2.1 u.2.2.2.2.2.2.2.2.2.2.2.2.2.2.2.2.2.2.2.2.2.2.1 u.2.2.2.2.2.2.2.2.2.2.2.2.2.2.2.2.2.2.2.2.2.2.2) := by
  refine nm_of (by decide) (Nat.le_of_ble_eq_true rfl) (fun p e s m below meth c A X hr hnm => ?_)
  have X : nX p s m _ meth c D cI cZ cJ A cX7_init RX7 2 := X
  have hnm : meth.name = "<init>" := hnm
  refine nv_aload_n (i := 0) X dX7_init_0 rfl rfl ?_
  refine nv_obj X mo_X7_1 (by decide) dX7_init_1 ?_
  refine nv_new (C := RX3) (T := TX3) (N := 1) (ci := 2) (fs := [.null]) X tyX3 ix_X3 tyX3_ok cl_X7_7 is_X3 in_RX3 rfl (by decide) (by decide) (by decide) dX7_init_4 (fun h0 => ?_)
  refine nv_dup X dX7_init_7 ?_
  refine nv_callI (nA := 0) (As := []) X n_X3_init cd_X3_init mi_X7_9 im_X3_init in_RX3 rfl (by decide +kernel) (by decide) rfl (Nat.le_of_ble_eq_true rfl) (by decide) (by decide) dX7_init_8 rfl (fun u => ?_)
  obtain ⟨h0q0, rfl⟩ : ∃ z, z = u := ⟨_, rfl⟩
  refine nv_cons (w := bLand cI cJ h0 h0q0) ?_
  refine nv_astore_n X dX7_init_11 rfl (by decide) rfl ?_
  refine nv_aload_n (i := 1) X dX7_init_12 rfl rfl ?_
  refine nv_new (C := RX6) (T := TX6) (N := 3) (ci := 5) (fs := [.null, .null, .null]) X tyX6 ix_X6 tyX6_ok cl_X7_10 is_X6 in_RX6 rfl (by decide) (by decide) (by decide) dX7_init_13 (fun h1 => ?_)
  refine nv_dup X dX7_init_16 ?_
  refine nv_callI (nA := 0) (As := []) X n_X6_init cd_X6_init mi_X7_12 im_X6_init in_RX6 rfl (by decide +kernel) (by decide) rfl (Nat.le_of_ble_eq_true rfl) (by decide) (by decide) dX7_init_17 rfl (fun u => ?_)
  obtain ⟨h1q0, h1q1, h1q2⟩ := u
  refine nv_cons (w := bShelf cI cJ h1 h1q0 h1q1 h1q2) ?_
  refine nv_putF0 (T := TX7) (N := 11) (ci := 6) (fs' := [.ref h1, .null, .null, .null, .null, .null, .null, .null, .null, .int 0, .int 0]) X tyX7 ix_X7 tyX7_ok nmX7 rfl hnm 0 (by decide) rfl rfl rfl rfl rfl (Nat.le_of_ble_eq_true rfl) rfl fl_X7_13 dX7_init_20 ?_
  refine nv_aload_n (i := 1) X dX7_init_23 rfl rfl ?_
  refine nv_new (C := RX4) (T := TX4) (N := 7) (ci := 3) (fs := [.null, .int 0, .int 0, .int 0, .int 0, .int 0, .int 0]) X tyX4 ix_X4 tyX4_ok cl_X7_19 is_X4 in_RX4 rfl (by decide) (by decide) (by decide) dX7_init_24 (fun h2 => ?_)
  refine nv_dup X dX7_init_27 ?_
  refine nv_callI (nA := 0) (As := []) X n_X4_init cd_X4_init mi_X7_21 im_X4_init in_RX4 rfl (by decide +kernel) (by decide) rfl (Nat.le_of_ble_eq_true rfl) (by decide) (by decide) dX7_init_28 rfl (fun u => ?_)
  obtain ⟨h2q0, rfl⟩ : ∃ z, z = u := ⟨_, rfl⟩
  refine nv_cons (w := bReader cI cJ h2 h2q0) ?_
  refine nv_putF0 (T := TX7) (N := 11) (ci := 6) (fs' := [.ref h1, .ref h2, .null, .null, .null, .null, .null, .null, .null, .int 0, .int 0]) X tyX7 ix_X7 tyX7_ok nmX7 rfl hnm 1 (by decide) rfl rfl rfl rfl rfl (Nat.le_of_ble_eq_true rfl) rfl fl_X7_22 dX7_init_31 ?_
  refine nv_aload_n (i := 1) X dX7_init_34 rfl rfl ?_
  refine nv_aload_n (i := 0) X dX7_init_35 rfl rfl ?_
  refine nv_putF0 (T := TX7) (N := 11) (ci := 6) (fs' := [.ref h1, .ref h2, .ref h0, .null, .null, .null, .null, .null, .null, .int 0, .int 0]) X tyX7 ix_X7 tyX7_ok nmX7 rfl hnm 2 (by decide) rfl rfl rfl rfl rfl (Nat.le_of_ble_eq_true rfl) rfl fl_X7_26 dX7_init_36 ?_
  refine nv_aload_n (i := 1) X dX7_init_39 rfl rfl ?_
  refine nv_new (C := RX3) (T := TX3) (N := 1) (ci := 2) (fs := [.null]) X tyX3 ix_X3 tyX3_ok cl_X7_7 is_X3 in_RX3 rfl (by decide) (by decide) (by decide) dX7_init_40 (fun h3 => ?_)
  refine nv_dup X dX7_init_43 ?_
  refine nv_callI (nA := 0) (As := []) X n_X3_init cd_X3_init mi_X7_9 im_X3_init in_RX3 rfl (by decide +kernel) (by decide) rfl (Nat.le_of_ble_eq_true rfl) (by decide) (by decide) dX7_init_44 rfl (fun u => ?_)
  obtain ⟨h3q0, rfl⟩ : ∃ z, z = u := ⟨_, rfl⟩
  refine nv_cons (w := bLand cI cJ h3 h3q0) ?_
  refine nv_putF0 (T := TX7) (N := 11) (ci := 6) (fs' := [.ref h1, .ref h2, .ref h0, .ref h3, .null, .null, .null, .null, .null, .int 0, .int 0]) X tyX7 ix_X7 tyX7_ok nmX7 rfl hnm 3 (by decide) rfl rfl rfl rfl rfl (Nat.le_of_ble_eq_true rfl) rfl fl_X7_30 dX7_init_47 ?_
  refine nv_aload_n (i := 1) X dX7_init_50 rfl rfl ?_
  refine nv_new (C := RX0) (T := TX0) (N := 3) (ci := 0) (fs := [.null, .int 0, .int 0]) X tyX0 ix_X0 tyX0_ok cl_X7_33 is_X0 in_RX0 rfl (by decide) (by decide) (by decide) dX7_init_51 (fun h4 => ?_)
  refine nv_dup X dX7_init_54 ?_
  refine nv_callI (nA := 0) (As := []) X n_X0_init cd_X0_init mi_X7_35 im_X0_init in_RX0 rfl (by decide +kernel) (by decide) rfl (Nat.le_of_ble_eq_true rfl) (by decide) (by decide) dX7_init_55 rfl (fun u => ?_)
  obtain ⟨h4q0, rfl⟩ : ∃ z, z = u := ⟨_, rfl⟩
  refine nv_cons (w := bActs cI cJ h4 h4q0) ?_
  refine nv_putF0 (T := TX7) (N := 11) (ci := 6) (fs' := [.ref h1, .ref h2, .ref h0, .ref h3, .ref h4, .null, .null, .null, .null, .int 0, .int 0]) X tyX7 ix_X7 tyX7_ok nmX7 rfl hnm 4 (by decide) rfl rfl rfl rfl rfl (Nat.le_of_ble_eq_true rfl) rfl fl_X7_36 dX7_init_58 ?_
  refine nv_aload_n (i := 1) X dX7_init_61 rfl rfl ?_
  refine nv_new (C := RX5) (T := TX5) (N := 8) (ci := 4) (fs := [.null, .null, .null, .null, .null, .null, .null, .null]) X tyX5 ix_X5 tyX5_ok cl_X7_40 is_X5 in_RX5 rfl (by decide) (by decide) (by decide) dX7_init_62 (fun h5 => ?_)
  refine nv_dup X dX7_init_65 ?_
  refine nv_aload_n (i := 0) X dX7_init_66 rfl rfl ?_
  refine nv_callI (nA := 1) (As := [.ref h0]) X n_X5_init cd_X5_init mi_X7_42 im_X5_init in_RX5 rfl (by decide +kernel) (by decide) rfl (Nat.le_of_ble_eq_true rfl) (by decide) (by decide) dX7_init_67 rfl (fun u => ?_)
  obtain ⟨h5q0, h5q1, h5q2, h5q3, h5q4, h5q5, h5q6⟩ := u
  refine nv_cons (w := bSeer cI cJ h5 h0 h5q0 h5q1 h5q2 h5q3 h5q4 h5q5 h5q6) ?_
  refine nv_putF0 (T := TX7) (N := 11) (ci := 6) (fs' := [.ref h1, .ref h2, .ref h0, .ref h3, .ref h4, .ref h5, .null, .null, .null, .int 0, .int 0]) X tyX7 ix_X7 tyX7_ok nmX7 rfl hnm 5 (by decide) rfl rfl rfl rfl rfl (Nat.le_of_ble_eq_true rfl) rfl fl_X7_45 dX7_init_70 ?_
  refine nv_aload_n (i := 1) X dX7_init_73 rfl rfl ?_
  refine nv_new (C := RX1) (T := TX1) (N := 3) (ci := 1) (fs := [.null, .null, .int 0]) X tyX1 ix_X1 tyX1_ok cl_X7_49 is_X1 in_RX1 rfl (by decide) (by decide) (by decide) dX7_init_74 (fun h6 => ?_)
  refine nv_dup X dX7_init_77 ?_
  refine nv_aload_n (i := 0) X dX7_init_78 rfl rfl ?_
  refine nv_callI (nA := 1) (As := [.ref h0]) X n_X1_init cd_X1_init mi_X7_51 im_X1_init in_RX1 rfl (by decide +kernel) (by decide) rfl (Nat.le_of_ble_eq_true rfl) (by decide) (by decide) dX7_init_79 rfl (fun u => ?_)
  obtain ⟨h6q0, rfl⟩ : ∃ z, z = u := ⟨_, rfl⟩
  refine nv_cons (w := bAsker cI cJ h6 h0 h6q0) ?_
  refine nv_putF0 (T := TX7) (N := 11) (ci := 6) (fs' := [.ref h1, .ref h2, .ref h0, .ref h3, .ref h4, .ref h5, .ref h6, .null, .null, .int 0, .int 0]) X tyX7 ix_X7 tyX7_ok nmX7 rfl hnm 6 (by decide) rfl rfl rfl rfl rfl (Nat.le_of_ble_eq_true rfl) rfl fl_X7_52 dX7_init_82 ?_
  refine nv_aload_n (i := 1) X dX7_init_85 rfl rfl ?_
  refine nv_iconst (v := 2) X dX7_init_86 (by decide) ?_
  refine nv_bipush (v := 122) X dX7_init_87 (by decide) ?_
  refine nv_multi (N := 2) (M := 122) X cl_X7_56 (by decide) (by decide) (by decide) (by decide) (by decide) (by decide) (by decide) (by decide) dX7_init_89 (fun qm => ?_)
  refine nv_cons ?_
  refine nv_putF0 (T := TX7) (N := 11) (ci := 6) (fs' := [.ref h1, .ref h2, .ref h0, .ref h3, .ref h4, .ref h5, .ref h6, .ref qm, .null, .int 0, .int 0]) X tyX7 ix_X7 tyX7_ok nmX7 rfl hnm 7 (by decide) rfl rfl rfl rfl rfl (Nat.le_of_ble_eq_true rfl) rfl fl_X7_58 dX7_init_93 ?_
  refine nv_aload_n (i := 1) X dX7_init_96 rfl rfl ?_
  refine nv_iconst (v := 2) X dX7_init_97 (by decide) ?_
  refine nv_newZ (N := 2) X (by decide) (by decide) (by decide) (by decide) (by decide) dX7_init_98 (fun qz => ?_)
  refine nv_cons ?_
  refine nv_putF0 (T := TX7) (N := 11) (ci := 6) (fs' := [.ref h1, .ref h2, .ref h0, .ref h3, .ref h4, .ref h5, .ref h6, .ref qm, .ref qz, .int 0, .int 0]) X tyX7 ix_X7 tyX7_ok nmX7 rfl hnm 8 (by decide) rfl rfl rfl rfl rfl (Nat.le_of_ble_eq_true rfl) rfl fl_X7_61 dX7_init_100 ?_
  refine nv_aload_n (i := 1) X dX7_init_103 rfl rfl ?_
  refine nv_iconst (v := 0) X dX7_init_104 (by decide) ?_
  refine nv_puti0 (T := TX7) (N := 11) (ci := 6) (fs' := [.ref h1, .ref h2, .ref h0, .ref h3, .ref h4, .ref h5, .ref h6, .ref qm, .ref qz, .int 0, .int 0]) X tyX7 ix_X7 tyX7_ok nmX7 rfl 9 (by decide) rfl rfl (Nat.le_of_ble_eq_true rfl) rfl fl_X7_65 dX7_init_105 ?_
  refine nv_aload_n (i := 1) X dX7_init_108 rfl rfl ?_
  refine nv_iconst (v := 0) X dX7_init_109 (by decide) ?_
  refine nv_puti0 (T := TX7) (N := 11) (ci := 6) (fs' := [.ref h1, .ref h2, .ref h0, .ref h3, .ref h4, .ref h5, .ref h6, .ref qm, .ref qz, .int 0, .int 0]) X tyX7 ix_X7 tyX7_ok nmX7 rfl 10 (by decide) rfl rfl (Nat.le_of_ble_eq_true rfl) rfl fl_X7_69 dX7_init_110 ?_
  exact nv_ret X hr (h0, h0q0, h1, h1q0, h1q1, h1q2, h2, h2q0, h3, h3q0, h4, h4q0, h5, h5q0, h5q1, h5q2, h5q3, h5q4, h5q5, h5q6, h6, h6q0, qm, qz) rfl dX7_init_113
