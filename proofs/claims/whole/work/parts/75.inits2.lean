/-- the first i are -1 -/
def ng (i : Nat) : Nat → Int32 := fun j => if j < i then -1 else 0
theorem ng_0 : ng 0 = fun _ => (0 : Int32) := by
  funext j
  unfold ng
  rw [if_neg (Nat.not_lt_zero _)]
theorem ng_s {i : Nat} (hi : i < 8) : upd (ng i) (nI i).toNatClampNeg (-1) = ng (i + 1) := by
  rw [nI_clamp (by omega)]
  funext j
  unfold upd ng
  by_cases q : j = i
  · rw [if_pos q, if_pos (by omega)]
  · rw [if_neg q]
    by_cases w : j < i
    · rw [if_pos w, if_pos (by omega)]
    · rw [if_neg w, if_neg (by omega)]
set_option maxRecDepth 100000 in
set_option maxHeartbeats 4000000 in
theorem n_fill {l : Launch} {D : va_G} {cI cZ cJ : ClassId} {b : Nat} : nM (S := Unit) l yJ7_fill_53178 cJ7_fill_53178 4 0 0 0 [.ref b, .int (-1)] D cI cZ cJ [(b, .inl (cI, 8, .inl (fun _ => (0 : Int32))))] (fun _ => [(b, .inl (cI, 8, .inl (ng 8)))]) := by
  refine nm_of (by decide) (Nat.le_of_ble_eq_true rfl) (fun p e s m below meth c A X hr hnm => ?_)
  have X : nX p s m _ meth c D cI cZ cJ A cJ7_fill_53178 RJ7 4 := X
  refine nv_iconst (v := 0) X dJ7_fill_53178_0 (by decide) ?_
  refine nv_istore_n X dJ7_fill_53178_1 rfl (by decide) rfl ?_
  refine nv_aload_n (i := 1) X dJ7_fill_53178_2 rfl rfl ?_
  refine nv_alen (q0 := 0) (v := 8) X rfl rfl dJ7_fill_53178_3 ?_
  refine nv_istore_n X dJ7_fill_53178_4 rfl (by decide) rfl ?_
  refine nv_perm [1, 0, 2, 3] rfl ?_
  have key : ∀ d i : Nat, i + d = 8 → nV p l e (n_rm 0 0 0) s m [Value.ref b, .int (-1)].toArray below meth c D A (nQ below [Value.ref b, .int (-1)].toArray s D A (fun _ : Unit => [(b, .inl (cI, 8, .inl (ng 8)))]) 0 0) 4 0 0 [(b, .inl (cI, 8, .inl (ng i)))] 5 [(2, .int (nI i)), (3, .int 8), (0, .ref b), (1, .int (-1))] [] := by
    intro d
    induction d with
    | zero =>
      intro i hi
      have hi : i = 8 := by omega
      subst hi
      refine nv_iload_n (i := 0) X dJ7_fill_53178_5 rfl rfl ?_
      refine nv_iload_n (i := 1) X dJ7_fill_53178_6 rfl rfl ?_
      refine nv_icmp_ge (tgt := 20) X dJ7_fill_53178_7 (by decide) (fun _ => ?_) (fun q => absurd (show (8 : Int32) ≤ nI 8 by decide) q)
      exact nv_ret X hr () rfl dJ7_fill_53178_20
    | succ d ih =>
      intro i hi
      refine nv_iload_n (i := 0) X dJ7_fill_53178_5 rfl rfl ?_
      refine nv_iload_n (i := 1) X dJ7_fill_53178_6 rfl rfl ?_
      refine nv_icmp_ge (tgt := 20) X dJ7_fill_53178_7 (by decide) (fun q => absurd ((i_le (a := 8) (by omega) (by omega)).mp q) (by omega)) (fun _ => ?_)
      refine nv_aload_n (i := 2) X dJ7_fill_53178_10 rfl rfl ?_
      refine nv_iload_n (i := 0) X dJ7_fill_53178_11 rfl rfl ?_
      refine nv_iload_n (i := 3) X dJ7_fill_53178_12 rfl rfl ?_
      refine nv_iast (ws' := [(b, .inl (cI, 8, .inl (ng (i + 1))))]) X 0 rfl (vp_in_nI (show i < 8 by omega) (by omega)) (by rw [ng_s (by omega)]; rfl) dJ7_fill_53178_13 ?_
      refine nv_iinc (i := 0) (v := nI (i + 1)) X dJ7_fill_53178_14 rfl (nI_1 i) (by decide) rfl ?_
      refine nv_goto (tgt := 5) X dJ7_fill_53178_17 (by decide) ?_
      exact ih (i + 1) (by omega)
  have := key 8 0 (by omega)
  rw [ng_0] at this
  exact this
def bShelf (cI cJ : ClassId) (h0 q0 q1 q2 : Nat) : va_W := ((h0, .inr (5, [.ref q0, .ref q1, .ref q2])) :: (([] ++ mu_ws cI cJ 8 40 q0) ++ [(q1, .inl (cI, 8, .inl (fun _ => (0 : Int32))))])) ++ [(q2, .inl (cI, 8, .inl (ng 8)))]
set_option maxRecDepth 100000 in
set_option maxHeartbeats 4000000 in
theorem n_X6_init {l : Launch} {D : va_G} {cI cZ cJ : ClassId} {h0 : Nat} : nM (S := Nat × Nat × Nat) l yX6_init cX6_init 1 1 11 344 [.ref h0] D cI cZ cJ [(h0, .inr (5, [.null, .null, .null]))] (fun u => bShelf cI cJ h0 u.1 u.2.1 u.2.2) := by
  refine nm_of (by decide) (Nat.le_of_ble_eq_true rfl) (fun p e s m below meth c A X hr hnm => ?_)
  have X : nX p s m _ meth c D cI cZ cJ A cX6_init RX6 1 := X
  have hnm : meth.name = "<init>" := hnm
  refine nv_aload_n (i := 0) X dX6_init_0 rfl rfl ?_
  refine nv_obj X mo_X6_1 (by decide) dX6_init_1 ?_
  refine nv_aload_n (i := 0) X dX6_init_4 rfl rfl ?_
  refine nv_bipush (v := 8) X dX6_init_5 (by decide) ?_
  refine nv_bipush (v := 40) X dX6_init_7 (by decide) ?_
  refine nv_multi (N := 8) (M := 40) X cl_X6_9 (by decide) (by decide) (by decide) (by decide) (by decide) (by decide) (by decide) (by decide) dX6_init_9 (fun q0 => ?_)
  refine nv_cons ?_
  refine nv_putF0 (T := TX6) (N := 3) (ci := 5) (fs' := [.ref q0, .null, .null]) X tyX6 ix_X6 tyX6_ok nmX6 rfl hnm 0 (by decide) rfl rfl rfl rfl rfl (Nat.le_of_ble_eq_true rfl) rfl fl_X6_11 dX6_init_13 ?_
  refine nv_aload_n (i := 0) X dX6_init_16 rfl rfl ?_
  refine nv_bipush (v := 8) X dX6_init_17 (by decide) ?_
  refine nv_newI (N := 8) X (by decide) (by decide) (by decide) (by decide) (by decide) dX6_init_19 (fun q1 => ?_)
  refine nv_cons ?_
  refine nv_putF0 (T := TX6) (N := 3) (ci := 5) (fs' := [.ref q0, .ref q1, .null]) X tyX6 ix_X6 tyX6_ok nmX6 rfl hnm 1 (by decide) rfl rfl rfl rfl rfl (Nat.le_of_ble_eq_true rfl) rfl fl_X6_14 dX6_init_21 ?_
  refine nv_aload_n (i := 0) X dX6_init_24 rfl rfl ?_
  refine nv_bipush (v := 8) X dX6_init_25 (by decide) ?_
  refine nv_newI (N := 8) X (by decide) (by decide) (by decide) (by decide) (by decide) dX6_init_27 (fun q2 => ?_)
  refine nv_cons ?_
  refine nv_putF0 (T := TX6) (N := 3) (ci := 5) (fs' := [.ref q0, .ref q1, .ref q2]) X tyX6 ix_X6 tyX6_ok nmX6 rfl hnm 2 (by decide) rfl rfl rfl rfl rfl (Nat.le_of_ble_eq_true rfl) rfl fl_X6_18 dX6_init_29 ?_
  refine nv_aload_n (i := 0) X dX6_init_32 rfl rfl ?_
  refine nv_getr (C := RX6) (T := TX6) (N := 3) (ci := 5) X 0 ix_X6 rfl 2 (by decide) rfl rfl fl_X6_18 dX6_init_33 ?_
  refine nv_iconst (v := -1) X dX6_init_36 (by decide) ?_
  refine nv_uncons ?_
  refine nv_callS (R := n_rm 1 11 344) (kc := 11) (ks := 344) (Y := (h0, .inr (5, [.ref q0, .ref q1, .ref q2])) :: (([] ++ mu_ws cI cJ 8 40 q0) ++ [(q1, .inl (cI, 8, .inl (fun _ => (0 : Int32))))])) (b := q2) (st := []) X n_fill cd_J7_fill_53178 ml_X6_21 sm_J7_fill_53178 in_RJ7 hd_J7_fill_53178 (by decide) rfl (Nat.le_of_ble_eq_true rfl) (by decide) (by decide) dX6_init_37 rfl (fun u => ?_)
  exact nv_ret X hr (q0, q1, q2) rfl dX6_init_40
def bModel (cI cZ : ClassId) (f : Nat → Int32) (h0 q0 q1 q2 q3 q4 q5 q6 q7 q8 q9 q10 q11 q12 q13 q14 : Nat) : va_W := (h0, .inr (7, [.ref q0, .ref q1, .ref q2, .int 0, .int 0, .ref q3, .ref q4, .ref q5, .int 0, .int 0, .int 0, .int 0, .int 0, .int 0, .int 0, .ref q6, .ref q7, .int 0, .ref q8, .ref q9, .ref q10, .ref q11, .ref q12, .ref q13, .ref q14, .int 0])) :: ((((((((((((((([] ++ [(q0, .inl (cI, 8, .inl (fun _ => (0 : Int32))))]) ++ [(q1, .inl (cI, 8, .inl f))]) ++ [(q2, .inl (cI, 320, .inl (fun _ => (0 : Int32))))]) ++ [(q3, .inl (cI, 122, .inl (fun _ => (0 : Int32))))]) ++ [(q4, .inl (cI, 40, .inl (fun _ => (0 : Int32))))]) ++ [(q5, .inl (cI, 120, .inl (fun _ => (0 : Int32))))]) ++ [(q6, .inl (cI, 122, .inl (fun _ => (0 : Int32))))]) ++ [(q7, .inl (cI, 2928, .inl (fun _ => (0 : Int32))))]) ++ [(q8, .inl (cI, 8, .inl (fun _ => (0 : Int32))))]) ++ [(q9, .inl (cI, 4096, .inl (fun _ => (0 : Int32))))]) ++ [(q10, .inl (cI, 8, .inl (fun _ => (0 : Int32))))]) ++ [(q11, .inl (cI, 122, .inl (fun _ => (0 : Int32))))]) ++ [(q12, .inl (cZ, 2, .inl (fun _ => (0 : Int32))))]) ++ [(q13, .inl (cI, 244, .inl (fun _ => (0 : Int32))))]) ++ [(q14, .inl (cI, 16, .inl (fun _ => (0 : Int32))))])
set_option maxRecDepth 100000 in
set_option maxHeartbeats 4000000 in
theorem n_X8_init {l : Launch} {D : va_G} {cI cZ cJ : ClassId} {h0 : Nat} : nM (S := Nat × Nat × Nat × Nat × Nat × Nat × Nat × Nat × Nat × Nat × Nat × Nat × Nat × Nat × Nat) l yX8_init cX8_init 2 1 15 8164 [.ref h0] D cI cZ cJ [(h0, .inr (7, [.null, .null, .null, .int 0, .int 0, .null, .null, .null, .int 0, .int 0, .int 0, .int 0, .int 0, .int 0, .int 0, .null, .null, .int 0, .null, .null, .null, .null, .null, .null, .null, .int 0]))] (fun u => bModel cI cZ (ng 8) h0 u.1 u.2.1 u.2.2.1 u.2.2.2.1 u.2.2.2.2.1 u.2.2.2.2.2.1 u.2.2.2.2.2.2.1 u.2.2.2.2.2.2.2.1 u.2.2.2.2.2.2.2.2.1 u.2.2.2.2.2.2.2.2.2.1 u.2.2.2.2.2.2.2.2.2.2.1 u.2.2.2.2.2.2.2.2.2.2.2.1 u.2.2.2.2.2.2.2.2.2.2.2.2.1 u.2.2.2.2.2.2.2.2.2.2.2.2.2.1 u.2.2.2.2.2.2.2.2.2.2.2.2.2.2) := by
  refine nm_of (by decide) (Nat.le_of_ble_eq_true rfl) (fun p e s m below meth c A X hr hnm => ?_)
  have X : nX p s m _ meth c D cI cZ cJ A cX8_init RX8 2 := X
  have hnm : meth.name = "<init>" := hnm
  refine nv_aload_n (i := 0) X dX8_init_0 rfl rfl ?_
  refine nv_obj X mo_X8_1 (by decide) dX8_init_1 ?_
  refine nv_aload_n (i := 0) X dX8_init_4 rfl rfl ?_
  refine nv_bipush (v := 8) X dX8_init_5 (by decide) ?_
  refine nv_newI (N := 8) X (by decide) (by decide) (by decide) (by decide) (by decide) dX8_init_7 (fun q0 => ?_)
  refine nv_cons ?_
  refine nv_putF0 (T := TX8) (N := 26) (ci := 7) (fs' := [.ref q0, .null, .null, .int 0, .int 0, .null, .null, .null, .int 0, .int 0, .int 0, .int 0, .int 0, .int 0, .int 0, .null, .null, .int 0, .null, .null, .null, .null, .null, .null, .null, .int 0]) X tyX8 ix_X8 tyX8_ok nmX8 rfl hnm 0 (by decide) rfl rfl rfl rfl rfl (Nat.le_of_ble_eq_true rfl) rfl fl_X8_7 dX8_init_9 ?_
  refine nv_aload_n (i := 0) X dX8_init_12 rfl rfl ?_
  refine nv_bipush (v := 8) X dX8_init_13 (by decide) ?_
  refine nv_newI (N := 8) X (by decide) (by decide) (by decide) (by decide) (by decide) dX8_init_15 (fun q1 => ?_)
  refine nv_cons ?_
  refine nv_putF0 (T := TX8) (N := 26) (ci := 7) (fs' := [.ref q0, .ref q1, .null, .int 0, .int 0, .null, .null, .null, .int 0, .int 0, .int 0, .int 0, .int 0, .int 0, .int 0, .null, .null, .int 0, .null, .null, .null, .null, .null, .null, .null, .int 0]) X tyX8 ix_X8 tyX8_ok nmX8 rfl hnm 1 (by decide) rfl rfl rfl rfl rfl (Nat.le_of_ble_eq_true rfl) rfl fl_X8_13 dX8_init_17 ?_
  refine nv_aload_n (i := 0) X dX8_init_20 rfl rfl ?_
  refine nv_sipush (v := 320) X dX8_init_21 (by decide) ?_
  refine nv_newI (N := 320) X (by decide) (by decide) (by decide) (by decide) (by decide) dX8_init_24 (fun q2 => ?_)
  refine nv_cons ?_
  refine nv_putF0 (T := TX8) (N := 26) (ci := 7) (fs' := [.ref q0, .ref q1, .ref q2, .int 0, .int 0, .null, .null, .null, .int 0, .int 0, .int 0, .int 0, .int 0, .int 0, .int 0, .null, .null, .int 0, .null, .null, .null, .null, .null, .null, .null, .int 0]) X tyX8 ix_X8 tyX8_ok nmX8 rfl hnm 2 (by decide) rfl rfl rfl rfl rfl (Nat.le_of_ble_eq_true rfl) rfl fl_X8_16 dX8_init_26 ?_
  refine nv_aload_n (i := 0) X dX8_init_29 rfl rfl ?_
  refine nv_bipush (v := 122) X dX8_init_30 (by decide) ?_
  refine nv_newI (N := 122) X (by decide) (by decide) (by decide) (by decide) (by decide) dX8_init_32 (fun q3 => ?_)
  refine nv_cons ?_
  refine nv_putF0 (T := TX8) (N := 26) (ci := 7) (fs' := [.ref q0, .ref q1, .ref q2, .int 0, .int 0, .ref q3, .null, .null, .int 0, .int 0, .int 0, .int 0, .int 0, .int 0, .int 0, .null, .null, .int 0, .null, .null, .null, .null, .null, .null, .null, .int 0]) X tyX8 ix_X8 tyX8_ok nmX8 rfl hnm 5 (by decide) rfl rfl rfl rfl rfl (Nat.le_of_ble_eq_true rfl) rfl fl_X8_19 dX8_init_34 ?_
  refine nv_aload_n (i := 0) X dX8_init_37 rfl rfl ?_
  refine nv_bipush (v := 40) X dX8_init_38 (by decide) ?_
  refine nv_newI (N := 40) X (by decide) (by decide) (by decide) (by decide) (by decide) dX8_init_40 (fun q4 => ?_)
  refine nv_cons ?_
  refine nv_putF0 (T := TX8) (N := 26) (ci := 7) (fs' := [.ref q0, .ref q1, .ref q2, .int 0, .int 0, .ref q3, .ref q4, .null, .int 0, .int 0, .int 0, .int 0, .int 0, .int 0, .int 0, .null, .null, .int 0, .null, .null, .null, .null, .null, .null, .null, .int 0]) X tyX8 ix_X8 tyX8_ok nmX8 rfl hnm 6 (by decide) rfl rfl rfl rfl rfl (Nat.le_of_ble_eq_true rfl) rfl fl_X8_22 dX8_init_42 ?_
  refine nv_aload_n (i := 0) X dX8_init_45 rfl rfl ?_
  refine nv_bipush (v := 120) X dX8_init_46 (by decide) ?_
  refine nv_newI (N := 120) X (by decide) (by decide) (by decide) (by decide) (by decide) dX8_init_48 (fun q5 => ?_)
  refine nv_cons ?_
  refine nv_putF0 (T := TX8) (N := 26) (ci := 7) (fs' := [.ref q0, .ref q1, .ref q2, .int 0, .int 0, .ref q3, .ref q4, .ref q5, .int 0, .int 0, .int 0, .int 0, .int 0, .int 0, .int 0, .null, .null, .int 0, .null, .null, .null, .null, .null, .null, .null, .int 0]) X tyX8 ix_X8 tyX8_ok nmX8 rfl hnm 7 (by decide) rfl rfl rfl rfl rfl (Nat.le_of_ble_eq_true rfl) rfl fl_X8_25 dX8_init_50 ?_
  refine nv_aload_n (i := 0) X dX8_init_53 rfl rfl ?_
  refine nv_bipush (v := 122) X dX8_init_54 (by decide) ?_
  refine nv_newI (N := 122) X (by decide) (by decide) (by decide) (by decide) (by decide) dX8_init_56 (fun q6 => ?_)
  refine nv_cons ?_
  refine nv_putF0 (T := TX8) (N := 26) (ci := 7) (fs' := [.ref q0, .ref q1, .ref q2, .int 0, .int 0, .ref q3, .ref q4, .ref q5, .int 0, .int 0, .int 0, .int 0, .int 0, .int 0, .int 0, .ref q6, .null, .int 0, .null, .null, .null, .null, .null, .null, .null, .int 0]) X tyX8 ix_X8 tyX8_ok nmX8 rfl hnm 15 (by decide) rfl rfl rfl rfl rfl (Nat.le_of_ble_eq_true rfl) rfl fl_X8_28 dX8_init_58 ?_
  refine nv_aload_n (i := 0) X dX8_init_61 rfl rfl ?_
  refine nv_sipush (v := 2928) X dX8_init_62 (by decide) ?_
  refine nv_newI (N := 2928) X (by decide) (by decide) (by decide) (by decide) (by decide) dX8_init_65 (fun q7 => ?_)
  refine nv_cons ?_
  refine nv_putF0 (T := TX8) (N := 26) (ci := 7) (fs' := [.ref q0, .ref q1, .ref q2, .int 0, .int 0, .ref q3, .ref q4, .ref q5, .int 0, .int 0, .int 0, .int 0, .int 0, .int 0, .int 0, .ref q6, .ref q7, .int 0, .null, .null, .null, .null, .null, .null, .null, .int 0]) X tyX8 ix_X8 tyX8_ok nmX8 rfl hnm 16 (by decide) rfl rfl rfl rfl rfl (Nat.le_of_ble_eq_true rfl) rfl fl_X8_31 dX8_init_67 ?_
  refine nv_aload_n (i := 0) X dX8_init_70 rfl rfl ?_
  refine nv_bipush (v := 8) X dX8_init_71 (by decide) ?_
  refine nv_newI (N := 8) X (by decide) (by decide) (by decide) (by decide) (by decide) dX8_init_73 (fun q8 => ?_)
  refine nv_cons ?_
  refine nv_putF0 (T := TX8) (N := 26) (ci := 7) (fs' := [.ref q0, .ref q1, .ref q2, .int 0, .int 0, .ref q3, .ref q4, .ref q5, .int 0, .int 0, .int 0, .int 0, .int 0, .int 0, .int 0, .ref q6, .ref q7, .int 0, .ref q8, .null, .null, .null, .null, .null, .null, .int 0]) X tyX8 ix_X8 tyX8_ok nmX8 rfl hnm 18 (by decide) rfl rfl rfl rfl rfl (Nat.le_of_ble_eq_true rfl) rfl fl_X8_34 dX8_init_75 ?_
  refine nv_aload_n (i := 0) X dX8_init_78 rfl rfl ?_
  refine nv_sipush (v := 4096) X dX8_init_79 (by decide) ?_
  refine nv_newI (N := 4096) X (by decide) (by decide) (by decide) (by decide) (by decide) dX8_init_82 (fun q9 => ?_)
  refine nv_cons ?_
  refine nv_putF0 (T := TX8) (N := 26) (ci := 7) (fs' := [.ref q0, .ref q1, .ref q2, .int 0, .int 0, .ref q3, .ref q4, .ref q5, .int 0, .int 0, .int 0, .int 0, .int 0, .int 0, .int 0, .ref q6, .ref q7, .int 0, .ref q8, .ref q9, .null, .null, .null, .null, .null, .int 0]) X tyX8 ix_X8 tyX8_ok nmX8 rfl hnm 19 (by decide) rfl rfl rfl rfl rfl (Nat.le_of_ble_eq_true rfl) rfl fl_X8_37 dX8_init_84 ?_
  refine nv_aload_n (i := 0) X dX8_init_87 rfl rfl ?_
  refine nv_bipush (v := 8) X dX8_init_88 (by decide) ?_
  refine nv_newI (N := 8) X (by decide) (by decide) (by decide) (by decide) (by decide) dX8_init_90 (fun q10 => ?_)
  refine nv_cons ?_
  refine nv_putF0 (T := TX8) (N := 26) (ci := 7) (fs' := [.ref q0, .ref q1, .ref q2, .int 0, .int 0, .ref q3, .ref q4, .ref q5, .int 0, .int 0, .int 0, .int 0, .int 0, .int 0, .int 0, .ref q6, .ref q7, .int 0, .ref q8, .ref q9, .ref q10, .null, .null, .null, .null, .int 0]) X tyX8 ix_X8 tyX8_ok nmX8 rfl hnm 20 (by decide) rfl rfl rfl rfl rfl (Nat.le_of_ble_eq_true rfl) rfl fl_X8_40 dX8_init_92 ?_
  refine nv_aload_n (i := 0) X dX8_init_95 rfl rfl ?_
  refine nv_bipush (v := 122) X dX8_init_96 (by decide) ?_
  refine nv_newI (N := 122) X (by decide) (by decide) (by decide) (by decide) (by decide) dX8_init_98 (fun q11 => ?_)
  refine nv_cons ?_
  refine nv_putF0 (T := TX8) (N := 26) (ci := 7) (fs' := [.ref q0, .ref q1, .ref q2, .int 0, .int 0, .ref q3, .ref q4, .ref q5, .int 0, .int 0, .int 0, .int 0, .int 0, .int 0, .int 0, .ref q6, .ref q7, .int 0, .ref q8, .ref q9, .ref q10, .ref q11, .null, .null, .null, .int 0]) X tyX8 ix_X8 tyX8_ok nmX8 rfl hnm 21 (by decide) rfl rfl rfl rfl rfl (Nat.le_of_ble_eq_true rfl) rfl fl_X8_43 dX8_init_100 ?_
  refine nv_aload_n (i := 0) X dX8_init_103 rfl rfl ?_
  refine nv_iconst (v := 2) X dX8_init_104 (by decide) ?_
  refine nv_newZ (N := 2) X (by decide) (by decide) (by decide) (by decide) (by decide) dX8_init_105 (fun q12 => ?_)
  refine nv_cons ?_
  refine nv_putF0 (T := TX8) (N := 26) (ci := 7) (fs' := [.ref q0, .ref q1, .ref q2, .int 0, .int 0, .ref q3, .ref q4, .ref q5, .int 0, .int 0, .int 0, .int 0, .int 0, .int 0, .int 0, .ref q6, .ref q7, .int 0, .ref q8, .ref q9, .ref q10, .ref q11, .ref q12, .null, .null, .int 0]) X tyX8 ix_X8 tyX8_ok nmX8 rfl hnm 22 (by decide) rfl rfl rfl rfl rfl (Nat.le_of_ble_eq_true rfl) rfl fl_X8_46 dX8_init_107 ?_
  refine nv_aload_n (i := 0) X dX8_init_110 rfl rfl ?_
  refine nv_sipush (v := 244) X dX8_init_111 (by decide) ?_
  refine nv_newI (N := 244) X (by decide) (by decide) (by decide) (by decide) (by decide) dX8_init_114 (fun q13 => ?_)
  refine nv_cons ?_
  refine nv_putF0 (T := TX8) (N := 26) (ci := 7) (fs' := [.ref q0, .ref q1, .ref q2, .int 0, .int 0, .ref q3, .ref q4, .ref q5, .int 0, .int 0, .int 0, .int 0, .int 0, .int 0, .int 0, .ref q6, .ref q7, .int 0, .ref q8, .ref q9, .ref q10, .ref q11, .ref q12, .ref q13, .null, .int 0]) X tyX8 ix_X8 tyX8_ok nmX8 rfl hnm 23 (by decide) rfl rfl rfl rfl rfl (Nat.le_of_ble_eq_true rfl) rfl fl_X8_50 dX8_init_116 ?_
  refine nv_aload_n (i := 0) X dX8_init_119 rfl rfl ?_
  refine nv_bipush (v := 16) X dX8_init_120 (by decide) ?_
  refine nv_newI (N := 16) X (by decide) (by decide) (by decide) (by decide) (by decide) dX8_init_122 (fun q14 => ?_)
  refine nv_cons ?_
  refine nv_putF0 (T := TX8) (N := 26) (ci := 7) (fs' := [.ref q0, .ref q1, .ref q2, .int 0, .int 0, .ref q3, .ref q4, .ref q5, .int 0, .int 0, .int 0, .int 0, .int 0, .int 0, .int 0, .ref q6, .ref q7, .int 0, .ref q8, .ref q9, .ref q10, .ref q11, .ref q12, .ref q13, .ref q14, .int 0]) X tyX8 ix_X8 tyX8_ok nmX8 rfl hnm 24 (by decide) rfl rfl rfl rfl rfl (Nat.le_of_ble_eq_true rfl) rfl fl_X8_53 dX8_init_124 ?_
  refine nv_iconst (v := 0) X dX8_init_127 (by decide) ?_
  refine nv_istore_n X dX8_init_128 rfl (by decide) rfl ?_
  have key : ∀ d i : Nat, i + d = 8 → nV p l e (n_rm 1 15 8164) s m [Value.ref h0].toArray below meth c D A (nQ below [Value.ref h0].toArray s D A (fun u : Nat × Nat × Nat × Nat × Nat × Nat × Nat × Nat × Nat × Nat × Nat × Nat × Nat × Nat × Nat => bModel cI cZ (ng 8) h0 u.1 u.2.1 u.2.2.1 u.2.2.2.1 u.2.2.2.2.1 u.2.2.2.2.2.1 u.2.2.2.2.2.2.1 u.2.2.2.2.2.2.2.1 u.2.2.2.2.2.2.2.2.1 u.2.2.2.2.2.2.2.2.2.1 u.2.2.2.2.2.2.2.2.2.2.1 u.2.2.2.2.2.2.2.2.2.2.2.1 u.2.2.2.2.2.2.2.2.2.2.2.2.1 u.2.2.2.2.2.2.2.2.2.2.2.2.2.1 u.2.2.2.2.2.2.2.2.2.2.2.2.2.2) 15 8164) 2 15 8164 (bModel cI cZ (ng i) h0 q0 q1 q2 q3 q4 q5 q6 q7 q8 q9 q10 q11 q12 q13 q14) 129 [(1, .int (nI i)), (0, .ref h0)] [] := by
    intro d
    induction d with
    | zero =>
      intro i hi
      have hi : i = 8 := by omega
      subst hi
      refine nv_iload_n (i := 0) X dX8_init_129 rfl rfl ?_
      refine nv_bipush (v := 8) X dX8_init_130 (by decide) ?_
      refine nv_icmp_ge (tgt := 148) X dX8_init_132 (by decide) (fun _ => ?_) (fun q => absurd (show (8 : Int32) ≤ nI 8 by decide) q)
      exact nv_ret X hr (q0, q1, q2, q3, q4, q5, q6, q7, q8, q9, q10, q11, q12, q13, q14) rfl dX8_init_148
    | succ d ih =>
      intro i hi
      refine nv_iload_n (i := 0) X dX8_init_129 rfl rfl ?_
      refine nv_bipush (v := 8) X dX8_init_130 (by decide) ?_
      refine nv_icmp_ge (tgt := 148) X dX8_init_132 (by decide) (fun q => absurd ((i_le (a := 8) (by omega) (by omega)).mp q) (by omega)) (fun _ => ?_)
      refine nv_aload_n (i := 1) X dX8_init_135 rfl rfl ?_
      refine nv_getr (C := RX8) (T := TX8) (N := 26) (ci := 7) X 0 ix_X8 rfl 1 (by decide) rfl rfl fl_X8_13 dX8_init_136 ?_
      refine nv_iload_n (i := 0) X dX8_init_139 rfl rfl ?_
      refine nv_iconst (v := -1) X dX8_init_140 (by decide) ?_
      refine nv_iast (ws' := bModel cI cZ (ng (i + 1)) h0 q0 q1 q2 q3 q4 q5 q6 q7 q8 q9 q10 q11 q12 q13 q14) X 2 rfl (vp_in_nI (show i < 8 by omega) (by omega)) (by rw [ng_s (by omega)]; rfl) dX8_init_141 ?_
      refine nv_iinc (i := 0) (v := nI (i + 1)) X dX8_init_142 rfl (nI_1 i) (by decide) rfl ?_
      refine nv_goto (tgt := 129) X dX8_init_145 (by decide) ?_
      exact ih (i + 1) (by omega)
  have := key 8 0 (by omega)
  rw [ng_0] at this
  exact this
