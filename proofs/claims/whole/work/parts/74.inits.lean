section NVC
variable {p : Program} {l : Launch} {e : Env} {R : Room} {s : State} {m : MethodId} {args : Array Value} {below : List Frame} {meth : Method} {c : Code} {D : va_G} {cI cZ cJ : ClassId} {A : Nat → Prop} {Q : State → Prop} {n kc ks : Nat} {ws : va_W} {pc : Nat} {lv : List (Nat × Value)} {st : List Value} {cc : ByteArray} {own : String}
theorem nv_cons {x : Nat × va_E} {Y w : va_W} (k : nV p l e R s m args below meth c D A Q n kc ks (x :: (Y ++ w)) pc lv st) : nV p l e R s m args below meth c D A Q n kc ks ((x :: Y) ++ w) pc lv st := k
theorem nv_uncons {x : Nat × va_E} {Y w : va_W} (k : nV p l e R s m args below meth c D A Q n kc ks ((x :: Y) ++ w) pc lv st) : nV p l e R s m args below meth c D A Q n kc ks (x :: (Y ++ w)) pc lv st := k
theorem nv_putF0 (X : nX p s m args meth c D cI cZ cJ A cc own n) {T : u_T} {N ci idx a : Nat} {fs fs' : List Value} {v : Nat} {ty : FieldType} {Y : va_W} (ty0 : Nat → FieldType) (hin : ∀ w ∈ u_ws own T N, w ∈ fr_tbl) (hty : ∀ k, k < N → parseFieldDescriptor (T k).2.2.1 = some (ty0 k)) (hnm : ∀ a, a < N → ∀ b, b < N → a ≠ b → (T a).2.1 ≠ (T b).2.1) (hc : fr_cls[ci]? = some (own, T, N)) (hname : meth.name = "<init>") (j : Nat) (hj : j < N) (hfin : (T j).2.2.2 = true) (hdecl : (T j).1 = own) (hd : parseFieldDescriptor (T j).2.2.1 = some ty) (hnr : narrow ty (.ref v) = .ref v) (hfit : fits ty (.ref v) = true) (hl0 : j < fs.length) (hfs : fs.set j (.ref v) = fs') (hw : Cond.fieldLink own idx (T j).1 (T j).2.1 (T j).2.2.1 ∈ fr_tbl) (d : decode cc pc = .ok (.putfield idx, 3)) (k : nV p l e R s m args below meth c D A Q n kc ks ((a, .inr (ci, fs')) :: Y) (pc + 3) lv st) : nV p l e R s m args below meth c D A Q n kc ks ((a, .inr (ci, fs)) :: Y) pc lv (.ref v :: .ref a :: st) :=
  nv_putF X 0 ty0 hin hty hnm hc hname j hj hfin hdecl hd hnr hfit rfl hl0 hw (by rw [hfs]; rfl) d k
theorem nv_puti0 (X : nX p s m args meth c D cI cZ cJ A cc own n) {T : u_T} {N ci idx a : Nat} {fs fs' : List Value} {v : Int32} {Y : va_W} (ty0 : Nat → FieldType) (hin : ∀ w ∈ u_ws own T N, w ∈ fr_tbl) (hty : ∀ k, k < N → parseFieldDescriptor (T k).2.2.1 = some (ty0 k)) (hnm : ∀ a, a < N → ∀ b, b < N → a ≠ b → (T a).2.1 ≠ (T b).2.1) (hc : fr_cls[ci]? = some (own, T, N)) (j : Nat) (hj : j < N) (hfin : (T j).2.2.2 = false) (hd : parseFieldDescriptor (T j).2.2.1 = some .int) (hl0 : j < fs.length) (hfs : fs.set j (.int v) = fs') (hw : Cond.fieldLink own idx (T j).1 (T j).2.1 (T j).2.2.1 ∈ fr_tbl) (d : decode cc pc = .ok (.putfield idx, 3)) (k : nV p l e R s m args below meth c D A Q n kc ks ((a, .inr (ci, fs')) :: Y) (pc + 3) lv st) : nV p l e R s m args below meth c D A Q n kc ks ((a, .inr (ci, fs)) :: Y) pc lv (.int v :: .ref a :: st) :=
  nv_puti X 0 ty0 hin hty hnm hc j hj hfin hd rfl hl0 hw (by rw [hfs]; rfl) d k
end NVC
def bLand (cI cJ : ClassId) (h0 q0 : Nat) : va_W := (h0, .inr (2, [.ref q0])) :: ([] ++ [(q0, .inl (cI, 122, .inl (fun _ => (0 : Int32))))])
set_option maxRecDepth 100000 in
set_option maxHeartbeats 4000000 in
theorem n_X3_init {l : Launch} {D : va_G} {cI cZ cJ : ClassId} {h0 : Nat} : nM (S := Nat) l yX3_init cX3_init 1 1 1 122 [.ref h0] D cI cZ cJ [(h0, .inr (2, [.null]))] (fun u => bLand cI cJ h0 u) := by
  refine nm_of (by decide) (Nat.le_of_ble_eq_true rfl) (fun p e s m below meth c A X hr hnm => ?_)
  have X : nX p s m _ meth c D cI cZ cJ A cX3_init RX3 1 := X
  have hnm : meth.name = "<init>" := hnm
  refine nv_aload_n (i := 0) X dX3_init_0 rfl rfl ?_
  refine nv_obj X mo_X3_3 (by decide) dX3_init_1 ?_
  refine nv_aload_n (i := 0) X dX3_init_4 rfl rfl ?_
  refine nv_bipush (v := 122) X dX3_init_5 (by decide) ?_
  refine nv_newI (N := 122) X (by decide) (by decide) (by decide) (by decide) (by decide) dX3_init_7 (fun q0 => ?_)
  refine nv_cons ?_
  refine nv_putF0 (T := TX3) (N := 1) (ci := 2) (fs' := [.ref q0]) X tyX3 ix_X3 tyX3_ok nmX3 rfl hnm 0 (by decide) rfl rfl rfl rfl rfl (Nat.le_of_ble_eq_true rfl) rfl fl_X3_9 dX3_init_9 ?_
  exact nv_ret X hr q0 rfl dX3_init_12
def bReader (cI cJ : ClassId) (h0 q0 : Nat) : va_W := (h0, .inr (3, [.ref q0, .int 0, .int 0, .int 0, .int 0, .int 0, .int 0])) :: ([] ++ [(q0, .inl (cI, 120, .inl (fun _ => (0 : Int32))))])
set_option maxRecDepth 100000 in
set_option maxHeartbeats 4000000 in
theorem n_X4_init {l : Launch} {D : va_G} {cI cZ cJ : ClassId} {h0 : Nat} : nM (S := Nat) l yX4_init cX4_init 1 1 1 120 [.ref h0] D cI cZ cJ [(h0, .inr (3, [.null, .int 0, .int 0, .int 0, .int 0, .int 0, .int 0]))] (fun u => bReader cI cJ h0 u) := by
  refine nm_of (by decide) (Nat.le_of_ble_eq_true rfl) (fun p e s m below meth c A X hr hnm => ?_)
  have X : nX p s m _ meth c D cI cZ cJ A cX4_init RX4 1 := X
  have hnm : meth.name = "<init>" := hnm
  refine nv_aload_n (i := 0) X dX4_init_0 rfl rfl ?_
  refine nv_obj X mo_X4_1 (by decide) dX4_init_1 ?_
  refine nv_aload_n (i := 0) X dX4_init_4 rfl rfl ?_
  refine nv_bipush (v := 120) X dX4_init_5 (by decide) ?_
  refine nv_newI (N := 120) X (by decide) (by decide) (by decide) (by decide) (by decide) dX4_init_7 (fun q0 => ?_)
  refine nv_cons ?_
  refine nv_putF0 (T := TX4) (N := 7) (ci := 3) (fs' := [.ref q0, .int 0, .int 0, .int 0, .int 0, .int 0, .int 0]) X tyX4 ix_X4 tyX4_ok nmX4 rfl hnm 0 (by decide) rfl rfl rfl rfl rfl (Nat.le_of_ble_eq_true rfl) rfl fl_X4_9 dX4_init_9 ?_
  refine nv_aload_n (i := 0) X dX4_init_12 rfl rfl ?_
  refine nv_iconst (v := 0) X dX4_init_13 (by decide) ?_
  refine nv_puti0 (T := TX4) (N := 7) (ci := 3) (fs' := [.ref q0, .int 0, .int 0, .int 0, .int 0, .int 0, .int 0]) X tyX4 ix_X4 tyX4_ok nmX4 rfl 1 (by decide) rfl rfl (Nat.le_of_ble_eq_true rfl) rfl fl_X4_13 dX4_init_14 ?_
  exact nv_ret X hr q0 rfl dX4_init_17
def bActs (cI cJ : ClassId) (h0 q0 : Nat) : va_W := (h0, .inr (0, [.ref q0, .int 0, .int 0])) :: ([] ++ mu_ws cI cJ 24 122 q0)
set_option maxRecDepth 100000 in
set_option maxHeartbeats 4000000 in
theorem n_X0_init {l : Launch} {D : va_G} {cI cZ cJ : ClassId} {h0 : Nat} : nM (S := Nat) l yX0_init cX0_init 1 1 25 2952 [.ref h0] D cI cZ cJ [(h0, .inr (0, [.null, .int 0, .int 0]))] (fun u => bActs cI cJ h0 u) := by
  refine nm_of (by decide) (Nat.le_of_ble_eq_true rfl) (fun p e s m below meth c A X hr hnm => ?_)
  have X : nX p s m _ meth c D cI cZ cJ A cX0_init RX0 1 := X
  have hnm : meth.name = "<init>" := hnm
  refine nv_aload_n (i := 0) X dX0_init_0 rfl rfl ?_
  refine nv_obj X mo_X0_1 (by decide) dX0_init_1 ?_
  refine nv_aload_n (i := 0) X dX0_init_4 rfl rfl ?_
  refine nv_bipush (v := 24) X dX0_init_5 (by decide) ?_
  refine nv_bipush (v := 122) X dX0_init_7 (by decide) ?_
  refine nv_multi (N := 24) (M := 122) X cl_X0_11 (by decide) (by decide) (by decide) (by decide) (by decide) (by decide) (by decide) (by decide) dX0_init_9 (fun q0 => ?_)
  refine nv_cons ?_
  refine nv_putF0 (T := TX0) (N := 3) (ci := 0) (fs' := [.ref q0, .int 0, .int 0]) X tyX0 ix_X0 tyX0_ok nmX0 rfl hnm 0 (by decide) rfl rfl rfl rfl rfl (Nat.le_of_ble_eq_true rfl) rfl fl_X0_13 dX0_init_13 ?_
  refine nv_aload_n (i := 0) X dX0_init_16 rfl rfl ?_
  refine nv_iconst (v := 0) X dX0_init_17 (by decide) ?_
  refine nv_puti0 (T := TX0) (N := 3) (ci := 0) (fs' := [.ref q0, .int 0, .int 0]) X tyX0 ix_X0 tyX0_ok nmX0 rfl 1 (by decide) rfl rfl (Nat.le_of_ble_eq_true rfl) rfl fl_X0_16 dX0_init_18 ?_
  refine nv_aload_n (i := 0) X dX0_init_21 rfl rfl ?_
  refine nv_iconst (v := 0) X dX0_init_22 (by decide) ?_
  refine nv_puti0 (T := TX0) (N := 3) (ci := 0) (fs' := [.ref q0, .int 0, .int 0]) X tyX0 ix_X0 tyX0_ok nmX0 rfl 2 (by decide) rfl rfl (Nat.le_of_ble_eq_true rfl) rfl fl_X0_20 dX0_init_23 ?_
  exact nv_ret X hr q0 rfl dX0_init_26
def bSeer (cI cJ : ClassId) (h0 hl q0 q1 q2 q3 q4 q5 q6 : Nat) : va_W := (h0, .inr (4, [.ref hl, .ref q0, .ref q1, .ref q2, .ref q3, .ref q4, .ref q5, .ref q6])) :: ((((((([] ++ [(q0, .inl (cI, 9, .inl (fun _ => (0 : Int32))))]) ++ [(q1, .inl (cI, 9, .inl (fun _ => (0 : Int32))))]) ++ [(q2, .inl (cI, 8, .inl (fun _ => (0 : Int32))))]) ++ [(q3, .inl (cI, 8, .inl (fun _ => (0 : Int32))))]) ++ [(q4, .inl (cI, 64, .inl (fun _ => (0 : Int32))))]) ++ [(q5, .inl (cI, 9, .inl (fun _ => (0 : Int32))))]) ++ [(q6, .inl (cI, 4096, .inl (fun _ => (0 : Int32))))])
set_option maxRecDepth 100000 in
set_option maxHeartbeats 4000000 in
theorem n_X5_init {l : Launch} {D : va_G} {cI cZ cJ : ClassId} {h0 hl : Nat} : nM (S := Nat × Nat × Nat × Nat × Nat × Nat × Nat) l yX5_init cX5_init 2 1 7 4203 [.ref h0, .ref hl] D cI cZ cJ [(h0, .inr (4, [.null, .null, .null, .null, .null, .null, .null, .null]))] (fun u => bSeer cI cJ h0 hl u.1 u.2.1 u.2.2.1 u.2.2.2.1 u.2.2.2.2.1 u.2.2.2.2.2.1 u.2.2.2.2.2.2) := by
  refine nm_of (by decide) (Nat.le_of_ble_eq_true rfl) (fun p e s m below meth c A X hr hnm => ?_)
  have X : nX p s m _ meth c D cI cZ cJ A cX5_init RX5 2 := X
  have hnm : meth.name = "<init>" := hnm
  refine nv_aload_n (i := 0) X dX5_init_0 rfl rfl ?_
  refine nv_obj X mo_X5_5 (by decide) dX5_init_1 ?_
  refine nv_aload_n (i := 0) X dX5_init_4 rfl rfl ?_
  refine nv_aload_n (i := 1) X dX5_init_5 rfl rfl ?_
  refine nv_putF0 (T := TX5) (N := 8) (ci := 4) (fs' := [.ref hl, .null, .null, .null, .null, .null, .null, .null]) X tyX5 ix_X5 tyX5_ok nmX5 rfl hnm 0 (by decide) rfl rfl rfl rfl rfl (Nat.le_of_ble_eq_true rfl) rfl fl_X5_11 dX5_init_6 ?_
  refine nv_aload_n (i := 0) X dX5_init_9 rfl rfl ?_
  refine nv_bipush (v := 9) X dX5_init_10 (by decide) ?_
  refine nv_newI (N := 9) X (by decide) (by decide) (by decide) (by decide) (by decide) dX5_init_12 (fun q0 => ?_)
  refine nv_cons ?_
  refine nv_putF0 (T := TX5) (N := 8) (ci := 4) (fs' := [.ref hl, .ref q0, .null, .null, .null, .null, .null, .null]) X tyX5 ix_X5 tyX5_ok nmX5 rfl hnm 1 (by decide) rfl rfl rfl rfl rfl (Nat.le_of_ble_eq_true rfl) rfl fl_X5_17 dX5_init_14 ?_
  refine nv_aload_n (i := 0) X dX5_init_17 rfl rfl ?_
  refine nv_bipush (v := 9) X dX5_init_18 (by decide) ?_
  refine nv_newI (N := 9) X (by decide) (by decide) (by decide) (by decide) (by decide) dX5_init_20 (fun q1 => ?_)
  refine nv_cons ?_
  refine nv_putF0 (T := TX5) (N := 8) (ci := 4) (fs' := [.ref hl, .ref q0, .ref q1, .null, .null, .null, .null, .null]) X tyX5 ix_X5 tyX5_ok nmX5 rfl hnm 2 (by decide) rfl rfl rfl rfl rfl (Nat.le_of_ble_eq_true rfl) rfl fl_X5_21 dX5_init_22 ?_
  refine nv_aload_n (i := 0) X dX5_init_25 rfl rfl ?_
  refine nv_bipush (v := 8) X dX5_init_26 (by decide) ?_
  refine nv_newI (N := 8) X (by decide) (by decide) (by decide) (by decide) (by decide) dX5_init_28 (fun q2 => ?_)
  refine nv_cons ?_
  refine nv_putF0 (T := TX5) (N := 8) (ci := 4) (fs' := [.ref hl, .ref q0, .ref q1, .ref q2, .null, .null, .null, .null]) X tyX5 ix_X5 tyX5_ok nmX5 rfl hnm 3 (by decide) rfl rfl rfl rfl rfl (Nat.le_of_ble_eq_true rfl) rfl fl_X5_24 dX5_init_30 ?_
  refine nv_aload_n (i := 0) X dX5_init_33 rfl rfl ?_
  refine nv_bipush (v := 8) X dX5_init_34 (by decide) ?_
  refine nv_newI (N := 8) X (by decide) (by decide) (by decide) (by decide) (by decide) dX5_init_36 (fun q3 => ?_)
  refine nv_cons ?_
  refine nv_putF0 (T := TX5) (N := 8) (ci := 4) (fs' := [.ref hl, .ref q0, .ref q1, .ref q2, .ref q3, .null, .null, .null]) X tyX5 ix_X5 tyX5_ok nmX5 rfl hnm 4 (by decide) rfl rfl rfl rfl rfl (Nat.le_of_ble_eq_true rfl) rfl fl_X5_27 dX5_init_38 ?_
  refine nv_aload_n (i := 0) X dX5_init_41 rfl rfl ?_
  refine nv_bipush (v := 64) X dX5_init_42 (by decide) ?_
  refine nv_newI (N := 64) X (by decide) (by decide) (by decide) (by decide) (by decide) dX5_init_44 (fun q4 => ?_)
  refine nv_cons ?_
  refine nv_putF0 (T := TX5) (N := 8) (ci := 4) (fs' := [.ref hl, .ref q0, .ref q1, .ref q2, .ref q3, .ref q4, .null, .null]) X tyX5 ix_X5 tyX5_ok nmX5 rfl hnm 5 (by decide) rfl rfl rfl rfl rfl (Nat.le_of_ble_eq_true rfl) rfl fl_X5_30 dX5_init_46 ?_
  refine nv_aload_n (i := 0) X dX5_init_49 rfl rfl ?_
  refine nv_bipush (v := 9) X dX5_init_50 (by decide) ?_
  refine nv_newI (N := 9) X (by decide) (by decide) (by decide) (by decide) (by decide) dX5_init_52 (fun q5 => ?_)
  refine nv_cons ?_
  refine nv_putF0 (T := TX5) (N := 8) (ci := 4) (fs' := [.ref hl, .ref q0, .ref q1, .ref q2, .ref q3, .ref q4, .ref q5, .null]) X tyX5 ix_X5 tyX5_ok nmX5 rfl hnm 6 (by decide) rfl rfl rfl rfl rfl (Nat.le_of_ble_eq_true rfl) rfl fl_X5_33 dX5_init_54 ?_
  refine nv_aload_n (i := 0) X dX5_init_57 rfl rfl ?_
  refine nv_sipush (v := 4096) X dX5_init_58 (by decide) ?_
  refine nv_newI (N := 4096) X (by decide) (by decide) (by decide) (by decide) (by decide) dX5_init_61 (fun q6 => ?_)
  refine nv_cons ?_
  refine nv_putF0 (T := TX5) (N := 8) (ci := 4) (fs' := [.ref hl, .ref q0, .ref q1, .ref q2, .ref q3, .ref q4, .ref q5, .ref q6]) X tyX5 ix_X5 tyX5_ok nmX5 rfl hnm 7 (by decide) rfl rfl rfl rfl rfl (Nat.le_of_ble_eq_true rfl) rfl fl_X5_36 dX5_init_63 ?_
  exact nv_ret X hr (q0, q1, q2, q3, q4, q5, q6) rfl dX5_init_66
def bAsker (cI cJ : ClassId) (h0 hl q0 : Nat) : va_W := (h0, .inr (1, [.ref hl, .ref q0, .int 0])) :: ([] ++ [(q0, .inl (cI, 16, .inl (fun _ => (0 : Int32))))])
set_option maxRecDepth 100000 in
set_option maxHeartbeats 4000000 in
theorem n_X1_init {l : Launch} {D : va_G} {cI cZ cJ : ClassId} {h0 hl : Nat} : nM (S := Nat) l yX1_init cX1_init 2 1 1 16 [.ref h0, .ref hl] D cI cZ cJ [(h0, .inr (1, [.null, .null, .int 0]))] (fun u => bAsker cI cJ h0 hl u) := by
  refine nm_of (by decide) (Nat.le_of_ble_eq_true rfl) (fun p e s m below meth c A X hr hnm => ?_)
  have X : nX p s m _ meth c D cI cZ cJ A cX1_init RX1 2 := X
  have hnm : meth.name = "<init>" := hnm
  refine nv_aload_n (i := 0) X dX1_init_0 rfl rfl ?_
  refine nv_obj X mo_X1_3 (by decide) dX1_init_1 ?_
  refine nv_aload_n (i := 0) X dX1_init_4 rfl rfl ?_
  refine nv_aload_n (i := 1) X dX1_init_5 rfl rfl ?_
  refine nv_putF0 (T := TX1) (N := 3) (ci := 1) (fs' := [.ref hl, .null, .int 0]) X tyX1 ix_X1 tyX1_ok nmX1 rfl hnm 0 (by decide) rfl rfl rfl rfl rfl (Nat.le_of_ble_eq_true rfl) rfl fl_X1_9 dX1_init_6 ?_
  refine nv_aload_n (i := 0) X dX1_init_9 rfl rfl ?_
  refine nv_bipush (v := 16) X dX1_init_10 (by decide) ?_
  refine nv_newI (N := 16) X (by decide) (by decide) (by decide) (by decide) (by decide) dX1_init_12 (fun q0 => ?_)
  refine nv_cons ?_
  refine nv_putF0 (T := TX1) (N := 3) (ci := 1) (fs' := [.ref hl, .ref q0, .int 0]) X tyX1 ix_X1 tyX1_ok nmX1 rfl hnm 1 (by decide) rfl rfl rfl rfl rfl (Nat.le_of_ble_eq_true rfl) rfl fl_X1_15 dX1_init_14 ?_
  refine nv_aload_n (i := 0) X dX1_init_17 rfl rfl ?_
  refine nv_iconst (v := 0) X dX1_init_18 (by decide) ?_
  refine nv_puti0 (T := TX1) (N := 3) (ci := 1) (fs' := [.ref hl, .ref q0, .int 0]) X tyX1 ix_X1 tyX1_ok nmX1 rfl 2 (by decide) rfl rfl (Nat.le_of_ble_eq_true rfl) rfl fl_X1_19 dX1_init_19 ?_
  exact nv_ret X hr q0 rfl dX1_init_22
