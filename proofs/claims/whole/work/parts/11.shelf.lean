def F_X0_number  (σ : fr_St) : Option (Int32 × fr_St) := some ((σ 19 2), σ)
set_option maxRecDepth 100000 in
set_option maxHeartbeats 4000000 in
theorem b_X0_number {p : Program} {l : Launch} {e : Env} {s : State} {m : MethodId} {args : Array Value} {below : List Frame} {meth : Method} {c : Code} {g : fr_G} {Q : State → Prop} (X : fr_X p s m args meth c g cX0_number RX0 1) (hr : meth.sig.returnType = (some .int))   {σ τ : fr_St} {r : Int32} (hQ : Q = fr_Qi below args s g r τ) (hF : F_X0_number  σ = some (r, τ)) : fr_V p l e (fr_rm 0) s m args below meth c g Q 1 σ 0 [(0, .ref (g.2.1 19))] [] := by
  unfold F_X0_number at hF
  refine sv_aload_n (i := 0) X dX0_number_0 rfl rfl ?_
  refine sv_geti X ix_X0 rfl 2 (by decide) rfl rfl fl_X0_20 dX0_number_1 ?_
  exact sv_iret X hr hQ dX0_number_4 hF
theorem c_X0_number {l : Launch} {g : fr_G}   {σ τ : fr_St} {r : Int32} (hF : F_X0_number  σ = some (r, τ)) : fr_Ci l g yX0_number (fr_ws yX0_number cX0_number 1 (some .int)) 0 [.ref (g.2.1 19)] σ r τ := fr_mi (by decide) (Nat.le_of_ble_eq_true rfl) (fun p e s m below meth c X hr => b_X0_number X hr  rfl hF)
def F_X0_forgetAll  (σ : fr_St) : Option fr_St := fr_let (fr_up σ 19 2 (0 : Int32)) (fun s1 => some s1)
set_option maxRecDepth 100000 in
set_option maxHeartbeats 4000000 in
theorem b_X0_forgetAll {p : Program} {l : Launch} {e : Env} {s : State} {m : MethodId} {args : Array Value} {below : List Frame} {meth : Method} {c : Code} {g : fr_G} {Q : State → Prop} (X : fr_X p s m args meth c g cX0_forgetAll RX0 1) (hr : meth.sig.returnType = (Option.none : Option Jvm.ClassFile.FieldType))   {σ τ : fr_St} (hQ : Q = fr_Qv below args s g τ) (hF : F_X0_forgetAll  σ = some τ) : fr_V p l e (fr_rm 0) s m args below meth c g Q 1 σ 0 [(0, .ref (g.2.1 19))] [] := by
  unfold F_X0_forgetAll at hF
  refine sv_aload_n (i := 0) X dX0_forgetAll_0 rfl rfl ?_
  refine sv_iconst (v := 0) X dX0_forgetAll_1 (by decide) ?_
  refine sv_puti (ty := .int) X ix_X0 tyX0_ok nmX0 rfl 2 (by decide) rfl rfl fl_X0_20 rfl rfl rfl rfl dX0_forgetAll_2 ?_
  refine sv_sig (fun s1 es1 => ?_)
  replace hF := fr_lete hF es1
  exact sv_vret X hr hQ dX0_forgetAll_5 hF
theorem c_X0_forgetAll {l : Launch} {g : fr_G}   {σ τ : fr_St} (hF : F_X0_forgetAll  σ = some τ) : fr_Cv l g yX0_forgetAll (fr_ws yX0_forgetAll cX0_forgetAll 1 (Option.none : Option Jvm.ClassFile.FieldType)) 0 [.ref (g.2.1 19)] σ τ := fr_mv (by decide) (Nat.le_of_ble_eq_true rfl) (fun p e s m below meth c X hr => b_X0_forgetAll X hr  rfl hF)
def F_X0_keep  (σ : fr_St) : Option fr_St := if fr_ib (σ 19 1) 24 = true then fr_bS (F_X3_keepIn 15 (21 + fr_ix (σ 19 1)) σ) (fun s3 => fr_let (fr_up s3 19 1 (((s3 19 1) + (1 : Int32)) - ((s3 19 1) + (1 : Int32)) / (24 : Int32) * (24 : Int32))) (fun s4 => fr_let (fr_up s4 19 2 (if (24 : Int32) < ((s4 19 2) + (1 : Int32)) then (24 : Int32) else ((s4 19 2) + (1 : Int32)))) (fun s5 => some s5))) else none
set_option maxRecDepth 100000 in
set_option maxHeartbeats 4000000 in
theorem b_X0_keep {p : Program} {l : Launch} {e : Env} {s : State} {m : MethodId} {args : Array Value} {below : List Frame} {meth : Method} {c : Code} {g : fr_G} {Q : State → Prop} (X : fr_X p s m args meth c g cX0_keep RX0 2) (hr : meth.sig.returnType = (Option.none : Option Jvm.ClassFile.FieldType))   {σ τ : fr_St} (hQ : Q = fr_Qv below args s g τ) (hF : F_X0_keep  σ = some τ) : fr_V p l e (fr_rm 2) s m args below meth c g Q 2 σ 0 [(0, .ref (g.2.1 19)), (1, .ref (g.2.1 15))] [] := by
  unfold F_X0_keep at hF
  refine sv_aload_n (i := 1) X dX0_keep_0 rfl rfl ?_
  refine sv_aload_n (i := 0) X dX0_keep_1 rfl rfl ?_
  refine sv_getr X ix_X0 rfl 0 (by decide) rfl rfl fl_X0_13 dX0_keep_2 ?_
  refine sv_aload_n (i := 0) X dX0_keep_5 rfl rfl ?_
  refine sv_geti X ix_X0 rfl 1 (by decide) rfl rfl fl_X0_16 dX0_keep_6 ?_
  obtain ⟨hb1, hF⟩ := fr_chk hF
  refine sv_aald (t := 21 + fr_ix (σ 19 1)) X rfl hb1 (fr_a20 _ (fr_ixlt hb1)).1 dX0_keep_9 ?_
  obtain ⟨s3, hc2, hF⟩ := fr_bS_some hF
  refine sv_callVv X (c_X3_keepIn rfl rfl ((fr_a20 _ (fr_ixlt hb1)).2) hc2) cd_X3_keepIn ml_X0_23 im_X3_keepIn se_X3_keepIn in_RX3 hd_X3_keepIn rfl rfl (by decide) rfl (Nat.le_of_ble_eq_true rfl) dX0_keep_10 rfl ?_
  refine sv_aload_n (i := 0) X dX0_keep_13 rfl rfl ?_
  refine sv_aload_n (i := 0) X dX0_keep_14 rfl rfl ?_
  refine sv_geti X ix_X0 rfl 1 (by decide) rfl rfl fl_X0_16 dX0_keep_15 ?_
  refine sv_iconst (v := 1) X dX0_keep_18 (by decide) ?_
  refine sv_iadd X dX0_keep_19 ?_
  refine sv_bipush (v := 24) X dX0_keep_20 (by decide) ?_
  refine sv_irem X dX0_keep_22 (by decide) ?_
  refine sv_puti (ty := .int) X ix_X0 tyX0_ok nmX0 rfl 1 (by decide) rfl rfl fl_X0_16 rfl rfl rfl rfl dX0_keep_23 ?_
  refine sv_sig (fun s4 es4 => ?_)
  replace hF := fr_lete hF es4
  refine sv_aload_n (i := 0) X dX0_keep_26 rfl rfl ?_
  refine sv_aload_n (i := 0) X dX0_keep_27 rfl rfl ?_
  refine sv_geti X ix_X0 rfl 2 (by decide) rfl rfl fl_X0_20 dX0_keep_28 ?_
  refine sv_iconst (v := 1) X dX0_keep_31 (by decide) ?_
  refine sv_iadd X dX0_keep_32 ?_
  refine sv_bipush (v := 24) X dX0_keep_33 (by decide) ?_
  refine sv_min X ml_X0_27 sm_min in_RJ9 cd_min (by decide) (Nat.le_of_ble_eq_true rfl) dX0_keep_35 ?_
  refine sv_puti (ty := .int) X ix_X0 tyX0_ok nmX0 rfl 2 (by decide) rfl rfl fl_X0_20 rfl rfl rfl rfl dX0_keep_38 ?_
  refine sv_sig (fun s5 es5 => ?_)
  replace hF := fr_lete hF es5
  exact sv_vret X hr hQ dX0_keep_41 hF
theorem c_X0_keep {l : Launch} {g : fr_G}   {σ τ : fr_St} (hF : F_X0_keep  σ = some τ) : fr_Cv l g yX0_keep (fr_ws yX0_keep cX0_keep 2 (Option.none : Option Jvm.ClassFile.FieldType)) 2 [.ref (g.2.1 19), .ref (g.2.1 15)] σ τ := fr_mv (by decide) (Nat.le_of_ble_eq_true rfl) (fun p e s m below meth c X hr => b_X0_keep X hr  rfl hF)
def F_X0_takeBack  (σ : fr_St) : Option fr_St := if (σ 19 2) = 0 then (some σ) else (fr_let (fr_up σ 19 1 ((((σ 19 1) + (24 : Int32)) - (1 : Int32)) - (((σ 19 1) + (24 : Int32)) - (1 : Int32)) / (24 : Int32) * (24 : Int32))) (fun s1 => fr_let (fr_up s1 19 2 ((s1 19 2) - (1 : Int32))) (fun s2 => if fr_ib (s2 19 1) 24 = true then fr_bS (F_X3_takeFrom 15 (21 + fr_ix (s2 19 1)) s2) (fun s5 => some s5) else none)))
set_option maxRecDepth 100000 in
set_option maxHeartbeats 4000000 in
theorem b_X0_takeBack {p : Program} {l : Launch} {e : Env} {s : State} {m : MethodId} {args : Array Value} {below : List Frame} {meth : Method} {c : Code} {g : fr_G} {Q : State → Prop} (X : fr_X p s m args meth c g cX0_takeBack RX0 2) (hr : meth.sig.returnType = (Option.none : Option Jvm.ClassFile.FieldType))   {σ τ : fr_St} (hQ : Q = fr_Qv below args s g τ) (hF : F_X0_takeBack  σ = some τ) : fr_V p l e (fr_rm 2) s m args below meth c g Q 2 σ 0 [(0, .ref (g.2.1 19)), (1, .ref (g.2.1 15))] [] := by
  unfold F_X0_takeBack at hF
  refine sv_aload_n (i := 0) X dX0_takeBack_0 rfl rfl ?_
  refine sv_geti X ix_X0 rfl 2 (by decide) rfl rfl fl_X0_20 dX0_takeBack_1 ?_
  refine sv_if_ne (tgt := 8) X dX0_takeBack_4 (by decide) (fun h6 => ?_) (fun h6 => ?_)
  · replace hF := fr_neg hF h6
    refine sv_aload_n (i := 0) X dX0_takeBack_8 rfl rfl ?_
    refine sv_aload_n (i := 0) X dX0_takeBack_9 rfl rfl ?_
    refine sv_geti X ix_X0 rfl 1 (by decide) rfl rfl fl_X0_16 dX0_takeBack_10 ?_
    refine sv_bipush (v := 24) X dX0_takeBack_13 (by decide) ?_
    refine sv_iadd X dX0_takeBack_15 ?_
    refine sv_iconst (v := 1) X dX0_takeBack_16 (by decide) ?_
    refine sv_isub X dX0_takeBack_17 ?_
    refine sv_bipush (v := 24) X dX0_takeBack_18 (by decide) ?_
    refine sv_irem X dX0_takeBack_20 (by decide) ?_
    refine sv_puti (ty := .int) X ix_X0 tyX0_ok nmX0 rfl 1 (by decide) rfl rfl fl_X0_16 rfl rfl rfl rfl dX0_takeBack_21 ?_
    refine sv_sig (fun s1 es1 => ?_)
    replace hF := fr_lete hF es1
    refine sv_aload_n (i := 0) X dX0_takeBack_24 rfl rfl ?_
    refine sv_dup X dX0_takeBack_25 rfl ?_
    refine sv_geti X ix_X0 rfl 2 (by decide) rfl rfl fl_X0_20 dX0_takeBack_26 ?_
    refine sv_iconst (v := 1) X dX0_takeBack_29 (by decide) ?_
    refine sv_isub X dX0_takeBack_30 ?_
    refine sv_puti (ty := .int) X ix_X0 tyX0_ok nmX0 rfl 2 (by decide) rfl rfl fl_X0_20 rfl rfl rfl rfl dX0_takeBack_31 ?_
    refine sv_sig (fun s2 es2 => ?_)
    replace hF := fr_lete hF es2
    refine sv_aload_n (i := 1) X dX0_takeBack_34 rfl rfl ?_
    refine sv_aload_n (i := 0) X dX0_takeBack_35 rfl rfl ?_
    refine sv_getr X ix_X0 rfl 0 (by decide) rfl rfl fl_X0_13 dX0_takeBack_36 ?_
    refine sv_aload_n (i := 0) X dX0_takeBack_39 rfl rfl ?_
    refine sv_geti X ix_X0 rfl 1 (by decide) rfl rfl fl_X0_16 dX0_takeBack_40 ?_
    obtain ⟨hb3, hF⟩ := fr_chk hF
    refine sv_aald (t := 21 + fr_ix (s2 19 1)) X rfl hb3 (fr_a20 _ (fr_ixlt hb3)).1 dX0_takeBack_43 ?_
    obtain ⟨s5, hc4, hF⟩ := fr_bS_some hF
    refine sv_callVv X (c_X3_takeFrom rfl rfl ((fr_a20 _ (fr_ixlt hb3)).2) hc4) cd_X3_takeFrom ml_X0_33 im_X3_takeFrom se_X3_takeFrom in_RX3 hd_X3_takeFrom rfl rfl (by decide) rfl (Nat.le_of_ble_eq_true rfl) dX0_takeBack_44 rfl ?_
    exact sv_vret X hr hQ dX0_takeBack_47 hF
  · replace hF := fr_pos hF h6
    exact sv_vret X hr hQ dX0_takeBack_7 hF
theorem c_X0_takeBack {l : Launch} {g : fr_G}   {σ τ : fr_St} (hF : F_X0_takeBack  σ = some τ) : fr_Cv l g yX0_takeBack (fr_ws yX0_takeBack cX0_takeBack 2 (Option.none : Option Jvm.ClassFile.FieldType)) 2 [.ref (g.2.1 19), .ref (g.2.1 15)] σ τ := fr_mv (by decide) (Nat.le_of_ble_eq_true rfl) (fun p e s m below meth c X hr => b_X0_takeBack X hr  rfl hF)
def F_X6_hasNumber (a1 : Int32) (σ : fr_St) : Option (Bool × fr_St) := fr_bS (if a1 < 0 then (some ((0 : Int32))) else (if (8 : Int32) ≤ a1 then (some ((0 : Int32))) else (some ((1 : Int32))))) (fun v1 => if v1 = 0 then some (false, σ) else if v1 = 1 then some (true, σ) else none)
set_option maxRecDepth 100000 in
set_option maxHeartbeats 4000000 in
theorem b_X6_hasNumber {p : Program} {l : Launch} {e : Env} {s : State} {m : MethodId} {args : Array Value} {below : List Frame} {meth : Method} {c : Code} {g : fr_G} {Q : State → Prop} (X : fr_X p s m args meth c g cX6_hasNumber RX6 1) (hr : meth.sig.returnType = (some .boolean)) {a1 : Int32}  {σ τ : fr_St} {r : Bool} (hQ : Q = fr_Qi below args s g (fr_bi r) τ) (hF : F_X6_hasNumber a1 σ = some (r, τ)) : fr_V p l e (fr_rm 0) s m args below meth c g Q 1 σ 0 [(0, .int a1)] [] := by
  unfold F_X6_hasNumber at hF
  refine sv_iload_n (i := 0) X dX6_hasNumber_0 rfl rfl ?_
  obtain ⟨v1, hM2, hF⟩ := fr_bS_some hF
  have K3 : fr_V p l e (fr_rm 0) s m args below meth c g Q 1 σ 15 [(0, .int a1)] [.int v1] := by
    exact sv_zretv X hr hQ dX6_hasNumber_15 hF
  refine sv_if_lt (tgt := 14) X dX6_hasNumber_1 (by decide) (fun h5 => ?_) (fun h5 => ?_)
  · replace hM2 := fr_pos hM2 h5
    refine sv_iconst (v := 0) X dX6_hasNumber_14 (by decide) ?_
    obtain rfl := fr_i1 hM2
    exact K3
  · replace hM2 := fr_neg hM2 h5
    refine sv_iload_n (i := 0) X dX6_hasNumber_4 rfl rfl ?_
    refine sv_bipush (v := 8) X dX6_hasNumber_5 (by decide) ?_
    refine sv_icmp_ge (tgt := 14) X dX6_hasNumber_7 (by decide) (fun h4 => ?_) (fun h4 => ?_)
    · replace hM2 := fr_pos hM2 h4
      refine sv_iconst (v := 0) X dX6_hasNumber_14 (by decide) ?_
      obtain rfl := fr_i1 hM2
      exact K3
    · replace hM2 := fr_neg hM2 h4
      refine sv_iconst (v := 1) X dX6_hasNumber_10 (by decide) ?_
      refine sv_goto (tgt := 15) X dX6_hasNumber_11 (by decide) ?_
      obtain rfl := fr_i1 hM2
      exact K3
theorem c_X6_hasNumber {l : Launch} {g : fr_G} {a1 : Int32}  {σ τ : fr_St} {r : Bool} (hF : F_X6_hasNumber a1 σ = some (r, τ)) : fr_Ci l g yX6_hasNumber (fr_ws yX6_hasNumber cX6_hasNumber 1 (some .boolean)) 0 [.int a1] σ (fr_bi r) τ := fr_mz (by decide) (Nat.le_of_ble_eq_true rfl) (fun p e s m below meth c X hr => b_X6_hasNumber X hr  rfl hF)
def F_X6_isMissing (a1 : Int32) (σ : fr_St) : Option (Bool × fr_St) := if fr_ib a1 8 = true then fr_bS (if (σ 12 (fr_ix a1)) = (-1 : Int32) then (some ((1 : Int32))) else (some ((0 : Int32)))) (fun v2 => if v2 = 0 then some (false, σ) else if v2 = 1 then some (true, σ) else none) else none
set_option maxRecDepth 100000 in
set_option maxHeartbeats 4000000 in
theorem b_X6_isMissing {p : Program} {l : Launch} {e : Env} {s : State} {m : MethodId} {args : Array Value} {below : List Frame} {meth : Method} {c : Code} {g : fr_G} {Q : State → Prop} (X : fr_X p s m args meth c g cX6_isMissing RX6 2) (hr : meth.sig.returnType = (some .boolean)) {a1 : Int32}  {σ τ : fr_St} {r : Bool} (hQ : Q = fr_Qi below args s g (fr_bi r) τ) (hF : F_X6_isMissing a1 σ = some (r, τ)) : fr_V p l e (fr_rm 0) s m args below meth c g Q 2 σ 0 [(0, .ref (g.2.1 1)), (1, .int a1)] [] := by
  unfold F_X6_isMissing at hF
  refine sv_aload_n (i := 0) X dX6_isMissing_0 rfl rfl ?_
  refine sv_getr X ix_X6 rfl 2 (by decide) rfl rfl fl_X6_18 dX6_isMissing_1 ?_
  refine sv_iload_n (i := 1) X dX6_isMissing_4 rfl rfl ?_
  obtain ⟨hb1, hF⟩ := fr_chk hF
  refine sv_iald (j := (fr_ix a1)) X rfl hb1 rfl dX6_isMissing_5 ?_
  refine sv_iconst (v := (-1)) X dX6_isMissing_6 (by decide) ?_
  obtain ⟨v2, hM3, hF⟩ := fr_bS_some hF
  have K4 : fr_V p l e (fr_rm 0) s m args below meth c g Q 2 σ 15 [(0, .ref (g.2.1 1)), (1, .int a1)] [.int v2] := by
    exact sv_zretv X hr hQ dX6_isMissing_15 hF
  refine sv_icmp_ne (tgt := 14) X dX6_isMissing_7 (by decide) (fun h5 => ?_) (fun h5 => ?_)
  · replace hM3 := fr_neg hM3 h5
    refine sv_iconst (v := 0) X dX6_isMissing_14 (by decide) ?_
    obtain rfl := fr_i1 hM3
    exact K4
  · replace hM3 := fr_pos hM3 h5
    refine sv_iconst (v := 1) X dX6_isMissing_10 (by decide) ?_
    refine sv_goto (tgt := 15) X dX6_isMissing_11 (by decide) ?_
    obtain rfl := fr_i1 hM3
    exact K4
theorem c_X6_isMissing {l : Launch} {g : fr_G} {a1 : Int32}  {σ τ : fr_St} {r : Bool} (hF : F_X6_isMissing a1 σ = some (r, τ)) : fr_Ci l g yX6_isMissing (fr_ws yX6_isMissing cX6_isMissing 2 (some .boolean)) 0 [.ref (g.2.1 1), .int a1] σ (fr_bi r) τ := fr_mz (by decide) (Nat.le_of_ble_eq_true rfl) (fun p e s m below meth c X hr => b_X6_isMissing X hr  rfl hF)
def F_X6_laneOf (a1 : Int32) (σ : fr_St) : Option (Int32 × fr_St) := if fr_ib a1 8 = true then some ((σ 11 (fr_ix a1)), σ) else none
set_option maxRecDepth 100000 in
set_option maxHeartbeats 4000000 in
theorem b_X6_laneOf {p : Program} {l : Launch} {e : Env} {s : State} {m : MethodId} {args : Array Value} {below : List Frame} {meth : Method} {c : Code} {g : fr_G} {Q : State → Prop} (X : fr_X p s m args meth c g cX6_laneOf RX6 2) (hr : meth.sig.returnType = (some .int)) {a1 : Int32}  {σ τ : fr_St} {r : Int32} (hQ : Q = fr_Qi below args s g r τ) (hF : F_X6_laneOf a1 σ = some (r, τ)) : fr_V p l e (fr_rm 0) s m args below meth c g Q 2 σ 0 [(0, .ref (g.2.1 1)), (1, .int a1)] [] := by
  unfold F_X6_laneOf at hF
  refine sv_aload_n (i := 0) X dX6_laneOf_0 rfl rfl ?_
  refine sv_getr X ix_X6 rfl 1 (by decide) rfl rfl fl_X6_14 dX6_laneOf_1 ?_
  refine sv_iload_n (i := 1) X dX6_laneOf_4 rfl rfl ?_
  obtain ⟨hb1, hF⟩ := fr_chk hF
  refine sv_iald (j := (fr_ix a1)) X rfl hb1 rfl dX6_laneOf_5 ?_
  exact sv_iret X hr hQ dX6_laneOf_6 hF
theorem c_X6_laneOf {l : Launch} {g : fr_G} {a1 : Int32}  {σ τ : fr_St} {r : Int32} (hF : F_X6_laneOf a1 σ = some (r, τ)) : fr_Ci l g yX6_laneOf (fr_ws yX6_laneOf cX6_laneOf 2 (some .int)) 0 [.ref (g.2.1 1), .int a1] σ r τ := fr_mi (by decide) (Nat.le_of_ble_eq_true rfl) (fun p e s m below meth c X hr => b_X6_laneOf X hr  rfl hF)
def F_X6_itemOf (a1 : Int32) (a2 : Int32) (σ : fr_St) : Option (Int32 × fr_St) := if fr_ib a1 8 = true then if fr_ib a2 40 = true then some ((σ (3 + fr_ix a1) (fr_ix a2)), σ) else none else none
set_option maxRecDepth 100000 in
set_option maxHeartbeats 4000000 in
theorem b_X6_itemOf {p : Program} {l : Launch} {e : Env} {s : State} {m : MethodId} {args : Array Value} {below : List Frame} {meth : Method} {c : Code} {g : fr_G} {Q : State → Prop} (X : fr_X p s m args meth c g cX6_itemOf RX6 3) (hr : meth.sig.returnType = (some .int)) {a1 : Int32} {a2 : Int32}  {σ τ : fr_St} {r : Int32} (hQ : Q = fr_Qi below args s g r τ) (hF : F_X6_itemOf a1 a2 σ = some (r, τ)) : fr_V p l e (fr_rm 0) s m args below meth c g Q 3 σ 0 [(0, .ref (g.2.1 1)), (1, .int a1), (2, .int a2)] [] := by
  unfold F_X6_itemOf at hF
  refine sv_aload_n (i := 0) X dX6_itemOf_0 rfl rfl ?_
  refine sv_getr X ix_X6 rfl 0 (by decide) rfl rfl fl_X6_11 dX6_itemOf_1 ?_
  refine sv_iload_n (i := 1) X dX6_itemOf_4 rfl rfl ?_
  obtain ⟨hb1, hF⟩ := fr_chk hF
  refine sv_aald (t := 3 + fr_ix a1) X rfl hb1 (fr_a2 _ (fr_ixlt hb1)).1 dX6_itemOf_5 ?_
  refine sv_iload_n (i := 2) X dX6_itemOf_6 rfl rfl ?_
  obtain ⟨hb2, hF⟩ := fr_chk hF
  refine sv_iald (j := (fr_ix a2)) X ((fr_a2 _ (fr_ixlt hb1)).2) hb2 rfl dX6_itemOf_7 ?_
  exact sv_iret X hr hQ dX6_itemOf_8 hF
theorem c_X6_itemOf {l : Launch} {g : fr_G} {a1 : Int32} {a2 : Int32}  {σ τ : fr_St} {r : Int32} (hF : F_X6_itemOf a1 a2 σ = some (r, τ)) : fr_Ci l g yX6_itemOf (fr_ws yX6_itemOf cX6_itemOf 3 (some .int)) 0 [.ref (g.2.1 1), .int a1, .int a2] σ r τ := fr_mi (by decide) (Nat.le_of_ble_eq_true rfl) (fun p e s m below meth c X hr => b_X6_itemOf X hr  rfl hF)
def F_X6_holds (a1 : Int32) (a2 : Int32) (a3 : Int32) (σ : fr_St) : Option (Bool × fr_St) := fr_bS (if a2 < 0 then (some ((0 : Int32))) else (if a3 < 0 then (some ((0 : Int32))) else (if fr_ib a1 8 = true then if (σ 12 (fr_ix a1)) < a3 then (some ((0 : Int32))) else (if fr_ib a1 8 = true then if ((σ 12 (fr_ix a1)) - a3) < a2 then (some ((0 : Int32))) else (some ((1 : Int32))) else none) else none))) (fun v1 => if v1 = 0 then some (false, σ) else if v1 = 1 then some (true, σ) else none)
set_option maxRecDepth 100000 in
set_option maxHeartbeats 4000000 in
theorem b_X6_holds {p : Program} {l : Launch} {e : Env} {s : State} {m : MethodId} {args : Array Value} {below : List Frame} {meth : Method} {c : Code} {g : fr_G} {Q : State → Prop} (X : fr_X p s m args meth c g cX6_holds RX6 4) (hr : meth.sig.returnType = (some .boolean)) {a1 : Int32} {a2 : Int32} {a3 : Int32}  {σ τ : fr_St} {r : Bool} (hQ : Q = fr_Qi below args s g (fr_bi r) τ) (hF : F_X6_holds a1 a2 a3 σ = some (r, τ)) : fr_V p l e (fr_rm 0) s m args below meth c g Q 4 σ 0 [(0, .ref (g.2.1 1)), (1, .int a1), (2, .int a2), (3, .int a3)] [] := by
  unfold F_X6_holds at hF
  refine sv_iload_n (i := 2) X dX6_holds_0 rfl rfl ?_
  obtain ⟨v1, hM2, hF⟩ := fr_bS_some hF
  have K3 : fr_V p l e (fr_rm 0) s m args below meth c g Q 4 σ 35 [(0, .ref (g.2.1 1)), (1, .int a1), (2, .int a2), (3, .int a3)] [.int v1] := by
    exact sv_zretv X hr hQ dX6_holds_35 hF
  refine sv_if_lt (tgt := 34) X dX6_holds_1 (by decide) (fun h9 => ?_) (fun h9 => ?_)
  · replace hM2 := fr_pos hM2 h9
    refine sv_iconst (v := 0) X dX6_holds_34 (by decide) ?_
    obtain rfl := fr_i1 hM2
    exact K3
  · replace hM2 := fr_neg hM2 h9
    refine sv_iload_n (i := 3) X dX6_holds_4 rfl rfl ?_
    refine sv_if_lt (tgt := 34) X dX6_holds_5 (by decide) (fun h8 => ?_) (fun h8 => ?_)
    · replace hM2 := fr_pos hM2 h8
      refine sv_iconst (v := 0) X dX6_holds_34 (by decide) ?_
      obtain rfl := fr_i1 hM2
      exact K3
    · replace hM2 := fr_neg hM2 h8
      refine sv_iload_n (i := 3) X dX6_holds_8 rfl rfl ?_
      refine sv_aload_n (i := 0) X dX6_holds_9 rfl rfl ?_
      refine sv_getr X ix_X6 rfl 2 (by decide) rfl rfl fl_X6_18 dX6_holds_10 ?_
      refine sv_iload_n (i := 1) X dX6_holds_13 rfl rfl ?_
      obtain ⟨hb4, hM2⟩ := fr_chk hM2
      refine sv_iald (j := (fr_ix a1)) X rfl hb4 rfl dX6_holds_14 ?_
      refine sv_icmp_gt (tgt := 34) X dX6_holds_15 (by decide) (fun h7 => ?_) (fun h7 => ?_)
      · replace hM2 := fr_pos hM2 h7
        refine sv_iconst (v := 0) X dX6_holds_34 (by decide) ?_
        obtain rfl := fr_i1 hM2
        exact K3
      · replace hM2 := fr_neg hM2 h7
        refine sv_iload_n (i := 2) X dX6_holds_18 rfl rfl ?_
        refine sv_aload_n (i := 0) X dX6_holds_19 rfl rfl ?_
        refine sv_getr X ix_X6 rfl 2 (by decide) rfl rfl fl_X6_18 dX6_holds_20 ?_
        refine sv_iload_n (i := 1) X dX6_holds_23 rfl rfl ?_
        obtain ⟨hb5, hM2⟩ := fr_chk hM2
        refine sv_iald (j := (fr_ix a1)) X rfl hb5 rfl dX6_holds_24 ?_
        refine sv_iload_n (i := 3) X dX6_holds_25 rfl rfl ?_
        refine sv_isub X dX6_holds_26 ?_
        refine sv_icmp_gt (tgt := 34) X dX6_holds_27 (by decide) (fun h6 => ?_) (fun h6 => ?_)
        · replace hM2 := fr_pos hM2 h6
          refine sv_iconst (v := 0) X dX6_holds_34 (by decide) ?_
          obtain rfl := fr_i1 hM2
          exact K3
        · replace hM2 := fr_neg hM2 h6
          refine sv_iconst (v := 1) X dX6_holds_30 (by decide) ?_
          refine sv_goto (tgt := 35) X dX6_holds_31 (by decide) ?_
          obtain rfl := fr_i1 hM2
          exact K3
theorem c_X6_holds {l : Launch} {g : fr_G} {a1 : Int32} {a2 : Int32} {a3 : Int32}  {σ τ : fr_St} {r : Bool} (hF : F_X6_holds a1 a2 a3 σ = some (r, τ)) : fr_Ci l g yX6_holds (fr_ws yX6_holds cX6_holds 4 (some .boolean)) 0 [.ref (g.2.1 1), .int a1, .int a2, .int a3] σ (fr_bi r) τ := fr_mz (by decide) (Nat.le_of_ble_eq_true rfl) (fun p e s m below meth c X hr => b_X6_holds X hr  rfl hF)
def F_X6_put (a1 : Int32) (a2 : Int32) (a3 : Int32) (σ : fr_St) : Option fr_St := if fr_ib a1 8 = true then fr_bS (F_J7_fill_53178 (3 + fr_ix a1) 40 (0 : Int32) σ) (fun s3 => if fr_ib a1 8 = true then fr_let (fr_up s3 11 (fr_ix a1) a2) (fun s5 => if fr_ib a1 8 = true then fr_let (fr_up s5 12 (fr_ix a1) a3) (fun s7 => some s7) else none) else none) else none
set_option maxRecDepth 100000 in
set_option maxHeartbeats 4000000 in
theorem b_X6_put {p : Program} {l : Launch} {e : Env} {s : State} {m : MethodId} {args : Array Value} {below : List Frame} {meth : Method} {c : Code} {g : fr_G} {Q : State → Prop} (X : fr_X p s m args meth c g cX6_put RX6 4) (hr : meth.sig.returnType = (Option.none : Option Jvm.ClassFile.FieldType)) {a1 : Int32} {a2 : Int32} {a3 : Int32}  {σ τ : fr_St} (hQ : Q = fr_Qv below args s g τ) (hF : F_X6_put a1 a2 a3 σ = some τ) : fr_V p l e (fr_rm 1) s m args below meth c g Q 4 σ 0 [(0, .ref (g.2.1 1)), (1, .int a1), (2, .int a2), (3, .int a3)] [] := by
  unfold F_X6_put at hF
  refine sv_aload_n (i := 0) X dX6_put_0 rfl rfl ?_
  refine sv_getr X ix_X6 rfl 0 (by decide) rfl rfl fl_X6_11 dX6_put_1 ?_
  refine sv_iload_n (i := 1) X dX6_put_4 rfl rfl ?_
  obtain ⟨hb1, hF⟩ := fr_chk hF
  refine sv_aald (t := 3 + fr_ix a1) X rfl hb1 (fr_a2 _ (fr_ixlt hb1)).1 dX6_put_5 ?_
  refine sv_iconst (v := 0) X dX6_put_6 (by decide) ?_
  obtain ⟨s3, hc2, hF⟩ := fr_bS_some hF
  refine sv_callSv X (c_J7_fill_53178 ((fr_a2 _ (fr_ixlt hb1)).2) hc2) cd_J7_fill_53178 ml_X6_21 sm_J7_fill_53178 in_RJ7 hd_J7_fill_53178 (by decide) rfl (Nat.le_of_ble_eq_true rfl) dX6_put_7 rfl ?_
  refine sv_aload_n (i := 0) X dX6_put_10 rfl rfl ?_
  refine sv_getr X ix_X6 rfl 1 (by decide) rfl rfl fl_X6_14 dX6_put_11 ?_
  refine sv_iload_n (i := 1) X dX6_put_14 rfl rfl ?_
  refine sv_iload_n (i := 2) X dX6_put_15 rfl rfl ?_
  obtain ⟨hb4, hF⟩ := fr_chk hF
  refine sv_iast (j := (fr_ix a1)) X rfl hb4 rfl dX6_put_16 ?_
  refine sv_sig (fun s5 es5 => ?_)
  replace hF := fr_lete hF es5
  refine sv_aload_n (i := 0) X dX6_put_17 rfl rfl ?_
  refine sv_getr X ix_X6 rfl 2 (by decide) rfl rfl fl_X6_18 dX6_put_18 ?_
  refine sv_iload_n (i := 1) X dX6_put_21 rfl rfl ?_
  refine sv_iload_n (i := 3) X dX6_put_22 rfl rfl ?_
  obtain ⟨hb6, hF⟩ := fr_chk hF
  refine sv_iast (j := (fr_ix a1)) X rfl hb6 rfl dX6_put_23 ?_
  refine sv_sig (fun s7 es7 => ?_)
  replace hF := fr_lete hF es7
  exact sv_vret X hr hQ dX6_put_24 hF
theorem c_X6_put {l : Launch} {g : fr_G} {a1 : Int32} {a2 : Int32} {a3 : Int32}  {σ τ : fr_St} (hF : F_X6_put a1 a2 a3 σ = some τ) : fr_Cv l g yX6_put (fr_ws yX6_put cX6_put 4 (Option.none : Option Jvm.ClassFile.FieldType)) 1 [.ref (g.2.1 1), .int a1, .int a2, .int a3] σ τ := fr_mv (by decide) (Nat.le_of_ble_eq_true rfl) (fun p e s m below meth c X hr => b_X6_put X hr  rfl hF)
def F_X6_narrowed (a1 : Int32) (a2 : Int32) (σ : fr_St) : Option (Int32 × fr_St) := if a1 = (0 : Int32) then (some ((a2.toInt8.toInt32), σ)) else (if a1 = (1 : Int32) then (some ((a2.toInt16.toInt32), σ)) else (some (a2, σ)))
set_option maxRecDepth 100000 in
set_option maxHeartbeats 4000000 in
theorem b_X6_narrowed {p : Program} {l : Launch} {e : Env} {s : State} {m : MethodId} {args : Array Value} {below : List Frame} {meth : Method} {c : Code} {g : fr_G} {Q : State → Prop} (X : fr_X p s m args meth c g cX6_narrowed RX6 2) (hr : meth.sig.returnType = (some .int)) {a1 : Int32} {a2 : Int32}  {σ τ : fr_St} {r : Int32} (hQ : Q = fr_Qi below args s g r τ) (hF : F_X6_narrowed a1 a2 σ = some (r, τ)) : fr_V p l e (fr_rm 0) s m args below meth c g Q 2 σ 0 [(0, .int a1), (1, .int a2)] [] := by
  unfold F_X6_narrowed at hF
  refine sv_iload_n (i := 0) X dX6_narrowed_0 rfl rfl ?_
  by_cases h1 : a1 = (0 : Int32)
  · replace hF := fr_pos hF h1
    refine sv_look (off := 27) (tgt := 28) X (by decide) (by first | (rw [h1]; done) | (rw [h1]; rfl)) (by decide) dX6_narrowed_1 ?_
    refine sv_iload_n (i := 1) X dX6_narrowed_28 rfl rfl ?_
    refine sv_i2b X dX6_narrowed_29 ?_
    exact sv_iret X hr hQ dX6_narrowed_30 hF
  · replace hF := fr_neg hF h1
    by_cases h2 : a1 = (1 : Int32)
    · replace hF := fr_pos hF h2
      refine sv_look (off := 30) (tgt := 31) X (by decide) (by first | (rw [h2]; done) | (rw [h2]; rfl)) (by decide) dX6_narrowed_1 ?_
      refine sv_iload_n (i := 1) X dX6_narrowed_31 rfl rfl ?_
      refine sv_i2s X dX6_narrowed_32 ?_
      exact sv_iret X hr hQ dX6_narrowed_33 hF
    · replace hF := fr_neg hF h2
      refine sv_look (off := 33) (tgt := 34) X (by decide) ((lv_osw h1 (k := (0 : Int32)) (by decide)).trans ((lv_osw h2 (k := (1 : Int32)) (by decide)).trans (rfl))) (by decide) dX6_narrowed_1 ?_
      refine sv_iload_n (i := 1) X dX6_narrowed_34 rfl rfl ?_
      exact sv_iret X hr hQ dX6_narrowed_35 hF
theorem c_X6_narrowed {l : Launch} {g : fr_G} {a1 : Int32} {a2 : Int32}  {σ τ : fr_St} {r : Int32} (hF : F_X6_narrowed a1 a2 σ = some (r, τ)) : fr_Ci l g yX6_narrowed (fr_ws yX6_narrowed cX6_narrowed 2 (some .int)) 0 [.int a1, .int a2] σ r τ := fr_mi (by decide) (Nat.le_of_ble_eq_true rfl) (fun p e s m below meth c X hr => b_X6_narrowed X hr  rfl hF)
def F_X6_putItem (a1 : Int32) (a2 : Int32) (a3 : Int32) (σ : fr_St) : Option (Int32 × fr_St) := if fr_ib a1 8 = true then if fr_ib a1 8 = true then fr_bP (F_X6_narrowed (σ 11 (fr_ix a1)) a3 σ) (fun r5 s4 => if fr_ib a2 40 = true then fr_let (fr_up s4 (3 + fr_ix a1) (fr_ix a2) r5) (fun s7 => if fr_ib a1 8 = true then if fr_ib a2 40 = true then some ((s7 (3 + fr_ix a1) (fr_ix a2)), s7) else none else none) else none) else none else none
set_option maxRecDepth 100000 in
set_option maxHeartbeats 4000000 in
theorem b_X6_putItem {p : Program} {l : Launch} {e : Env} {s : State} {m : MethodId} {args : Array Value} {below : List Frame} {meth : Method} {c : Code} {g : fr_G} {Q : State → Prop} (X : fr_X p s m args meth c g cX6_putItem RX6 4) (hr : meth.sig.returnType = (some .int)) {a1 : Int32} {a2 : Int32} {a3 : Int32}  {σ τ : fr_St} {r : Int32} (hQ : Q = fr_Qi below args s g r τ) (hF : F_X6_putItem a1 a2 a3 σ = some (r, τ)) : fr_V p l e (fr_rm 1) s m args below meth c g Q 4 σ 0 [(0, .ref (g.2.1 1)), (1, .int a1), (2, .int a2), (3, .int a3)] [] := by
  unfold F_X6_putItem at hF
  refine sv_aload_n (i := 0) X dX6_putItem_0 rfl rfl ?_
  refine sv_getr X ix_X6 rfl 0 (by decide) rfl rfl fl_X6_11 dX6_putItem_1 ?_
  refine sv_iload_n (i := 1) X dX6_putItem_4 rfl rfl ?_
  obtain ⟨hb1, hF⟩ := fr_chk hF
  refine sv_aald (t := 3 + fr_ix a1) X rfl hb1 (fr_a2 _ (fr_ixlt hb1)).1 dX6_putItem_5 ?_
  refine sv_iload_n (i := 2) X dX6_putItem_6 rfl rfl ?_
  refine sv_aload_n (i := 0) X dX6_putItem_7 rfl rfl ?_
  refine sv_getr X ix_X6 rfl 1 (by decide) rfl rfl fl_X6_14 dX6_putItem_8 ?_
  refine sv_iload_n (i := 1) X dX6_putItem_11 rfl rfl ?_
  obtain ⟨hb2, hF⟩ := fr_chk hF
  refine sv_iald (j := (fr_ix a1)) X rfl hb2 rfl dX6_putItem_12 ?_
  refine sv_iload_n (i := 3) X dX6_putItem_13 rfl rfl ?_
  obtain ⟨r5, s4, hc3, hF⟩ := fr_bP_some hF
  refine sv_callSi X (c_X6_narrowed hc3) cd_X6_narrowed ml_X6_27 sm_X6_narrowed in_RX6 hd_X6_narrowed (by decide) rfl (Nat.le_of_ble_eq_true rfl) dX6_putItem_14 rfl ?_
  obtain ⟨hb6, hF⟩ := fr_chk hF
  refine sv_iast (j := (fr_ix a2)) X ((fr_a2 _ (fr_ixlt hb1)).2) hb6 rfl dX6_putItem_17 ?_
  refine sv_sig (fun s7 es7 => ?_)
  replace hF := fr_lete hF es7
  refine sv_aload_n (i := 0) X dX6_putItem_18 rfl rfl ?_
  refine sv_getr X ix_X6 rfl 0 (by decide) rfl rfl fl_X6_11 dX6_putItem_19 ?_
  refine sv_iload_n (i := 1) X dX6_putItem_22 rfl rfl ?_
  obtain ⟨hb8, hF⟩ := fr_chk hF
  refine sv_aald (t := 3 + fr_ix a1) X rfl hb8 (fr_a2 _ (fr_ixlt hb8)).1 dX6_putItem_23 ?_
  refine sv_iload_n (i := 2) X dX6_putItem_24 rfl rfl ?_
  obtain ⟨hb9, hF⟩ := fr_chk hF
  refine sv_iald (j := (fr_ix a2)) X ((fr_a2 _ (fr_ixlt hb8)).2) hb9 rfl dX6_putItem_25 ?_
  exact sv_iret X hr hQ dX6_putItem_26 hF
theorem c_X6_putItem {l : Launch} {g : fr_G} {a1 : Int32} {a2 : Int32} {a3 : Int32}  {σ τ : fr_St} {r : Int32} (hF : F_X6_putItem a1 a2 a3 σ = some (r, τ)) : fr_Ci l g yX6_putItem (fr_ws yX6_putItem cX6_putItem 4 (some .int)) 1 [.ref (g.2.1 1), .int a1, .int a2, .int a3] σ r τ := fr_mi (by decide) (Nat.le_of_ble_eq_true rfl) (fun p e s m below meth c X hr => b_X6_putItem X hr  rfl hF)
def F_X6_bring (a1 : Int32) (a2 : Int32) (a3 : Int32) (a4 : Int32) (a5 : Int32) (σ : fr_St) : Option fr_St := if fr_ib a1 8 = true then if fr_ib a3 8 = true then if fr_cb a2 a4 a5 40 40 = true then fr_let (fr_row σ (3 + fr_ix a3) (va_cpy (σ (3 + fr_ix a1)) (σ (3 + fr_ix a3)) (fr_ix a2) (fr_ix a4) (fr_ix a5))) (fun s4 => some s4) else none else none else none
set_option maxRecDepth 100000 in
set_option maxHeartbeats 4000000 in
theorem b_X6_bring {p : Program} {l : Launch} {e : Env} {s : State} {m : MethodId} {args : Array Value} {below : List Frame} {meth : Method} {c : Code} {g : fr_G} {Q : State → Prop} (X : fr_X p s m args meth c g cX6_bring RX6 6) (hr : meth.sig.returnType = (Option.none : Option Jvm.ClassFile.FieldType)) {a1 : Int32} {a2 : Int32} {a3 : Int32} {a4 : Int32} {a5 : Int32}  {σ τ : fr_St} (hQ : Q = fr_Qv below args s g τ) (hF : F_X6_bring a1 a2 a3 a4 a5 σ = some τ) : fr_V p l e (fr_rm 1) s m args below meth c g Q 6 σ 0 [(0, .ref (g.2.1 1)), (1, .int a1), (2, .int a2), (3, .int a3), (4, .int a4), (5, .int a5)] [] := by
  unfold F_X6_bring at hF
  refine sv_aload_n (i := 0) X dX6_bring_0 rfl rfl ?_
  refine sv_getr X ix_X6 rfl 0 (by decide) rfl rfl fl_X6_11 dX6_bring_1 ?_
  refine sv_iload_n (i := 1) X dX6_bring_4 rfl rfl ?_
  obtain ⟨hb1, hF⟩ := fr_chk hF
  refine sv_aald (t := 3 + fr_ix a1) X rfl hb1 (fr_a2 _ (fr_ixlt hb1)).1 dX6_bring_5 ?_
  refine sv_iload_n (i := 2) X dX6_bring_6 rfl rfl ?_
  refine sv_aload_n (i := 0) X dX6_bring_7 rfl rfl ?_
  refine sv_getr X ix_X6 rfl 0 (by decide) rfl rfl fl_X6_11 dX6_bring_8 ?_
  refine sv_iload_n (i := 3) X dX6_bring_11 rfl rfl ?_
  obtain ⟨hb2, hF⟩ := fr_chk hF
  refine sv_aald (t := 3 + fr_ix a3) X rfl hb2 (fr_a2 _ (fr_ixlt hb2)).1 dX6_bring_12 ?_
  refine sv_iload (i := 4) X dX6_bring_13 rfl ?_
  refine sv_iload (i := 5) X dX6_bring_15 rfl ?_
  obtain ⟨hb3, hF⟩ := fr_chk hF
  refine sv_copy X ml_X6_31 na_copy sm_copy in_System ((fr_a2 _ (fr_ixlt hb1)).2) ((fr_a2 _ (fr_ixlt hb2)).2) hb3 (by decide) (Nat.le_of_ble_eq_true rfl) dX6_bring_17 ?_
  refine sv_sig (fun s4 es4 => ?_)
  replace hF := fr_lete hF es4
  exact sv_vret X hr hQ dX6_bring_20 hF
theorem c_X6_bring {l : Launch} {g : fr_G} {a1 : Int32} {a2 : Int32} {a3 : Int32} {a4 : Int32} {a5 : Int32}  {σ τ : fr_St} (hF : F_X6_bring a1 a2 a3 a4 a5 σ = some τ) : fr_Cv l g yX6_bring (fr_ws yX6_bring cX6_bring 6 (Option.none : Option Jvm.ClassFile.FieldType)) 1 [.ref (g.2.1 1), .int a1, .int a2, .int a3, .int a4, .int a5] σ τ := fr_mv (by decide) (Nat.le_of_ble_eq_true rfl) (fun p e s m below meth c X hr => b_X6_bring X hr  rfl hF)
def F_X6_takeAway (a1 : Int32) (σ : fr_St) : Option (Int32 × fr_St) := if fr_ib a1 8 = true then fr_let ((σ 12 (fr_ix a1))) (fun v2 => if fr_ib a1 8 = true then fr_let (fr_up σ 12 (fr_ix a1) (-1 : Int32)) (fun s4 => some (v2, s4)) else none) else none
set_option maxRecDepth 100000 in
set_option maxHeartbeats 4000000 in
theorem b_X6_takeAway {p : Program} {l : Launch} {e : Env} {s : State} {m : MethodId} {args : Array Value} {below : List Frame} {meth : Method} {c : Code} {g : fr_G} {Q : State → Prop} (X : fr_X p s m args meth c g cX6_takeAway RX6 3) (hr : meth.sig.returnType = (some .int)) {a1 : Int32}  {σ τ : fr_St} {r : Int32} (hQ : Q = fr_Qi below args s g r τ) (hF : F_X6_takeAway a1 σ = some (r, τ)) : fr_V p l e (fr_rm 0) s m args below meth c g Q 3 σ 0 [(0, .ref (g.2.1 1)), (1, .int a1)] [] := by
  unfold F_X6_takeAway at hF
  refine sv_aload_n (i := 0) X dX6_takeAway_0 rfl rfl ?_
  refine sv_getr X ix_X6 rfl 2 (by decide) rfl rfl fl_X6_18 dX6_takeAway_1 ?_
  refine sv_iload_n (i := 1) X dX6_takeAway_4 rfl rfl ?_
  obtain ⟨hb1, hF⟩ := fr_chk hF
  refine sv_iald (j := (fr_ix a1)) X rfl hb1 rfl dX6_takeAway_5 ?_
  refine sv_topi (fun v2 ev2 => ?_)
  replace hF := fr_lete hF ev2
  refine sv_istore_n X dX6_takeAway_6 rfl (by decide) rfl ?_
  refine sv_aload_n (i := 1) X dX6_takeAway_7 rfl rfl ?_
  refine sv_getr X ix_X6 rfl 2 (by decide) rfl rfl fl_X6_18 dX6_takeAway_8 ?_
  refine sv_iload_n (i := 2) X dX6_takeAway_11 rfl rfl ?_
  refine sv_iconst (v := (-1)) X dX6_takeAway_12 (by decide) ?_
  obtain ⟨hb3, hF⟩ := fr_chk hF
  refine sv_iast (j := (fr_ix a1)) X rfl hb3 rfl dX6_takeAway_13 ?_
  refine sv_sig (fun s4 es4 => ?_)
  replace hF := fr_lete hF es4
  refine sv_iload_n (i := 0) X dX6_takeAway_14 rfl rfl ?_
  exact sv_iret X hr hQ dX6_takeAway_15 hF
theorem c_X6_takeAway {l : Launch} {g : fr_G} {a1 : Int32}  {σ τ : fr_St} {r : Int32} (hF : F_X6_takeAway a1 σ = some (r, τ)) : fr_Ci l g yX6_takeAway (fr_ws yX6_takeAway cX6_takeAway 3 (some .int)) 0 [.ref (g.2.1 1), .int a1] σ r τ := fr_mi (by decide) (Nat.le_of_ble_eq_true rfl) (fun p e s m below meth c X hr => b_X6_takeAway X hr  rfl hF)
def L_X6_rowsThere_4  : Nat → Int32 → Int32 → fr_St → Option (Int32 × Int32 × fr_St)
  | 0, _, _, _ => none
  | n + 1, x1, x2, σ => if (8 : Int32) ≤ x2 then (some (x1, x2, σ)) else (fr_bP (F_X6_isMissing x2 σ) (fun b3 s2 => fr_bS (if (fr_bi b3) = 0 then (fr_let (x1 + (1 : Int32)) (fun v8 => some (v8))) else (some (x1))) (fun v4 => fr_let (x2 + (1 : Int32)) (fun v7 => L_X6_rowsThere_4  n v4 v7 s2))))
set_option maxRecDepth 100000 in
set_option maxHeartbeats 4000000 in
theorem wL_X6_rowsThere_4 {p : Program} {l : Launch} {e : Env} {s : State} {m : MethodId} {args : Array Value} {below : List Frame} {meth : Method} {c : Code} {g : fr_G} {Q : State → Prop} (X : fr_X p s m args meth c g cX6_rowsThere RX6 3)   {y1 : Int32} {y2 : Int32} {τ : fr_St} (K : fr_V p l e (fr_rm 1) s m args below meth c g Q 3 τ 27 [(0, .ref (g.2.1 1)), (1, .int y1), (2, .int y2)] []) : ∀ (n : Nat) (x1 : Int32) (x2 : Int32) (σ : fr_St), L_X6_rowsThere_4  n x1 x2 σ = some (y1, y2, τ) → fr_V p l e (fr_rm 1) s m args below meth c g Q 3 σ 4 [(0, .ref (g.2.1 1)), (1, .int x1), (2, .int x2)] [] := by
  intro n
  induction n with
  | zero => intro x1 x2 σ hL; cases hL
  | succ n ih =>
    intro x1 x2 σ hL
    rw [L_X6_rowsThere_4] at hL
    refine sv_iload_n (i := 2) X dX6_rowsThere_4 rfl rfl ?_
    refine sv_bipush (v := 8) X dX6_rowsThere_5 (by decide) ?_
    refine sv_icmp_ge (tgt := 27) X dX6_rowsThere_7 (by decide) (fun h10 => ?_) (fun h10 => ?_)
    · replace hL := fr_pos hL h10
      obtain ⟨rfl, rfl, rfl⟩ := fr_i3 hL
      exact K
    · replace hL := fr_neg hL h10
      refine sv_aload_n (i := 0) X dX6_rowsThere_10 rfl rfl ?_
      refine sv_iload_n (i := 2) X dX6_rowsThere_11 rfl rfl ?_
      obtain ⟨b3, s2, hc1, hL⟩ := fr_bP_some hL
      refine sv_callVi X (c_X6_isMissing hc1) cd_X6_isMissing ml_X6_37 im_X6_isMissing se_X6_isMissing in_RX6 hd_X6_isMissing rfl rfl (by decide) rfl (Nat.le_of_ble_eq_true rfl) dX6_rowsThere_12 rfl ?_
      obtain ⟨v4, hM5, hL⟩ := fr_bS_some hL
      have K6 : fr_V p l e (fr_rm 1) s m args below meth c g Q 3 s2 21 [(0, .ref (g.2.1 1)), (1, .int v4), (2, .int x2)] [] := by
        obtain ⟨v7, ev7⟩ : ∃ y : Int32, y = x2 + (1 : Int32) := ⟨_, rfl⟩
        replace hL := fr_lete hL ev7
        refine sv_iinc (i := 2) (v := v7) X dX6_rowsThere_21 rfl (by rw [ev7]; rfl) (by decide) rfl ?_
        refine sv_goto (tgt := 4) X dX6_rowsThere_24 (by decide) ?_
        exact sv_perm [1, 2, 0] rfl (ih _ _ _ hL)
      refine sv_if_ne (tgt := 21) X dX6_rowsThere_15 (by decide) (fun h9 => ?_) (fun h9 => ?_)
      · replace hM5 := fr_neg hM5 h9
        obtain rfl := fr_i1 hM5
        exact K6
      · replace hM5 := fr_pos hM5 h9
        obtain ⟨v8, ev8⟩ : ∃ y : Int32, y = x1 + (1 : Int32) := ⟨_, rfl⟩
        replace hM5 := fr_lete hM5 ev8
        refine sv_iinc (i := 1) (v := v8) X dX6_rowsThere_18 rfl (by rw [ev8]; rfl) (by decide) rfl ?_
        obtain rfl := fr_i1 hM5
        exact sv_perm [1, 0, 2] rfl K6
def F_X6_rowsThere  (σ : fr_St) : Option (Int32 × fr_St) := fr_bP (L_X6_rowsThere_4  fr_fu (0 : Int32) (0 : Int32) σ) (fun v1 q5 => fr_pP q5 (fun v2 s3 => some (v1, s3)))
set_option maxRecDepth 100000 in
set_option maxHeartbeats 4000000 in
theorem b_X6_rowsThere {p : Program} {l : Launch} {e : Env} {s : State} {m : MethodId} {args : Array Value} {below : List Frame} {meth : Method} {c : Code} {g : fr_G} {Q : State → Prop} (X : fr_X p s m args meth c g cX6_rowsThere RX6 3) (hr : meth.sig.returnType = (some .int))   {σ τ : fr_St} {r : Int32} (hQ : Q = fr_Qi below args s g r τ) (hF : F_X6_rowsThere  σ = some (r, τ)) : fr_V p l e (fr_rm 1) s m args below meth c g Q 3 σ 0 [(0, .ref (g.2.1 1))] [] := by
  unfold F_X6_rowsThere at hF
  refine sv_iconst (v := 0) X dX6_rowsThere_0 (by decide) ?_
  refine sv_istore_n X dX6_rowsThere_1 rfl (by decide) rfl ?_
  refine sv_iconst (v := 0) X dX6_rowsThere_2 (by decide) ?_
  refine sv_istore_n X dX6_rowsThere_3 rfl (by decide) rfl ?_
  refine sv_perm [2, 1, 0] rfl ?_
  obtain ⟨v1, ⟨v2, s3⟩, hl4, hF⟩ := fr_bP_some hF
  dsimp only [fr_pP] at hF
  refine wL_X6_rowsThere_4 X   ?_ fr_fu _ _ _ hl4
  refine sv_iload_n (i := 1) X dX6_rowsThere_27 rfl rfl ?_
  exact sv_iret X hr hQ dX6_rowsThere_28 hF
theorem c_X6_rowsThere {l : Launch} {g : fr_G}   {σ τ : fr_St} {r : Int32} (hF : F_X6_rowsThere  σ = some (r, τ)) : fr_Ci l g yX6_rowsThere (fr_ws yX6_rowsThere cX6_rowsThere 3 (some .int)) 1 [.ref (g.2.1 1)] σ r τ := fr_mi (by decide) (Nat.le_of_ble_eq_true rfl) (fun p e s m below meth c X hr => b_X6_rowsThere X hr  rfl hF)
