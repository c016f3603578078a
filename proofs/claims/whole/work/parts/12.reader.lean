def F_X4_isFull  (σ : fr_St) : Option (Bool × fr_St) := fr_bS (if (σ 13 1) < (120 : Int32) then (some ((0 : Int32))) else (some ((1 : Int32)))) (fun v1 => if v1 = 0 then some (false, σ) else if v1 = 1 then some (true, σ) else none)
set_option maxRecDepth 100000 in
set_option maxHeartbeats 4000000 in
theorem b_X4_isFull {p : Program} {l : Launch} {e : Env} {s : State} {m : MethodId} {args : Array Value} {below : List Frame} {meth : Method} {c : Code} {g : fr_G} {Q : State → Prop} (X : fr_X p s m args meth c g cX4_isFull RX4 1) (hr : meth.sig.returnType = (some .boolean))   {σ τ : fr_St} {r : Bool} (hQ : Q = fr_Qi below args s g (fr_bi r) τ) (hF : F_X4_isFull  σ = some (r, τ)) : fr_V p l e (fr_rm 0) s m args below meth c g Q 1 σ 0 [(0, .ref (g.2.1 13))] [] := by
  unfold F_X4_isFull at hF
  refine sv_aload_n (i := 0) X dX4_isFull_0 rfl rfl ?_
  refine sv_geti X ix_X4 rfl 1 (by decide) rfl rfl fl_X4_13 dX4_isFull_1 ?_
  refine sv_bipush (v := 120) X dX4_isFull_4 (by decide) ?_
  obtain ⟨v1, hM2, hF⟩ := fr_bS_some hF
  have K3 : fr_V p l e (fr_rm 0) s m args below meth c g Q 1 σ 14 [(0, .ref (g.2.1 13))] [.int v1] := by
    exact sv_zretv X hr hQ dX4_isFull_14 hF
  refine sv_icmp_lt (tgt := 13) X dX4_isFull_6 (by decide) (fun h4 => ?_) (fun h4 => ?_)
  · replace hM2 := fr_pos hM2 h4
    refine sv_iconst (v := 0) X dX4_isFull_13 (by decide) ?_
    obtain rfl := fr_i1 hM2
    exact K3
  · replace hM2 := fr_neg hM2 h4
    refine sv_iconst (v := 1) X dX4_isFull_9 (by decide) ?_
    refine sv_goto (tgt := 14) X dX4_isFull_10 (by decide) ?_
    obtain rfl := fr_i1 hM2
    exact K3
theorem c_X4_isFull {l : Launch} {g : fr_G}   {σ τ : fr_St} {r : Bool} (hF : F_X4_isFull  σ = some (r, τ)) : fr_Ci l g yX4_isFull (fr_ws yX4_isFull cX4_isFull 1 (some .boolean)) 0 [.ref (g.2.1 13)] σ (fr_bi r) τ := fr_mz (by decide) (Nat.le_of_ble_eq_true rfl) (fun p e s m below meth c X hr => b_X4_isFull X hr  rfl hF)
def F_X4_length  (σ : fr_St) : Option (Int32 × fr_St) := some ((σ 13 1), σ)
set_option maxRecDepth 100000 in
set_option maxHeartbeats 4000000 in
theorem b_X4_length {p : Program} {l : Launch} {e : Env} {s : State} {m : MethodId} {args : Array Value} {below : List Frame} {meth : Method} {c : Code} {g : fr_G} {Q : State → Prop} (X : fr_X p s m args meth c g cX4_length RX4 1) (hr : meth.sig.returnType = (some .int))   {σ τ : fr_St} {r : Int32} (hQ : Q = fr_Qi below args s g r τ) (hF : F_X4_length  σ = some (r, τ)) : fr_V p l e (fr_rm 0) s m args below meth c g Q 1 σ 0 [(0, .ref (g.2.1 13))] [] := by
  unfold F_X4_length at hF
  refine sv_aload_n (i := 0) X dX4_length_0 rfl rfl ?_
  refine sv_geti X ix_X4 rfl 1 (by decide) rfl rfl fl_X4_13 dX4_length_1 ?_
  exact sv_iret X hr hQ dX4_length_4 hF
theorem c_X4_length {l : Launch} {g : fr_G}   {σ τ : fr_St} {r : Int32} (hF : F_X4_length  σ = some (r, τ)) : fr_Ci l g yX4_length (fr_ws yX4_length cX4_length 1 (some .int)) 0 [.ref (g.2.1 13)] σ r τ := fr_mi (by decide) (Nat.le_of_ble_eq_true rfl) (fun p e s m below meth c X hr => b_X4_length X hr  rfl hF)
def F_X4_append (a1 : Int32) (σ : fr_St) : Option (Int32 × fr_St) := fr_bP (F_X4_isFull σ) (fun b3 s2 => fr_bS (if (fr_bi b3) = 0 then (if fr_ib (s2 13 1) 120 = true then fr_let (fr_up s2 14 (fr_ix (s2 13 1)) a1) (fun s8 => fr_let (fr_up s8 13 1 ((s8 13 1) + (1 : Int32))) (fun s9 => some (s9))) else none) else (some (s2))) (fun s4 => some ((s4 13 1), s4)))
set_option maxRecDepth 100000 in
set_option maxHeartbeats 4000000 in
theorem b_X4_append {p : Program} {l : Launch} {e : Env} {s : State} {m : MethodId} {args : Array Value} {below : List Frame} {meth : Method} {c : Code} {g : fr_G} {Q : State → Prop} (X : fr_X p s m args meth c g cX4_append RX4 2) (hr : meth.sig.returnType = (some .int)) {a1 : Int32}  {σ τ : fr_St} {r : Int32} (hQ : Q = fr_Qi below args s g r τ) (hF : F_X4_append a1 σ = some (r, τ)) : fr_V p l e (fr_rm 1) s m args below meth c g Q 2 σ 0 [(0, .ref (g.2.1 13)), (1, .int a1)] [] := by
  unfold F_X4_append at hF
  refine sv_aload_n (i := 0) X dX4_append_0 rfl rfl ?_
  obtain ⟨b3, s2, hc1, hF⟩ := fr_bP_some hF
  refine sv_callVi X (c_X4_isFull hc1) cd_X4_isFull ml_X4_17 im_X4_isFull se_X4_isFull in_RX4 hd_X4_isFull rfl rfl (by decide) rfl (Nat.le_of_ble_eq_true rfl) dX4_append_1 rfl ?_
  obtain ⟨s4, hM5, hF⟩ := fr_bS_some hF
  have K6 : fr_V p l e (fr_rm 1) s m args below meth c g Q 2 s4 27 [(0, .ref (g.2.1 13)), (1, .int a1)] [] := by
    refine sv_aload_n (i := 0) X dX4_append_27 rfl rfl ?_
    refine sv_geti X ix_X4 rfl 1 (by decide) rfl rfl fl_X4_13 dX4_append_28 ?_
    exact sv_iret X hr hQ dX4_append_31 hF
  refine sv_if_ne (tgt := 27) X dX4_append_4 (by decide) (fun h10 => ?_) (fun h10 => ?_)
  · replace hM5 := fr_neg hM5 h10
    obtain rfl := fr_i1 hM5
    exact K6
  · replace hM5 := fr_pos hM5 h10
    refine sv_aload_n (i := 0) X dX4_append_7 rfl rfl ?_
    refine sv_getr X ix_X4 rfl 0 (by decide) rfl rfl fl_X4_9 dX4_append_8 ?_
    refine sv_aload_n (i := 0) X dX4_append_11 rfl rfl ?_
    refine sv_geti X ix_X4 rfl 1 (by decide) rfl rfl fl_X4_13 dX4_append_12 ?_
    refine sv_iload_n (i := 1) X dX4_append_15 rfl rfl ?_
    obtain ⟨hb7, hM5⟩ := fr_chk hM5
    refine sv_iast (j := (fr_ix (s2 13 1))) X rfl hb7 rfl dX4_append_16 ?_
    refine sv_sig (fun s8 es8 => ?_)
    replace hM5 := fr_lete hM5 es8
    refine sv_aload_n (i := 0) X dX4_append_17 rfl rfl ?_
    refine sv_dup X dX4_append_18 rfl ?_
    refine sv_geti X ix_X4 rfl 1 (by decide) rfl rfl fl_X4_13 dX4_append_19 ?_
    refine sv_iconst (v := 1) X dX4_append_22 (by decide) ?_
    refine sv_iadd X dX4_append_23 ?_
    refine sv_puti (ty := .int) X ix_X4 tyX4_ok nmX4 rfl 1 (by decide) rfl rfl fl_X4_13 rfl rfl rfl rfl dX4_append_24 ?_
    refine sv_sig (fun s9 es9 => ?_)
    replace hM5 := fr_lete hM5 es9
    obtain rfl := fr_i1 hM5
    exact K6
theorem c_X4_append {l : Launch} {g : fr_G} {a1 : Int32}  {σ τ : fr_St} {r : Int32} (hF : F_X4_append a1 σ = some (r, τ)) : fr_Ci l g yX4_append (fr_ws yX4_append cX4_append 2 (some .int)) 1 [.ref (g.2.1 13), .int a1] σ r τ := fr_mi (by decide) (Nat.le_of_ble_eq_true rfl) (fun p e s m below meth c X hr => b_X4_append X hr  rfl hF)
def F_X4_clearTape  (σ : fr_St) : Option fr_St := fr_let (fr_up σ 13 1 (0 : Int32)) (fun s1 => some s1)
set_option maxRecDepth 100000 in
set_option maxHeartbeats 4000000 in
theorem b_X4_clearTape {p : Program} {l : Launch} {e : Env} {s : State} {m : MethodId} {args : Array Value} {below : List Frame} {meth : Method} {c : Code} {g : fr_G} {Q : State → Prop} (X : fr_X p s m args meth c g cX4_clearTape RX4 1) (hr : meth.sig.returnType = (Option.none : Option Jvm.ClassFile.FieldType))   {σ τ : fr_St} (hQ : Q = fr_Qv below args s g τ) (hF : F_X4_clearTape  σ = some τ) : fr_V p l e (fr_rm 0) s m args below meth c g Q 1 σ 0 [(0, .ref (g.2.1 13))] [] := by
  unfold F_X4_clearTape at hF
  refine sv_aload_n (i := 0) X dX4_clearTape_0 rfl rfl ?_
  refine sv_iconst (v := 0) X dX4_clearTape_1 (by decide) ?_
  refine sv_puti (ty := .int) X ix_X4 tyX4_ok nmX4 rfl 1 (by decide) rfl rfl fl_X4_13 rfl rfl rfl rfl dX4_clearTape_2 ?_
  refine sv_sig (fun s1 es1 => ?_)
  replace hF := fr_lete hF es1
  exact sv_vret X hr hQ dX4_clearTape_5 hF
theorem c_X4_clearTape {l : Launch} {g : fr_G}   {σ τ : fr_St} (hF : F_X4_clearTape  σ = some τ) : fr_Cv l g yX4_clearTape (fr_ws yX4_clearTape cX4_clearTape 1 (Option.none : Option Jvm.ClassFile.FieldType)) 0 [.ref (g.2.1 13)] σ τ := fr_mv (by decide) (Nat.le_of_ble_eq_true rfl) (fun p e s m below meth c X hr => b_X4_clearTape X hr  rfl hF)
def F_X4_faultNumber  (σ : fr_St) : Option (Int32 × fr_St) := some ((σ 13 6), σ)
set_option maxRecDepth 100000 in
set_option maxHeartbeats 4000000 in
theorem b_X4_faultNumber {p : Program} {l : Launch} {e : Env} {s : State} {m : MethodId} {args : Array Value} {below : List Frame} {meth : Method} {c : Code} {g : fr_G} {Q : State → Prop} (X : fr_X p s m args meth c g cX4_faultNumber RX4 1) (hr : meth.sig.returnType = (some .int))   {σ τ : fr_St} {r : Int32} (hQ : Q = fr_Qi below args s g r τ) (hF : F_X4_faultNumber  σ = some (r, τ)) : fr_V p l e (fr_rm 0) s m args below meth c g Q 1 σ 0 [(0, .ref (g.2.1 13))] [] := by
  unfold F_X4_faultNumber at hF
  refine sv_aload_n (i := 0) X dX4_faultNumber_0 rfl rfl ?_
  refine sv_geti X ix_X4 rfl 6 (by decide) rfl rfl fl_X4_21 dX4_faultNumber_1 ?_
  exact sv_iret X hr hQ dX4_faultNumber_4 hF
theorem c_X4_faultNumber {l : Launch} {g : fr_G}   {σ τ : fr_St} {r : Int32} (hF : F_X4_faultNumber  σ = some (r, τ)) : fr_Ci l g yX4_faultNumber (fr_ws yX4_faultNumber cX4_faultNumber 1 (some .int)) 0 [.ref (g.2.1 13)] σ r τ := fr_mi (by decide) (Nat.le_of_ble_eq_true rfl) (fun p e s m below meth c X hr => b_X4_faultNumber X hr  rfl hF)
def F_X4_faultPlace  (σ : fr_St) : Option (Int32 × fr_St) := some ((σ 13 2), σ)
set_option maxRecDepth 100000 in
set_option maxHeartbeats 4000000 in
theorem b_X4_faultPlace {p : Program} {l : Launch} {e : Env} {s : State} {m : MethodId} {args : Array Value} {below : List Frame} {meth : Method} {c : Code} {g : fr_G} {Q : State → Prop} (X : fr_X p s m args meth c g cX4_faultPlace RX4 1) (hr : meth.sig.returnType = (some .int))   {σ τ : fr_St} {r : Int32} (hQ : Q = fr_Qi below args s g r τ) (hF : F_X4_faultPlace  σ = some (r, τ)) : fr_V p l e (fr_rm 0) s m args below meth c g Q 1 σ 0 [(0, .ref (g.2.1 13))] [] := by
  unfold F_X4_faultPlace at hF
  refine sv_aload_n (i := 0) X dX4_faultPlace_0 rfl rfl ?_
  refine sv_geti X ix_X4 rfl 2 (by decide) rfl rfl fl_X4_24 dX4_faultPlace_1 ?_
  exact sv_iret X hr hQ dX4_faultPlace_4 hF
theorem c_X4_faultPlace {l : Launch} {g : fr_G}   {σ τ : fr_St} {r : Int32} (hF : F_X4_faultPlace  σ = some (r, τ)) : fr_Ci l g yX4_faultPlace (fr_ws yX4_faultPlace cX4_faultPlace 1 (some .int)) 0 [.ref (g.2.1 13)] σ r τ := fr_mi (by decide) (Nat.le_of_ble_eq_true rfl) (fun p e s m below meth c X hr => b_X4_faultPlace X hr  rfl hF)
def F_X4_isFigure (a1 : Int32) (σ : fr_St) : Option (Bool × fr_St) := fr_bS (if a1 < (48 : Int32) then (some ((0 : Int32))) else (if (57 : Int32) < a1 then (some ((0 : Int32))) else (some ((1 : Int32))))) (fun v1 => if v1 = 0 then some (false, σ) else if v1 = 1 then some (true, σ) else none)
set_option maxRecDepth 100000 in
set_option maxHeartbeats 4000000 in
theorem b_X4_isFigure {p : Program} {l : Launch} {e : Env} {s : State} {m : MethodId} {args : Array Value} {below : List Frame} {meth : Method} {c : Code} {g : fr_G} {Q : State → Prop} (X : fr_X p s m args meth c g cX4_isFigure RX4 1) (hr : meth.sig.returnType = (some .boolean)) {a1 : Int32}  {σ τ : fr_St} {r : Bool} (hQ : Q = fr_Qi below args s g (fr_bi r) τ) (hF : F_X4_isFigure a1 σ = some (r, τ)) : fr_V p l e (fr_rm 0) s m args below meth c g Q 1 σ 0 [(0, .int a1)] [] := by
  unfold F_X4_isFigure at hF
  refine sv_iload_n (i := 0) X dX4_isFigure_0 rfl rfl ?_
  refine sv_bipush (v := 48) X dX4_isFigure_1 (by decide) ?_
  obtain ⟨v1, hM2, hF⟩ := fr_bS_some hF
  have K3 : fr_V p l e (fr_rm 0) s m args below meth c g Q 1 σ 17 [(0, .int a1)] [.int v1] := by
    exact sv_zretv X hr hQ dX4_isFigure_17 hF
  refine sv_icmp_lt (tgt := 16) X dX4_isFigure_3 (by decide) (fun h5 => ?_) (fun h5 => ?_)
  · replace hM2 := fr_pos hM2 h5
    refine sv_iconst (v := 0) X dX4_isFigure_16 (by decide) ?_
    obtain rfl := fr_i1 hM2
    exact K3
  · replace hM2 := fr_neg hM2 h5
    refine sv_iload_n (i := 0) X dX4_isFigure_6 rfl rfl ?_
    refine sv_bipush (v := 57) X dX4_isFigure_7 (by decide) ?_
    refine sv_icmp_gt (tgt := 16) X dX4_isFigure_9 (by decide) (fun h4 => ?_) (fun h4 => ?_)
    · replace hM2 := fr_pos hM2 h4
      refine sv_iconst (v := 0) X dX4_isFigure_16 (by decide) ?_
      obtain rfl := fr_i1 hM2
      exact K3
    · replace hM2 := fr_neg hM2 h4
      refine sv_iconst (v := 1) X dX4_isFigure_12 (by decide) ?_
      refine sv_goto (tgt := 17) X dX4_isFigure_13 (by decide) ?_
      obtain rfl := fr_i1 hM2
      exact K3
theorem c_X4_isFigure {l : Launch} {g : fr_G} {a1 : Int32}  {σ τ : fr_St} {r : Bool} (hF : F_X4_isFigure a1 σ = some (r, τ)) : fr_Ci l g yX4_isFigure (fr_ws yX4_isFigure cX4_isFigure 1 (some .boolean)) 0 [.int a1] σ (fr_bi r) τ := fr_mz (by decide) (Nat.le_of_ble_eq_true rfl) (fun p e s m below meth c X hr => b_X4_isFigure X hr  rfl hF)
def F_X4_isLetterOrSign (a1 : Int32) (σ : fr_St) : Option (Bool × fr_St) := fr_bS (if a1 < (97 : Int32) then (if a1 = (44 : Int32) then (some ((1 : Int32))) else (if a1 = (59 : Int32) then (some ((1 : Int32))) else (some ((0 : Int32))))) else (if a1 ≤ (122 : Int32) then (some ((1 : Int32))) else (if a1 = (44 : Int32) then (some ((1 : Int32))) else (if a1 = (59 : Int32) then (some ((1 : Int32))) else (some ((0 : Int32))))))) (fun v1 => if v1 = 0 then some (false, σ) else if v1 = 1 then some (true, σ) else none)
set_option maxRecDepth 100000 in
set_option maxHeartbeats 4000000 in
theorem b_X4_isLetterOrSign {p : Program} {l : Launch} {e : Env} {s : State} {m : MethodId} {args : Array Value} {below : List Frame} {meth : Method} {c : Code} {g : fr_G} {Q : State → Prop} (X : fr_X p s m args meth c g cX4_isLetterOrSign RX4 1) (hr : meth.sig.returnType = (some .boolean)) {a1 : Int32}  {σ τ : fr_St} {r : Bool} (hQ : Q = fr_Qi below args s g (fr_bi r) τ) (hF : F_X4_isLetterOrSign a1 σ = some (r, τ)) : fr_V p l e (fr_rm 0) s m args below meth c g Q 1 σ 0 [(0, .int a1)] [] := by
  unfold F_X4_isLetterOrSign at hF
  refine sv_iload_n (i := 0) X dX4_isLetterOrSign_0 rfl rfl ?_
  refine sv_bipush (v := 97) X dX4_isLetterOrSign_1 (by decide) ?_
  obtain ⟨v1, hM2, hF⟩ := fr_bS_some hF
  have K3 : fr_V p l e (fr_rm 0) s m args below meth c g Q 1 σ 29 [(0, .int a1)] [.int v1] := by
    exact sv_zretv X hr hQ dX4_isLetterOrSign_29 hF
  refine sv_icmp_lt (tgt := 12) X dX4_isLetterOrSign_3 (by decide) (fun h9 => ?_) (fun h9 => ?_)
  · replace hM2 := fr_pos hM2 h9
    refine sv_iload_n (i := 0) X dX4_isLetterOrSign_12 rfl rfl ?_
    refine sv_bipush (v := 44) X dX4_isLetterOrSign_13 (by decide) ?_
    refine sv_icmp_eq (tgt := 24) X dX4_isLetterOrSign_15 (by decide) (fun h5 => ?_) (fun h5 => ?_)
    · replace hM2 := fr_pos hM2 h5
      refine sv_iconst (v := 1) X dX4_isLetterOrSign_24 (by decide) ?_
      refine sv_goto (tgt := 29) X dX4_isLetterOrSign_25 (by decide) ?_
      obtain rfl := fr_i1 hM2
      exact K3
    · replace hM2 := fr_neg hM2 h5
      refine sv_iload_n (i := 0) X dX4_isLetterOrSign_18 rfl rfl ?_
      refine sv_bipush (v := 59) X dX4_isLetterOrSign_19 (by decide) ?_
      refine sv_icmp_ne (tgt := 28) X dX4_isLetterOrSign_21 (by decide) (fun h4 => ?_) (fun h4 => ?_)
      · replace hM2 := fr_neg hM2 h4
        refine sv_iconst (v := 0) X dX4_isLetterOrSign_28 (by decide) ?_
        obtain rfl := fr_i1 hM2
        exact K3
      · replace hM2 := fr_pos hM2 h4
        refine sv_iconst (v := 1) X dX4_isLetterOrSign_24 (by decide) ?_
        refine sv_goto (tgt := 29) X dX4_isLetterOrSign_25 (by decide) ?_
        obtain rfl := fr_i1 hM2
        exact K3
  · replace hM2 := fr_neg hM2 h9
    refine sv_iload_n (i := 0) X dX4_isLetterOrSign_6 rfl rfl ?_
    refine sv_bipush (v := 122) X dX4_isLetterOrSign_7 (by decide) ?_
    refine sv_icmp_le (tgt := 24) X dX4_isLetterOrSign_9 (by decide) (fun h8 => ?_) (fun h8 => ?_)
    · replace hM2 := fr_pos hM2 h8
      refine sv_iconst (v := 1) X dX4_isLetterOrSign_24 (by decide) ?_
      refine sv_goto (tgt := 29) X dX4_isLetterOrSign_25 (by decide) ?_
      obtain rfl := fr_i1 hM2
      exact K3
    · replace hM2 := fr_neg hM2 h8
      refine sv_iload_n (i := 0) X dX4_isLetterOrSign_12 rfl rfl ?_
      refine sv_bipush (v := 44) X dX4_isLetterOrSign_13 (by decide) ?_
      refine sv_icmp_eq (tgt := 24) X dX4_isLetterOrSign_15 (by decide) (fun h7 => ?_) (fun h7 => ?_)
      · replace hM2 := fr_pos hM2 h7
        refine sv_iconst (v := 1) X dX4_isLetterOrSign_24 (by decide) ?_
        refine sv_goto (tgt := 29) X dX4_isLetterOrSign_25 (by decide) ?_
        obtain rfl := fr_i1 hM2
        exact K3
      · replace hM2 := fr_neg hM2 h7
        refine sv_iload_n (i := 0) X dX4_isLetterOrSign_18 rfl rfl ?_
        refine sv_bipush (v := 59) X dX4_isLetterOrSign_19 (by decide) ?_
        refine sv_icmp_ne (tgt := 28) X dX4_isLetterOrSign_21 (by decide) (fun h6 => ?_) (fun h6 => ?_)
        · replace hM2 := fr_neg hM2 h6
          refine sv_iconst (v := 0) X dX4_isLetterOrSign_28 (by decide) ?_
          obtain rfl := fr_i1 hM2
          exact K3
        · replace hM2 := fr_pos hM2 h6
          refine sv_iconst (v := 1) X dX4_isLetterOrSign_24 (by decide) ?_
          refine sv_goto (tgt := 29) X dX4_isLetterOrSign_25 (by decide) ?_
          obtain rfl := fr_i1 hM2
          exact K3
theorem c_X4_isLetterOrSign {l : Launch} {g : fr_G} {a1 : Int32}  {σ τ : fr_St} {r : Bool} (hF : F_X4_isLetterOrSign a1 σ = some (r, τ)) : fr_Ci l g yX4_isLetterOrSign (fr_ws yX4_isLetterOrSign cX4_isLetterOrSign 1 (some .boolean)) 0 [.int a1] σ (fr_bi r) τ := fr_mz (by decide) (Nat.le_of_ble_eq_true rfl) (fun p e s m below meth c X hr => b_X4_isLetterOrSign X hr  rfl hF)
def L_X4_look_13  : Nat → fr_St → Option (fr_St)
  | 0, _ => none
  | n + 1, σ => if (σ 13 1) ≤ (σ 13 5) then (some σ) else (if fr_ib (σ 13 5) 120 = true then fr_bP (F_X4_isFigure (σ 14 (fr_ix (σ 13 5))) σ) (fun b4 s3 => if (fr_bi b4) = 0 then (some s3) else (if fr_ib (s3 13 5) 120 = true then fr_let (fr_up s3 13 4 (if (1000 : Int32) < ((((s3 13 4) * (10 : Int32)) + (s3 14 (fr_ix (s3 13 5)))) - (48 : Int32)) then (1000 : Int32) else ((((s3 13 4) * (10 : Int32)) + (s3 14 (fr_ix (s3 13 5)))) - (48 : Int32)))) (fun s6 => fr_let (fr_up s6 13 5 ((s6 13 5) + (1 : Int32))) (fun s7 => L_X4_look_13  n s7)) else none)) else none)
set_option maxRecDepth 100000 in
set_option maxHeartbeats 4000000 in
theorem wL_X4_look_13 {p : Program} {l : Launch} {e : Env} {s : State} {m : MethodId} {args : Array Value} {below : List Frame} {meth : Method} {c : Code} {g : fr_G} {Q : State → Prop} (X : fr_X p s m args meth c g cX4_look RX4 2)    {τ : fr_St} (K : fr_V p l e (fr_rm 1) s m args below meth c g Q 2 τ 82 [(0, .ref (g.2.1 13))] []) : ∀ (n : Nat)  (σ : fr_St), L_X4_look_13  n  σ = some τ → fr_V p l e (fr_rm 1) s m args below meth c g Q 2 σ 13 [(0, .ref (g.2.1 13))] [] := by
  intro n
  induction n with
  | zero => intro σ hL; cases hL
  | succ n ih =>
    intro σ hL
    rw [L_X4_look_13] at hL
    refine sv_aload_n (i := 0) X dX4_look_13 rfl rfl ?_
    refine sv_geti X ix_X4 rfl 5 (by decide) rfl rfl fl_X4_99 dX4_look_14 ?_
    refine sv_aload_n (i := 0) X dX4_look_17 rfl rfl ?_
    refine sv_geti X ix_X4 rfl 1 (by decide) rfl rfl fl_X4_13 dX4_look_18 ?_
    refine sv_icmp_ge (tgt := 82) X dX4_look_21 (by decide) (fun h9 => ?_) (fun h9 => ?_)
    · replace hL := fr_pos hL h9
      obtain rfl := fr_i1 hL
      exact K
    · replace hL := fr_neg hL h9
      refine sv_aload_n (i := 0) X dX4_look_24 rfl rfl ?_
      refine sv_getr X ix_X4 rfl 0 (by decide) rfl rfl fl_X4_9 dX4_look_25 ?_
      refine sv_aload_n (i := 0) X dX4_look_28 rfl rfl ?_
      refine sv_geti X ix_X4 rfl 5 (by decide) rfl rfl fl_X4_99 dX4_look_29 ?_
      obtain ⟨hb1, hL⟩ := fr_chk hL
      refine sv_iald (j := (fr_ix (σ 13 5))) X rfl hb1 rfl dX4_look_32 ?_
      obtain ⟨b4, s3, hc2, hL⟩ := fr_bP_some hL
      refine sv_callSi X (c_X4_isFigure hc2) cd_X4_isFigure ml_X4_102 sm_X4_isFigure in_RX4 hd_X4_isFigure (by decide) rfl (Nat.le_of_ble_eq_true rfl) dX4_look_33 rfl ?_
      refine sv_if_eq (tgt := 82) X dX4_look_36 (by decide) (fun h8 => ?_) (fun h8 => ?_)
      · replace hL := fr_pos hL h8
        obtain rfl := fr_i1 hL
        exact K
      · replace hL := fr_neg hL h8
        refine sv_aload_n (i := 0) X dX4_look_39 rfl rfl ?_
        refine sv_aload_n (i := 0) X dX4_look_40 rfl rfl ?_
        refine sv_geti X ix_X4 rfl 4 (by decide) rfl rfl fl_X4_53 dX4_look_41 ?_
        refine sv_bipush (v := 10) X dX4_look_44 (by decide) ?_
        refine sv_imul X dX4_look_46 ?_
        refine sv_aload_n (i := 0) X dX4_look_47 rfl rfl ?_
        refine sv_getr X ix_X4 rfl 0 (by decide) rfl rfl fl_X4_9 dX4_look_48 ?_
        refine sv_aload_n (i := 0) X dX4_look_51 rfl rfl ?_
        refine sv_geti X ix_X4 rfl 5 (by decide) rfl rfl fl_X4_99 dX4_look_52 ?_
        obtain ⟨hb5, hL⟩ := fr_chk hL
        refine sv_iald (j := (fr_ix (s3 13 5))) X rfl hb5 rfl dX4_look_55 ?_
        refine sv_iadd X dX4_look_56 ?_
        refine sv_bipush (v := 48) X dX4_look_57 (by decide) ?_
        refine sv_isub X dX4_look_59 ?_
        refine sv_sipush (v := 1000) X dX4_look_60 (by decide) ?_
        refine sv_min X ml_X4_105 sm_min in_RJ9 cd_min (by decide) (Nat.le_of_ble_eq_true rfl) dX4_look_63 ?_
        refine sv_puti (ty := .int) X ix_X4 tyX4_ok nmX4 rfl 4 (by decide) rfl rfl fl_X4_53 rfl rfl rfl rfl dX4_look_66 ?_
        refine sv_sig (fun s6 es6 => ?_)
        replace hL := fr_lete hL es6
        refine sv_aload_n (i := 0) X dX4_look_69 rfl rfl ?_
        refine sv_dup X dX4_look_70 rfl ?_
        refine sv_geti X ix_X4 rfl 5 (by decide) rfl rfl fl_X4_99 dX4_look_71 ?_
        refine sv_iconst (v := 1) X dX4_look_74 (by decide) ?_
        refine sv_iadd X dX4_look_75 ?_
        refine sv_puti (ty := .int) X ix_X4 tyX4_ok nmX4 rfl 5 (by decide) rfl rfl fl_X4_99 rfl rfl rfl rfl dX4_look_76 ?_
        refine sv_sig (fun s7 es7 => ?_)
        replace hL := fr_lete hL es7
        refine sv_goto (tgt := 13) X dX4_look_79 (by decide) ?_
        exact ih _ hL
def F_X4_look  (σ : fr_St) : Option fr_St := fr_let (fr_up σ 13 5 (σ 13 2)) (fun s1 => fr_let (fr_up s1 13 4 (0 : Int32)) (fun s2 => fr_bS (L_X4_look_13  fr_fu s2) (fun s3 => fr_let (((s3 13 5) - (s3 13 2))) (fun v5 => fr_bS (if v5 ≤ 0 then (if (s3 13 2) < (s3 13 1) then (if fr_ib (s3 13 2) 120 = true then fr_bP (F_X4_isLetterOrSign (s3 14 (fr_ix (s3 13 2))) s3) (fun b12 s11 => fr_bS (if (fr_bi b12) = 0 then (some ((-2 : Int32))) else (if fr_ib (s11 13 2) 120 = true then some ((s11 14 (fr_ix (s11 13 2)))) else none)) (fun v13 => fr_let (fr_up s11 13 3 v13) (fun s16 => fr_let (fr_up s16 13 5 ((s16 13 2) + (1 : Int32))) (fun s17 => some (s17))))) else none) else (fr_let (fr_up s3 13 3 (-1 : Int32)) (fun s20 => some (s20)))) else (fr_bS (if (3 : Int32) < v5 then (some ((-2 : Int32))) else (some ((-3 : Int32)))) (fun v22 => fr_let (fr_up s3 13 3 v22) (fun s25 => some (s25))))) (fun s6 => some s6)))))
set_option maxRecDepth 100000 in
set_option maxHeartbeats 4000000 in
theorem b_X4_look {p : Program} {l : Launch} {e : Env} {s : State} {m : MethodId} {args : Array Value} {below : List Frame} {meth : Method} {c : Code} {g : fr_G} {Q : State → Prop} (X : fr_X p s m args meth c g cX4_look RX4 2) (hr : meth.sig.returnType = (Option.none : Option Jvm.ClassFile.FieldType))   {σ τ : fr_St} (hQ : Q = fr_Qv below args s g τ) (hF : F_X4_look  σ = some τ) : fr_V p l e (fr_rm 1) s m args below meth c g Q 2 σ 0 [(0, .ref (g.2.1 13))] [] := by
  unfold F_X4_look at hF
  refine sv_aload_n (i := 0) X dX4_look_0 rfl rfl ?_
  refine sv_aload_n (i := 0) X dX4_look_1 rfl rfl ?_
  refine sv_geti X ix_X4 rfl 2 (by decide) rfl rfl fl_X4_24 dX4_look_2 ?_
  refine sv_puti (ty := .int) X ix_X4 tyX4_ok nmX4 rfl 5 (by decide) rfl rfl fl_X4_99 rfl rfl rfl rfl dX4_look_5 ?_
  refine sv_sig (fun s1 es1 => ?_)
  replace hF := fr_lete hF es1
  refine sv_aload_n (i := 0) X dX4_look_8 rfl rfl ?_
  refine sv_iconst (v := 0) X dX4_look_9 (by decide) ?_
  refine sv_puti (ty := .int) X ix_X4 tyX4_ok nmX4 rfl 4 (by decide) rfl rfl fl_X4_53 rfl rfl rfl rfl dX4_look_10 ?_
  refine sv_sig (fun s2 es2 => ?_)
  replace hF := fr_lete hF es2
  obtain ⟨s3, hl4, hF⟩ := fr_bS_some hF
  refine wL_X4_look_13 X   ?_ fr_fu _ hl4
  refine sv_aload_n (i := 0) X dX4_look_82 rfl rfl ?_
  refine sv_geti X ix_X4 rfl 5 (by decide) rfl rfl fl_X4_99 dX4_look_83 ?_
  refine sv_aload_n (i := 0) X dX4_look_86 rfl rfl ?_
  refine sv_geti X ix_X4 rfl 2 (by decide) rfl rfl fl_X4_24 dX4_look_87 ?_
  refine sv_isub X dX4_look_90 ?_
  refine sv_topi (fun v5 ev5 => ?_)
  replace hF := fr_lete hF ev5
  refine sv_istore_n X dX4_look_91 rfl (by decide) rfl ?_
  refine sv_iload_n (i := 0) X dX4_look_92 rfl rfl ?_
  obtain ⟨s6, hM7, hF⟩ := fr_bS_some hF
  have K8 : fr_V p l e (fr_rm 1) s m args below meth c g Q 2 s6 177 [(0, .ref (g.2.1 13)), (1, .int v5)] [] := by
    exact sv_vret X hr hQ dX4_look_177 hF
  refine sv_if_le (tgt := 115) X dX4_look_93 (by decide) (fun h27 => ?_) (fun h27 => ?_)
  · replace hM7 := fr_pos hM7 h27
    refine sv_aload_n (i := 1) X dX4_look_115 rfl rfl ?_
    refine sv_geti X ix_X4 rfl 2 (by decide) rfl rfl fl_X4_24 dX4_look_116 ?_
    refine sv_aload_n (i := 1) X dX4_look_119 rfl rfl ?_
    refine sv_geti X ix_X4 rfl 1 (by decide) rfl rfl fl_X4_13 dX4_look_120 ?_
    refine sv_icmp_lt (tgt := 134) X dX4_look_123 (by decide) (fun h21 => ?_) (fun h21 => ?_)
    · replace hM7 := fr_pos hM7 h21
      refine sv_aload_n (i := 1) X dX4_look_134 rfl rfl ?_
      refine sv_aload_n (i := 1) X dX4_look_135 rfl rfl ?_
      refine sv_getr X ix_X4 rfl 0 (by decide) rfl rfl fl_X4_9 dX4_look_136 ?_
      refine sv_aload_n (i := 1) X dX4_look_139 rfl rfl ?_
      refine sv_geti X ix_X4 rfl 2 (by decide) rfl rfl fl_X4_24 dX4_look_140 ?_
      obtain ⟨hb9, hM7⟩ := fr_chk hM7
      refine sv_iald (j := (fr_ix (s3 13 2))) X rfl hb9 rfl dX4_look_143 ?_
      obtain ⟨b12, s11, hc10, hM7⟩ := fr_bP_some hM7
      refine sv_callSi X (c_X4_isLetterOrSign hc10) cd_X4_isLetterOrSign ml_X4_111 sm_X4_isLetterOrSign in_RX4 hd_X4_isLetterOrSign (by decide) rfl (Nat.le_of_ble_eq_true rfl) dX4_look_144 rfl ?_
      obtain ⟨v13, hM14, hM7⟩ := fr_bS_some hM7
      have K15 : fr_V p l e (fr_rm 1) s m args below meth c g Q 2 s11 164 [(0, .ref (g.2.1 13)), (1, .int v5)] [.int v13, .ref (g.2.1 13)] := by
        refine sv_puti (ty := .int) X ix_X4 tyX4_ok nmX4 rfl 3 (by decide) rfl rfl fl_X4_63 rfl rfl rfl rfl dX4_look_164 ?_
        refine sv_sig (fun s16 es16 => ?_)
        replace hM7 := fr_lete hM7 es16
        refine sv_aload_n (i := 0) X dX4_look_167 rfl rfl ?_
        refine sv_aload_n (i := 0) X dX4_look_168 rfl rfl ?_
        refine sv_geti X ix_X4 rfl 2 (by decide) rfl rfl fl_X4_24 dX4_look_169 ?_
        refine sv_iconst (v := 1) X dX4_look_172 (by decide) ?_
        refine sv_iadd X dX4_look_173 ?_
        refine sv_puti (ty := .int) X ix_X4 tyX4_ok nmX4 rfl 5 (by decide) rfl rfl fl_X4_99 rfl rfl rfl rfl dX4_look_174 ?_
        refine sv_sig (fun s17 es17 => ?_)
        replace hM7 := fr_lete hM7 es17
        obtain rfl := fr_i1 hM7
        exact K8
      refine sv_if_eq (tgt := 162) X dX4_look_147 (by decide) (fun h19 => ?_) (fun h19 => ?_)
      · replace hM14 := fr_pos hM14 h19
        refine sv_bipush (v := (-2)) X dX4_look_162 (by decide) ?_
        obtain rfl := fr_i1 hM14
        exact sv_perm [1, 0] rfl K15
      · replace hM14 := fr_neg hM14 h19
        refine sv_aload_n (i := 1) X dX4_look_150 rfl rfl ?_
        refine sv_getr X ix_X4 rfl 0 (by decide) rfl rfl fl_X4_9 dX4_look_151 ?_
        refine sv_aload_n (i := 1) X dX4_look_154 rfl rfl ?_
        refine sv_geti X ix_X4 rfl 2 (by decide) rfl rfl fl_X4_24 dX4_look_155 ?_
        obtain ⟨hb18, hM14⟩ := fr_chk hM14
        refine sv_iald (j := (fr_ix (s11 13 2))) X rfl hb18 rfl dX4_look_158 ?_
        refine sv_goto (tgt := 164) X dX4_look_159 (by decide) ?_
        obtain rfl := fr_i1 hM14
        exact sv_perm [1, 0] rfl K15
    · replace hM7 := fr_neg hM7 h21
      refine sv_aload_n (i := 1) X dX4_look_126 rfl rfl ?_
      refine sv_iconst (v := (-1)) X dX4_look_127 (by decide) ?_
      refine sv_puti (ty := .int) X ix_X4 tyX4_ok nmX4 rfl 3 (by decide) rfl rfl fl_X4_63 rfl rfl rfl rfl dX4_look_128 ?_
      refine sv_sig (fun s20 es20 => ?_)
      replace hM7 := fr_lete hM7 es20
      refine sv_goto (tgt := 177) X dX4_look_131 (by decide) ?_
      obtain rfl := fr_i1 hM7
      exact sv_perm [1, 0] rfl K8
  · replace hM7 := fr_neg hM7 h27
    refine sv_aload_n (i := 1) X dX4_look_96 rfl rfl ?_
    refine sv_iload_n (i := 0) X dX4_look_97 rfl rfl ?_
    refine sv_iconst (v := 3) X dX4_look_98 (by decide) ?_
    obtain ⟨v22, hM23, hM7⟩ := fr_bS_some hM7
    have K24 : fr_V p l e (fr_rm 1) s m args below meth c g Q 2 s3 109 [(0, .ref (g.2.1 13)), (1, .int v5)] [.int v22, .ref (g.2.1 13)] := by
      refine sv_puti (ty := .int) X ix_X4 tyX4_ok nmX4 rfl 3 (by decide) rfl rfl fl_X4_63 rfl rfl rfl rfl dX4_look_109 ?_
      refine sv_sig (fun s25 es25 => ?_)
      replace hM7 := fr_lete hM7 es25
      refine sv_goto (tgt := 177) X dX4_look_112 (by decide) ?_
      obtain rfl := fr_i1 hM7
      exact K8
    refine sv_icmp_gt (tgt := 107) X dX4_look_99 (by decide) (fun h26 => ?_) (fun h26 => ?_)
    · replace hM23 := fr_pos hM23 h26
      refine sv_bipush (v := (-2)) X dX4_look_107 (by decide) ?_
      obtain rfl := fr_i1 hM23
      exact sv_perm [1, 0] rfl K24
    · replace hM23 := fr_neg hM23 h26
      refine sv_bipush (v := (-3)) X dX4_look_102 (by decide) ?_
      refine sv_goto (tgt := 109) X dX4_look_104 (by decide) ?_
      obtain rfl := fr_i1 hM23
      exact sv_perm [1, 0] rfl K24
theorem c_X4_look {l : Launch} {g : fr_G}   {σ τ : fr_St} (hF : F_X4_look  σ = some τ) : fr_Cv l g yX4_look (fr_ws yX4_look cX4_look 2 (Option.none : Option Jvm.ClassFile.FieldType)) 1 [.ref (g.2.1 13)] σ τ := fr_mv (by decide) (Nat.le_of_ble_eq_true rfl) (fun p e s m below meth c X hr => b_X4_look X hr  rfl hF)
def F_X4_refuse (a1 : Int32) (σ : fr_St) : Option (Bool × fr_St) := fr_let (fr_up σ 13 6 a1) (fun s1 => some (false, s1))
set_option maxRecDepth 100000 in
set_option maxHeartbeats 4000000 in
theorem b_X4_refuse {p : Program} {l : Launch} {e : Env} {s : State} {m : MethodId} {args : Array Value} {below : List Frame} {meth : Method} {c : Code} {g : fr_G} {Q : State → Prop} (X : fr_X p s m args meth c g cX4_refuse RX4 2) (hr : meth.sig.returnType = (some .boolean)) {a1 : Int32}  {σ τ : fr_St} {r : Bool} (hQ : Q = fr_Qi below args s g (fr_bi r) τ) (hF : F_X4_refuse a1 σ = some (r, τ)) : fr_V p l e (fr_rm 0) s m args below meth c g Q 2 σ 0 [(0, .ref (g.2.1 13)), (1, .int a1)] [] := by
  unfold F_X4_refuse at hF
  refine sv_aload_n (i := 0) X dX4_refuse_0 rfl rfl ?_
  refine sv_iload_n (i := 1) X dX4_refuse_1 rfl rfl ?_
  refine sv_puti (ty := .int) X ix_X4 tyX4_ok nmX4 rfl 6 (by decide) rfl rfl fl_X4_21 rfl rfl rfl rfl dX4_refuse_2 ?_
  refine sv_sig (fun s1 es1 => ?_)
  replace hF := fr_lete hF es1
  refine sv_iconst (v := 0) X dX4_refuse_5 (by decide) ?_
  exact sv_zret X (b := false) hr hQ rfl dX4_refuse_6 hF
theorem c_X4_refuse {l : Launch} {g : fr_G} {a1 : Int32}  {σ τ : fr_St} {r : Bool} (hF : F_X4_refuse a1 σ = some (r, τ)) : fr_Ci l g yX4_refuse (fr_ws yX4_refuse cX4_refuse 2 (some .boolean)) 0 [.ref (g.2.1 13), .int a1] σ (fr_bi r) τ := fr_mz (by decide) (Nat.le_of_ble_eq_true rfl) (fun p e s m below meth c X hr => b_X4_refuse X hr  rfl hF)
def F_X4_readEnd  (σ : fr_St) : Option (Bool × fr_St) := fr_bS (F_X4_look σ) (fun s2 => fr_bP (if (s2 13 3) = (-1 : Int32) then (some ((1 : Int32), s2)) else (fr_bP (F_X4_refuse (1 : Int32) s2) (fun b9 s8 => if (fr_bi b9) = 0 then (some ((0 : Int32), s8)) else (some ((1 : Int32), s8))))) (fun v3 s4 => if v3 = 0 then some (false, s4) else if v3 = 1 then some (true, s4) else none))
set_option maxRecDepth 100000 in
set_option maxHeartbeats 4000000 in
theorem b_X4_readEnd {p : Program} {l : Launch} {e : Env} {s : State} {m : MethodId} {args : Array Value} {below : List Frame} {meth : Method} {c : Code} {g : fr_G} {Q : State → Prop} (X : fr_X p s m args meth c g cX4_readEnd RX4 1) (hr : meth.sig.returnType = (some .boolean))   {σ τ : fr_St} {r : Bool} (hQ : Q = fr_Qi below args s g (fr_bi r) τ) (hF : F_X4_readEnd  σ = some (r, τ)) : fr_V p l e (fr_rm 2) s m args below meth c g Q 1 σ 0 [(0, .ref (g.2.1 13))] [] := by
  unfold F_X4_readEnd at hF
  refine sv_aload_n (i := 0) X dX4_readEnd_0 rfl rfl ?_
  obtain ⟨s2, hc1, hF⟩ := fr_bS_some hF
  refine sv_callVv X (c_X4_look hc1) cd_X4_look ml_X4_60 im_X4_look se_X4_look in_RX4 hd_X4_look rfl rfl (by decide) rfl (Nat.le_of_ble_eq_true rfl) dX4_readEnd_1 rfl ?_
  refine sv_aload_n (i := 0) X dX4_readEnd_4 rfl rfl ?_
  refine sv_geti X ix_X4 rfl 3 (by decide) rfl rfl fl_X4_63 dX4_readEnd_5 ?_
  refine sv_iconst (v := (-1)) X dX4_readEnd_8 (by decide) ?_
  obtain ⟨v3, s4, hM5, hF⟩ := fr_bP_some hF
  have K6 : fr_V p l e (fr_rm 2) s m args below meth c g Q 1 s4 25 [(0, .ref (g.2.1 13))] [.int v3] := by
    exact sv_zretv X hr hQ dX4_readEnd_25 hF
  refine sv_icmp_eq (tgt := 20) X dX4_readEnd_9 (by decide) (fun h11 => ?_) (fun h11 => ?_)
  · replace hM5 := fr_pos hM5 h11
    refine sv_iconst (v := 1) X dX4_readEnd_20 (by decide) ?_
    refine sv_goto (tgt := 25) X dX4_readEnd_21 (by decide) ?_
    obtain ⟨rfl, rfl⟩ := fr_i2 hM5
    exact K6
  · replace hM5 := fr_neg hM5 h11
    refine sv_aload_n (i := 0) X dX4_readEnd_12 rfl rfl ?_
    refine sv_iconst (v := 1) X dX4_readEnd_13 (by decide) ?_
    obtain ⟨b9, s8, hc7, hM5⟩ := fr_bP_some hM5
    refine sv_callVi X (c_X4_refuse hc7) cd_X4_refuse ml_X4_75 im_X4_refuse se_X4_refuse in_RX4 hd_X4_refuse rfl rfl (by decide) rfl (Nat.le_of_ble_eq_true rfl) dX4_readEnd_14 rfl ?_
    refine sv_if_eq (tgt := 24) X dX4_readEnd_17 (by decide) (fun h10 => ?_) (fun h10 => ?_)
    · replace hM5 := fr_pos hM5 h10
      refine sv_iconst (v := 0) X dX4_readEnd_24 (by decide) ?_
      obtain ⟨rfl, rfl⟩ := fr_i2 hM5
      exact K6
    · replace hM5 := fr_neg hM5 h10
      refine sv_iconst (v := 1) X dX4_readEnd_20 (by decide) ?_
      refine sv_goto (tgt := 25) X dX4_readEnd_21 (by decide) ?_
      obtain ⟨rfl, rfl⟩ := fr_i2 hM5
      exact K6
theorem c_X4_readEnd {l : Launch} {g : fr_G}   {σ τ : fr_St} {r : Bool} (hF : F_X4_readEnd  σ = some (r, τ)) : fr_Ci l g yX4_readEnd (fr_ws yX4_readEnd cX4_readEnd 1 (some .boolean)) 2 [.ref (g.2.1 13)] σ (fr_bi r) τ := fr_mz (by decide) (Nat.le_of_ble_eq_true rfl) (fun p e s m below meth c X hr => b_X4_readEnd X hr  rfl hF)
def F_X4_take (a1 : Int32) (σ : fr_St) : Option (Bool × fr_St) := fr_bS (F_X4_look σ) (fun s2 => if (s2 13 3) = a1 then (fr_let (fr_up s2 13 2 (s2 13 5)) (fun s3 => some (true, s3))) else (fr_bP (F_X4_refuse (1 : Int32) s2) (fun b6 s5 => some (b6, s5))))
set_option maxRecDepth 100000 in
set_option maxHeartbeats 4000000 in
theorem b_X4_take {p : Program} {l : Launch} {e : Env} {s : State} {m : MethodId} {args : Array Value} {below : List Frame} {meth : Method} {c : Code} {g : fr_G} {Q : State → Prop} (X : fr_X p s m args meth c g cX4_take RX4 2) (hr : meth.sig.returnType = (some .boolean)) {a1 : Int32}  {σ τ : fr_St} {r : Bool} (hQ : Q = fr_Qi below args s g (fr_bi r) τ) (hF : F_X4_take a1 σ = some (r, τ)) : fr_V p l e (fr_rm 2) s m args below meth c g Q 2 σ 0 [(0, .ref (g.2.1 13)), (1, .int a1)] [] := by
  unfold F_X4_take at hF
  refine sv_aload_n (i := 0) X dX4_take_0 rfl rfl ?_
  obtain ⟨s2, hc1, hF⟩ := fr_bS_some hF
  refine sv_callVv X (c_X4_look hc1) cd_X4_look ml_X4_60 im_X4_look se_X4_look in_RX4 hd_X4_look rfl rfl (by decide) rfl (Nat.le_of_ble_eq_true rfl) dX4_take_1 rfl ?_
  refine sv_aload_n (i := 0) X dX4_take_4 rfl rfl ?_
  refine sv_geti X ix_X4 rfl 3 (by decide) rfl rfl fl_X4_63 dX4_take_5 ?_
  refine sv_iload_n (i := 1) X dX4_take_8 rfl rfl ?_
  refine sv_icmp_eq (tgt := 18) X dX4_take_9 (by decide) (fun h7 => ?_) (fun h7 => ?_)
  · replace hF := fr_pos hF h7
    refine sv_aload_n (i := 0) X dX4_take_18 rfl rfl ?_
    refine sv_aload_n (i := 0) X dX4_take_19 rfl rfl ?_
    refine sv_geti X ix_X4 rfl 5 (by decide) rfl rfl fl_X4_99 dX4_take_20 ?_
    refine sv_puti (ty := .int) X ix_X4 tyX4_ok nmX4 rfl 2 (by decide) rfl rfl fl_X4_24 rfl rfl rfl rfl dX4_take_23 ?_
    refine sv_sig (fun s3 es3 => ?_)
    replace hF := fr_lete hF es3
    refine sv_iconst (v := 1) X dX4_take_26 (by decide) ?_
    exact sv_zret X (b := true) hr hQ rfl dX4_take_27 hF
  · replace hF := fr_neg hF h7
    refine sv_aload_n (i := 0) X dX4_take_12 rfl rfl ?_
    refine sv_iconst (v := 1) X dX4_take_13 (by decide) ?_
    obtain ⟨b6, s5, hc4, hF⟩ := fr_bP_some hF
    refine sv_callVi X (c_X4_refuse hc4) cd_X4_refuse ml_X4_75 im_X4_refuse se_X4_refuse in_RX4 hd_X4_refuse rfl rfl (by decide) rfl (Nat.le_of_ble_eq_true rfl) dX4_take_14 rfl ?_
    exact sv_zret X (b := b6) hr hQ rfl dX4_take_17 hF
theorem c_X4_take {l : Launch} {g : fr_G} {a1 : Int32}  {σ τ : fr_St} {r : Bool} (hF : F_X4_take a1 σ = some (r, τ)) : fr_Ci l g yX4_take (fr_ws yX4_take cX4_take 2 (some .boolean)) 2 [.ref (g.2.1 13), .int a1] σ (fr_bi r) τ := fr_mz (by decide) (Nat.le_of_ble_eq_true rfl) (fun p e s m below meth c X hr => b_X4_take X hr  rfl hF)
def F_X4_takeNumber (a1 : Int32) (a2 : Int32) (a3 : Int32) (σ : fr_St) : Option (Bool × fr_St) := fr_bS (F_X4_look σ) (fun s2 => if (s2 13 3) = (-3 : Int32) then (if (s2 13 4) < a1 then (fr_bP (F_X4_refuse (2 : Int32) s2) (fun b5 s4 => some (b5, s4))) else (if a2 < (s2 13 4) then (fr_bP (F_X4_refuse (2 : Int32) s2) (fun b8 s7 => some (b8, s7))) else (if (s2 13 4) = a3 then (fr_bP (F_X4_refuse (2 : Int32) s2) (fun b12 s11 => some (b12, s11))) else (fr_let (fr_up s2 13 2 (s2 13 5)) (fun s9 => some (true, s9)))))) else (fr_bP (F_X4_refuse (1 : Int32) s2) (fun b18 s17 => some (b18, s17))))
set_option maxRecDepth 100000 in
set_option maxHeartbeats 4000000 in
theorem b_X4_takeNumber {p : Program} {l : Launch} {e : Env} {s : State} {m : MethodId} {args : Array Value} {below : List Frame} {meth : Method} {c : Code} {g : fr_G} {Q : State → Prop} (X : fr_X p s m args meth c g cX4_takeNumber RX4 4) (hr : meth.sig.returnType = (some .boolean)) {a1 : Int32} {a2 : Int32} {a3 : Int32}  {σ τ : fr_St} {r : Bool} (hQ : Q = fr_Qi below args s g (fr_bi r) τ) (hF : F_X4_takeNumber a1 a2 a3 σ = some (r, τ)) : fr_V p l e (fr_rm 2) s m args below meth c g Q 4 σ 0 [(0, .ref (g.2.1 13)), (1, .int a1), (2, .int a2), (3, .int a3)] [] := by
  unfold F_X4_takeNumber at hF
  refine sv_aload_n (i := 0) X dX4_takeNumber_0 rfl rfl ?_
  obtain ⟨s2, hc1, hF⟩ := fr_bS_some hF
  refine sv_callVv X (c_X4_look hc1) cd_X4_look ml_X4_60 im_X4_look se_X4_look in_RX4 hd_X4_look rfl rfl (by decide) rfl (Nat.le_of_ble_eq_true rfl) dX4_takeNumber_1 rfl ?_
  refine sv_aload_n (i := 0) X dX4_takeNumber_4 rfl rfl ?_
  refine sv_geti X ix_X4 rfl 3 (by decide) rfl rfl fl_X4_63 dX4_takeNumber_5 ?_
  refine sv_bipush (v := (-3)) X dX4_takeNumber_8 (by decide) ?_
  refine sv_icmp_eq (tgt := 19) X dX4_takeNumber_10 (by decide) (fun h19 => ?_) (fun h19 => ?_)
  · replace hF := fr_pos hF h19
    refine sv_aload_n (i := 0) X dX4_takeNumber_19 rfl rfl ?_
    refine sv_geti X ix_X4 rfl 4 (by decide) rfl rfl fl_X4_53 dX4_takeNumber_20 ?_
    refine sv_iload_n (i := 1) X dX4_takeNumber_23 rfl rfl ?_
    refine sv_icmp_lt (tgt := 43) X dX4_takeNumber_24 (by decide) (fun h15 => ?_) (fun h15 => ?_)
    · replace hF := fr_pos hF h15
      refine sv_aload_n (i := 0) X dX4_takeNumber_43 rfl rfl ?_
      refine sv_iconst (v := 2) X dX4_takeNumber_44 (by decide) ?_
      obtain ⟨b5, s4, hc3, hF⟩ := fr_bP_some hF
      refine sv_callVi X (c_X4_refuse hc3) cd_X4_refuse ml_X4_75 im_X4_refuse se_X4_refuse in_RX4 hd_X4_refuse rfl rfl (by decide) rfl (Nat.le_of_ble_eq_true rfl) dX4_takeNumber_45 rfl ?_
      exact sv_zret X (b := b5) hr hQ rfl dX4_takeNumber_48 hF
    · replace hF := fr_neg hF h15
      refine sv_aload_n (i := 0) X dX4_takeNumber_27 rfl rfl ?_
      refine sv_geti X ix_X4 rfl 4 (by decide) rfl rfl fl_X4_53 dX4_takeNumber_28 ?_
      refine sv_iload_n (i := 2) X dX4_takeNumber_31 rfl rfl ?_
      refine sv_icmp_gt (tgt := 43) X dX4_takeNumber_32 (by decide) (fun h14 => ?_) (fun h14 => ?_)
      · replace hF := fr_pos hF h14
        refine sv_aload_n (i := 0) X dX4_takeNumber_43 rfl rfl ?_
        refine sv_iconst (v := 2) X dX4_takeNumber_44 (by decide) ?_
        obtain ⟨b8, s7, hc6, hF⟩ := fr_bP_some hF
        refine sv_callVi X (c_X4_refuse hc6) cd_X4_refuse ml_X4_75 im_X4_refuse se_X4_refuse in_RX4 hd_X4_refuse rfl rfl (by decide) rfl (Nat.le_of_ble_eq_true rfl) dX4_takeNumber_45 rfl ?_
        exact sv_zret X (b := b8) hr hQ rfl dX4_takeNumber_48 hF
      · replace hF := fr_neg hF h14
        refine sv_aload_n (i := 0) X dX4_takeNumber_35 rfl rfl ?_
        refine sv_geti X ix_X4 rfl 4 (by decide) rfl rfl fl_X4_53 dX4_takeNumber_36 ?_
        refine sv_iload_n (i := 3) X dX4_takeNumber_39 rfl rfl ?_
        refine sv_icmp_ne (tgt := 49) X dX4_takeNumber_40 (by decide) (fun h13 => ?_) (fun h13 => ?_)
        · replace hF := fr_neg hF h13
          refine sv_aload_n (i := 0) X dX4_takeNumber_49 rfl rfl ?_
          refine sv_aload_n (i := 0) X dX4_takeNumber_50 rfl rfl ?_
          refine sv_geti X ix_X4 rfl 5 (by decide) rfl rfl fl_X4_99 dX4_takeNumber_51 ?_
          refine sv_puti (ty := .int) X ix_X4 tyX4_ok nmX4 rfl 2 (by decide) rfl rfl fl_X4_24 rfl rfl rfl rfl dX4_takeNumber_54 ?_
          refine sv_sig (fun s9 es9 => ?_)
          replace hF := fr_lete hF es9
          refine sv_iconst (v := 1) X dX4_takeNumber_57 (by decide) ?_
          exact sv_zret X (b := true) hr hQ rfl dX4_takeNumber_58 hF
        · replace hF := fr_pos hF h13
          refine sv_aload_n (i := 0) X dX4_takeNumber_43 rfl rfl ?_
          refine sv_iconst (v := 2) X dX4_takeNumber_44 (by decide) ?_
          obtain ⟨b12, s11, hc10, hF⟩ := fr_bP_some hF
          refine sv_callVi X (c_X4_refuse hc10) cd_X4_refuse ml_X4_75 im_X4_refuse se_X4_refuse in_RX4 hd_X4_refuse rfl rfl (by decide) rfl (Nat.le_of_ble_eq_true rfl) dX4_takeNumber_45 rfl ?_
          exact sv_zret X (b := b12) hr hQ rfl dX4_takeNumber_48 hF
  · replace hF := fr_neg hF h19
    refine sv_aload_n (i := 0) X dX4_takeNumber_13 rfl rfl ?_
    refine sv_iconst (v := 1) X dX4_takeNumber_14 (by decide) ?_
    obtain ⟨b18, s17, hc16, hF⟩ := fr_bP_some hF
    refine sv_callVi X (c_X4_refuse hc16) cd_X4_refuse ml_X4_75 im_X4_refuse se_X4_refuse in_RX4 hd_X4_refuse rfl rfl (by decide) rfl (Nat.le_of_ble_eq_true rfl) dX4_takeNumber_15 rfl ?_
    exact sv_zret X (b := b18) hr hQ rfl dX4_takeNumber_18 hF
theorem c_X4_takeNumber {l : Launch} {g : fr_G} {a1 : Int32} {a2 : Int32} {a3 : Int32}  {σ τ : fr_St} {r : Bool} (hF : F_X4_takeNumber a1 a2 a3 σ = some (r, τ)) : fr_Ci l g yX4_takeNumber (fr_ws yX4_takeNumber cX4_takeNumber 4 (some .boolean)) 2 [.ref (g.2.1 13), .int a1, .int a2, .int a3] σ (fr_bi r) τ := fr_mz (by decide) (Nat.le_of_ble_eq_true rfl) (fun p e s m below meth c X hr => b_X4_takeNumber X hr  rfl hF)
def F_X4_readLaw  (σ : fr_St) : Option (Bool × fr_St) := fr_bP (F_X4_take (102 : Int32) σ) (fun b3 s2 => if (fr_bi b3) = 0 then (some (false, s2)) else (fr_bP (F_X4_takeNumber (1 : Int32) (30 : Int32) (-1 : Int32) s2) (fun b6 s5 => if (fr_bi b6) = 0 then (some (false, s5)) else (fr_let ((s5 13 4)) (fun v7 => fr_bP (F_X4_take (44 : Int32) s5) (fun b10 s9 => if (fr_bi b10) = 0 then (some (false, s9)) else (fr_bP (F_X4_takeNumber (2 : Int32) (8 : Int32) (-1 : Int32) s9) (fun b13 s12 => if (fr_bi b13) = 0 then (some (false, s12)) else (fr_bS (F_X3_giveLaw 17 v7 (s12 13 4) s12) (fun s15 => fr_bP (F_X4_take (59 : Int32) s15) (fun b18 s17 => some (b18, s17))))))))))))
set_option maxRecDepth 100000 in
set_option maxHeartbeats 4000000 in
theorem b_X4_readLaw {p : Program} {l : Launch} {e : Env} {s : State} {m : MethodId} {args : Array Value} {below : List Frame} {meth : Method} {c : Code} {g : fr_G} {Q : State → Prop} (X : fr_X p s m args meth c g cX4_readLaw RX4 3) (hr : meth.sig.returnType = (some .boolean))   {σ τ : fr_St} {r : Bool} (hQ : Q = fr_Qi below args s g (fr_bi r) τ) (hF : F_X4_readLaw  σ = some (r, τ)) : fr_V p l e (fr_rm 3) s m args below meth c g Q 3 σ 0 [(0, .ref (g.2.1 13)), (1, .ref (g.2.1 17))] [] := by
  unfold F_X4_readLaw at hF
  refine sv_aload_n (i := 0) X dX4_readLaw_0 rfl rfl ?_
  refine sv_bipush (v := 102) X dX4_readLaw_1 (by decide) ?_
  obtain ⟨b3, s2, hc1, hF⟩ := fr_bP_some hF
  refine sv_callVi X (c_X4_take hc1) cd_X4_take ml_X4_45 im_X4_take se_X4_take in_RX4 hd_X4_take rfl rfl (by decide) rfl (Nat.le_of_ble_eq_true rfl) dX4_readLaw_3 rfl ?_
  refine sv_if_eq (tgt := 20) X dX4_readLaw_6 (by decide) (fun h22 => ?_) (fun h22 => ?_)
  · replace hF := fr_pos hF h22
    refine sv_iconst (v := 0) X dX4_readLaw_20 (by decide) ?_
    exact sv_zret X (b := false) hr hQ rfl dX4_readLaw_21 hF
  · replace hF := fr_neg hF h22
    refine sv_aload_n (i := 0) X dX4_readLaw_9 rfl rfl ?_
    refine sv_iconst (v := 1) X dX4_readLaw_10 (by decide) ?_
    refine sv_bipush (v := 30) X dX4_readLaw_11 (by decide) ?_
    refine sv_iconst (v := (-1)) X dX4_readLaw_13 (by decide) ?_
    obtain ⟨b6, s5, hc4, hF⟩ := fr_bP_some hF
    refine sv_callVi X (c_X4_takeNumber hc4) cd_X4_takeNumber ml_X4_49 im_X4_takeNumber se_X4_takeNumber in_RX4 hd_X4_takeNumber rfl rfl (by decide) rfl (Nat.le_of_ble_eq_true rfl) dX4_readLaw_14 rfl ?_
    refine sv_if_ne (tgt := 22) X dX4_readLaw_17 (by decide) (fun h21 => ?_) (fun h21 => ?_)
    · replace hF := fr_neg hF h21
      refine sv_aload_n (i := 0) X dX4_readLaw_22 rfl rfl ?_
      refine sv_geti X ix_X4 rfl 4 (by decide) rfl rfl fl_X4_53 dX4_readLaw_23 ?_
      refine sv_topi (fun v7 ev7 => ?_)
      replace hF := fr_lete hF ev7
      refine sv_istore_n X dX4_readLaw_26 rfl (by decide) rfl ?_
      refine sv_aload_n (i := 1) X dX4_readLaw_27 rfl rfl ?_
      refine sv_bipush (v := 44) X dX4_readLaw_28 (by decide) ?_
      obtain ⟨b10, s9, hc8, hF⟩ := fr_bP_some hF
      refine sv_callVi X (c_X4_take hc8) cd_X4_take ml_X4_45 im_X4_take se_X4_take in_RX4 hd_X4_take rfl rfl (by decide) rfl (Nat.le_of_ble_eq_true rfl) dX4_readLaw_30 rfl ?_
      refine sv_if_eq (tgt := 47) X dX4_readLaw_33 (by decide) (fun h20 => ?_) (fun h20 => ?_)
      · replace hF := fr_pos hF h20
        refine sv_iconst (v := 0) X dX4_readLaw_47 (by decide) ?_
        exact sv_zret X (b := false) hr hQ rfl dX4_readLaw_48 hF
      · replace hF := fr_neg hF h20
        refine sv_aload_n (i := 1) X dX4_readLaw_36 rfl rfl ?_
        refine sv_iconst (v := 2) X dX4_readLaw_37 (by decide) ?_
        refine sv_bipush (v := 8) X dX4_readLaw_38 (by decide) ?_
        refine sv_iconst (v := (-1)) X dX4_readLaw_40 (by decide) ?_
        obtain ⟨b13, s12, hc11, hF⟩ := fr_bP_some hF
        refine sv_callVi X (c_X4_takeNumber hc11) cd_X4_takeNumber ml_X4_49 im_X4_takeNumber se_X4_takeNumber in_RX4 hd_X4_takeNumber rfl rfl (by decide) rfl (Nat.le_of_ble_eq_true rfl) dX4_readLaw_41 rfl ?_
        refine sv_if_ne (tgt := 49) X dX4_readLaw_44 (by decide) (fun h19 => ?_) (fun h19 => ?_)
        · replace hF := fr_neg hF h19
          refine sv_aload_n (i := 2) X dX4_readLaw_49 rfl rfl ?_
          refine sv_iload_n (i := 0) X dX4_readLaw_50 rfl rfl ?_
          refine sv_aload_n (i := 1) X dX4_readLaw_51 rfl rfl ?_
          refine sv_geti X ix_X4 rfl 4 (by decide) rfl rfl fl_X4_53 dX4_readLaw_52 ?_
          obtain ⟨s15, hc14, hF⟩ := fr_bS_some hF
          refine sv_callVv X (c_X3_giveLaw rfl rfl hc14) cd_X3_giveLaw ml_X4_56 im_X3_giveLaw se_X3_giveLaw in_RX3 hd_X3_giveLaw rfl rfl (by decide) rfl (Nat.le_of_ble_eq_true rfl) dX4_readLaw_55 rfl ?_
          refine sv_aload_n (i := 1) X dX4_readLaw_58 rfl rfl ?_
          refine sv_bipush (v := 59) X dX4_readLaw_59 (by decide) ?_
          obtain ⟨b18, s17, hc16, hF⟩ := fr_bP_some hF
          refine sv_callVi X (c_X4_take hc16) cd_X4_take ml_X4_45 im_X4_take se_X4_take in_RX4 hd_X4_take rfl rfl (by decide) rfl (Nat.le_of_ble_eq_true rfl) dX4_readLaw_61 rfl ?_
          exact sv_zret X (b := b18) hr hQ rfl dX4_readLaw_64 hF
        · replace hF := fr_pos hF h19
          refine sv_iconst (v := 0) X dX4_readLaw_47 (by decide) ?_
          exact sv_zret X (b := false) hr hQ rfl dX4_readLaw_48 hF
    · replace hF := fr_pos hF h21
      refine sv_iconst (v := 0) X dX4_readLaw_20 (by decide) ?_
      exact sv_zret X (b := false) hr hQ rfl dX4_readLaw_21 hF
theorem c_X4_readLaw {l : Launch} {g : fr_G}   {σ τ : fr_St} {r : Bool} (hF : F_X4_readLaw  σ = some (r, τ)) : fr_Ci l g yX4_readLaw (fr_ws yX4_readLaw cX4_readLaw 3 (some .boolean)) 3 [.ref (g.2.1 13), .ref (g.2.1 17)] σ (fr_bi r) τ := fr_mz (by decide) (Nat.le_of_ble_eq_true rfl) (fun p e s m below meth c X hr => b_X4_readLaw X hr  rfl hF)
def F_X4_readPerson  (σ : fr_St) : Option (Bool × fr_St) := fr_bP (F_X3_places 17 σ) (fun r3 s2 => fr_bP (F_X4_takeNumber (0 : Int32) (r3 - (1 : Int32)) (-1 : Int32) s2) (fun b6 s5 => if (fr_bi b6) = 0 then (some (false, s5)) else (fr_let ((s5 13 4)) (fun v7 => fr_bP (F_X3_roads 17 s5) (fun r10 s9 => fr_let ((((1 : Int32) <<< (r10 &&& 31)) - (1 : Int32))) (fun v11 => fr_bP (F_X4_take (44 : Int32) s9) (fun b14 s13 => if (fr_bi b14) = 0 then (some (false, s13)) else (fr_bP (F_X4_takeNumber (0 : Int32) v11 (-1 : Int32) s13) (fun b17 s16 => if (fr_bi b17) = 0 then (some (false, s16)) else (fr_bS (F_X3_addPerson 17 v7 (s16 13 4) s16) (fun s19 => fr_bP (F_X4_take (59 : Int32) s19) (fun b22 s21 => some (b22, s21)))))))))))))
set_option maxRecDepth 100000 in
set_option maxHeartbeats 4000000 in
theorem b_X4_readPerson {p : Program} {l : Launch} {e : Env} {s : State} {m : MethodId} {args : Array Value} {below : List Frame} {meth : Method} {c : Code} {g : fr_G} {Q : State → Prop} (X : fr_X p s m args meth c g cX4_readPerson RX4 4) (hr : meth.sig.returnType = (some .boolean))   {σ τ : fr_St} {r : Bool} (hQ : Q = fr_Qi below args s g (fr_bi r) τ) (hF : F_X4_readPerson  σ = some (r, τ)) : fr_V p l e (fr_rm 3) s m args below meth c g Q 4 σ 0 [(0, .ref (g.2.1 13)), (1, .ref (g.2.1 17))] [] := by
  unfold F_X4_readPerson at hF
  refine sv_aload_n (i := 0) X dX4_readPerson_0 rfl rfl ?_
  refine sv_iconst (v := 0) X dX4_readPerson_1 (by decide) ?_
  refine sv_aload_n (i := 1) X dX4_readPerson_2 rfl rfl ?_
  obtain ⟨r3, s2, hc1, hF⟩ := fr_bP_some hF
  refine sv_callVi X (c_X3_places rfl rfl hc1) cd_X3_places ml_X4_82 im_X3_places se_X3_places in_RX3 hd_X3_places rfl rfl (by decide) rfl (Nat.le_of_ble_eq_true rfl) dX4_readPerson_3 rfl ?_
  refine sv_iconst (v := 1) X dX4_readPerson_6 (by decide) ?_
  refine sv_isub X dX4_readPerson_7 ?_
  refine sv_iconst (v := (-1)) X dX4_readPerson_8 (by decide) ?_
  obtain ⟨b6, s5, hc4, hF⟩ := fr_bP_some hF
  refine sv_callVi X (c_X4_takeNumber hc4) cd_X4_takeNumber ml_X4_49 im_X4_takeNumber se_X4_takeNumber in_RX4 hd_X4_takeNumber rfl rfl (by decide) rfl (Nat.le_of_ble_eq_true rfl) dX4_readPerson_9 rfl ?_
  refine sv_if_ne (tgt := 17) X dX4_readPerson_12 (by decide) (fun h25 => ?_) (fun h25 => ?_)
  · replace hF := fr_neg hF h25
    refine sv_aload_n (i := 0) X dX4_readPerson_17 rfl rfl ?_
    refine sv_geti X ix_X4 rfl 4 (by decide) rfl rfl fl_X4_53 dX4_readPerson_18 ?_
    refine sv_topi (fun v7 ev7 => ?_)
    replace hF := fr_lete hF ev7
    refine sv_istore_n X dX4_readPerson_21 rfl (by decide) rfl ?_
    refine sv_iconst (v := 1) X dX4_readPerson_22 (by decide) ?_
    refine sv_aload_n (i := 2) X dX4_readPerson_23 rfl rfl ?_
    obtain ⟨r10, s9, hc8, hF⟩ := fr_bP_some hF
    refine sv_callVi X (c_X3_roads rfl rfl hc8) cd_X3_roads ml_X4_93 im_X3_roads se_X3_roads in_RX3 hd_X3_roads rfl rfl (by decide) rfl (Nat.le_of_ble_eq_true rfl) dX4_readPerson_24 rfl ?_
    refine sv_ishl X dX4_readPerson_27 ?_
    refine sv_iconst (v := 1) X dX4_readPerson_28 (by decide) ?_
    refine sv_isub X dX4_readPerson_29 ?_
    refine sv_topi (fun v11 ev11 => ?_)
    replace hF := fr_lete hF ev11
    refine sv_istore_n X dX4_readPerson_30 rfl (by decide) rfl ?_
    refine sv_aload_n (i := 2) X dX4_readPerson_31 rfl rfl ?_
    refine sv_bipush (v := 44) X dX4_readPerson_32 (by decide) ?_
    obtain ⟨b14, s13, hc12, hF⟩ := fr_bP_some hF
    refine sv_callVi X (c_X4_take hc12) cd_X4_take ml_X4_45 im_X4_take se_X4_take in_RX4 hd_X4_take rfl rfl (by decide) rfl (Nat.le_of_ble_eq_true rfl) dX4_readPerson_34 rfl ?_
    refine sv_if_eq (tgt := 50) X dX4_readPerson_37 (by decide) (fun h24 => ?_) (fun h24 => ?_)
    · replace hF := fr_pos hF h24
      refine sv_iconst (v := 0) X dX4_readPerson_50 (by decide) ?_
      exact sv_zret X (b := false) hr hQ rfl dX4_readPerson_51 hF
    · replace hF := fr_neg hF h24
      refine sv_aload_n (i := 2) X dX4_readPerson_40 rfl rfl ?_
      refine sv_iconst (v := 0) X dX4_readPerson_41 (by decide) ?_
      refine sv_iload_n (i := 0) X dX4_readPerson_42 rfl rfl ?_
      refine sv_iconst (v := (-1)) X dX4_readPerson_43 (by decide) ?_
      obtain ⟨b17, s16, hc15, hF⟩ := fr_bP_some hF
      refine sv_callVi X (c_X4_takeNumber hc15) cd_X4_takeNumber ml_X4_49 im_X4_takeNumber se_X4_takeNumber in_RX4 hd_X4_takeNumber rfl rfl (by decide) rfl (Nat.le_of_ble_eq_true rfl) dX4_readPerson_44 rfl ?_
      refine sv_if_ne (tgt := 52) X dX4_readPerson_47 (by decide) (fun h23 => ?_) (fun h23 => ?_)
      · replace hF := fr_neg hF h23
        refine sv_aload_n (i := 3) X dX4_readPerson_52 rfl rfl ?_
        refine sv_iload_n (i := 1) X dX4_readPerson_53 rfl rfl ?_
        refine sv_aload_n (i := 2) X dX4_readPerson_54 rfl rfl ?_
        refine sv_geti X ix_X4 rfl 4 (by decide) rfl rfl fl_X4_53 dX4_readPerson_55 ?_
        obtain ⟨s19, hc18, hF⟩ := fr_bS_some hF
        refine sv_callVv X (c_X3_addPerson rfl rfl hc18) cd_X3_addPerson ml_X4_96 im_X3_addPerson se_X3_addPerson in_RX3 hd_X3_addPerson rfl rfl (by decide) rfl (Nat.le_of_ble_eq_true rfl) dX4_readPerson_58 rfl ?_
        refine sv_aload_n (i := 2) X dX4_readPerson_61 rfl rfl ?_
        refine sv_bipush (v := 59) X dX4_readPerson_62 (by decide) ?_
        obtain ⟨b22, s21, hc20, hF⟩ := fr_bP_some hF
        refine sv_callVi X (c_X4_take hc20) cd_X4_take ml_X4_45 im_X4_take se_X4_take in_RX4 hd_X4_take rfl rfl (by decide) rfl (Nat.le_of_ble_eq_true rfl) dX4_readPerson_64 rfl ?_
        exact sv_zret X (b := b22) hr hQ rfl dX4_readPerson_67 hF
      · replace hF := fr_pos hF h23
        refine sv_iconst (v := 0) X dX4_readPerson_50 (by decide) ?_
        exact sv_zret X (b := false) hr hQ rfl dX4_readPerson_51 hF
  · replace hF := fr_pos hF h25
    refine sv_iconst (v := 0) X dX4_readPerson_15 (by decide) ?_
    exact sv_zret X (b := false) hr hQ rfl dX4_readPerson_16 hF
theorem c_X4_readPerson {l : Launch} {g : fr_G}   {σ τ : fr_St} {r : Bool} (hF : F_X4_readPerson  σ = some (r, τ)) : fr_Ci l g yX4_readPerson (fr_ws yX4_readPerson cX4_readPerson 4 (some .boolean)) 3 [.ref (g.2.1 13), .ref (g.2.1 17)] σ (fr_bi r) τ := fr_mz (by decide) (Nat.le_of_ble_eq_true rfl) (fun p e s m below meth c X hr => b_X4_readPerson X hr  rfl hF)
def L_X4_readPeople_2  : Nat → Int32 → fr_St → Option ((Bool × fr_St) ⊕ (Int32 × fr_St))
  | 0, _, _ => none
  | n + 1, x2, σ => if (4 : Int32) < x2 then (some (.inr (x2, σ))) else (fr_bS (F_X4_look σ) (fun s2 => if (s2 13 3) = (112 : Int32) then (if x2 = (4 : Int32) then (fr_bP (F_X4_refuse (3 : Int32) s2) (fun b14 s13 => some (.inl (b14, s13)))) else (fr_bP (F_X4_take (112 : Int32) s2) (fun b5 s4 => if (fr_bi b5) = 0 then (some (.inl (false, s4))) else (fr_bP (F_X4_readPerson s4) (fun b8 s7 => if (fr_bi b8) = 0 then (some (.inl (false, s7))) else (fr_let (x2 + (1 : Int32)) (fun v9 => L_X4_readPeople_2  n v9 s7))))))) else (some (.inl (true, s2)))))
set_option maxRecDepth 100000 in
set_option maxHeartbeats 4000000 in
theorem wL_X4_readPeople_2 {p : Program} {l : Launch} {e : Env} {s : State} {m : MethodId} {args : Array Value} {below : List Frame} {meth : Method} {c : Code} {g : fr_G} {Q : State → Prop} (X : fr_X p s m args meth c g cX4_readPeople RX4 3)  (hr : meth.sig.returnType = (some .boolean)) {z : (Bool × fr_St) ⊕ (Int32 × fr_St)} (KR : (∀ (r : Bool) (τ : fr_St), z = .inl (r, τ) → Q = fr_Qi below args s g (fr_bi r) τ))  (KE : ∀ (y2 : Int32) (τ : fr_St), z = .inr (y2, τ) → fr_V p l e (fr_rm 4) s m args below meth c g Q 3 τ 58 [(0, .ref (g.2.1 13)), (1, .ref (g.2.1 17)), (2, .int y2)] []) : ∀ (n : Nat) (x2 : Int32) (σ : fr_St), L_X4_readPeople_2  n x2 σ = some z → fr_V p l e (fr_rm 4) s m args below meth c g Q 3 σ 2 [(0, .ref (g.2.1 13)), (1, .ref (g.2.1 17)), (2, .int x2)] [] := by
  intro n
  induction n with
  | zero => intro x2 σ hL; cases hL
  | succ n ih =>
    intro x2 σ hL
    rw [L_X4_readPeople_2] at hL
    refine sv_iload_n (i := 2) X dX4_readPeople_2 rfl rfl ?_
    refine sv_iconst (v := 4) X dX4_readPeople_3 (by decide) ?_
    refine sv_icmp_gt (tgt := 58) X dX4_readPeople_4 (by decide) (fun h17 => ?_) (fun h17 => ?_)
    · replace hL := fr_pos hL h17
      obtain rfl := Option.some.inj hL
      exact (KE _ _ rfl)
    · replace hL := fr_neg hL h17
      refine sv_aload_n (i := 0) X dX4_readPeople_7 rfl rfl ?_
      obtain ⟨s2, hc1, hL⟩ := fr_bS_some hL
      refine sv_callVv X (c_X4_look hc1) cd_X4_look ml_X4_60 im_X4_look se_X4_look in_RX4 hd_X4_look rfl rfl (by decide) rfl (Nat.le_of_ble_eq_true rfl) dX4_readPeople_8 rfl ?_
      refine sv_aload_n (i := 0) X dX4_readPeople_11 rfl rfl ?_
      refine sv_geti X ix_X4 rfl 3 (by decide) rfl rfl fl_X4_63 dX4_readPeople_12 ?_
      refine sv_bipush (v := 112) X dX4_readPeople_15 (by decide) ?_
      refine sv_icmp_eq (tgt := 22) X dX4_readPeople_17 (by decide) (fun h16 => ?_) (fun h16 => ?_)
      · replace hL := fr_pos hL h16
        refine sv_iload_n (i := 2) X dX4_readPeople_22 rfl rfl ?_
        refine sv_iconst (v := 4) X dX4_readPeople_23 (by decide) ?_
        refine sv_icmp_ne (tgt := 33) X dX4_readPeople_24 (by decide) (fun h15 => ?_) (fun h15 => ?_)
        · replace hL := fr_neg hL h15
          refine sv_aload_n (i := 0) X dX4_readPeople_33 rfl rfl ?_
          refine sv_bipush (v := 112) X dX4_readPeople_34 (by decide) ?_
          obtain ⟨b5, s4, hc3, hL⟩ := fr_bP_some hL
          refine sv_callVi X (c_X4_take hc3) cd_X4_take ml_X4_45 im_X4_take se_X4_take in_RX4 hd_X4_take rfl rfl (by decide) rfl (Nat.le_of_ble_eq_true rfl) dX4_readPeople_36 rfl ?_
          refine sv_if_eq (tgt := 50) X dX4_readPeople_39 (by decide) (fun h11 => ?_) (fun h11 => ?_)
          · replace hL := fr_pos hL h11
            refine sv_iconst (v := 0) X dX4_readPeople_50 (by decide) ?_
            obtain rfl := Option.some.inj hL
            exact sv_zret X (b := false) hr (KR _ _ rfl) rfl dX4_readPeople_51 rfl
          · replace hL := fr_neg hL h11
            refine sv_aload_n (i := 0) X dX4_readPeople_42 rfl rfl ?_
            refine sv_aload_n (i := 1) X dX4_readPeople_43 rfl rfl ?_
            obtain ⟨b8, s7, hc6, hL⟩ := fr_bP_some hL
            refine sv_callVi X (c_X4_readPerson hc6) cd_X4_readPerson ml_X4_90 im_X4_readPerson se_X4_readPerson in_RX4 hd_X4_readPerson rfl rfl (by decide) rfl (Nat.le_of_ble_eq_true rfl) dX4_readPeople_44 rfl ?_
            refine sv_if_ne (tgt := 52) X dX4_readPeople_47 (by decide) (fun h10 => ?_) (fun h10 => ?_)
            · replace hL := fr_neg hL h10
              obtain ⟨v9, ev9⟩ : ∃ y : Int32, y = x2 + (1 : Int32) := ⟨_, rfl⟩
              replace hL := fr_lete hL ev9
              refine sv_iinc (i := 2) (v := v9) X dX4_readPeople_52 rfl (by rw [ev9]; rfl) (by decide) rfl ?_
              refine sv_goto (tgt := 2) X dX4_readPeople_55 (by decide) ?_
              exact sv_perm [1, 2, 0] rfl (ih _ _ hL)
            · replace hL := fr_pos hL h10
              refine sv_iconst (v := 0) X dX4_readPeople_50 (by decide) ?_
              obtain rfl := Option.some.inj hL
              exact sv_zret X (b := false) hr (KR _ _ rfl) rfl dX4_readPeople_51 rfl
        · replace hL := fr_pos hL h15
          refine sv_aload_n (i := 0) X dX4_readPeople_27 rfl rfl ?_
          refine sv_iconst (v := 3) X dX4_readPeople_28 (by decide) ?_
          obtain ⟨b14, s13, hc12, hL⟩ := fr_bP_some hL
          refine sv_callVi X (c_X4_refuse hc12) cd_X4_refuse ml_X4_75 im_X4_refuse se_X4_refuse in_RX4 hd_X4_refuse rfl rfl (by decide) rfl (Nat.le_of_ble_eq_true rfl) dX4_readPeople_29 rfl ?_
          obtain rfl := Option.some.inj hL
          exact sv_zret X (b := b14) hr (KR _ _ rfl) rfl dX4_readPeople_32 rfl
      · replace hL := fr_neg hL h16
        refine sv_iconst (v := 1) X dX4_readPeople_20 (by decide) ?_
        obtain rfl := Option.some.inj hL
        exact sv_zret X (b := true) hr (KR _ _ rfl) rfl dX4_readPeople_21 rfl
def F_X4_readPeople  (σ : fr_St) : Option (Bool × fr_St) := fr_bR (L_X4_readPeople_2  fr_fu (0 : Int32) σ) (fun q0 => some q0) (fun q5 => fr_pP q5 (fun v1 s2 => some (true, s2)))
set_option maxRecDepth 100000 in
set_option maxHeartbeats 4000000 in
theorem b_X4_readPeople {p : Program} {l : Launch} {e : Env} {s : State} {m : MethodId} {args : Array Value} {below : List Frame} {meth : Method} {c : Code} {g : fr_G} {Q : State → Prop} (X : fr_X p s m args meth c g cX4_readPeople RX4 3) (hr : meth.sig.returnType = (some .boolean))   {σ τ : fr_St} {r : Bool} (hQ : Q = fr_Qi below args s g (fr_bi r) τ) (hF : F_X4_readPeople  σ = some (r, τ)) : fr_V p l e (fr_rm 4) s m args below meth c g Q 3 σ 0 [(0, .ref (g.2.1 13)), (1, .ref (g.2.1 17))] [] := by
  unfold F_X4_readPeople at hF
  refine sv_iconst (v := 0) X dX4_readPeople_0 (by decide) ?_
  refine sv_istore_n X dX4_readPeople_1 rfl (by decide) rfl ?_
  refine sv_perm [1, 2, 0] rfl ?_
  rcases fr_bR_some hF with ⟨⟨rr, ss⟩, hl3, hF⟩ | ⟨⟨v1, s2⟩, hl3, hF⟩
  · obtain ⟨rfl, rfl⟩ := fr_i2 hF
    exact wL_X4_readPeople_2 X  hr (fun r τ e => by cases e; exact hQ)  (fun _ _ e => by cases e) fr_fu _ _ hl3
  · dsimp only [fr_pP] at hF
    refine wL_X4_readPeople_2 X  hr (fun r τ e => by cases e)  (fun _ _ e => ?_) fr_fu _ _ hl3
    cases e
    refine sv_iconst (v := 1) X dX4_readPeople_58 (by decide) ?_
    exact sv_zret X (b := true) hr hQ rfl dX4_readPeople_59 hF
theorem c_X4_readPeople {l : Launch} {g : fr_G}   {σ τ : fr_St} {r : Bool} (hF : F_X4_readPeople  σ = some (r, τ)) : fr_Ci l g yX4_readPeople (fr_ws yX4_readPeople cX4_readPeople 3 (some .boolean)) 4 [.ref (g.2.1 13), .ref (g.2.1 17)] σ (fr_bi r) τ := fr_mz (by decide) (Nat.le_of_ble_eq_true rfl) (fun p e s m below meth c X hr => b_X4_readPeople X hr  rfl hF)
def F_X4_readRoad (a2 : Int32) (σ : fr_St) : Option (Bool × fr_St) := fr_bP (F_X3_places 17 σ) (fun r3 s2 => fr_let ((r3 - (1 : Int32))) (fun v4 => fr_bP (F_X4_takeNumber (0 : Int32) v4 (-1 : Int32) s2) (fun b7 s6 => if (fr_bi b7) = 0 then (some (false, s6)) else (fr_let ((s6 13 4)) (fun v8 => fr_bP (F_X4_take (44 : Int32) s6) (fun b11 s10 => if (fr_bi b11) = 0 then (some (false, s10)) else (fr_bP (F_X4_takeNumber (0 : Int32) v4 v8 s10) (fun b14 s13 => if (fr_bi b14) = 0 then (some (false, s13)) else (fr_let ((s13 13 4)) (fun v15 => fr_bP (F_X4_take (44 : Int32) s13) (fun b18 s17 => if (fr_bi b18) = 0 then (some (false, s17)) else (fr_bP (F_X4_takeNumber (1 : Int32) (9 : Int32) (-1 : Int32) s17) (fun b21 s20 => if (fr_bi b21) = 0 then (some (false, s20)) else (fr_bS (F_X3_addRoad 17 a2 v8 v15 (s20 13 4) s20) (fun s23 => fr_bP (F_X4_take (59 : Int32) s23) (fun b26 s25 => some (b26, s25)))))))))))))))))
set_option maxRecDepth 100000 in
set_option maxHeartbeats 4000000 in
theorem b_X4_readRoad {p : Program} {l : Launch} {e : Env} {s : State} {m : MethodId} {args : Array Value} {below : List Frame} {meth : Method} {c : Code} {g : fr_G} {Q : State → Prop} (X : fr_X p s m args meth c g cX4_readRoad RX4 6) (hr : meth.sig.returnType = (some .boolean)) {a2 : Int32}  {σ τ : fr_St} {r : Bool} (hQ : Q = fr_Qi below args s g (fr_bi r) τ) (hF : F_X4_readRoad a2 σ = some (r, τ)) : fr_V p l e (fr_rm 3) s m args below meth c g Q 6 σ 0 [(0, .ref (g.2.1 13)), (1, .ref (g.2.1 17)), (2, .int a2)] [] := by
  unfold F_X4_readRoad at hF
  refine sv_aload_n (i := 1) X dX4_readRoad_0 rfl rfl ?_
  obtain ⟨r3, s2, hc1, hF⟩ := fr_bP_some hF
  refine sv_callVi X (c_X3_places rfl rfl hc1) cd_X3_places ml_X4_82 im_X3_places se_X3_places in_RX3 hd_X3_places rfl rfl (by decide) rfl (Nat.le_of_ble_eq_true rfl) dX4_readRoad_1 rfl ?_
  refine sv_iconst (v := 1) X dX4_readRoad_4 (by decide) ?_
  refine sv_isub X dX4_readRoad_5 ?_
  refine sv_topi (fun v4 ev4 => ?_)
  replace hF := fr_lete hF ev4
  refine sv_istore_n X dX4_readRoad_6 rfl (by decide) rfl ?_
  refine sv_aload_n (i := 1) X dX4_readRoad_7 rfl rfl ?_
  refine sv_iconst (v := 0) X dX4_readRoad_8 (by decide) ?_
  refine sv_iload_n (i := 0) X dX4_readRoad_9 rfl rfl ?_
  refine sv_iconst (v := (-1)) X dX4_readRoad_10 (by decide) ?_
  obtain ⟨b7, s6, hc5, hF⟩ := fr_bP_some hF
  refine sv_callVi X (c_X4_takeNumber hc5) cd_X4_takeNumber ml_X4_49 im_X4_takeNumber se_X4_takeNumber in_RX4 hd_X4_takeNumber rfl rfl (by decide) rfl (Nat.le_of_ble_eq_true rfl) dX4_readRoad_11 rfl ?_
  refine sv_if_ne (tgt := 19) X dX4_readRoad_14 (by decide) (fun h31 => ?_) (fun h31 => ?_)
  · replace hF := fr_neg hF h31
    refine sv_aload_n (i := 1) X dX4_readRoad_19 rfl rfl ?_
    refine sv_geti X ix_X4 rfl 4 (by decide) rfl rfl fl_X4_53 dX4_readRoad_20 ?_
    refine sv_topi (fun v8 ev8 => ?_)
    replace hF := fr_lete hF ev8
    refine sv_istore X dX4_readRoad_23 (by decide) rfl ?_
    refine sv_aload_n (i := 2) X dX4_readRoad_25 rfl rfl ?_
    refine sv_bipush (v := 44) X dX4_readRoad_26 (by decide) ?_
    obtain ⟨b11, s10, hc9, hF⟩ := fr_bP_some hF
    refine sv_callVi X (c_X4_take hc9) cd_X4_take ml_X4_45 im_X4_take se_X4_take in_RX4 hd_X4_take rfl rfl (by decide) rfl (Nat.le_of_ble_eq_true rfl) dX4_readRoad_28 rfl ?_
    refine sv_if_eq (tgt := 45) X dX4_readRoad_31 (by decide) (fun h30 => ?_) (fun h30 => ?_)
    · replace hF := fr_pos hF h30
      refine sv_iconst (v := 0) X dX4_readRoad_45 (by decide) ?_
      exact sv_zret X (b := false) hr hQ rfl dX4_readRoad_46 hF
    · replace hF := fr_neg hF h30
      refine sv_aload_n (i := 2) X dX4_readRoad_34 rfl rfl ?_
      refine sv_iconst (v := 0) X dX4_readRoad_35 (by decide) ?_
      refine sv_iload_n (i := 1) X dX4_readRoad_36 rfl rfl ?_
      refine sv_iload (i := 0) X dX4_readRoad_37 rfl ?_
      obtain ⟨b14, s13, hc12, hF⟩ := fr_bP_some hF
      refine sv_callVi X (c_X4_takeNumber hc12) cd_X4_takeNumber ml_X4_49 im_X4_takeNumber se_X4_takeNumber in_RX4 hd_X4_takeNumber rfl rfl (by decide) rfl (Nat.le_of_ble_eq_true rfl) dX4_readRoad_39 rfl ?_
      refine sv_if_ne (tgt := 47) X dX4_readRoad_42 (by decide) (fun h29 => ?_) (fun h29 => ?_)
      · replace hF := fr_neg hF h29
        refine sv_aload_n (i := 2) X dX4_readRoad_47 rfl rfl ?_
        refine sv_geti X ix_X4 rfl 4 (by decide) rfl rfl fl_X4_53 dX4_readRoad_48 ?_
        refine sv_topi (fun v15 ev15 => ?_)
        replace hF := fr_lete hF ev15
        refine sv_istore X dX4_readRoad_51 (by decide) rfl ?_
        refine sv_aload_n (i := 3) X dX4_readRoad_53 rfl rfl ?_
        refine sv_bipush (v := 44) X dX4_readRoad_54 (by decide) ?_
        obtain ⟨b18, s17, hc16, hF⟩ := fr_bP_some hF
        refine sv_callVi X (c_X4_take hc16) cd_X4_take ml_X4_45 im_X4_take se_X4_take in_RX4 hd_X4_take rfl rfl (by decide) rfl (Nat.le_of_ble_eq_true rfl) dX4_readRoad_56 rfl ?_
        refine sv_if_eq (tgt := 73) X dX4_readRoad_59 (by decide) (fun h28 => ?_) (fun h28 => ?_)
        · replace hF := fr_pos hF h28
          refine sv_iconst (v := 0) X dX4_readRoad_73 (by decide) ?_
          exact sv_zret X (b := false) hr hQ rfl dX4_readRoad_74 hF
        · replace hF := fr_neg hF h28
          refine sv_aload_n (i := 3) X dX4_readRoad_62 rfl rfl ?_
          refine sv_iconst (v := 1) X dX4_readRoad_63 (by decide) ?_
          refine sv_bipush (v := 9) X dX4_readRoad_64 (by decide) ?_
          refine sv_iconst (v := (-1)) X dX4_readRoad_66 (by decide) ?_
          obtain ⟨b21, s20, hc19, hF⟩ := fr_bP_some hF
          refine sv_callVi X (c_X4_takeNumber hc19) cd_X4_takeNumber ml_X4_49 im_X4_takeNumber se_X4_takeNumber in_RX4 hd_X4_takeNumber rfl rfl (by decide) rfl (Nat.le_of_ble_eq_true rfl) dX4_readRoad_67 rfl ?_
          refine sv_if_ne (tgt := 75) X dX4_readRoad_70 (by decide) (fun h27 => ?_) (fun h27 => ?_)
          · replace hF := fr_neg hF h27
            refine sv_aload_n (i := 4) X dX4_readRoad_75 rfl rfl ?_
            refine sv_iload_n (i := 5) X dX4_readRoad_76 rfl rfl ?_
            refine sv_iload (i := 1) X dX4_readRoad_77 rfl ?_
            refine sv_iload (i := 0) X dX4_readRoad_79 rfl ?_
            refine sv_aload_n (i := 3) X dX4_readRoad_81 rfl rfl ?_
            refine sv_geti X ix_X4 rfl 4 (by decide) rfl rfl fl_X4_53 dX4_readRoad_82 ?_
            obtain ⟨s23, hc22, hF⟩ := fr_bS_some hF
            refine sv_callVv X (c_X3_addRoad rfl rfl hc22) cd_X3_addRoad ml_X4_86 im_X3_addRoad se_X3_addRoad in_RX3 hd_X3_addRoad rfl rfl (by decide) rfl (Nat.le_of_ble_eq_true rfl) dX4_readRoad_85 rfl ?_
            refine sv_aload_n (i := 3) X dX4_readRoad_88 rfl rfl ?_
            refine sv_bipush (v := 59) X dX4_readRoad_89 (by decide) ?_
            obtain ⟨b26, s25, hc24, hF⟩ := fr_bP_some hF
            refine sv_callVi X (c_X4_take hc24) cd_X4_take ml_X4_45 im_X4_take se_X4_take in_RX4 hd_X4_take rfl rfl (by decide) rfl (Nat.le_of_ble_eq_true rfl) dX4_readRoad_91 rfl ?_
            exact sv_zret X (b := b26) hr hQ rfl dX4_readRoad_94 hF
          · replace hF := fr_pos hF h27
            refine sv_iconst (v := 0) X dX4_readRoad_73 (by decide) ?_
            exact sv_zret X (b := false) hr hQ rfl dX4_readRoad_74 hF
      · replace hF := fr_pos hF h29
        refine sv_iconst (v := 0) X dX4_readRoad_45 (by decide) ?_
        exact sv_zret X (b := false) hr hQ rfl dX4_readRoad_46 hF
  · replace hF := fr_pos hF h31
    refine sv_iconst (v := 0) X dX4_readRoad_17 (by decide) ?_
    exact sv_zret X (b := false) hr hQ rfl dX4_readRoad_18 hF
theorem c_X4_readRoad {l : Launch} {g : fr_G} {a2 : Int32}  {σ τ : fr_St} {r : Bool} (hF : F_X4_readRoad a2 σ = some (r, τ)) : fr_Ci l g yX4_readRoad (fr_ws yX4_readRoad cX4_readRoad 6 (some .boolean)) 3 [.ref (g.2.1 13), .ref (g.2.1 17), .int a2] σ (fr_bi r) τ := fr_mz (by decide) (Nat.le_of_ble_eq_true rfl) (fun p e s m below meth c X hr => b_X4_readRoad X hr  rfl hF)
def L_X4_readRoads_2  : Nat → Int32 → fr_St → Option ((Bool × fr_St) ⊕ (Int32 × fr_St))
  | 0, _, _ => none
  | n + 1, x2, σ => if (9 : Int32) < x2 then (some (.inr (x2, σ))) else (fr_bS (F_X4_look σ) (fun s2 => fr_bP (F_X2_ofLetter (s2 13 3) s2) (fun r5 s4 => fr_bP (F_X2_hasNumber r5 s4) (fun b8 s7 => if (fr_bi b8) = 0 then (some (.inl (true, s7))) else (if x2 = (9 : Int32) then (fr_bP (F_X4_refuse (3 : Int32) s7) (fun b20 s19 => some (.inl (b20, s19)))) else (fr_bP (F_X4_take (s7 13 3) s7) (fun b11 s10 => if (fr_bi b11) = 0 then (some (.inl (false, s10))) else (fr_bP (F_X4_readRoad r5 s10) (fun b14 s13 => if (fr_bi b14) = 0 then (some (.inl (false, s13))) else (fr_let (x2 + (1 : Int32)) (fun v15 => L_X4_readRoads_2  n v15 s13)))))))))))
set_option maxRecDepth 100000 in
set_option maxHeartbeats 4000000 in
theorem wL_X4_readRoads_2 {p : Program} {l : Launch} {e : Env} {s : State} {m : MethodId} {args : Array Value} {below : List Frame} {meth : Method} {c : Code} {g : fr_G} {Q : State → Prop} (X : fr_X p s m args meth c g cX4_readRoads RX4 4)  (hr : meth.sig.returnType = (some .boolean)) {z : (Bool × fr_St) ⊕ (Int32 × fr_St)} (KR : (∀ (r : Bool) (τ : fr_St), z = .inl (r, τ) → Q = fr_Qi below args s g (fr_bi r) τ))  (KE : ∀ (y2 : Int32) (τ : fr_St), z = .inr (y2, τ) → fr_V p l e (fr_rm 4) s m args below meth c g Q 4 τ 69 [(0, .ref (g.2.1 13)), (1, .ref (g.2.1 17)), (2, .int y2)] []) : ∀ (n : Nat) (x2 : Int32) (σ : fr_St), L_X4_readRoads_2  n x2 σ = some z → fr_V p l e (fr_rm 4) s m args below meth c g Q 4 σ 2 [(0, .ref (g.2.1 13)), (1, .ref (g.2.1 17)), (2, .int x2)] [] := by
  intro n
  induction n with
  | zero => intro x2 σ hL; cases hL
  | succ n ih =>
    intro x2 σ hL
    rw [L_X4_readRoads_2] at hL
    refine sv_iload_n (i := 2) X dX4_readRoads_2 rfl rfl ?_
    refine sv_bipush (v := 9) X dX4_readRoads_3 (by decide) ?_
    refine sv_icmp_gt (tgt := 69) X dX4_readRoads_5 (by decide) (fun h23 => ?_) (fun h23 => ?_)
    · replace hL := fr_pos hL h23
      obtain rfl := Option.some.inj hL
      exact (KE _ _ rfl)
    · replace hL := fr_neg hL h23
      refine sv_aload_n (i := 0) X dX4_readRoads_8 rfl rfl ?_
      obtain ⟨s2, hc1, hL⟩ := fr_bS_some hL
      refine sv_callVv X (c_X4_look hc1) cd_X4_look ml_X4_60 im_X4_look se_X4_look in_RX4 hd_X4_look rfl rfl (by decide) rfl (Nat.le_of_ble_eq_true rfl) dX4_readRoads_9 rfl ?_
      refine sv_aload_n (i := 0) X dX4_readRoads_12 rfl rfl ?_
      refine sv_geti X ix_X4 rfl 3 (by decide) rfl rfl fl_X4_63 dX4_readRoads_13 ?_
      obtain ⟨r5, s4, hc3, hL⟩ := fr_bP_some hL
      refine sv_callSi X (c_X2_ofLetter hc3) cd_X2_ofLetter ml_X4_66 sm_X2_ofLetter in_RX2 hd_X2_ofLetter (by decide) rfl (Nat.le_of_ble_eq_true rfl) dX4_readRoads_16 rfl ?_
      refine sv_istore_n X dX4_readRoads_19 rfl (by decide) rfl ?_
      refine sv_iload_n (i := 0) X dX4_readRoads_20 rfl rfl ?_
      obtain ⟨b8, s7, hc6, hL⟩ := fr_bP_some hL
      refine sv_callSi X (c_X2_hasNumber hc6) cd_X2_hasNumber ml_X4_72 sm_X2_hasNumber in_RX2 hd_X2_hasNumber (by decide) rfl (Nat.le_of_ble_eq_true rfl) dX4_readRoads_21 rfl ?_
      refine sv_if_ne (tgt := 29) X dX4_readRoads_24 (by decide) (fun h22 => ?_) (fun h22 => ?_)
      · replace hL := fr_neg hL h22
        refine sv_iload_n (i := 3) X dX4_readRoads_29 rfl rfl ?_
        refine sv_bipush (v := 9) X dX4_readRoads_30 (by decide) ?_
        refine sv_icmp_ne (tgt := 41) X dX4_readRoads_32 (by decide) (fun h21 => ?_) (fun h21 => ?_)
        · replace hL := fr_neg hL h21
          refine sv_aload_n (i := 1) X dX4_readRoads_41 rfl rfl ?_
          refine sv_aload_n (i := 1) X dX4_readRoads_42 rfl rfl ?_
          refine sv_geti X ix_X4 rfl 3 (by decide) rfl rfl fl_X4_63 dX4_readRoads_43 ?_
          obtain ⟨b11, s10, hc9, hL⟩ := fr_bP_some hL
          refine sv_callVi X (c_X4_take hc9) cd_X4_take ml_X4_45 im_X4_take se_X4_take in_RX4 hd_X4_take rfl rfl (by decide) rfl (Nat.le_of_ble_eq_true rfl) dX4_readRoads_46 rfl ?_
          refine sv_if_eq (tgt := 61) X dX4_readRoads_49 (by decide) (fun h17 => ?_) (fun h17 => ?_)
          · replace hL := fr_pos hL h17
            refine sv_iconst (v := 0) X dX4_readRoads_61 (by decide) ?_
            obtain rfl := Option.some.inj hL
            exact sv_zret X (b := false) hr (KR _ _ rfl) rfl dX4_readRoads_62 rfl
          · replace hL := fr_neg hL h17
            refine sv_aload_n (i := 1) X dX4_readRoads_52 rfl rfl ?_
            refine sv_aload_n (i := 2) X dX4_readRoads_53 rfl rfl ?_
            refine sv_iload_n (i := 0) X dX4_readRoads_54 rfl rfl ?_
            obtain ⟨b14, s13, hc12, hL⟩ := fr_bP_some hL
            refine sv_callVi X (c_X4_readRoad hc12) cd_X4_readRoad ml_X4_78 im_X4_readRoad se_X4_readRoad in_RX4 hd_X4_readRoad rfl rfl (by decide) rfl (Nat.le_of_ble_eq_true rfl) dX4_readRoads_55 rfl ?_
            refine sv_if_ne (tgt := 63) X dX4_readRoads_58 (by decide) (fun h16 => ?_) (fun h16 => ?_)
            · replace hL := fr_neg hL h16
              obtain ⟨v15, ev15⟩ : ∃ y : Int32, y = x2 + (1 : Int32) := ⟨_, rfl⟩
              replace hL := fr_lete hL ev15
              refine sv_iinc (i := 3) (v := v15) X dX4_readRoads_63 rfl (by rw [ev15]; rfl) (by decide) rfl ?_
              refine sv_goto (tgt := 2) X dX4_readRoads_66 (by decide) ?_
              exact sv_perm [2, 3, 0] rfl (ih _ _ hL)
            · replace hL := fr_pos hL h16
              refine sv_iconst (v := 0) X dX4_readRoads_61 (by decide) ?_
              obtain rfl := Option.some.inj hL
              exact sv_zret X (b := false) hr (KR _ _ rfl) rfl dX4_readRoads_62 rfl
        · replace hL := fr_pos hL h21
          refine sv_aload_n (i := 1) X dX4_readRoads_35 rfl rfl ?_
          refine sv_iconst (v := 3) X dX4_readRoads_36 (by decide) ?_
          obtain ⟨b20, s19, hc18, hL⟩ := fr_bP_some hL
          refine sv_callVi X (c_X4_refuse hc18) cd_X4_refuse ml_X4_75 im_X4_refuse se_X4_refuse in_RX4 hd_X4_refuse rfl rfl (by decide) rfl (Nat.le_of_ble_eq_true rfl) dX4_readRoads_37 rfl ?_
          obtain rfl := Option.some.inj hL
          exact sv_zret X (b := b20) hr (KR _ _ rfl) rfl dX4_readRoads_40 rfl
      · replace hL := fr_pos hL h22
        refine sv_iconst (v := 1) X dX4_readRoads_27 (by decide) ?_
        obtain rfl := Option.some.inj hL
        exact sv_zret X (b := true) hr (KR _ _ rfl) rfl dX4_readRoads_28 rfl
def F_X4_readRoads  (σ : fr_St) : Option (Bool × fr_St) := fr_bR (L_X4_readRoads_2  fr_fu (0 : Int32) σ) (fun q0 => some q0) (fun q5 => fr_pP q5 (fun v1 s2 => some (true, s2)))
set_option maxRecDepth 100000 in
set_option maxHeartbeats 4000000 in
theorem b_X4_readRoads {p : Program} {l : Launch} {e : Env} {s : State} {m : MethodId} {args : Array Value} {below : List Frame} {meth : Method} {c : Code} {g : fr_G} {Q : State → Prop} (X : fr_X p s m args meth c g cX4_readRoads RX4 4) (hr : meth.sig.returnType = (some .boolean))   {σ τ : fr_St} {r : Bool} (hQ : Q = fr_Qi below args s g (fr_bi r) τ) (hF : F_X4_readRoads  σ = some (r, τ)) : fr_V p l e (fr_rm 4) s m args below meth c g Q 4 σ 0 [(0, .ref (g.2.1 13)), (1, .ref (g.2.1 17))] [] := by
  unfold F_X4_readRoads at hF
  refine sv_iconst (v := 0) X dX4_readRoads_0 (by decide) ?_
  refine sv_istore_n X dX4_readRoads_1 rfl (by decide) rfl ?_
  refine sv_perm [1, 2, 0] rfl ?_
  rcases fr_bR_some hF with ⟨⟨rr, ss⟩, hl3, hF⟩ | ⟨⟨v1, s2⟩, hl3, hF⟩
  · obtain ⟨rfl, rfl⟩ := fr_i2 hF
    exact wL_X4_readRoads_2 X  hr (fun r τ e => by cases e; exact hQ)  (fun _ _ e => by cases e) fr_fu _ _ hl3
  · dsimp only [fr_pP] at hF
    refine wL_X4_readRoads_2 X  hr (fun r τ e => by cases e)  (fun _ _ e => ?_) fr_fu _ _ hl3
    cases e
    refine sv_iconst (v := 1) X dX4_readRoads_69 (by decide) ?_
    exact sv_zret X (b := true) hr hQ rfl dX4_readRoads_70 hF
theorem c_X4_readRoads {l : Launch} {g : fr_G}   {σ τ : fr_St} {r : Bool} (hF : F_X4_readRoads  σ = some (r, τ)) : fr_Ci l g yX4_readRoads (fr_ws yX4_readRoads cX4_readRoads 4 (some .boolean)) 4 [.ref (g.2.1 13), .ref (g.2.1 17)] σ (fr_bi r) τ := fr_mz (by decide) (Nat.le_of_ble_eq_true rfl) (fun p e s m below meth c X hr => b_X4_readRoads X hr  rfl hF)
def F_X4_readInto  (σ : fr_St) : Option (Bool × fr_St) := fr_let (fr_up σ 13 2 (0 : Int32)) (fun s1 => fr_let (fr_up s1 13 6 (0 : Int32)) (fun s2 => fr_bS (F_X3_clear 17 s2) (fun s4 => fr_bP (F_X4_readLaw s4) (fun b7 s6 => fr_bP (if (fr_bi b7) = 0 then (some ((0 : Int32), s6)) else (fr_bP (F_X4_readRoads s6) (fun b14 s13 => if (fr_bi b14) = 0 then (some ((0 : Int32), s13)) else (fr_bP (F_X4_readPeople s13) (fun b17 s16 => if (fr_bi b17) = 0 then (some ((0 : Int32), s16)) else (fr_bP (F_X4_readEnd s16) (fun b20 s19 => if (fr_bi b20) = 0 then (some ((0 : Int32), s19)) else (some ((1 : Int32), s19))))))))) (fun v8 s9 => if v8 = 0 then some (false, s9) else if v8 = 1 then some (true, s9) else none)))))
set_option maxRecDepth 100000 in
set_option maxHeartbeats 4000000 in
theorem b_X4_readInto {p : Program} {l : Launch} {e : Env} {s : State} {m : MethodId} {args : Array Value} {below : List Frame} {meth : Method} {c : Code} {g : fr_G} {Q : State → Prop} (X : fr_X p s m args meth c g cX4_readInto RX4 2) (hr : meth.sig.returnType = (some .boolean))   {σ τ : fr_St} {r : Bool} (hQ : Q = fr_Qi below args s g (fr_bi r) τ) (hF : F_X4_readInto  σ = some (r, τ)) : fr_V p l e (fr_rm 5) s m args below meth c g Q 2 σ 0 [(0, .ref (g.2.1 13)), (1, .ref (g.2.1 17))] [] := by
  unfold F_X4_readInto at hF
  refine sv_aload_n (i := 0) X dX4_readInto_0 rfl rfl ?_
  refine sv_iconst (v := 0) X dX4_readInto_1 (by decide) ?_
  refine sv_puti (ty := .int) X ix_X4 tyX4_ok nmX4 rfl 2 (by decide) rfl rfl fl_X4_24 rfl rfl rfl rfl dX4_readInto_2 ?_
  refine sv_sig (fun s1 es1 => ?_)
  replace hF := fr_lete hF es1
  refine sv_aload_n (i := 0) X dX4_readInto_5 rfl rfl ?_
  refine sv_iconst (v := 0) X dX4_readInto_6 (by decide) ?_
  refine sv_puti (ty := .int) X ix_X4 tyX4_ok nmX4 rfl 6 (by decide) rfl rfl fl_X4_21 rfl rfl rfl rfl dX4_readInto_7 ?_
  refine sv_sig (fun s2 es2 => ?_)
  replace hF := fr_lete hF es2
  refine sv_aload_n (i := 1) X dX4_readInto_10 rfl rfl ?_
  obtain ⟨s4, hc3, hF⟩ := fr_bS_some hF
  refine sv_callVv X (c_X3_clear rfl rfl hc3) cd_X3_clear ml_X4_27 im_X3_clear se_X3_clear in_RX3 hd_X3_clear rfl rfl (by decide) rfl (Nat.le_of_ble_eq_true rfl) dX4_readInto_11 rfl ?_
  refine sv_aload_n (i := 0) X dX4_readInto_14 rfl rfl ?_
  refine sv_aload_n (i := 1) X dX4_readInto_15 rfl rfl ?_
  obtain ⟨b7, s6, hc5, hF⟩ := fr_bP_some hF
  refine sv_callVi X (c_X4_readLaw hc5) cd_X4_readLaw ml_X4_32 im_X4_readLaw se_X4_readLaw in_RX4 hd_X4_readLaw rfl rfl (by decide) rfl (Nat.le_of_ble_eq_true rfl) dX4_readInto_16 rfl ?_
  obtain ⟨v8, s9, hM10, hF⟩ := fr_bP_some hF
  have K11 : fr_V p l e (fr_rm 5) s m args below meth c g Q 2 s9 50 [(0, .ref (g.2.1 13)), (1, .ref (g.2.1 17))] [.int v8] := by
    exact sv_zretv X hr hQ dX4_readInto_50 hF
  refine sv_if_eq (tgt := 49) X dX4_readInto_19 (by decide) (fun h24 => ?_) (fun h24 => ?_)
  · replace hM10 := fr_pos hM10 h24
    refine sv_iconst (v := 0) X dX4_readInto_49 (by decide) ?_
    obtain ⟨rfl, rfl⟩ := fr_i2 hM10
    exact K11
  · replace hM10 := fr_neg hM10 h24
    refine sv_aload_n (i := 0) X dX4_readInto_22 rfl rfl ?_
    refine sv_aload_n (i := 1) X dX4_readInto_23 rfl rfl ?_
    obtain ⟨b14, s13, hc12, hM10⟩ := fr_bP_some hM10
    refine sv_callVi X (c_X4_readRoads hc12) cd_X4_readRoads ml_X4_36 im_X4_readRoads se_X4_readRoads in_RX4 hd_X4_readRoads rfl rfl (by decide) rfl (Nat.le_of_ble_eq_true rfl) dX4_readInto_24 rfl ?_
    refine sv_if_eq (tgt := 49) X dX4_readInto_27 (by decide) (fun h23 => ?_) (fun h23 => ?_)
    · replace hM10 := fr_pos hM10 h23
      refine sv_iconst (v := 0) X dX4_readInto_49 (by decide) ?_
      obtain ⟨rfl, rfl⟩ := fr_i2 hM10
      exact K11
    · replace hM10 := fr_neg hM10 h23
      refine sv_aload_n (i := 0) X dX4_readInto_30 rfl rfl ?_
      refine sv_aload_n (i := 1) X dX4_readInto_31 rfl rfl ?_
      obtain ⟨b17, s16, hc15, hM10⟩ := fr_bP_some hM10
      refine sv_callVi X (c_X4_readPeople hc15) cd_X4_readPeople ml_X4_39 im_X4_readPeople se_X4_readPeople in_RX4 hd_X4_readPeople rfl rfl (by decide) rfl (Nat.le_of_ble_eq_true rfl) dX4_readInto_32 rfl ?_
      refine sv_if_eq (tgt := 49) X dX4_readInto_35 (by decide) (fun h22 => ?_) (fun h22 => ?_)
      · replace hM10 := fr_pos hM10 h22
        refine sv_iconst (v := 0) X dX4_readInto_49 (by decide) ?_
        obtain ⟨rfl, rfl⟩ := fr_i2 hM10
        exact K11
      · replace hM10 := fr_neg hM10 h22
        refine sv_aload_n (i := 0) X dX4_readInto_38 rfl rfl ?_
        obtain ⟨b20, s19, hc18, hM10⟩ := fr_bP_some hM10
        refine sv_callVi X (c_X4_readEnd hc18) cd_X4_readEnd ml_X4_42 im_X4_readEnd se_X4_readEnd in_RX4 hd_X4_readEnd rfl rfl (by decide) rfl (Nat.le_of_ble_eq_true rfl) dX4_readInto_39 rfl ?_
        refine sv_if_eq (tgt := 49) X dX4_readInto_42 (by decide) (fun h21 => ?_) (fun h21 => ?_)
        · replace hM10 := fr_pos hM10 h21
          refine sv_iconst (v := 0) X dX4_readInto_49 (by decide) ?_
          obtain ⟨rfl, rfl⟩ := fr_i2 hM10
          exact K11
        · replace hM10 := fr_neg hM10 h21
          refine sv_iconst (v := 1) X dX4_readInto_45 (by decide) ?_
          refine sv_goto (tgt := 50) X dX4_readInto_46 (by decide) ?_
          obtain ⟨rfl, rfl⟩ := fr_i2 hM10
          exact K11
theorem c_X4_readInto {l : Launch} {g : fr_G}   {σ τ : fr_St} {r : Bool} (hF : F_X4_readInto  σ = some (r, τ)) : fr_Ci l g yX4_readInto (fr_ws yX4_readInto cX4_readInto 2 (some .boolean)) 5 [.ref (g.2.1 13), .ref (g.2.1 17)] σ (fr_bi r) τ := fr_mz (by decide) (Nat.le_of_ble_eq_true rfl) (fun p e s m below meth c X hr => b_X4_readInto X hr  rfl hF)
