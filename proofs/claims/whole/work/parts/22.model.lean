def F_X8_day  (σ : fr_St) : Option (Int32 × fr_St) := if (σ 59 4) = 0 then (some ((-1000002 : Int32), σ)) else (if (σ 63 4) = (999 : Int32) then (some ((-1000003 : Int32), σ)) else (fr_bS (F_X8_note σ) (fun s2 => fr_let (fr_up s2 63 4 ((s2 63 4) + (1 : Int32))) (fun s3 => some ((s3 63 4), s3)))))
set_option maxRecDepth 100000 in
set_option maxHeartbeats 4000000 in
theorem b_X8_day {p : Program} {l : Launch} {e : Env} {s : State} {m : MethodId} {args : Array Value} {below : List Frame} {meth : Method} {c : Code} {g : fr_G} {Q : State → Prop} (X : fr_X p s m args meth c g cX8_day RX8 1) (hr : meth.sig.returnType = (some .int))   {σ τ : fr_St} {r : Int32} (hQ : Q = fr_Qi below args s g r τ) (hF : F_X8_day  σ = some (r, τ)) : fr_V p l e (fr_rm 1) s m args below meth c g Q 1 σ 0 [(0, .ref (g.2.1 59))] [] := by
  unfold F_X8_day at hF
  refine sv_aload_n (i := 0) X dX8_day_0 rfl rfl ?_
  refine sv_geti X ix_X8 rfl 4 (by decide) rfl rfl fl_X8_149 dX8_day_1 ?_
  refine sv_if_ne (tgt := 10) X dX8_day_4 (by decide) (fun h5 => ?_) (fun h5 => ?_)
  · replace hF := fr_neg hF h5
    refine sv_aload_n (i := 0) X dX8_day_10 rfl rfl ?_
    refine sv_getr X ix_X8 rfl 5 (by decide) rfl rfl fl_X8_19 dX8_day_11 ?_
    refine sv_iconst (v := 4) X dX8_day_14 (by decide) ?_
    refine sv_iald (j := 4) X rfl (by decide) (by decide) dX8_day_15 ?_
    refine sv_sipush (v := 999) X dX8_day_16 (by decide) ?_
    refine sv_icmp_ne (tgt := 25) X dX8_day_19 (by decide) (fun h4 => ?_) (fun h4 => ?_)
    · replace hF := fr_neg hF h4
      refine sv_aload_n (i := 0) X dX8_day_25 rfl rfl ?_
      obtain ⟨s2, hc1, hF⟩ := fr_bS_some hF
      refine sv_callVv X (c_X8_note hc1) cd_X8_note ml_X8_186 im_X8_note se_X8_note in_RX8 hd_X8_note rfl rfl (by decide) rfl (Nat.le_of_ble_eq_true rfl) dX8_day_26 rfl ?_
      refine sv_aload_n (i := 0) X dX8_day_29 rfl rfl ?_
      refine sv_getr X ix_X8 rfl 5 (by decide) rfl rfl fl_X8_19 dX8_day_30 ?_
      refine sv_iconst (v := 4) X dX8_day_33 (by decide) ?_
      refine sv_dup2 X dX8_day_34 rfl rfl ?_
      refine sv_iald (j := 4) X rfl (by decide) (by decide) dX8_day_35 ?_
      refine sv_iconst (v := 1) X dX8_day_36 (by decide) ?_
      refine sv_iadd X dX8_day_37 ?_
      refine sv_iast (j := 4) X rfl (by decide) (by decide) dX8_day_38 ?_
      refine sv_sig (fun s3 es3 => ?_)
      replace hF := fr_lete hF es3
      refine sv_aload_n (i := 0) X dX8_day_39 rfl rfl ?_
      refine sv_getr X ix_X8 rfl 5 (by decide) rfl rfl fl_X8_19 dX8_day_40 ?_
      refine sv_iconst (v := 4) X dX8_day_43 (by decide) ?_
      refine sv_iald (j := 4) X rfl (by decide) (by decide) dX8_day_44 ?_
      exact sv_iret X hr hQ dX8_day_45 hF
    · replace hF := fr_pos hF h4
      refine sv_ldc X kn_X8_90 dX8_day_22 ?_
      exact sv_iret X hr hQ dX8_day_24 hF
  · replace hF := fr_pos hF h5
    refine sv_ldc X kn_X8_185 dX8_day_7 ?_
    exact sv_iret X hr hQ dX8_day_9 hF
theorem c_X8_day {l : Launch} {g : fr_G}   {σ τ : fr_St} {r : Int32} (hF : F_X8_day  σ = some (r, τ)) : fr_Ci l g yX8_day (fr_ws yX8_day cX8_day 1 (some .int)) 1 [.ref (g.2.1 59)] σ r τ := fr_mi (by decide) (Nat.le_of_ble_eq_true rfl) (fun p e s m below meth c X hr => b_X8_day X hr  rfl hF)
def L_X8_undo_22  : Nat → Int32 → fr_St → Option (Int32 × fr_St)
  | 0, _, _ => none
  | n + 1, x1, σ => if (122 : Int32) ≤ x1 then (some (x1, σ)) else (if fr_ib (((122 : Int32) * (σ 59 17)) + x1) 2928 = true then if fr_ib x1 122 = true then fr_let (fr_up σ 63 (fr_ix x1) (σ 67 (fr_ix (((122 : Int32) * (σ 59 17)) + x1)))) (fun s3 => fr_let (x1 + (1 : Int32)) (fun v4 => L_X8_undo_22  n v4 s3)) else none else none)
set_option maxRecDepth 100000 in
set_option maxHeartbeats 4000000 in
theorem wL_X8_undo_22 {p : Program} {l : Launch} {e : Env} {s : State} {m : MethodId} {args : Array Value} {below : List Frame} {meth : Method} {c : Code} {g : fr_G} {Q : State → Prop} (X : fr_X p s m args meth c g cX8_undo RX8 2)   {y1 : Int32} {τ : fr_St} (K : fr_V p l e (fr_rm 0) s m args below meth c g Q 2 τ 54 [(0, .ref (g.2.1 59)), (1, .int y1)] []) : ∀ (n : Nat) (x1 : Int32) (σ : fr_St), L_X8_undo_22  n x1 σ = some (y1, τ) → fr_V p l e (fr_rm 0) s m args below meth c g Q 2 σ 22 [(0, .ref (g.2.1 59)), (1, .int x1)] [] := by
  intro n
  induction n with
  | zero => intro x1 σ hL; cases hL
  | succ n ih =>
    intro x1 σ hL
    rw [L_X8_undo_22] at hL
    refine sv_iload_n (i := 1) X dX8_undo_22 rfl rfl ?_
    refine sv_bipush (v := 122) X dX8_undo_23 (by decide) ?_
    refine sv_icmp_ge (tgt := 54) X dX8_undo_25 (by decide) (fun h5 => ?_) (fun h5 => ?_)
    · replace hL := fr_pos hL h5
      obtain ⟨rfl, rfl⟩ := fr_i2 hL
      exact K
    · replace hL := fr_neg hL h5
      refine sv_aload_n (i := 0) X dX8_undo_28 rfl rfl ?_
      refine sv_getr X ix_X8 rfl 5 (by decide) rfl rfl fl_X8_19 dX8_undo_29 ?_
      refine sv_iload_n (i := 1) X dX8_undo_32 rfl rfl ?_
      refine sv_aload_n (i := 0) X dX8_undo_33 rfl rfl ?_
      refine sv_getr X ix_X8 rfl 16 (by decide) rfl rfl fl_X8_31 dX8_undo_34 ?_
      refine sv_bipush (v := 122) X dX8_undo_37 (by decide) ?_
      refine sv_aload_n (i := 0) X dX8_undo_39 rfl rfl ?_
      refine sv_geti X ix_X8 rfl 17 (by decide) rfl rfl fl_X8_153 dX8_undo_40 ?_
      refine sv_imul X dX8_undo_43 ?_
      refine sv_iload_n (i := 1) X dX8_undo_44 rfl rfl ?_
      refine sv_iadd X dX8_undo_45 ?_
      obtain ⟨hb1, hL⟩ := fr_chk hL
      refine sv_iald (j := (fr_ix (((122 : Int32) * (σ 59 17)) + x1))) X rfl hb1 rfl dX8_undo_46 ?_
      obtain ⟨hb2, hL⟩ := fr_chk hL
      refine sv_iast (j := (fr_ix x1)) X rfl hb2 rfl dX8_undo_47 ?_
      refine sv_sig (fun s3 es3 => ?_)
      replace hL := fr_lete hL es3
      obtain ⟨v4, ev4⟩ : ∃ y : Int32, y = x1 + (1 : Int32) := ⟨_, rfl⟩
      replace hL := fr_lete hL ev4
      refine sv_iinc (i := 1) (v := v4) X dX8_undo_48 rfl (by rw [ev4]; rfl) (by decide) rfl ?_
      refine sv_goto (tgt := 22) X dX8_undo_51 (by decide) ?_
      exact sv_perm [1, 0] rfl (ih _ _ hL)
def F_X8_undo  (σ : fr_St) : Option (Int32 × fr_St) := if (σ 59 17) = 0 then (some ((-1000002 : Int32), σ)) else (fr_let (fr_up σ 59 17 ((σ 59 17) - (1 : Int32))) (fun s1 => fr_bP (L_X8_undo_22  fr_fu (0 : Int32) s1) (fun v2 s3 => some ((s3 59 17), s3))))
set_option maxRecDepth 100000 in
set_option maxHeartbeats 4000000 in
theorem b_X8_undo {p : Program} {l : Launch} {e : Env} {s : State} {m : MethodId} {args : Array Value} {below : List Frame} {meth : Method} {c : Code} {g : fr_G} {Q : State → Prop} (X : fr_X p s m args meth c g cX8_undo RX8 2) (hr : meth.sig.returnType = (some .int))   {σ τ : fr_St} {r : Int32} (hQ : Q = fr_Qi below args s g r τ) (hF : F_X8_undo  σ = some (r, τ)) : fr_V p l e (fr_rm 0) s m args below meth c g Q 2 σ 0 [(0, .ref (g.2.1 59))] [] := by
  unfold F_X8_undo at hF
  refine sv_aload_n (i := 0) X dX8_undo_0 rfl rfl ?_
  refine sv_geti X ix_X8 rfl 17 (by decide) rfl rfl fl_X8_153 dX8_undo_1 ?_
  refine sv_if_ne (tgt := 10) X dX8_undo_4 (by decide) (fun h5 => ?_) (fun h5 => ?_)
  · replace hF := fr_neg hF h5
    refine sv_aload_n (i := 0) X dX8_undo_10 rfl rfl ?_
    refine sv_dup X dX8_undo_11 rfl ?_
    refine sv_geti X ix_X8 rfl 17 (by decide) rfl rfl fl_X8_153 dX8_undo_12 ?_
    refine sv_iconst (v := 1) X dX8_undo_15 (by decide) ?_
    refine sv_isub X dX8_undo_16 ?_
    refine sv_puti (ty := .int) X ix_X8 tyX8_ok nmX8 rfl 17 (by decide) rfl rfl fl_X8_153 rfl rfl rfl rfl dX8_undo_17 ?_
    refine sv_sig (fun s1 es1 => ?_)
    replace hF := fr_lete hF es1
    refine sv_iconst (v := 0) X dX8_undo_20 (by decide) ?_
    refine sv_istore_n X dX8_undo_21 rfl (by decide) rfl ?_
    refine sv_perm [1, 0] rfl ?_
    obtain ⟨v2, s3, hl4, hF⟩ := fr_bP_some hF
    refine wL_X8_undo_22 X   ?_ fr_fu _ _ hl4
    refine sv_aload_n (i := 0) X dX8_undo_54 rfl rfl ?_
    refine sv_geti X ix_X8 rfl 17 (by decide) rfl rfl fl_X8_153 dX8_undo_55 ?_
    exact sv_iret X hr hQ dX8_undo_58 hF
  · replace hF := fr_pos hF h5
    refine sv_ldc X kn_X8_185 dX8_undo_7 ?_
    exact sv_iret X hr hQ dX8_undo_9 hF
theorem c_X8_undo {l : Launch} {g : fr_G}   {σ τ : fr_St} {r : Int32} (hF : F_X8_undo  σ = some (r, τ)) : fr_Ci l g yX8_undo (fr_ws yX8_undo cX8_undo 2 (some .int)) 0 [.ref (g.2.1 59)] σ r τ := fr_mi (by decide) (Nat.le_of_ble_eq_true rfl) (fun p e s m below meth c X hr => b_X8_undo X hr  rfl hF)
def F_X8_person (a1 : Int32) (a2 : Int32) (σ : fr_St) : Option (Int32 × fr_St) := fr_bP (F_X8_isPerson a1 σ) (fun b3 s2 => if (fr_bi b3) = 0 then (some ((-1000001 : Int32), s2)) else (fr_bP (F_X8_in (a2.toInt64) (0 : Int64) (2 : Int64) s2) (fun b6 s5 => if (fr_bi b6) = 0 then (some ((-1000001 : Int32), s5)) else (fr_bP (if a2 = 0 then (if fr_ib ((6 : Int32) + a1) 122 = true then some ((s5 63 (fr_ix ((6 : Int32) + a1))), s5) else none) else (if a2 = (1 : Int32) then (fr_bP (F_X8_soleOf a1 s5) (fun r19 s18 => some (r19, s18))) else (fr_bP (F_X8_soleOf a1 s5) (fun r13 s12 => fr_bP (F_X8_openTo r13 s12) (fun r16 s15 => some (r16, s15)))))) (fun v7 s8 => some (v7, s8))))))
set_option maxRecDepth 100000 in
set_option maxHeartbeats 4000000 in
theorem b_X8_person {p : Program} {l : Launch} {e : Env} {s : State} {m : MethodId} {args : Array Value} {below : List Frame} {meth : Method} {c : Code} {g : fr_G} {Q : State → Prop} (X : fr_X p s m args meth c g cX8_person RX8 3) (hr : meth.sig.returnType = (some .int)) {a1 : Int32} {a2 : Int32}  {σ τ : fr_St} {r : Int32} (hQ : Q = fr_Qi below args s g r τ) (hF : F_X8_person a1 a2 σ = some (r, τ)) : fr_V p l e (fr_rm 4) s m args below meth c g Q 3 σ 0 [(0, .ref (g.2.1 59)), (1, .int a1), (2, .int a2)] [] := by
  unfold F_X8_person at hF
  refine sv_aload_n (i := 0) X dX8_person_0 rfl rfl ?_
  refine sv_iload_n (i := 1) X dX8_person_1 rfl rfl ?_
  obtain ⟨b3, s2, hc1, hF⟩ := fr_bP_some hF
  refine sv_callVi X (c_X8_isPerson hc1) cd_X8_isPerson ml_X8_156 im_X8_isPerson se_X8_isPerson in_RX8 hd_X8_isPerson rfl rfl (by decide) rfl (Nat.le_of_ble_eq_true rfl) dX8_person_2 rfl ?_
  refine sv_if_eq (tgt := 20) X dX8_person_5 (by decide) (fun h24 => ?_) (fun h24 => ?_)
  · replace hF := fr_pos hF h24
    refine sv_ldc X kn_X8_73 dX8_person_20 ?_
    exact sv_iret X hr hQ dX8_person_22 hF
  · replace hF := fr_neg hF h24
    refine sv_iload_n (i := 2) X dX8_person_8 rfl rfl ?_
    refine sv_i2l X dX8_person_9 ?_
    refine sv_lconst (v := 0) X dX8_person_10 (by decide) ?_
    refine sv_ldc2_w X kl_X8_71 dX8_person_11 ?_
    obtain ⟨b6, s5, hc4, hF⟩ := fr_bP_some hF
    refine sv_callSi X (c_X8_in hc4) cd_X8_in ml_X8_63 sm_X8_in in_RX8 hd_X8_in (by decide) rfl (Nat.le_of_ble_eq_true rfl) dX8_person_14 rfl ?_
    refine sv_if_ne (tgt := 23) X dX8_person_17 (by decide) (fun h23 => ?_) (fun h23 => ?_)
    · replace hF := fr_neg hF h23
      refine sv_iload_n (i := 2) X dX8_person_23 rfl rfl ?_
      obtain ⟨v7, s8, hM9, hF⟩ := fr_bP_some hF
      have K10 : fr_V p l e (fr_rm 4) s m args below meth c g Q 3 s8 61 [(0, .ref (g.2.1 59)), (1, .int a1), (2, .int a2)] [.int v7] := by
        exact sv_iret X hr hQ dX8_person_61 hF
      refine sv_if_ne (tgt := 39) X dX8_person_24 (by decide) (fun h22 => ?_) (fun h22 => ?_)
      · replace hM9 := fr_neg hM9 h22
        refine sv_iload_n (i := 2) X dX8_person_39 rfl rfl ?_
        refine sv_iconst (v := 1) X dX8_person_40 (by decide) ?_
        refine sv_icmp_ne (tgt := 52) X dX8_person_41 (by decide) (fun h20 => ?_) (fun h20 => ?_)
        · replace hM9 := fr_neg hM9 h20
          refine sv_aload_n (i := 0) X dX8_person_52 rfl rfl ?_
          refine sv_aload_n (i := 0) X dX8_person_53 rfl rfl ?_
          refine sv_iload_n (i := 1) X dX8_person_54 rfl rfl ?_
          obtain ⟨r13, s12, hc11, hM9⟩ := fr_bP_some hM9
          refine sv_callVi X (c_X8_soleOf hc11) cd_X8_soleOf ml_X8_175 im_X8_soleOf se_X8_soleOf in_RX8 hd_X8_soleOf rfl rfl (by decide) rfl (Nat.le_of_ble_eq_true rfl) dX8_person_55 rfl ?_
          obtain ⟨r16, s15, hc14, hM9⟩ := fr_bP_some hM9
          refine sv_callVi X (c_X8_openTo hc14) cd_X8_openTo ml_X8_195 im_X8_openTo se_X8_openTo in_RX8 hd_X8_openTo rfl rfl (by decide) rfl (Nat.le_of_ble_eq_true rfl) dX8_person_58 rfl ?_
          obtain ⟨rfl, rfl⟩ := fr_i2 hM9
          exact K10
        · replace hM9 := fr_pos hM9 h20
          refine sv_aload_n (i := 0) X dX8_person_44 rfl rfl ?_
          refine sv_iload_n (i := 1) X dX8_person_45 rfl rfl ?_
          obtain ⟨r19, s18, hc17, hM9⟩ := fr_bP_some hM9
          refine sv_callVi X (c_X8_soleOf hc17) cd_X8_soleOf ml_X8_175 im_X8_soleOf se_X8_soleOf in_RX8 hd_X8_soleOf rfl rfl (by decide) rfl (Nat.le_of_ble_eq_true rfl) dX8_person_46 rfl ?_
          refine sv_goto (tgt := 61) X dX8_person_49 (by decide) ?_
          obtain ⟨rfl, rfl⟩ := fr_i2 hM9
          exact K10
      · replace hM9 := fr_pos hM9 h22
        refine sv_aload_n (i := 0) X dX8_person_27 rfl rfl ?_
        refine sv_getr X ix_X8 rfl 5 (by decide) rfl rfl fl_X8_19 dX8_person_28 ?_
        refine sv_bipush (v := 6) X dX8_person_31 (by decide) ?_
        refine sv_iload_n (i := 1) X dX8_person_33 rfl rfl ?_
        refine sv_iadd X dX8_person_34 ?_
        obtain ⟨hb21, hM9⟩ := fr_chk hM9
        refine sv_iald (j := (fr_ix ((6 : Int32) + a1))) X rfl hb21 rfl dX8_person_35 ?_
        refine sv_goto (tgt := 61) X dX8_person_36 (by decide) ?_
        obtain ⟨rfl, rfl⟩ := fr_i2 hM9
        exact K10
    · replace hF := fr_pos hF h23
      refine sv_ldc X kn_X8_73 dX8_person_20 ?_
      exact sv_iret X hr hQ dX8_person_22 hF
theorem c_X8_person {l : Launch} {g : fr_G} {a1 : Int32} {a2 : Int32}  {σ τ : fr_St} {r : Int32} (hF : F_X8_person a1 a2 σ = some (r, τ)) : fr_Ci l g yX8_person (fr_ws yX8_person cX8_person 3 (some .int)) 4 [.ref (g.2.1 59), .int a1, .int a2] σ r τ := fr_mi (by decide) (Nat.le_of_ble_eq_true rfl) (fun p e s m below meth c X hr => b_X8_person X hr  rfl hF)
def F_X8_road (a1 : Int32) (a2 : Int32) (σ : fr_St) : Option (Int32 × fr_St) := fr_bP (F_X8_isRoad a1 σ) (fun b3 s2 => if (fr_bi b3) = 0 then (some ((-1000001 : Int32), s2)) else (if a2 = (0 : Int32) then (if fr_ib ((23 : Int32) + a1) 122 = true then some ((s2 63 (fr_ix ((23 : Int32) + a1))), s2) else none) else (if a2 = (1 : Int32) then (if fr_ib ((32 : Int32) + a1) 122 = true then some ((s2 63 (fr_ix ((32 : Int32) + a1))), s2) else none) else (if a2 = (2 : Int32) then (if fr_ib ((41 : Int32) + a1) 122 = true then some ((s2 63 (fr_ix ((41 : Int32) + a1))), s2) else none) else (if a2 = (3 : Int32) then (fr_bP (F_X8_solesOf a1 s2) (fun r13 s12 => some (r13, s12))) else (some ((-1000001 : Int32), s2)))))))
set_option maxRecDepth 100000 in
set_option maxHeartbeats 4000000 in
theorem b_X8_road {p : Program} {l : Launch} {e : Env} {s : State} {m : MethodId} {args : Array Value} {below : List Frame} {meth : Method} {c : Code} {g : fr_G} {Q : State → Prop} (X : fr_X p s m args meth c g cX8_road RX8 3) (hr : meth.sig.returnType = (some .int)) {a1 : Int32} {a2 : Int32}  {σ τ : fr_St} {r : Int32} (hQ : Q = fr_Qi below args s g r τ) (hF : F_X8_road a1 a2 σ = some (r, τ)) : fr_V p l e (fr_rm 4) s m args below meth c g Q 3 σ 0 [(0, .ref (g.2.1 59)), (1, .int a1), (2, .int a2)] [] := by
  unfold F_X8_road at hF
  refine sv_aload_n (i := 0) X dX8_road_0 rfl rfl ?_
  refine sv_iload_n (i := 1) X dX8_road_1 rfl rfl ?_
  obtain ⟨b3, s2, hc1, hF⟩ := fr_bP_some hF
  refine sv_callVi X (c_X8_isRoad hc1) cd_X8_isRoad ml_X8_182 im_X8_isRoad se_X8_isRoad in_RX8 hd_X8_isRoad rfl rfl (by decide) rfl (Nat.le_of_ble_eq_true rfl) dX8_road_2 rfl ?_
  refine sv_if_ne (tgt := 11) X dX8_road_5 (by decide) (fun h14 => ?_) (fun h14 => ?_)
  · replace hF := fr_neg hF h14
    refine sv_iload_n (i := 2) X dX8_road_11 rfl rfl ?_
    by_cases h4 : a2 = (0 : Int32)
    · replace hF := fr_pos hF h4
      refine sv_tin (v := (0 : Int32)) (tgt := 44) X h4 (by decide) (by decide) rfl (by decide) dX8_road_12 ?_
      refine sv_aload_n (i := 0) X dX8_road_44 rfl rfl ?_
      refine sv_getr X ix_X8 rfl 5 (by decide) rfl rfl fl_X8_19 dX8_road_45 ?_
      refine sv_bipush (v := 23) X dX8_road_48 (by decide) ?_
      refine sv_iload_n (i := 1) X dX8_road_50 rfl rfl ?_
      refine sv_iadd X dX8_road_51 ?_
      obtain ⟨hb5, hF⟩ := fr_chk hF
      refine sv_iald (j := (fr_ix ((23 : Int32) + a1))) X rfl hb5 rfl dX8_road_52 ?_
      exact sv_iret X hr hQ dX8_road_53 hF
    · replace hF := fr_neg hF h4
      by_cases h6 : a2 = (1 : Int32)
      · replace hF := fr_pos hF h6
        refine sv_tin (v := (1 : Int32)) (tgt := 54) X h6 (by decide) (by decide) rfl (by decide) dX8_road_12 ?_
        refine sv_aload_n (i := 0) X dX8_road_54 rfl rfl ?_
        refine sv_getr X ix_X8 rfl 5 (by decide) rfl rfl fl_X8_19 dX8_road_55 ?_
        refine sv_bipush (v := 32) X dX8_road_58 (by decide) ?_
        refine sv_iload_n (i := 1) X dX8_road_60 rfl rfl ?_
        refine sv_iadd X dX8_road_61 ?_
        obtain ⟨hb7, hF⟩ := fr_chk hF
        refine sv_iald (j := (fr_ix ((32 : Int32) + a1))) X rfl hb7 rfl dX8_road_62 ?_
        exact sv_iret X hr hQ dX8_road_63 hF
      · replace hF := fr_neg hF h6
        by_cases h8 : a2 = (2 : Int32)
        · replace hF := fr_pos hF h8
          refine sv_tin (v := (2 : Int32)) (tgt := 64) X h8 (by decide) (by decide) rfl (by decide) dX8_road_12 ?_
          refine sv_aload_n (i := 0) X dX8_road_64 rfl rfl ?_
          refine sv_getr X ix_X8 rfl 5 (by decide) rfl rfl fl_X8_19 dX8_road_65 ?_
          refine sv_bipush (v := 41) X dX8_road_68 (by decide) ?_
          refine sv_iload_n (i := 1) X dX8_road_70 rfl rfl ?_
          refine sv_iadd X dX8_road_71 ?_
          obtain ⟨hb9, hF⟩ := fr_chk hF
          refine sv_iald (j := (fr_ix ((41 : Int32) + a1))) X rfl hb9 rfl dX8_road_72 ?_
          exact sv_iret X hr hQ dX8_road_73 hF
        · replace hF := fr_neg hF h8
          by_cases h10 : a2 = (3 : Int32)
          · replace hF := fr_pos hF h10
            refine sv_tin (v := (3 : Int32)) (tgt := 74) X h10 (by decide) (by decide) rfl (by decide) dX8_road_12 ?_
            refine sv_aload_n (i := 0) X dX8_road_74 rfl rfl ?_
            refine sv_iload_n (i := 1) X dX8_road_75 rfl rfl ?_
            obtain ⟨r13, s12, hc11, hF⟩ := fr_bP_some hF
            refine sv_callVi X (c_X8_solesOf hc11) cd_X8_solesOf ml_X8_198 im_X8_solesOf se_X8_solesOf in_RX8 hd_X8_solesOf rfl rfl (by decide) rfl (Nat.le_of_ble_eq_true rfl) dX8_road_76 rfl ?_
            exact sv_iret X hr hQ dX8_road_79 hF
          · replace hF := fr_neg hF h10
            have hz : ¬ (a2).toInt = 0 ∧ ¬ (a2).toInt = 1 ∧ ¬ (a2).toInt = 2 ∧ ¬ (a2).toInt = 3 := ⟨lv_neT h4 (k := (0 : Int32)) (a := 0) (by decide), lv_neT h6 (k := (1 : Int32)) (a := 1) (by decide), lv_neT h8 (k := (2 : Int32)) (a := 2) (by decide), lv_neT h10 (k := (3 : Int32)) (a := 3) (by decide)⟩
            refine sv_tout (tgt := 80) X (by omega) (by decide) dX8_road_12 ?_
            refine sv_ldc X kn_X8_73 dX8_road_80 ?_
            exact sv_iret X hr hQ dX8_road_82 hF
  · replace hF := fr_pos hF h14
    refine sv_ldc X kn_X8_73 dX8_road_8 ?_
    exact sv_iret X hr hQ dX8_road_10 hF
theorem c_X8_road {l : Launch} {g : fr_G} {a1 : Int32} {a2 : Int32}  {σ τ : fr_St} {r : Int32} (hF : F_X8_road a1 a2 σ = some (r, τ)) : fr_Ci l g yX8_road (fr_ws yX8_road cX8_road 3 (some .int)) 4 [.ref (g.2.1 59), .int a1, .int a2] σ r τ := fr_mi (by decide) (Nat.le_of_ble_eq_true rfl) (fun p e s m below meth c X hr => b_X8_road X hr  rfl hF)
def F_X8_met (a1 : Int32) (a2 : Int32) (a3 : Int32) (σ : fr_St) : Option (Int32 × fr_St) := fr_bP (F_X8_isRoad a1 σ) (fun b3 s2 => if (fr_bi b3) = 0 then (some ((-1000001 : Int32), s2)) else (fr_bP (F_X8_isPerson a2 s2) (fun b6 s5 => if (fr_bi b6) = 0 then (some ((-1000001 : Int32), s5)) else (fr_bP (F_X8_in (a3.toInt64) (0 : Int64) (1 : Int64) s5) (fun b9 s8 => if (fr_bi b9) = 0 then (some ((-1000001 : Int32), s8)) else (fr_bS (if a3 = 0 then (if fr_ib (((50 : Int32) + ((4 : Int32) * a1)) + a2) 122 = true then some ((s8 63 (fr_ix (((50 : Int32) + ((4 : Int32) * a1)) + a2)))) else none) else (if fr_ib (((86 : Int32) + ((4 : Int32) * a1)) + a2) 122 = true then some ((s8 63 (fr_ix (((86 : Int32) + ((4 : Int32) * a1)) + a2)))) else none)) (fun v10 => some (v10, s8))))))))
set_option maxRecDepth 100000 in
set_option maxHeartbeats 4000000 in
theorem b_X8_met {p : Program} {l : Launch} {e : Env} {s : State} {m : MethodId} {args : Array Value} {below : List Frame} {meth : Method} {c : Code} {g : fr_G} {Q : State → Prop} (X : fr_X p s m args meth c g cX8_met RX8 4) (hr : meth.sig.returnType = (some .int)) {a1 : Int32} {a2 : Int32} {a3 : Int32}  {σ τ : fr_St} {r : Int32} (hQ : Q = fr_Qi below args s g r τ) (hF : F_X8_met a1 a2 a3 σ = some (r, τ)) : fr_V p l e (fr_rm 2) s m args below meth c g Q 4 σ 0 [(0, .ref (g.2.1 59)), (1, .int a1), (2, .int a2), (3, .int a3)] [] := by
  unfold F_X8_met at hF
  refine sv_aload_n (i := 0) X dX8_met_0 rfl rfl ?_
  refine sv_iload_n (i := 1) X dX8_met_1 rfl rfl ?_
  obtain ⟨b3, s2, hc1, hF⟩ := fr_bP_some hF
  refine sv_callVi X (c_X8_isRoad hc1) cd_X8_isRoad ml_X8_182 im_X8_isRoad se_X8_isRoad in_RX8 hd_X8_isRoad rfl rfl (by decide) rfl (Nat.le_of_ble_eq_true rfl) dX8_met_2 rfl ?_
  refine sv_if_eq (tgt := 26) X dX8_met_5 (by decide) (fun h18 => ?_) (fun h18 => ?_)
  · replace hF := fr_pos hF h18
    refine sv_ldc X kn_X8_73 dX8_met_26 ?_
    exact sv_iret X hr hQ dX8_met_28 hF
  · replace hF := fr_neg hF h18
    refine sv_aload_n (i := 0) X dX8_met_8 rfl rfl ?_
    refine sv_iload_n (i := 2) X dX8_met_9 rfl rfl ?_
    obtain ⟨b6, s5, hc4, hF⟩ := fr_bP_some hF
    refine sv_callVi X (c_X8_isPerson hc4) cd_X8_isPerson ml_X8_156 im_X8_isPerson se_X8_isPerson in_RX8 hd_X8_isPerson rfl rfl (by decide) rfl (Nat.le_of_ble_eq_true rfl) dX8_met_10 rfl ?_
    refine sv_if_eq (tgt := 26) X dX8_met_13 (by decide) (fun h17 => ?_) (fun h17 => ?_)
    · replace hF := fr_pos hF h17
      refine sv_ldc X kn_X8_73 dX8_met_26 ?_
      exact sv_iret X hr hQ dX8_met_28 hF
    · replace hF := fr_neg hF h17
      refine sv_iload_n (i := 3) X dX8_met_16 rfl rfl ?_
      refine sv_i2l X dX8_met_17 ?_
      refine sv_lconst (v := 0) X dX8_met_18 (by decide) ?_
      refine sv_lconst (v := 1) X dX8_met_19 (by decide) ?_
      obtain ⟨b9, s8, hc7, hF⟩ := fr_bP_some hF
      refine sv_callSi X (c_X8_in hc7) cd_X8_in ml_X8_63 sm_X8_in in_RX8 hd_X8_in (by decide) rfl (Nat.le_of_ble_eq_true rfl) dX8_met_20 rfl ?_
      refine sv_if_ne (tgt := 29) X dX8_met_23 (by decide) (fun h16 => ?_) (fun h16 => ?_)
      · replace hF := fr_neg hF h16
        refine sv_iload_n (i := 3) X dX8_met_29 rfl rfl ?_
        obtain ⟨v10, hM11, hF⟩ := fr_bS_some hF
        have K12 : fr_V p l e (fr_rm 2) s m args below meth c g Q 4 s8 62 [(0, .ref (g.2.1 59)), (1, .int a1), (2, .int a2), (3, .int a3)] [.int v10] := by
          exact sv_iret X hr hQ dX8_met_62 hF
        refine sv_if_ne (tgt := 49) X dX8_met_30 (by decide) (fun h15 => ?_) (fun h15 => ?_)
        · replace hM11 := fr_neg hM11 h15
          refine sv_aload_n (i := 0) X dX8_met_49 rfl rfl ?_
          refine sv_getr X ix_X8 rfl 5 (by decide) rfl rfl fl_X8_19 dX8_met_50 ?_
          refine sv_bipush (v := 86) X dX8_met_53 (by decide) ?_
          refine sv_iconst (v := 4) X dX8_met_55 (by decide) ?_
          refine sv_iload_n (i := 1) X dX8_met_56 rfl rfl ?_
          refine sv_imul X dX8_met_57 ?_
          refine sv_iadd X dX8_met_58 ?_
          refine sv_iload_n (i := 2) X dX8_met_59 rfl rfl ?_
          refine sv_iadd X dX8_met_60 ?_
          obtain ⟨hb13, hM11⟩ := fr_chk hM11
          refine sv_iald (j := (fr_ix (((86 : Int32) + ((4 : Int32) * a1)) + a2))) X rfl hb13 rfl dX8_met_61 ?_
          obtain rfl := fr_i1 hM11
          exact K12
        · replace hM11 := fr_pos hM11 h15
          refine sv_aload_n (i := 0) X dX8_met_33 rfl rfl ?_
          refine sv_getr X ix_X8 rfl 5 (by decide) rfl rfl fl_X8_19 dX8_met_34 ?_
          refine sv_bipush (v := 50) X dX8_met_37 (by decide) ?_
          refine sv_iconst (v := 4) X dX8_met_39 (by decide) ?_
          refine sv_iload_n (i := 1) X dX8_met_40 rfl rfl ?_
          refine sv_imul X dX8_met_41 ?_
          refine sv_iadd X dX8_met_42 ?_
          refine sv_iload_n (i := 2) X dX8_met_43 rfl rfl ?_
          refine sv_iadd X dX8_met_44 ?_
          obtain ⟨hb14, hM11⟩ := fr_chk hM11
          refine sv_iald (j := (fr_ix (((50 : Int32) + ((4 : Int32) * a1)) + a2))) X rfl hb14 rfl dX8_met_45 ?_
          refine sv_goto (tgt := 62) X dX8_met_46 (by decide) ?_
          obtain rfl := fr_i1 hM11
          exact K12
      · replace hF := fr_pos hF h16
        refine sv_ldc X kn_X8_73 dX8_met_26 ?_
        exact sv_iret X hr hQ dX8_met_28 hF
theorem c_X8_met {l : Launch} {g : fr_G} {a1 : Int32} {a2 : Int32} {a3 : Int32}  {σ τ : fr_St} {r : Int32} (hF : F_X8_met a1 a2 a3 σ = some (r, τ)) : fr_Ci l g yX8_met (fr_ws yX8_met cX8_met 4 (some .int)) 2 [.ref (g.2.1 59), .int a1, .int a2, .int a3] σ r τ := fr_mi (by decide) (Nat.le_of_ble_eq_true rfl) (fun p e s m below meth c X hr => b_X8_met X hr  rfl hF)
def L_X8_reachBy_7 (k2 : Int32) : Nat → Int32 → Int32 → fr_St → Option (Int32 × Int32 × fr_St)
  | 0, _, _, _ => none
  | n + 1, x3, x4, σ => if (72 : Int32) ≤ x4 then (some (x3, x4, σ)) else (fr_let ((x4 - x4 / (9 : Int32) * (9 : Int32))) (fun v1 => fr_bP (F_X8_has k2 v1 σ) (fun b4 s3 => fr_bP (if (fr_bi b4) = 0 then (some (x3, s3)) else (if fr_ib ((23 : Int32) + v1) 122 = true then fr_bP (F_X8_has x3 (s3 63 (fr_ix ((23 : Int32) + v1))) s3) (fun b13 s12 => fr_bS (if (fr_bi b13) = 0 then (some ((0 : Int32))) else (if fr_ib ((32 : Int32) + v1) 122 = true then some (((1 : Int32) <<< ((s12 63 (fr_ix ((32 : Int32) + v1))) &&& 31))) else none)) (fun v14 => fr_let ((x3 ||| v14)) (fun v17 => if fr_ib ((32 : Int32) + v1) 122 = true then fr_bP (F_X8_has v17 (s12 63 (fr_ix ((32 : Int32) + v1))) s12) (fun b21 s20 => fr_bS (if (fr_bi b21) = 0 then (some ((0 : Int32))) else (if fr_ib ((23 : Int32) + v1) 122 = true then some (((1 : Int32) <<< ((s20 63 (fr_ix ((23 : Int32) + v1))) &&& 31))) else none)) (fun v22 => fr_let ((v17 ||| v22)) (fun v25 => some (v25, s20)))) else none))) else none)) (fun v5 s6 => fr_let (x4 + (1 : Int32)) (fun v9 => L_X8_reachBy_7 k2 n v5 v9 s6)))))
set_option maxRecDepth 100000 in
set_option maxHeartbeats 4000000 in
theorem wL_X8_reachBy_7 {p : Program} {l : Launch} {e : Env} {s : State} {m : MethodId} {args : Array Value} {below : List Frame} {meth : Method} {c : Code} {g : fr_G} {Q : State → Prop} (X : fr_X p s m args meth c g cX8_reachBy RX8 6)  (k1 : Int32) (k2 : Int32) {y3 : Int32} {y4 : Int32} {τ : fr_St} (K : fr_V p l e (fr_rm 1) s m args below meth c g Q 6 τ 108 [(0, .ref (g.2.1 59)), (1, .int k1), (2, .int k2), (3, .int y3), (4, .int y4)] []) : ∀ (n : Nat) (x3 : Int32) (x4 : Int32) (σ : fr_St), L_X8_reachBy_7 k2 n x3 x4 σ = some (y3, y4, τ) → fr_V p l e (fr_rm 1) s m args below meth c g Q 6 σ 7 [(0, .ref (g.2.1 59)), (1, .int k1), (2, .int k2), (3, .int x3), (4, .int x4)] [] := by
  intro n
  induction n with
  | zero => intro x3 x4 σ hL; cases hL
  | succ n ih =>
    intro x3 x4 σ hL
    rw [L_X8_reachBy_7] at hL
    refine sv_iload (i := 4) X dX8_reachBy_7 rfl ?_
    refine sv_bipush (v := 72) X dX8_reachBy_9 (by decide) ?_
    refine sv_icmp_ge (tgt := 108) X dX8_reachBy_11 (by decide) (fun h31 => ?_) (fun h31 => ?_)
    · replace hL := fr_pos hL h31
      obtain ⟨rfl, rfl, rfl⟩ := fr_i3 hL
      exact K
    · replace hL := fr_neg hL h31
      refine sv_iload (i := 4) X dX8_reachBy_14 rfl ?_
      refine sv_bipush (v := 9) X dX8_reachBy_16 (by decide) ?_
      refine sv_irem X dX8_reachBy_18 (by decide) ?_
      refine sv_topi (fun v1 ev1 => ?_)
      replace hL := fr_lete hL ev1
      refine sv_istore X dX8_reachBy_19 (by decide) rfl ?_
      refine sv_iload_n (i := 3) X dX8_reachBy_21 rfl rfl ?_
      refine sv_iload (i := 0) X dX8_reachBy_22 rfl ?_
      obtain ⟨b4, s3, hc2, hL⟩ := fr_bP_some hL
      refine sv_callSi X (c_X8_has hc2) cd_X8_has ml_X8_130 sm_X8_has in_RX8 hd_X8_has (by decide) rfl (Nat.le_of_ble_eq_true rfl) dX8_reachBy_24 rfl ?_
      obtain ⟨v5, s6, hM7, hL⟩ := fr_bP_some hL
      have K8 : fr_V p l e (fr_rm 1) s m args below meth c g Q 6 s6 102 [(0, .ref (g.2.1 59)), (1, .int k1), (2, .int k2), (3, .int v5), (4, .int x4), (5, .int v1)] [] := by
        obtain ⟨v9, ev9⟩ : ∃ y : Int32, y = x4 + (1 : Int32) := ⟨_, rfl⟩
        replace hL := fr_lete hL ev9
        refine sv_iinc (i := 4) (v := v9) X dX8_reachBy_102 rfl (by rw [ev9]; rfl) (by decide) rfl ?_
        refine sv_goto (tgt := 7) X dX8_reachBy_105 (by decide) ?_
        exact sv_perm [1, 2, 3, 4, 0] rfl (ih _ _ _ hL)
      refine sv_if_eq (tgt := 102) X dX8_reachBy_27 (by decide) (fun h30 => ?_) (fun h30 => ?_)
      · replace hM7 := fr_pos hM7 h30
        obtain ⟨rfl, rfl⟩ := fr_i2 hM7
        exact sv_perm [1, 2, 3, 4, 5, 0] rfl K8
      · replace hM7 := fr_neg hM7 h30
        refine sv_iload_n (i := 4) X dX8_reachBy_30 rfl rfl ?_
        refine sv_iload_n (i := 4) X dX8_reachBy_31 rfl rfl ?_
        refine sv_aload_n (i := 1) X dX8_reachBy_32 rfl rfl ?_
        refine sv_getr X ix_X8 rfl 5 (by decide) rfl rfl fl_X8_19 dX8_reachBy_33 ?_
        refine sv_bipush (v := 23) X dX8_reachBy_36 (by decide) ?_
        refine sv_iload (i := 0) X dX8_reachBy_38 rfl ?_
        refine sv_iadd X dX8_reachBy_40 ?_
        obtain ⟨hb10, hM7⟩ := fr_chk hM7
        refine sv_iald (j := (fr_ix ((23 : Int32) + v1))) X rfl hb10 rfl dX8_reachBy_41 ?_
        obtain ⟨b13, s12, hc11, hM7⟩ := fr_bP_some hM7
        refine sv_callSi X (c_X8_has hc11) cd_X8_has ml_X8_130 sm_X8_has in_RX8 hd_X8_has (by decide) rfl (Nat.le_of_ble_eq_true rfl) dX8_reachBy_42 rfl ?_
        obtain ⟨v14, hM15, hM7⟩ := fr_bS_some hM7
        have K16 : fr_V p l e (fr_rm 1) s m args below meth c g Q 6 s12 64 [(0, .ref (g.2.1 59)), (1, .int k1), (2, .int k2), (3, .int x3), (4, .int x4), (5, .int v1)] [.int v14, .int x3] := by
          refine sv_ior X dX8_reachBy_64 ?_
          refine sv_topi (fun v17 ev17 => ?_)
          replace hM7 := fr_lete hM7 ev17
          refine sv_istore_n X dX8_reachBy_65 rfl (by decide) rfl ?_
          refine sv_iload_n (i := 0) X dX8_reachBy_66 rfl rfl ?_
          refine sv_iload_n (i := 0) X dX8_reachBy_67 rfl rfl ?_
          refine sv_aload_n (i := 1) X dX8_reachBy_68 rfl rfl ?_
          refine sv_getr X ix_X8 rfl 5 (by decide) rfl rfl fl_X8_19 dX8_reachBy_69 ?_
          refine sv_bipush (v := 32) X dX8_reachBy_72 (by decide) ?_
          refine sv_iload (i := 5) X dX8_reachBy_74 rfl ?_
          refine sv_iadd X dX8_reachBy_76 ?_
          obtain ⟨hb18, hM7⟩ := fr_chk hM7
          refine sv_iald (j := (fr_ix ((32 : Int32) + v1))) X rfl hb18 rfl dX8_reachBy_77 ?_
          obtain ⟨b21, s20, hc19, hM7⟩ := fr_bP_some hM7
          refine sv_callSi X (c_X8_has hc19) cd_X8_has ml_X8_130 sm_X8_has in_RX8 hd_X8_has (by decide) rfl (Nat.le_of_ble_eq_true rfl) dX8_reachBy_78 rfl ?_
          obtain ⟨v22, hM23, hM7⟩ := fr_bS_some hM7
          have K24 : fr_V p l e (fr_rm 1) s m args below meth c g Q 6 s20 100 [(0, .ref (g.2.1 59)), (1, .int k1), (2, .int k2), (3, .int v17), (4, .int x4), (5, .int v1)] [.int v22, .int v17] := by
            refine sv_ior X dX8_reachBy_100 ?_
            refine sv_topi (fun v25 ev25 => ?_)
            replace hM7 := fr_lete hM7 ev25
            refine sv_istore_n X dX8_reachBy_101 rfl (by decide) rfl ?_
            obtain ⟨rfl, rfl⟩ := fr_i2 hM7
            exact sv_perm [1, 2, 3, 0, 4, 5] rfl K8
          refine sv_if_eq (tgt := 99) X dX8_reachBy_81 (by decide) (fun h27 => ?_) (fun h27 => ?_)
          · replace hM23 := fr_pos hM23 h27
            refine sv_iconst (v := 0) X dX8_reachBy_99 (by decide) ?_
            obtain rfl := fr_i1 hM23
            exact sv_perm [1, 2, 3, 0, 4, 5] rfl K24
          · replace hM23 := fr_neg hM23 h27
            refine sv_iconst (v := 1) X dX8_reachBy_84 (by decide) ?_
            refine sv_aload_n (i := 1) X dX8_reachBy_85 rfl rfl ?_
            refine sv_getr X ix_X8 rfl 5 (by decide) rfl rfl fl_X8_19 dX8_reachBy_86 ?_
            refine sv_bipush (v := 23) X dX8_reachBy_89 (by decide) ?_
            refine sv_iload (i := 5) X dX8_reachBy_91 rfl ?_
            refine sv_iadd X dX8_reachBy_93 ?_
            obtain ⟨hb26, hM23⟩ := fr_chk hM23
            refine sv_iald (j := (fr_ix ((23 : Int32) + v1))) X rfl hb26 rfl dX8_reachBy_94 ?_
            refine sv_ishl X dX8_reachBy_95 ?_
            refine sv_goto (tgt := 100) X dX8_reachBy_96 (by decide) ?_
            obtain rfl := fr_i1 hM23
            exact sv_perm [1, 2, 3, 0, 4, 5] rfl K24
        refine sv_if_eq (tgt := 63) X dX8_reachBy_45 (by decide) (fun h29 => ?_) (fun h29 => ?_)
        · replace hM15 := fr_pos hM15 h29
          refine sv_iconst (v := 0) X dX8_reachBy_63 (by decide) ?_
          obtain rfl := fr_i1 hM15
          exact sv_perm [1, 2, 3, 4, 5, 0] rfl K16
        · replace hM15 := fr_neg hM15 h29
          refine sv_iconst (v := 1) X dX8_reachBy_48 (by decide) ?_
          refine sv_aload_n (i := 1) X dX8_reachBy_49 rfl rfl ?_
          refine sv_getr X ix_X8 rfl 5 (by decide) rfl rfl fl_X8_19 dX8_reachBy_50 ?_
          refine sv_bipush (v := 32) X dX8_reachBy_53 (by decide) ?_
          refine sv_iload (i := 0) X dX8_reachBy_55 rfl ?_
          refine sv_iadd X dX8_reachBy_57 ?_
          obtain ⟨hb28, hM15⟩ := fr_chk hM15
          refine sv_iald (j := (fr_ix ((32 : Int32) + v1))) X rfl hb28 rfl dX8_reachBy_58 ?_
          refine sv_ishl X dX8_reachBy_59 ?_
          refine sv_goto (tgt := 64) X dX8_reachBy_60 (by decide) ?_
          obtain rfl := fr_i1 hM15
          exact sv_perm [1, 2, 3, 4, 5, 0] rfl K16
def F_X8_reachBy (a1 : Int32) (a2 : Int32) (σ : fr_St) : Option (Int32 × fr_St) := fr_let (((1 : Int32) <<< (a1 &&& 31))) (fun v1 => fr_bP (L_X8_reachBy_7 a2 fr_fu v1 (0 : Int32) σ) (fun v2 q6 => fr_pP q6 (fun v3 s4 => some (v2, s4))))
set_option maxRecDepth 100000 in
set_option maxHeartbeats 4000000 in
theorem b_X8_reachBy {p : Program} {l : Launch} {e : Env} {s : State} {m : MethodId} {args : Array Value} {below : List Frame} {meth : Method} {c : Code} {g : fr_G} {Q : State → Prop} (X : fr_X p s m args meth c g cX8_reachBy RX8 6) (hr : meth.sig.returnType = (some .int)) {a1 : Int32} {a2 : Int32}  {σ τ : fr_St} {r : Int32} (hQ : Q = fr_Qi below args s g r τ) (hF : F_X8_reachBy a1 a2 σ = some (r, τ)) : fr_V p l e (fr_rm 1) s m args below meth c g Q 6 σ 0 [(0, .ref (g.2.1 59)), (1, .int a1), (2, .int a2)] [] := by
  unfold F_X8_reachBy at hF
  refine sv_iconst (v := 1) X dX8_reachBy_0 (by decide) ?_
  refine sv_iload_n (i := 1) X dX8_reachBy_1 rfl rfl ?_
  refine sv_ishl X dX8_reachBy_2 ?_
  refine sv_topi (fun v1 ev1 => ?_)
  replace hF := fr_lete hF ev1
  refine sv_istore_n X dX8_reachBy_3 rfl (by decide) rfl ?_
  refine sv_iconst (v := 0) X dX8_reachBy_4 (by decide) ?_
  refine sv_istore X dX8_reachBy_5 (by decide) rfl ?_
  refine sv_perm [2, 3, 4, 1, 0] rfl ?_
  obtain ⟨v2, ⟨v3, s4⟩, hl5, hF⟩ := fr_bP_some hF
  dsimp only [fr_pP] at hF
  refine wL_X8_reachBy_7 X  a1 a2 ?_ fr_fu _ _ _ hl5
  refine sv_iload_n (i := 3) X dX8_reachBy_108 rfl rfl ?_
  exact sv_iret X hr hQ dX8_reachBy_109 hF
theorem c_X8_reachBy {l : Launch} {g : fr_G} {a1 : Int32} {a2 : Int32}  {σ τ : fr_St} {r : Int32} (hF : F_X8_reachBy a1 a2 σ = some (r, τ)) : fr_Ci l g yX8_reachBy (fr_ws yX8_reachBy cX8_reachBy 6 (some .int)) 1 [.ref (g.2.1 59), .int a1, .int a2] σ r τ := fr_mi (by decide) (Nat.le_of_ble_eq_true rfl) (fun p e s m below meth c X hr => b_X8_reachBy X hr  rfl hF)
def F_X8_reach (a1 : Int32) (σ : fr_St) : Option (Int32 × fr_St) := fr_bP (F_X8_isPerson a1 σ) (fun b3 s2 => fr_bP (if (fr_bi b3) = 0 then (some ((-1000001 : Int32), s2)) else (if fr_ib ((6 : Int32) + a1) 122 = true then fr_bP (F_X8_soleOf a1 s2) (fun r11 s10 => fr_bP (F_X8_openTo r11 s10) (fun r14 s13 => fr_bP (F_X8_reachBy (s2 63 (fr_ix ((6 : Int32) + a1))) r14 s13) (fun r17 s16 => some (r17, s16)))) else none)) (fun v4 s5 => some (v4, s5)))
set_option maxRecDepth 100000 in
set_option maxHeartbeats 4000000 in
theorem b_X8_reach {p : Program} {l : Launch} {e : Env} {s : State} {m : MethodId} {args : Array Value} {below : List Frame} {meth : Method} {c : Code} {g : fr_G} {Q : State → Prop} (X : fr_X p s m args meth c g cX8_reach RX8 2) (hr : meth.sig.returnType = (some .int)) {a1 : Int32}  {σ τ : fr_St} {r : Int32} (hQ : Q = fr_Qi below args s g r τ) (hF : F_X8_reach a1 σ = some (r, τ)) : fr_V p l e (fr_rm 4) s m args below meth c g Q 2 σ 0 [(0, .ref (g.2.1 59)), (1, .int a1)] [] := by
  unfold F_X8_reach at hF
  refine sv_aload_n (i := 0) X dX8_reach_0 rfl rfl ?_
  refine sv_iload_n (i := 1) X dX8_reach_1 rfl rfl ?_
  obtain ⟨b3, s2, hc1, hF⟩ := fr_bP_some hF
  refine sv_callVi X (c_X8_isPerson hc1) cd_X8_isPerson ml_X8_156 im_X8_isPerson se_X8_isPerson in_RX8 hd_X8_isPerson rfl rfl (by decide) rfl (Nat.le_of_ble_eq_true rfl) dX8_reach_2 rfl ?_
  obtain ⟨v4, s5, hM6, hF⟩ := fr_bP_some hF
  have K7 : fr_V p l e (fr_rm 4) s m args below meth c g Q 2 s5 35 [(0, .ref (g.2.1 59)), (1, .int a1)] [.int v4] := by
    exact sv_iret X hr hQ dX8_reach_35 hF
  refine sv_if_eq (tgt := 33) X dX8_reach_5 (by decide) (fun h18 => ?_) (fun h18 => ?_)
  · replace hM6 := fr_pos hM6 h18
    refine sv_ldc X kn_X8_73 dX8_reach_33 ?_
    obtain ⟨rfl, rfl⟩ := fr_i2 hM6
    exact K7
  · replace hM6 := fr_neg hM6 h18
    refine sv_aload_n (i := 0) X dX8_reach_8 rfl rfl ?_
    refine sv_aload_n (i := 0) X dX8_reach_9 rfl rfl ?_
    refine sv_getr X ix_X8 rfl 5 (by decide) rfl rfl fl_X8_19 dX8_reach_10 ?_
    refine sv_bipush (v := 6) X dX8_reach_13 (by decide) ?_
    refine sv_iload_n (i := 1) X dX8_reach_15 rfl rfl ?_
    refine sv_iadd X dX8_reach_16 ?_
    obtain ⟨hb8, hM6⟩ := fr_chk hM6
    refine sv_iald (j := (fr_ix ((6 : Int32) + a1))) X rfl hb8 rfl dX8_reach_17 ?_
    refine sv_aload_n (i := 0) X dX8_reach_18 rfl rfl ?_
    refine sv_aload_n (i := 0) X dX8_reach_19 rfl rfl ?_
    refine sv_iload_n (i := 1) X dX8_reach_20 rfl rfl ?_
    obtain ⟨r11, s10, hc9, hM6⟩ := fr_bP_some hM6
    refine sv_callVi X (c_X8_soleOf hc9) cd_X8_soleOf ml_X8_175 im_X8_soleOf se_X8_soleOf in_RX8 hd_X8_soleOf rfl rfl (by decide) rfl (Nat.le_of_ble_eq_true rfl) dX8_reach_21 rfl ?_
    obtain ⟨r14, s13, hc12, hM6⟩ := fr_bP_some hM6
    refine sv_callVi X (c_X8_openTo hc12) cd_X8_openTo ml_X8_195 im_X8_openTo se_X8_openTo in_RX8 hd_X8_openTo rfl rfl (by decide) rfl (Nat.le_of_ble_eq_true rfl) dX8_reach_24 rfl ?_
    obtain ⟨r17, s16, hc15, hM6⟩ := fr_bP_some hM6
    refine sv_callVi X (c_X8_reachBy hc15) cd_X8_reachBy ml_X8_201 im_X8_reachBy se_X8_reachBy in_RX8 hd_X8_reachBy rfl rfl (by decide) rfl (Nat.le_of_ble_eq_true rfl) dX8_reach_27 rfl ?_
    refine sv_goto (tgt := 35) X dX8_reach_30 (by decide) ?_
    obtain ⟨rfl, rfl⟩ := fr_i2 hM6
    exact K7
theorem c_X8_reach {l : Launch} {g : fr_G} {a1 : Int32}  {σ τ : fr_St} {r : Int32} (hF : F_X8_reach a1 σ = some (r, τ)) : fr_Ci l g yX8_reach (fr_ws yX8_reach cX8_reach 2 (some .int)) 4 [.ref (g.2.1 59), .int a1] σ r τ := fr_mi (by decide) (Nat.le_of_ble_eq_true rfl) (fun p e s m below meth c X hr => b_X8_reach X hr  rfl hF)
def L_X8_findFars_3 (k1 : Int32) : Nat → Int32 → fr_St → Option (Int32 × fr_St)
  | 0, _, _ => none
  | n + 1, x4, σ => if (8 : Int32) ≤ x4 then (some (x4, σ)) else (fr_bS (if x4 = k1 then (some ((0 : Int32))) else (some ((100000 : Int32)))) (fun v1 => if fr_ib x4 8 = true then fr_let (fr_up σ 68 (fr_ix x4) v1) (fun s5 => fr_let (x4 + (1 : Int32)) (fun v6 => L_X8_findFars_3 k1 n v6 s5)) else none))
set_option maxRecDepth 100000 in
set_option maxHeartbeats 4000000 in
theorem wL_X8_findFars_3 {p : Program} {l : Launch} {e : Env} {s : State} {m : MethodId} {args : Array Value} {below : List Frame} {meth : Method} {c : Code} {g : fr_G} {Q : State → Prop} (X : fr_X p s m args meth c g cX8_findFars RX8 10)  (k1 : Int32) (k2 : Int32) (k3 : Int32) {y4 : Int32} {τ : fr_St} (K : fr_V p l e (fr_rm 1) s m args below meth c g Q 10 τ 35 [(0, .ref (g.2.1 59)), (1, .int k1), (2, .int k2), (3, .int k3), (4, .int y4)] []) : ∀ (n : Nat) (x4 : Int32) (σ : fr_St), L_X8_findFars_3 k1 n x4 σ = some (y4, τ) → fr_V p l e (fr_rm 1) s m args below meth c g Q 10 σ 3 [(0, .ref (g.2.1 59)), (1, .int k1), (2, .int k2), (3, .int k3), (4, .int x4)] [] := by
  intro n
  induction n with
  | zero => intro x4 σ hL; cases hL
  | succ n ih =>
    intro x4 σ hL
    rw [L_X8_findFars_3] at hL
    refine sv_iload (i := 4) X dX8_findFars_3 rfl ?_
    refine sv_bipush (v := 8) X dX8_findFars_5 (by decide) ?_
    refine sv_icmp_ge (tgt := 35) X dX8_findFars_7 (by decide) (fun h8 => ?_) (fun h8 => ?_)
    · replace hL := fr_pos hL h8
      obtain ⟨rfl, rfl⟩ := fr_i2 hL
      exact K
    · replace hL := fr_neg hL h8
      refine sv_aload_n (i := 0) X dX8_findFars_10 rfl rfl ?_
      refine sv_getr X ix_X8 rfl 18 (by decide) rfl rfl fl_X8_34 dX8_findFars_11 ?_
      refine sv_iload (i := 4) X dX8_findFars_14 rfl ?_
      refine sv_iload (i := 4) X dX8_findFars_16 rfl ?_
      refine sv_iload_n (i := 1) X dX8_findFars_18 rfl rfl ?_
      obtain ⟨v1, hM2, hL⟩ := fr_bS_some hL
      have K3 : fr_V p l e (fr_rm 1) s m args below meth c g Q 10 σ 28 [(0, .ref (g.2.1 59)), (1, .int k1), (2, .int k2), (3, .int k3), (4, .int x4)] [.int v1, .int x4, .ref (g.2.1 68)] := by
        obtain ⟨hb4, hL⟩ := fr_chk hL
        refine sv_iast (j := (fr_ix x4)) X rfl hb4 rfl dX8_findFars_28 ?_
        refine sv_sig (fun s5 es5 => ?_)
        replace hL := fr_lete hL es5
        obtain ⟨v6, ev6⟩ : ∃ y : Int32, y = x4 + (1 : Int32) := ⟨_, rfl⟩
        replace hL := fr_lete hL ev6
        refine sv_iinc (i := 4) (v := v6) X dX8_findFars_29 rfl (by rw [ev6]; rfl) (by decide) rfl ?_
        refine sv_goto (tgt := 3) X dX8_findFars_32 (by decide) ?_
        exact sv_perm [1, 2, 3, 4, 0] rfl (ih _ _ hL)
      refine sv_icmp_ne (tgt := 26) X dX8_findFars_19 (by decide) (fun h7 => ?_) (fun h7 => ?_)
      · replace hM2 := fr_neg hM2 h7
        refine sv_ldc X kn_X8_204 dX8_findFars_26 ?_
        obtain rfl := fr_i1 hM2
        exact K3
      · replace hM2 := fr_pos hM2 h7
        refine sv_iconst (v := 0) X dX8_findFars_22 (by decide) ?_
        refine sv_goto (tgt := 28) X dX8_findFars_23 (by decide) ?_
        obtain rfl := fr_i1 hM2
        exact K3
def L_X8_findFars_38 (k2 : Int32) (k3 : Int32) : Nat → Int32 → fr_St → Option (Int32 × fr_St)
  | 0, _, _ => none
  | n + 1, x4, σ => if (72 : Int32) ≤ x4 then (some (x4, σ)) else (fr_let ((x4 - x4 / (9 : Int32) * (9 : Int32))) (fun v1 => fr_bP (F_X8_has k2 v1 σ) (fun b4 s3 => fr_let ((fr_bi b4)) (fun v5 => fr_bS (if (s3 63 2) ≤ v1 then (some (s3)) else (if v5 = 0 then (if k3 ≤ 0 then (some (s3)) else (if fr_ib ((23 : Int32) + v1) 122 = true then fr_let ((s3 63 (fr_ix ((23 : Int32) + v1)))) (fun v41 => if fr_ib ((32 : Int32) + v1) 122 = true then fr_let ((s3 63 (fr_ix ((32 : Int32) + v1)))) (fun v43 => if fr_ib ((41 : Int32) + v1) 122 = true then fr_bS (if v5 = 0 then (some (k3)) else (some ((0 : Int32)))) (fun v45 => fr_let (((s3 63 (fr_ix ((41 : Int32) + v1))) + v45)) (fun v48 => if fr_ib v43 8 = true then if fr_ib v41 8 = true then fr_bS (if (s3 68 (fr_ix v41)) ≤ ((s3 68 (fr_ix v43)) + v48) then (if fr_ib v41 8 = true then some ((s3 68 (fr_ix v41))) else none) else (if fr_ib v43 8 = true then some (((s3 68 (fr_ix v43)) + v48)) else none)) (fun v51 => if fr_ib v41 8 = true then fr_let (fr_up s3 68 (fr_ix v41) v51) (fun s55 => if fr_ib v41 8 = true then if fr_ib v43 8 = true then fr_bS (if (s55 68 (fr_ix v43)) ≤ ((s55 68 (fr_ix v41)) + v48) then (if fr_ib v43 8 = true then some ((s55 68 (fr_ix v43))) else none) else (if fr_ib v41 8 = true then some (((s55 68 (fr_ix v41)) + v48)) else none)) (fun v58 => if fr_ib v43 8 = true then fr_let (fr_up s55 68 (fr_ix v43) v58) (fun s62 => some (s62)) else none) else none else none) else none) else none else none)) else none) else none) else none)) else (if fr_ib ((23 : Int32) + v1) 122 = true then fr_let ((s3 63 (fr_ix ((23 : Int32) + v1)))) (fun v11 => if fr_ib ((32 : Int32) + v1) 122 = true then fr_let ((s3 63 (fr_ix ((32 : Int32) + v1)))) (fun v13 => if fr_ib ((41 : Int32) + v1) 122 = true then fr_bS (if v5 = 0 then (some (k3)) else (some ((0 : Int32)))) (fun v15 => fr_let (((s3 63 (fr_ix ((41 : Int32) + v1))) + v15)) (fun v18 => if fr_ib v13 8 = true then if fr_ib v11 8 = true then fr_bS (if (s3 68 (fr_ix v11)) ≤ ((s3 68 (fr_ix v13)) + v18) then (if fr_ib v11 8 = true then some ((s3 68 (fr_ix v11))) else none) else (if fr_ib v13 8 = true then some (((s3 68 (fr_ix v13)) + v18)) else none)) (fun v21 => if fr_ib v11 8 = true then fr_let (fr_up s3 68 (fr_ix v11) v21) (fun s25 => if fr_ib v11 8 = true then if fr_ib v13 8 = true then fr_bS (if (s25 68 (fr_ix v13)) ≤ ((s25 68 (fr_ix v11)) + v18) then (if fr_ib v13 8 = true then some ((s25 68 (fr_ix v13))) else none) else (if fr_ib v11 8 = true then some (((s25 68 (fr_ix v11)) + v18)) else none)) (fun v28 => if fr_ib v13 8 = true then fr_let (fr_up s25 68 (fr_ix v13) v28) (fun s32 => some (s32)) else none) else none else none) else none) else none else none)) else none) else none) else none))) (fun s6 => fr_let (x4 + (1 : Int32)) (fun v9 => L_X8_findFars_38 k2 k3 n v9 s6))))))
set_option maxRecDepth 100000 in
set_option maxHeartbeats 4000000 in
theorem wL_X8_findFars_38 {p : Program} {l : Launch} {e : Env} {s : State} {m : MethodId} {args : Array Value} {below : List Frame} {meth : Method} {c : Code} {g : fr_G} {Q : State → Prop} (X : fr_X p s m args meth c g cX8_findFars RX8 10)  (k1 : Int32) (k2 : Int32) (k3 : Int32) {y4 : Int32} {τ : fr_St} (K : fr_V p l e (fr_rm 1) s m args below meth c g Q 10 τ 227 [(0, .ref (g.2.1 59)), (1, .int k1), (2, .int k2), (3, .int k3), (4, .int y4)] []) : ∀ (n : Nat) (x4 : Int32) (σ : fr_St), L_X8_findFars_38 k2 k3 n x4 σ = some (y4, τ) → fr_V p l e (fr_rm 1) s m args below meth c g Q 10 σ 38 [(0, .ref (g.2.1 59)), (1, .int k1), (2, .int k2), (3, .int k3), (4, .int x4)] [] := by
  intro n
  induction n with
  | zero => intro x4 σ hL; cases hL
  | succ n ih =>
    intro x4 σ hL
    rw [L_X8_findFars_38] at hL
    refine sv_iload (i := 4) X dX8_findFars_38 rfl ?_
    refine sv_bipush (v := 72) X dX8_findFars_40 (by decide) ?_
    refine sv_icmp_ge (tgt := 227) X dX8_findFars_42 (by decide) (fun h73 => ?_) (fun h73 => ?_)
    · replace hL := fr_pos hL h73
      obtain ⟨rfl, rfl⟩ := fr_i2 hL
      exact K
    · replace hL := fr_neg hL h73
      refine sv_iload (i := 4) X dX8_findFars_45 rfl ?_
      refine sv_bipush (v := 9) X dX8_findFars_47 (by decide) ?_
      refine sv_irem X dX8_findFars_49 (by decide) ?_
      refine sv_topi (fun v1 ev1 => ?_)
      replace hL := fr_lete hL ev1
      refine sv_istore X dX8_findFars_50 (by decide) rfl ?_
      refine sv_iload_n (i := 3) X dX8_findFars_52 rfl rfl ?_
      refine sv_iload (i := 0) X dX8_findFars_53 rfl ?_
      obtain ⟨b4, s3, hc2, hL⟩ := fr_bP_some hL
      refine sv_callSi X (c_X8_has hc2) cd_X8_has ml_X8_130 sm_X8_has in_RX8 hd_X8_has (by decide) rfl (Nat.le_of_ble_eq_true rfl) dX8_findFars_55 rfl ?_
      refine sv_topi (fun v5 ev5 => ?_)
      replace hL := fr_lete hL ev5
      refine sv_istore X dX8_findFars_58 (by decide) rfl ?_
      refine sv_iload (i := 1) X dX8_findFars_60 rfl ?_
      refine sv_aload_n (i := 2) X dX8_findFars_62 rfl rfl ?_
      refine sv_getr X ix_X8 rfl 5 (by decide) rfl rfl fl_X8_19 dX8_findFars_63 ?_
      refine sv_iconst (v := 2) X dX8_findFars_66 (by decide) ?_
      refine sv_iald (j := 2) X rfl (by decide) (by decide) dX8_findFars_67 ?_
      obtain ⟨s6, hM7, hL⟩ := fr_bS_some hL
      have K8 : fr_V p l e (fr_rm 1) s m args below meth c g Q 10 s6 221 [(0, .ref (g.2.1 59)), (1, .int k1), (2, .int k2), (3, .int k3), (4, .int x4), (5, .int v1), (6, .int v5)] [] := by
        obtain ⟨v9, ev9⟩ : ∃ y : Int32, y = x4 + (1 : Int32) := ⟨_, rfl⟩
        replace hL := fr_lete hL ev9
        refine sv_iinc (i := 4) (v := v9) X dX8_findFars_221 rfl (by rw [ev9]; rfl) (by decide) rfl ?_
        refine sv_goto (tgt := 38) X dX8_findFars_224 (by decide) ?_
        exact sv_perm [1, 2, 3, 4, 0] rfl (ih _ _ hL)
      refine sv_icmp_ge (tgt := 221) X dX8_findFars_68 (by decide) (fun h72 => ?_) (fun h72 => ?_)
      · replace hM7 := fr_pos hM7 h72
        obtain rfl := fr_i1 hM7
        exact sv_perm [2, 3, 4, 5, 6, 1, 0] rfl K8
      · replace hM7 := fr_neg hM7 h72
        refine sv_iload (i := 0) X dX8_findFars_71 rfl ?_
        refine sv_if_ne (tgt := 80) X dX8_findFars_73 (by decide) (fun h71 => ?_) (fun h71 => ?_)
        · replace hM7 := fr_neg hM7 h71
          refine sv_aload_n (i := 2) X dX8_findFars_80 rfl rfl ?_
          refine sv_getr X ix_X8 rfl 5 (by decide) rfl rfl fl_X8_19 dX8_findFars_81 ?_
          refine sv_bipush (v := 23) X dX8_findFars_84 (by decide) ?_
          refine sv_iload (i := 1) X dX8_findFars_86 rfl ?_
          refine sv_iadd X dX8_findFars_88 ?_
          obtain ⟨hb10, hM7⟩ := fr_chk hM7
          refine sv_iald (j := (fr_ix ((23 : Int32) + v1))) X rfl hb10 rfl dX8_findFars_89 ?_
          refine sv_topi (fun v11 ev11 => ?_)
          replace hM7 := fr_lete hM7 ev11
          refine sv_istore X dX8_findFars_90 (by decide) rfl ?_
          refine sv_aload_n (i := 3) X dX8_findFars_92 rfl rfl ?_
          refine sv_getr X ix_X8 rfl 5 (by decide) rfl rfl fl_X8_19 dX8_findFars_93 ?_
          refine sv_bipush (v := 32) X dX8_findFars_96 (by decide) ?_
          refine sv_iload (i := 2) X dX8_findFars_98 rfl ?_
          refine sv_iadd X dX8_findFars_100 ?_
          obtain ⟨hb12, hM7⟩ := fr_chk hM7
          refine sv_iald (j := (fr_ix ((32 : Int32) + v1))) X rfl hb12 rfl dX8_findFars_101 ?_
          refine sv_topi (fun v13 ev13 => ?_)
          replace hM7 := fr_lete hM7 ev13
          refine sv_istore X dX8_findFars_102 (by decide) rfl ?_
          refine sv_aload_n (i := 4) X dX8_findFars_104 rfl rfl ?_
          refine sv_getr X ix_X8 rfl 5 (by decide) rfl rfl fl_X8_19 dX8_findFars_105 ?_
          refine sv_bipush (v := 41) X dX8_findFars_108 (by decide) ?_
          refine sv_iload (i := 3) X dX8_findFars_110 rfl ?_
          refine sv_iadd X dX8_findFars_112 ?_
          obtain ⟨hb14, hM7⟩ := fr_chk hM7
          refine sv_iald (j := (fr_ix ((41 : Int32) + v1))) X rfl hb14 rfl dX8_findFars_113 ?_
          refine sv_iload (i := 2) X dX8_findFars_114 rfl ?_
          obtain ⟨v15, hM16, hM7⟩ := fr_bS_some hM7
          have K17 : fr_V p l e (fr_rm 1) s m args below meth c g Q 10 s3 124 [(0, .ref (g.2.1 59)), (1, .int k1), (2, .int k2), (3, .int k3), (4, .int x4), (5, .int v1), (6, .int v5), (7, .int v11), (8, .int v13)] [.int v15, .int (s3 63 (fr_ix ((41 : Int32) + v1)))] := by
            refine sv_iadd X dX8_findFars_124 ?_
            refine sv_topi (fun v18 ev18 => ?_)
            replace hM7 := fr_lete hM7 ev18
            refine sv_istore X dX8_findFars_125 (by decide) rfl ?_
            refine sv_aload_n (i := 1) X dX8_findFars_127 rfl rfl ?_
            refine sv_getr X ix_X8 rfl 18 (by decide) rfl rfl fl_X8_34 dX8_findFars_128 ?_
            refine sv_iload (i := 8) X dX8_findFars_131 rfl ?_
            refine sv_aload_n (i := 1) X dX8_findFars_133 rfl rfl ?_
            refine sv_getr X ix_X8 rfl 18 (by decide) rfl rfl fl_X8_34 dX8_findFars_134 ?_
            refine sv_iload (i := 9) X dX8_findFars_137 rfl ?_
            obtain ⟨hb19, hM7⟩ := fr_chk hM7
            refine sv_iald (j := (fr_ix v13)) X rfl hb19 rfl dX8_findFars_139 ?_
            refine sv_iload (i := 0) X dX8_findFars_140 rfl ?_
            refine sv_iadd X dX8_findFars_142 ?_
            refine sv_aload_n (i := 1) X dX8_findFars_143 rfl rfl ?_
            refine sv_getr X ix_X8 rfl 18 (by decide) rfl rfl fl_X8_34 dX8_findFars_144 ?_
            refine sv_iload (i := 8) X dX8_findFars_147 rfl ?_
            obtain ⟨hb20, hM7⟩ := fr_chk hM7
            refine sv_iald (j := (fr_ix v11)) X rfl hb20 rfl dX8_findFars_149 ?_
            obtain ⟨v21, hM22, hM7⟩ := fr_bS_some hM7
            have K23 : fr_V p l e (fr_rm 1) s m args below meth c g Q 10 s3 173 [(0, .ref (g.2.1 59)), (1, .int k1), (2, .int k2), (3, .int k3), (4, .int x4), (5, .int v1), (6, .int v5), (7, .int v11), (8, .int v13), (9, .int v18)] [.int v21, .int v11, .ref (g.2.1 68)] := by
              obtain ⟨hb24, hM7⟩ := fr_chk hM7
              refine sv_iast (j := (fr_ix v11)) X rfl hb24 rfl dX8_findFars_173 ?_
              refine sv_sig (fun s25 es25 => ?_)
              replace hM7 := fr_lete hM7 es25
              refine sv_aload_n (i := 0) X dX8_findFars_174 rfl rfl ?_
              refine sv_getr X ix_X8 rfl 18 (by decide) rfl rfl fl_X8_34 dX8_findFars_175 ?_
              refine sv_iload (i := 8) X dX8_findFars_178 rfl ?_
              refine sv_aload_n (i := 0) X dX8_findFars_180 rfl rfl ?_
              refine sv_getr X ix_X8 rfl 18 (by decide) rfl rfl fl_X8_34 dX8_findFars_181 ?_
              refine sv_iload (i := 7) X dX8_findFars_184 rfl ?_
              obtain ⟨hb26, hM7⟩ := fr_chk hM7
              refine sv_iald (j := (fr_ix v11)) X rfl hb26 rfl dX8_findFars_186 ?_
              refine sv_iload (i := 9) X dX8_findFars_187 rfl ?_
              refine sv_iadd X dX8_findFars_189 ?_
              refine sv_aload_n (i := 0) X dX8_findFars_190 rfl rfl ?_
              refine sv_getr X ix_X8 rfl 18 (by decide) rfl rfl fl_X8_34 dX8_findFars_191 ?_
              refine sv_iload (i := 8) X dX8_findFars_194 rfl ?_
              obtain ⟨hb27, hM7⟩ := fr_chk hM7
              refine sv_iald (j := (fr_ix v13)) X rfl hb27 rfl dX8_findFars_196 ?_
              obtain ⟨v28, hM29, hM7⟩ := fr_bS_some hM7
              have K30 : fr_V p l e (fr_rm 1) s m args below meth c g Q 10 s25 220 [(0, .ref (g.2.1 59)), (1, .int k1), (2, .int k2), (3, .int k3), (4, .int x4), (5, .int v1), (6, .int v5), (7, .int v11), (8, .int v13), (9, .int v18)] [.int v28, .int v13, .ref (g.2.1 68)] := by
                obtain ⟨hb31, hM7⟩ := fr_chk hM7
                refine sv_iast (j := (fr_ix v13)) X rfl hb31 rfl dX8_findFars_220 ?_
                refine sv_sig (fun s32 es32 => ?_)
                replace hM7 := fr_lete hM7 es32
                obtain rfl := fr_i1 hM7
                exact sv_perm [0, 1, 2, 3, 4, 5, 6] rfl K8
              refine sv_icmp_ge (tgt := 213) X dX8_findFars_197 (by decide) (fun h35 => ?_) (fun h35 => ?_)
              · replace hM29 := fr_pos hM29 h35
                refine sv_aload_n (i := 0) X dX8_findFars_213 rfl rfl ?_
                refine sv_getr X ix_X8 rfl 18 (by decide) rfl rfl fl_X8_34 dX8_findFars_214 ?_
                refine sv_iload (i := 8) X dX8_findFars_217 rfl ?_
                obtain ⟨hb33, hM29⟩ := fr_chk hM29
                refine sv_iald (j := (fr_ix v13)) X rfl hb33 rfl dX8_findFars_219 ?_
                obtain rfl := fr_i1 hM29
                exact K30
              · replace hM29 := fr_neg hM29 h35
                refine sv_aload_n (i := 0) X dX8_findFars_200 rfl rfl ?_
                refine sv_getr X ix_X8 rfl 18 (by decide) rfl rfl fl_X8_34 dX8_findFars_201 ?_
                refine sv_iload (i := 7) X dX8_findFars_204 rfl ?_
                obtain ⟨hb34, hM29⟩ := fr_chk hM29
                refine sv_iald (j := (fr_ix v11)) X rfl hb34 rfl dX8_findFars_206 ?_
                refine sv_iload (i := 9) X dX8_findFars_207 rfl ?_
                refine sv_iadd X dX8_findFars_209 ?_
                refine sv_goto (tgt := 220) X dX8_findFars_210 (by decide) ?_
                obtain rfl := fr_i1 hM29
                exact K30
            refine sv_icmp_ge (tgt := 166) X dX8_findFars_150 (by decide) (fun h38 => ?_) (fun h38 => ?_)
            · replace hM22 := fr_pos hM22 h38
              refine sv_aload_n (i := 1) X dX8_findFars_166 rfl rfl ?_
              refine sv_getr X ix_X8 rfl 18 (by decide) rfl rfl fl_X8_34 dX8_findFars_167 ?_
              refine sv_iload (i := 8) X dX8_findFars_170 rfl ?_
              obtain ⟨hb36, hM22⟩ := fr_chk hM22
              refine sv_iald (j := (fr_ix v11)) X rfl hb36 rfl dX8_findFars_172 ?_
              obtain rfl := fr_i1 hM22
              exact sv_perm [1, 2, 3, 4, 5, 6, 7, 8, 9, 0] rfl K23
            · replace hM22 := fr_neg hM22 h38
              refine sv_aload_n (i := 1) X dX8_findFars_153 rfl rfl ?_
              refine sv_getr X ix_X8 rfl 18 (by decide) rfl rfl fl_X8_34 dX8_findFars_154 ?_
              refine sv_iload (i := 9) X dX8_findFars_157 rfl ?_
              obtain ⟨hb37, hM22⟩ := fr_chk hM22
              refine sv_iald (j := (fr_ix v13)) X rfl hb37 rfl dX8_findFars_159 ?_
              refine sv_iload (i := 0) X dX8_findFars_160 rfl ?_
              refine sv_iadd X dX8_findFars_162 ?_
              refine sv_goto (tgt := 173) X dX8_findFars_163 (by decide) ?_
              obtain rfl := fr_i1 hM22
              exact sv_perm [1, 2, 3, 4, 5, 6, 7, 8, 9, 0] rfl K23
          refine sv_if_eq (tgt := 123) X dX8_findFars_116 (by decide) (fun h39 => ?_) (fun h39 => ?_)
          · replace hM16 := fr_pos hM16 h39
            refine sv_iload_n (i := 7) X dX8_findFars_123 rfl rfl ?_
            obtain rfl := fr_i1 hM16
            exact sv_perm [4, 5, 6, 7, 8, 3, 2, 1, 0] rfl K17
          · replace hM16 := fr_neg hM16 h39
            refine sv_iconst (v := 0) X dX8_findFars_119 (by decide) ?_
            refine sv_goto (tgt := 124) X dX8_findFars_120 (by decide) ?_
            obtain rfl := fr_i1 hM16
            exact sv_perm [4, 5, 6, 7, 8, 3, 2, 1, 0] rfl K17
        · replace hM7 := fr_pos hM7 h71
          refine sv_iload_n (i := 5) X dX8_findFars_76 rfl rfl ?_
          refine sv_if_le (tgt := 221) X dX8_findFars_77 (by decide) (fun h70 => ?_) (fun h70 => ?_)
          · replace hM7 := fr_pos hM7 h70
            obtain rfl := fr_i1 hM7
            exact sv_perm [2, 3, 4, 5, 6, 1, 0] rfl K8
          · replace hM7 := fr_neg hM7 h70
            refine sv_aload_n (i := 2) X dX8_findFars_80 rfl rfl ?_
            refine sv_getr X ix_X8 rfl 5 (by decide) rfl rfl fl_X8_19 dX8_findFars_81 ?_
            refine sv_bipush (v := 23) X dX8_findFars_84 (by decide) ?_
            refine sv_iload (i := 1) X dX8_findFars_86 rfl ?_
            refine sv_iadd X dX8_findFars_88 ?_
            obtain ⟨hb40, hM7⟩ := fr_chk hM7
            refine sv_iald (j := (fr_ix ((23 : Int32) + v1))) X rfl hb40 rfl dX8_findFars_89 ?_
            refine sv_topi (fun v41 ev41 => ?_)
            replace hM7 := fr_lete hM7 ev41
            refine sv_istore X dX8_findFars_90 (by decide) rfl ?_
            refine sv_aload_n (i := 3) X dX8_findFars_92 rfl rfl ?_
            refine sv_getr X ix_X8 rfl 5 (by decide) rfl rfl fl_X8_19 dX8_findFars_93 ?_
            refine sv_bipush (v := 32) X dX8_findFars_96 (by decide) ?_
            refine sv_iload (i := 2) X dX8_findFars_98 rfl ?_
            refine sv_iadd X dX8_findFars_100 ?_
            obtain ⟨hb42, hM7⟩ := fr_chk hM7
            refine sv_iald (j := (fr_ix ((32 : Int32) + v1))) X rfl hb42 rfl dX8_findFars_101 ?_
            refine sv_topi (fun v43 ev43 => ?_)
            replace hM7 := fr_lete hM7 ev43
            refine sv_istore X dX8_findFars_102 (by decide) rfl ?_
            refine sv_aload_n (i := 4) X dX8_findFars_104 rfl rfl ?_
            refine sv_getr X ix_X8 rfl 5 (by decide) rfl rfl fl_X8_19 dX8_findFars_105 ?_
            refine sv_bipush (v := 41) X dX8_findFars_108 (by decide) ?_
            refine sv_iload (i := 3) X dX8_findFars_110 rfl ?_
            refine sv_iadd X dX8_findFars_112 ?_
            obtain ⟨hb44, hM7⟩ := fr_chk hM7
            refine sv_iald (j := (fr_ix ((41 : Int32) + v1))) X rfl hb44 rfl dX8_findFars_113 ?_
            refine sv_iload (i := 2) X dX8_findFars_114 rfl ?_
            obtain ⟨v45, hM46, hM7⟩ := fr_bS_some hM7
            have K47 : fr_V p l e (fr_rm 1) s m args below meth c g Q 10 s3 124 [(0, .ref (g.2.1 59)), (1, .int k1), (2, .int k2), (3, .int k3), (4, .int x4), (5, .int v1), (6, .int v5), (7, .int v41), (8, .int v43)] [.int v45, .int (s3 63 (fr_ix ((41 : Int32) + v1)))] := by
              refine sv_iadd X dX8_findFars_124 ?_
              refine sv_topi (fun v48 ev48 => ?_)
              replace hM7 := fr_lete hM7 ev48
              refine sv_istore X dX8_findFars_125 (by decide) rfl ?_
              refine sv_aload_n (i := 1) X dX8_findFars_127 rfl rfl ?_
              refine sv_getr X ix_X8 rfl 18 (by decide) rfl rfl fl_X8_34 dX8_findFars_128 ?_
              refine sv_iload (i := 8) X dX8_findFars_131 rfl ?_
              refine sv_aload_n (i := 1) X dX8_findFars_133 rfl rfl ?_
              refine sv_getr X ix_X8 rfl 18 (by decide) rfl rfl fl_X8_34 dX8_findFars_134 ?_
              refine sv_iload (i := 9) X dX8_findFars_137 rfl ?_
              obtain ⟨hb49, hM7⟩ := fr_chk hM7
              refine sv_iald (j := (fr_ix v43)) X rfl hb49 rfl dX8_findFars_139 ?_
              refine sv_iload (i := 0) X dX8_findFars_140 rfl ?_
              refine sv_iadd X dX8_findFars_142 ?_
              refine sv_aload_n (i := 1) X dX8_findFars_143 rfl rfl ?_
              refine sv_getr X ix_X8 rfl 18 (by decide) rfl rfl fl_X8_34 dX8_findFars_144 ?_
              refine sv_iload (i := 8) X dX8_findFars_147 rfl ?_
              obtain ⟨hb50, hM7⟩ := fr_chk hM7
              refine sv_iald (j := (fr_ix v41)) X rfl hb50 rfl dX8_findFars_149 ?_
              obtain ⟨v51, hM52, hM7⟩ := fr_bS_some hM7
              have K53 : fr_V p l e (fr_rm 1) s m args below meth c g Q 10 s3 173 [(0, .ref (g.2.1 59)), (1, .int k1), (2, .int k2), (3, .int k3), (4, .int x4), (5, .int v1), (6, .int v5), (7, .int v41), (8, .int v43), (9, .int v48)] [.int v51, .int v41, .ref (g.2.1 68)] := by
                obtain ⟨hb54, hM7⟩ := fr_chk hM7
                refine sv_iast (j := (fr_ix v41)) X rfl hb54 rfl dX8_findFars_173 ?_
                refine sv_sig (fun s55 es55 => ?_)
                replace hM7 := fr_lete hM7 es55
                refine sv_aload_n (i := 0) X dX8_findFars_174 rfl rfl ?_
                refine sv_getr X ix_X8 rfl 18 (by decide) rfl rfl fl_X8_34 dX8_findFars_175 ?_
                refine sv_iload (i := 8) X dX8_findFars_178 rfl ?_
                refine sv_aload_n (i := 0) X dX8_findFars_180 rfl rfl ?_
                refine sv_getr X ix_X8 rfl 18 (by decide) rfl rfl fl_X8_34 dX8_findFars_181 ?_
                refine sv_iload (i := 7) X dX8_findFars_184 rfl ?_
                obtain ⟨hb56, hM7⟩ := fr_chk hM7
                refine sv_iald (j := (fr_ix v41)) X rfl hb56 rfl dX8_findFars_186 ?_
                refine sv_iload (i := 9) X dX8_findFars_187 rfl ?_
                refine sv_iadd X dX8_findFars_189 ?_
                refine sv_aload_n (i := 0) X dX8_findFars_190 rfl rfl ?_
                refine sv_getr X ix_X8 rfl 18 (by decide) rfl rfl fl_X8_34 dX8_findFars_191 ?_
                refine sv_iload (i := 8) X dX8_findFars_194 rfl ?_
                obtain ⟨hb57, hM7⟩ := fr_chk hM7
                refine sv_iald (j := (fr_ix v43)) X rfl hb57 rfl dX8_findFars_196 ?_
                obtain ⟨v58, hM59, hM7⟩ := fr_bS_some hM7
                have K60 : fr_V p l e (fr_rm 1) s m args below meth c g Q 10 s55 220 [(0, .ref (g.2.1 59)), (1, .int k1), (2, .int k2), (3, .int k3), (4, .int x4), (5, .int v1), (6, .int v5), (7, .int v41), (8, .int v43), (9, .int v48)] [.int v58, .int v43, .ref (g.2.1 68)] := by
                  obtain ⟨hb61, hM7⟩ := fr_chk hM7
                  refine sv_iast (j := (fr_ix v43)) X rfl hb61 rfl dX8_findFars_220 ?_
                  refine sv_sig (fun s62 es62 => ?_)
                  replace hM7 := fr_lete hM7 es62
                  obtain rfl := fr_i1 hM7
                  exact sv_perm [0, 1, 2, 3, 4, 5, 6] rfl K8
                refine sv_icmp_ge (tgt := 213) X dX8_findFars_197 (by decide) (fun h65 => ?_) (fun h65 => ?_)
                · replace hM59 := fr_pos hM59 h65
                  refine sv_aload_n (i := 0) X dX8_findFars_213 rfl rfl ?_
                  refine sv_getr X ix_X8 rfl 18 (by decide) rfl rfl fl_X8_34 dX8_findFars_214 ?_
                  refine sv_iload (i := 8) X dX8_findFars_217 rfl ?_
                  obtain ⟨hb63, hM59⟩ := fr_chk hM59
                  refine sv_iald (j := (fr_ix v43)) X rfl hb63 rfl dX8_findFars_219 ?_
                  obtain rfl := fr_i1 hM59
                  exact K60
                · replace hM59 := fr_neg hM59 h65
                  refine sv_aload_n (i := 0) X dX8_findFars_200 rfl rfl ?_
                  refine sv_getr X ix_X8 rfl 18 (by decide) rfl rfl fl_X8_34 dX8_findFars_201 ?_
                  refine sv_iload (i := 7) X dX8_findFars_204 rfl ?_
                  obtain ⟨hb64, hM59⟩ := fr_chk hM59
                  refine sv_iald (j := (fr_ix v41)) X rfl hb64 rfl dX8_findFars_206 ?_
                  refine sv_iload (i := 9) X dX8_findFars_207 rfl ?_
                  refine sv_iadd X dX8_findFars_209 ?_
                  refine sv_goto (tgt := 220) X dX8_findFars_210 (by decide) ?_
                  obtain rfl := fr_i1 hM59
                  exact K60
              refine sv_icmp_ge (tgt := 166) X dX8_findFars_150 (by decide) (fun h68 => ?_) (fun h68 => ?_)
              · replace hM52 := fr_pos hM52 h68
                refine sv_aload_n (i := 1) X dX8_findFars_166 rfl rfl ?_
                refine sv_getr X ix_X8 rfl 18 (by decide) rfl rfl fl_X8_34 dX8_findFars_167 ?_
                refine sv_iload (i := 8) X dX8_findFars_170 rfl ?_
                obtain ⟨hb66, hM52⟩ := fr_chk hM52
                refine sv_iald (j := (fr_ix v41)) X rfl hb66 rfl dX8_findFars_172 ?_
                obtain rfl := fr_i1 hM52
                exact sv_perm [1, 2, 3, 4, 5, 6, 7, 8, 9, 0] rfl K53
              · replace hM52 := fr_neg hM52 h68
                refine sv_aload_n (i := 1) X dX8_findFars_153 rfl rfl ?_
                refine sv_getr X ix_X8 rfl 18 (by decide) rfl rfl fl_X8_34 dX8_findFars_154 ?_
                refine sv_iload (i := 9) X dX8_findFars_157 rfl ?_
                obtain ⟨hb67, hM52⟩ := fr_chk hM52
                refine sv_iald (j := (fr_ix v43)) X rfl hb67 rfl dX8_findFars_159 ?_
                refine sv_iload (i := 0) X dX8_findFars_160 rfl ?_
                refine sv_iadd X dX8_findFars_162 ?_
                refine sv_goto (tgt := 173) X dX8_findFars_163 (by decide) ?_
                obtain rfl := fr_i1 hM52
                exact sv_perm [1, 2, 3, 4, 5, 6, 7, 8, 9, 0] rfl K53
            refine sv_if_eq (tgt := 123) X dX8_findFars_116 (by decide) (fun h69 => ?_) (fun h69 => ?_)
            · replace hM46 := fr_pos hM46 h69
              refine sv_iload_n (i := 7) X dX8_findFars_123 rfl rfl ?_
              obtain rfl := fr_i1 hM46
              exact sv_perm [4, 5, 6, 7, 8, 3, 2, 1, 0] rfl K47
            · replace hM46 := fr_neg hM46 h69
              refine sv_iconst (v := 0) X dX8_findFars_119 (by decide) ?_
              refine sv_goto (tgt := 124) X dX8_findFars_120 (by decide) ?_
              obtain rfl := fr_i1 hM46
              exact sv_perm [4, 5, 6, 7, 8, 3, 2, 1, 0] rfl K47
def F_X8_findFars (a1 : Int32) (a2 : Int32) (a3 : Int32) (σ : fr_St) : Option fr_St := fr_bP (L_X8_findFars_3 a1 fr_fu (0 : Int32) σ) (fun v1 s2 => fr_bP (L_X8_findFars_38 a2 a3 fr_fu (0 : Int32) s2) (fun v4 s5 => some s5))
set_option maxRecDepth 100000 in
set_option maxHeartbeats 4000000 in
theorem b_X8_findFars {p : Program} {l : Launch} {e : Env} {s : State} {m : MethodId} {args : Array Value} {below : List Frame} {meth : Method} {c : Code} {g : fr_G} {Q : State → Prop} (X : fr_X p s m args meth c g cX8_findFars RX8 10) (hr : meth.sig.returnType = (Option.none : Option Jvm.ClassFile.FieldType)) {a1 : Int32} {a2 : Int32} {a3 : Int32}  {σ τ : fr_St} (hQ : Q = fr_Qv below args s g τ) (hF : F_X8_findFars a1 a2 a3 σ = some τ) : fr_V p l e (fr_rm 1) s m args below meth c g Q 10 σ 0 [(0, .ref (g.2.1 59)), (1, .int a1), (2, .int a2), (3, .int a3)] [] := by
  unfold F_X8_findFars at hF
  refine sv_iconst (v := 0) X dX8_findFars_0 (by decide) ?_
  refine sv_istore X dX8_findFars_1 (by decide) rfl ?_
  refine sv_perm [1, 2, 3, 4, 0] rfl ?_
  obtain ⟨v1, s2, hl3, hF⟩ := fr_bP_some hF
  refine wL_X8_findFars_3 X  a1 a2 a3 ?_ fr_fu _ _ hl3
  refine sv_iconst (v := 0) X dX8_findFars_35 (by decide) ?_
  refine sv_istore X dX8_findFars_36 (by decide) rfl ?_
  refine sv_perm [1, 2, 3, 4, 0] rfl ?_
  obtain ⟨v4, s5, hl6, hF⟩ := fr_bP_some hF
  refine wL_X8_findFars_38 X  a1 a2 a3 ?_ fr_fu _ _ hl6
  exact sv_vret X hr hQ dX8_findFars_227 hF
theorem c_X8_findFars {l : Launch} {g : fr_G} {a1 : Int32} {a2 : Int32} {a3 : Int32}  {σ τ : fr_St} (hF : F_X8_findFars a1 a2 a3 σ = some τ) : fr_Cv l g yX8_findFars (fr_ws yX8_findFars cX8_findFars 10 (Option.none : Option Jvm.ClassFile.FieldType)) 1 [.ref (g.2.1 59), .int a1, .int a2, .int a3] σ τ := fr_mv (by decide) (Nat.le_of_ble_eq_true rfl) (fun p e s m below meth c X hr => b_X8_findFars X hr  rfl hF)
def F_X8_orNone (a1 : Int32) (σ : fr_St) : Option (Int32 × fr_St) := fr_bS (if a1 < (100000 : Int32) then (some (a1)) else (some ((-1000000 : Int32)))) (fun v1 => some (v1, σ))
set_option maxRecDepth 100000 in
set_option maxHeartbeats 4000000 in
theorem b_X8_orNone {p : Program} {l : Launch} {e : Env} {s : State} {m : MethodId} {args : Array Value} {below : List Frame} {meth : Method} {c : Code} {g : fr_G} {Q : State → Prop} (X : fr_X p s m args meth c g cX8_orNone RX8 1) (hr : meth.sig.returnType = (some .int)) {a1 : Int32}  {σ τ : fr_St} {r : Int32} (hQ : Q = fr_Qi below args s g r τ) (hF : F_X8_orNone a1 σ = some (r, τ)) : fr_V p l e (fr_rm 0) s m args below meth c g Q 1 σ 0 [(0, .int a1)] [] := by
  unfold F_X8_orNone at hF
  refine sv_iload_n (i := 0) X dX8_orNone_0 rfl rfl ?_
  refine sv_ldc X kn_X8_204 dX8_orNone_1 ?_
  obtain ⟨v1, hM2, hF⟩ := fr_bS_some hF
  have K3 : fr_V p l e (fr_rm 0) s m args below meth c g Q 1 σ 12 [(0, .int a1)] [.int v1] := by
    exact sv_iret X hr hQ dX8_orNone_12 hF
  refine sv_icmp_lt (tgt := 11) X dX8_orNone_3 (by decide) (fun h4 => ?_) (fun h4 => ?_)
  · replace hM2 := fr_pos hM2 h4
    refine sv_iload_n (i := 0) X dX8_orNone_11 rfl rfl ?_
    obtain rfl := fr_i1 hM2
    exact K3
  · replace hM2 := fr_neg hM2 h4
    refine sv_ldc X kn_X8_134 dX8_orNone_6 ?_
    refine sv_goto (tgt := 12) X dX8_orNone_8 (by decide) ?_
    obtain rfl := fr_i1 hM2
    exact K3
theorem c_X8_orNone {l : Launch} {g : fr_G} {a1 : Int32}  {σ τ : fr_St} {r : Int32} (hF : F_X8_orNone a1 σ = some (r, τ)) : fr_Ci l g yX8_orNone (fr_ws yX8_orNone cX8_orNone 1 (some .int)) 0 [.int a1] σ r τ := fr_mi (by decide) (Nat.le_of_ble_eq_true rfl) (fun p e s m below meth c X hr => b_X8_orNone X hr  rfl hF)
def F_X8_way (a1 : Int32) (a2 : Int32) (σ : fr_St) : Option (Int32 × fr_St) := fr_bP (F_X8_isPerson a1 σ) (fun b3 s2 => if (fr_bi b3) = 0 then (some ((-1000001 : Int32), s2)) else (fr_bP (F_X8_isPlace a2 s2) (fun b6 s5 => if (fr_bi b6) = 0 then (some ((-1000001 : Int32), s5)) else (if fr_ib ((6 : Int32) + a1) 122 = true then fr_bP (F_X8_soleOf a1 s5) (fun r10 s9 => fr_bP (F_X8_openTo r10 s9) (fun r13 s12 => fr_bS (F_X8_findFars (s5 63 (fr_ix ((6 : Int32) + a1))) r13 (0 : Int32) s12) (fun s15 => if fr_ib a2 8 = true then fr_bP (F_X8_orNone (s15 68 (fr_ix a2)) s15) (fun r19 s18 => some (r19, s18)) else none))) else none))))
set_option maxRecDepth 100000 in
set_option maxHeartbeats 4000000 in
theorem b_X8_way {p : Program} {l : Launch} {e : Env} {s : State} {m : MethodId} {args : Array Value} {below : List Frame} {meth : Method} {c : Code} {g : fr_G} {Q : State → Prop} (X : fr_X p s m args meth c g cX8_way RX8 3) (hr : meth.sig.returnType = (some .int)) {a1 : Int32} {a2 : Int32}  {σ τ : fr_St} {r : Int32} (hQ : Q = fr_Qi below args s g r τ) (hF : F_X8_way a1 a2 σ = some (r, τ)) : fr_V p l e (fr_rm 4) s m args below meth c g Q 3 σ 0 [(0, .ref (g.2.1 59)), (1, .int a1), (2, .int a2)] [] := by
  unfold F_X8_way at hF
  refine sv_aload_n (i := 0) X dX8_way_0 rfl rfl ?_
  refine sv_iload_n (i := 1) X dX8_way_1 rfl rfl ?_
  obtain ⟨b3, s2, hc1, hF⟩ := fr_bP_some hF
  refine sv_callVi X (c_X8_isPerson hc1) cd_X8_isPerson ml_X8_156 im_X8_isPerson se_X8_isPerson in_RX8 hd_X8_isPerson rfl rfl (by decide) rfl (Nat.le_of_ble_eq_true rfl) dX8_way_2 rfl ?_
  refine sv_if_eq (tgt := 16) X dX8_way_5 (by decide) (fun h21 => ?_) (fun h21 => ?_)
  · replace hF := fr_pos hF h21
    refine sv_ldc X kn_X8_73 dX8_way_16 ?_
    exact sv_iret X hr hQ dX8_way_18 hF
  · replace hF := fr_neg hF h21
    refine sv_aload_n (i := 0) X dX8_way_8 rfl rfl ?_
    refine sv_iload_n (i := 2) X dX8_way_9 rfl rfl ?_
    obtain ⟨b6, s5, hc4, hF⟩ := fr_bP_some hF
    refine sv_callVi X (c_X8_isPlace hc4) cd_X8_isPlace ml_X8_205 im_X8_isPlace se_X8_isPlace in_RX8 hd_X8_isPlace rfl rfl (by decide) rfl (Nat.le_of_ble_eq_true rfl) dX8_way_10 rfl ?_
    refine sv_if_ne (tgt := 19) X dX8_way_13 (by decide) (fun h20 => ?_) (fun h20 => ?_)
    · replace hF := fr_neg hF h20
      refine sv_aload_n (i := 0) X dX8_way_19 rfl rfl ?_
      refine sv_aload_n (i := 0) X dX8_way_20 rfl rfl ?_
      refine sv_getr X ix_X8 rfl 5 (by decide) rfl rfl fl_X8_19 dX8_way_21 ?_
      refine sv_bipush (v := 6) X dX8_way_24 (by decide) ?_
      refine sv_iload_n (i := 1) X dX8_way_26 rfl rfl ?_
      refine sv_iadd X dX8_way_27 ?_
      obtain ⟨hb7, hF⟩ := fr_chk hF
      refine sv_iald (j := (fr_ix ((6 : Int32) + a1))) X rfl hb7 rfl dX8_way_28 ?_
      refine sv_aload_n (i := 0) X dX8_way_29 rfl rfl ?_
      refine sv_aload_n (i := 0) X dX8_way_30 rfl rfl ?_
      refine sv_iload_n (i := 1) X dX8_way_31 rfl rfl ?_
      obtain ⟨r10, s9, hc8, hF⟩ := fr_bP_some hF
      refine sv_callVi X (c_X8_soleOf hc8) cd_X8_soleOf ml_X8_175 im_X8_soleOf se_X8_soleOf in_RX8 hd_X8_soleOf rfl rfl (by decide) rfl (Nat.le_of_ble_eq_true rfl) dX8_way_32 rfl ?_
      obtain ⟨r13, s12, hc11, hF⟩ := fr_bP_some hF
      refine sv_callVi X (c_X8_openTo hc11) cd_X8_openTo ml_X8_195 im_X8_openTo se_X8_openTo in_RX8 hd_X8_openTo rfl rfl (by decide) rfl (Nat.le_of_ble_eq_true rfl) dX8_way_35 rfl ?_
      refine sv_iconst (v := 0) X dX8_way_38 (by decide) ?_
      obtain ⟨s15, hc14, hF⟩ := fr_bS_some hF
      refine sv_callVv X (c_X8_findFars hc14) cd_X8_findFars ml_X8_208 im_X8_findFars se_X8_findFars in_RX8 hd_X8_findFars rfl rfl (by decide) rfl (Nat.le_of_ble_eq_true rfl) dX8_way_39 rfl ?_
      refine sv_aload_n (i := 0) X dX8_way_42 rfl rfl ?_
      refine sv_getr X ix_X8 rfl 18 (by decide) rfl rfl fl_X8_34 dX8_way_43 ?_
      refine sv_iload_n (i := 2) X dX8_way_46 rfl rfl ?_
      obtain ⟨hb16, hF⟩ := fr_chk hF
      refine sv_iald (j := (fr_ix a2)) X rfl hb16 rfl dX8_way_47 ?_
      obtain ⟨r19, s18, hc17, hF⟩ := fr_bP_some hF
      refine sv_callSi X (c_X8_orNone hc17) cd_X8_orNone ml_X8_212 sm_X8_orNone in_RX8 hd_X8_orNone (by decide) rfl (Nat.le_of_ble_eq_true rfl) dX8_way_48 rfl ?_
      exact sv_iret X hr hQ dX8_way_51 hF
    · replace hF := fr_pos hF h20
      refine sv_ldc X kn_X8_73 dX8_way_16 ?_
      exact sv_iret X hr hQ dX8_way_18 hF
theorem c_X8_way {l : Launch} {g : fr_G} {a1 : Int32} {a2 : Int32}  {σ τ : fr_St} {r : Int32} (hF : F_X8_way a1 a2 σ = some (r, τ)) : fr_Ci l g yX8_way (fr_ws yX8_way cX8_way 3 (some .int)) 4 [.ref (g.2.1 59), .int a1, .int a2] σ r τ := fr_mi (by decide) (Nat.le_of_ble_eq_true rfl) (fun p e s m below meth c X hr => b_X8_way X hr  rfl hF)
def F_X8_led (a1 : Int32) (a2 : Int32) (a3 : Int32) (σ : fr_St) : Option (Int32 × fr_St) := fr_bP (F_X8_areTwo a1 a2 σ) (fun b3 s2 => if (fr_bi b3) = 0 then (some ((-1000001 : Int32), s2)) else (fr_bP (F_X8_isPlace a3 s2) (fun b6 s5 => if (fr_bi b6) = 0 then (some ((-1000001 : Int32), s5)) else (if fr_ib ((6 : Int32) + a1) 122 = true then fr_bP (F_X8_soleOf a1 s5) (fun r10 s9 => fr_bP (F_X8_openTo r10 s9) (fun r13 s12 => fr_bP (F_X8_soleOf a2 s12) (fun r16 s15 => fr_bP (F_X8_openTo r16 s15) (fun r19 s18 => fr_bS (F_X8_findFars (s5 63 (fr_ix ((6 : Int32) + a1))) (r13 ||| r19) (0 : Int32) s18) (fun s21 => if fr_ib a3 8 = true then fr_bP (F_X8_orNone (s21 68 (fr_ix a3)) s21) (fun r25 s24 => some (r25, s24)) else none))))) else none))))
set_option maxRecDepth 100000 in
set_option maxHeartbeats 4000000 in
theorem b_X8_led {p : Program} {l : Launch} {e : Env} {s : State} {m : MethodId} {args : Array Value} {below : List Frame} {meth : Method} {c : Code} {g : fr_G} {Q : State → Prop} (X : fr_X p s m args meth c g cX8_led RX8 4) (hr : meth.sig.returnType = (some .int)) {a1 : Int32} {a2 : Int32} {a3 : Int32}  {σ τ : fr_St} {r : Int32} (hQ : Q = fr_Qi below args s g r τ) (hF : F_X8_led a1 a2 a3 σ = some (r, τ)) : fr_V p l e (fr_rm 4) s m args below meth c g Q 4 σ 0 [(0, .ref (g.2.1 59)), (1, .int a1), (2, .int a2), (3, .int a3)] [] := by
  unfold F_X8_led at hF
  refine sv_aload_n (i := 0) X dX8_led_0 rfl rfl ?_
  refine sv_iload_n (i := 1) X dX8_led_1 rfl rfl ?_
  refine sv_iload_n (i := 2) X dX8_led_2 rfl rfl ?_
  obtain ⟨b3, s2, hc1, hF⟩ := fr_bP_some hF
  refine sv_callVi X (c_X8_areTwo hc1) cd_X8_areTwo ml_X8_192 im_X8_areTwo se_X8_areTwo in_RX8 hd_X8_areTwo rfl rfl (by decide) rfl (Nat.le_of_ble_eq_true rfl) dX8_led_3 rfl ?_
  refine sv_if_eq (tgt := 17) X dX8_led_6 (by decide) (fun h27 => ?_) (fun h27 => ?_)
  · replace hF := fr_pos hF h27
    refine sv_ldc X kn_X8_73 dX8_led_17 ?_
    exact sv_iret X hr hQ dX8_led_19 hF
  · replace hF := fr_neg hF h27
    refine sv_aload_n (i := 0) X dX8_led_9 rfl rfl ?_
    refine sv_iload_n (i := 3) X dX8_led_10 rfl rfl ?_
    obtain ⟨b6, s5, hc4, hF⟩ := fr_bP_some hF
    refine sv_callVi X (c_X8_isPlace hc4) cd_X8_isPlace ml_X8_205 im_X8_isPlace se_X8_isPlace in_RX8 hd_X8_isPlace rfl rfl (by decide) rfl (Nat.le_of_ble_eq_true rfl) dX8_led_11 rfl ?_
    refine sv_if_ne (tgt := 20) X dX8_led_14 (by decide) (fun h26 => ?_) (fun h26 => ?_)
    · replace hF := fr_neg hF h26
      refine sv_aload_n (i := 0) X dX8_led_20 rfl rfl ?_
      refine sv_aload_n (i := 0) X dX8_led_21 rfl rfl ?_
      refine sv_getr X ix_X8 rfl 5 (by decide) rfl rfl fl_X8_19 dX8_led_22 ?_
      refine sv_bipush (v := 6) X dX8_led_25 (by decide) ?_
      refine sv_iload_n (i := 1) X dX8_led_27 rfl rfl ?_
      refine sv_iadd X dX8_led_28 ?_
      obtain ⟨hb7, hF⟩ := fr_chk hF
      refine sv_iald (j := (fr_ix ((6 : Int32) + a1))) X rfl hb7 rfl dX8_led_29 ?_
      refine sv_aload_n (i := 0) X dX8_led_30 rfl rfl ?_
      refine sv_aload_n (i := 0) X dX8_led_31 rfl rfl ?_
      refine sv_iload_n (i := 1) X dX8_led_32 rfl rfl ?_
      obtain ⟨r10, s9, hc8, hF⟩ := fr_bP_some hF
      refine sv_callVi X (c_X8_soleOf hc8) cd_X8_soleOf ml_X8_175 im_X8_soleOf se_X8_soleOf in_RX8 hd_X8_soleOf rfl rfl (by decide) rfl (Nat.le_of_ble_eq_true rfl) dX8_led_33 rfl ?_
      obtain ⟨r13, s12, hc11, hF⟩ := fr_bP_some hF
      refine sv_callVi X (c_X8_openTo hc11) cd_X8_openTo ml_X8_195 im_X8_openTo se_X8_openTo in_RX8 hd_X8_openTo rfl rfl (by decide) rfl (Nat.le_of_ble_eq_true rfl) dX8_led_36 rfl ?_
      refine sv_aload_n (i := 0) X dX8_led_39 rfl rfl ?_
      refine sv_aload_n (i := 0) X dX8_led_40 rfl rfl ?_
      refine sv_iload_n (i := 2) X dX8_led_41 rfl rfl ?_
      obtain ⟨r16, s15, hc14, hF⟩ := fr_bP_some hF
      refine sv_callVi X (c_X8_soleOf hc14) cd_X8_soleOf ml_X8_175 im_X8_soleOf se_X8_soleOf in_RX8 hd_X8_soleOf rfl rfl (by decide) rfl (Nat.le_of_ble_eq_true rfl) dX8_led_42 rfl ?_
      obtain ⟨r19, s18, hc17, hF⟩ := fr_bP_some hF
      refine sv_callVi X (c_X8_openTo hc17) cd_X8_openTo ml_X8_195 im_X8_openTo se_X8_openTo in_RX8 hd_X8_openTo rfl rfl (by decide) rfl (Nat.le_of_ble_eq_true rfl) dX8_led_45 rfl ?_
      refine sv_ior X dX8_led_48 ?_
      refine sv_iconst (v := 0) X dX8_led_49 (by decide) ?_
      obtain ⟨s21, hc20, hF⟩ := fr_bS_some hF
      refine sv_callVv X (c_X8_findFars hc20) cd_X8_findFars ml_X8_208 im_X8_findFars se_X8_findFars in_RX8 hd_X8_findFars rfl rfl (by decide) rfl (Nat.le_of_ble_eq_true rfl) dX8_led_50 rfl ?_
      refine sv_aload_n (i := 0) X dX8_led_53 rfl rfl ?_
      refine sv_getr X ix_X8 rfl 18 (by decide) rfl rfl fl_X8_34 dX8_led_54 ?_
      refine sv_iload_n (i := 3) X dX8_led_57 rfl rfl ?_
      obtain ⟨hb22, hF⟩ := fr_chk hF
      refine sv_iald (j := (fr_ix a3)) X rfl hb22 rfl dX8_led_58 ?_
      obtain ⟨r25, s24, hc23, hF⟩ := fr_bP_some hF
      refine sv_callSi X (c_X8_orNone hc23) cd_X8_orNone ml_X8_212 sm_X8_orNone in_RX8 hd_X8_orNone (by decide) rfl (Nat.le_of_ble_eq_true rfl) dX8_led_59 rfl ?_
      exact sv_iret X hr hQ dX8_led_62 hF
    · replace hF := fr_pos hF h26
      refine sv_ldc X kn_X8_73 dX8_led_17 ?_
      exact sv_iret X hr hQ dX8_led_19 hF
theorem c_X8_led {l : Launch} {g : fr_G} {a1 : Int32} {a2 : Int32} {a3 : Int32}  {σ τ : fr_St} {r : Int32} (hF : F_X8_led a1 a2 a3 σ = some (r, τ)) : fr_Ci l g yX8_led (fr_ws yX8_led cX8_led 4 (some .int)) 4 [.ref (g.2.1 59), .int a1, .int a2, .int a3] σ r τ := fr_mi (by decide) (Nat.le_of_ble_eq_true rfl) (fun p e s m below meth c X hr => b_X8_led X hr  rfl hF)
def F_X8_introduced (a1 : Int32) (a2 : Int32) (a3 : Int32) (σ : fr_St) : Option (Int32 × fr_St) := fr_bP (F_X8_isPerson a1 σ) (fun b3 s2 => if (fr_bi b3) = 0 then (some ((-1000001 : Int32), s2)) else (fr_bP (F_X8_isPlace a2 s2) (fun b6 s5 => if (fr_bi b6) = 0 then (some ((-1000001 : Int32), s5)) else (fr_bP (F_X8_in (a3.toInt64) (0 : Int64) (1 : Int64) s5) (fun b9 s8 => if (fr_bi b9) = 0 then (some ((-1000001 : Int32), s8)) else (if fr_ib ((6 : Int32) + a1) 122 = true then fr_bP (F_X8_soleOf a1 s8) (fun r13 s12 => fr_bP (F_X8_openTo r13 s12) (fun r16 s15 => fr_bS (F_X8_findFars (s8 63 (fr_ix ((6 : Int32) + a1))) r16 (1000 : Int32) s15) (fun s18 => if fr_ib a2 8 = true then fr_bS (if (s18 68 (fr_ix a2)) < (100000 : Int32) then (if a3 = 0 then (if fr_ib a2 8 = true then some (((s18 68 (fr_ix a2)) / (1000 : Int32))) else none) else (if fr_ib a2 8 = true then some (((s18 68 (fr_ix a2)) - (s18 68 (fr_ix a2)) / (1000 : Int32) * (1000 : Int32))) else none)) else (some ((-1000000 : Int32)))) (fun v20 => some (v20, s18)) else none))) else none))))))
set_option maxRecDepth 100000 in
set_option maxHeartbeats 4000000 in
theorem b_X8_introduced {p : Program} {l : Launch} {e : Env} {s : State} {m : MethodId} {args : Array Value} {below : List Frame} {meth : Method} {c : Code} {g : fr_G} {Q : State → Prop} (X : fr_X p s m args meth c g cX8_introduced RX8 4) (hr : meth.sig.returnType = (some .int)) {a1 : Int32} {a2 : Int32} {a3 : Int32}  {σ τ : fr_St} {r : Int32} (hQ : Q = fr_Qi below args s g r τ) (hF : F_X8_introduced a1 a2 a3 σ = some (r, τ)) : fr_V p l e (fr_rm 4) s m args below meth c g Q 4 σ 0 [(0, .ref (g.2.1 59)), (1, .int a1), (2, .int a2), (3, .int a3)] [] := by
  unfold F_X8_introduced at hF
  refine sv_aload_n (i := 0) X dX8_introduced_0 rfl rfl ?_
  refine sv_iload_n (i := 1) X dX8_introduced_1 rfl rfl ?_
  obtain ⟨b3, s2, hc1, hF⟩ := fr_bP_some hF
  refine sv_callVi X (c_X8_isPerson hc1) cd_X8_isPerson ml_X8_156 im_X8_isPerson se_X8_isPerson in_RX8 hd_X8_isPerson rfl rfl (by decide) rfl (Nat.le_of_ble_eq_true rfl) dX8_introduced_2 rfl ?_
  refine sv_if_eq (tgt := 26) X dX8_introduced_5 (by decide) (fun h29 => ?_) (fun h29 => ?_)
  · replace hF := fr_pos hF h29
    refine sv_ldc X kn_X8_73 dX8_introduced_26 ?_
    exact sv_iret X hr hQ dX8_introduced_28 hF
  · replace hF := fr_neg hF h29
    refine sv_aload_n (i := 0) X dX8_introduced_8 rfl rfl ?_
    refine sv_iload_n (i := 2) X dX8_introduced_9 rfl rfl ?_
    obtain ⟨b6, s5, hc4, hF⟩ := fr_bP_some hF
    refine sv_callVi X (c_X8_isPlace hc4) cd_X8_isPlace ml_X8_205 im_X8_isPlace se_X8_isPlace in_RX8 hd_X8_isPlace rfl rfl (by decide) rfl (Nat.le_of_ble_eq_true rfl) dX8_introduced_10 rfl ?_
    refine sv_if_eq (tgt := 26) X dX8_introduced_13 (by decide) (fun h28 => ?_) (fun h28 => ?_)
    · replace hF := fr_pos hF h28
      refine sv_ldc X kn_X8_73 dX8_introduced_26 ?_
      exact sv_iret X hr hQ dX8_introduced_28 hF
    · replace hF := fr_neg hF h28
      refine sv_iload_n (i := 3) X dX8_introduced_16 rfl rfl ?_
      refine sv_i2l X dX8_introduced_17 ?_
      refine sv_lconst (v := 0) X dX8_introduced_18 (by decide) ?_
      refine sv_lconst (v := 1) X dX8_introduced_19 (by decide) ?_
      obtain ⟨b9, s8, hc7, hF⟩ := fr_bP_some hF
      refine sv_callSi X (c_X8_in hc7) cd_X8_in ml_X8_63 sm_X8_in in_RX8 hd_X8_in (by decide) rfl (Nat.le_of_ble_eq_true rfl) dX8_introduced_20 rfl ?_
      refine sv_if_ne (tgt := 29) X dX8_introduced_23 (by decide) (fun h27 => ?_) (fun h27 => ?_)
      · replace hF := fr_neg hF h27
        refine sv_aload_n (i := 0) X dX8_introduced_29 rfl rfl ?_
        refine sv_aload_n (i := 0) X dX8_introduced_30 rfl rfl ?_
        refine sv_getr X ix_X8 rfl 5 (by decide) rfl rfl fl_X8_19 dX8_introduced_31 ?_
        refine sv_bipush (v := 6) X dX8_introduced_34 (by decide) ?_
        refine sv_iload_n (i := 1) X dX8_introduced_36 rfl rfl ?_
        refine sv_iadd X dX8_introduced_37 ?_
        obtain ⟨hb10, hF⟩ := fr_chk hF
        refine sv_iald (j := (fr_ix ((6 : Int32) + a1))) X rfl hb10 rfl dX8_introduced_38 ?_
        refine sv_aload_n (i := 0) X dX8_introduced_39 rfl rfl ?_
        refine sv_aload_n (i := 0) X dX8_introduced_40 rfl rfl ?_
        refine sv_iload_n (i := 1) X dX8_introduced_41 rfl rfl ?_
        obtain ⟨r13, s12, hc11, hF⟩ := fr_bP_some hF
        refine sv_callVi X (c_X8_soleOf hc11) cd_X8_soleOf ml_X8_175 im_X8_soleOf se_X8_soleOf in_RX8 hd_X8_soleOf rfl rfl (by decide) rfl (Nat.le_of_ble_eq_true rfl) dX8_introduced_42 rfl ?_
        obtain ⟨r16, s15, hc14, hF⟩ := fr_bP_some hF
        refine sv_callVi X (c_X8_openTo hc14) cd_X8_openTo ml_X8_195 im_X8_openTo se_X8_openTo in_RX8 hd_X8_openTo rfl rfl (by decide) rfl (Nat.le_of_ble_eq_true rfl) dX8_introduced_45 rfl ?_
        refine sv_sipush (v := 1000) X dX8_introduced_48 (by decide) ?_
        obtain ⟨s18, hc17, hF⟩ := fr_bS_some hF
        refine sv_callVv X (c_X8_findFars hc17) cd_X8_findFars ml_X8_208 im_X8_findFars se_X8_findFars in_RX8 hd_X8_findFars rfl rfl (by decide) rfl (Nat.le_of_ble_eq_true rfl) dX8_introduced_51 rfl ?_
        refine sv_aload_n (i := 0) X dX8_introduced_54 rfl rfl ?_
        refine sv_getr X ix_X8 rfl 18 (by decide) rfl rfl fl_X8_34 dX8_introduced_55 ?_
        refine sv_iload_n (i := 2) X dX8_introduced_58 rfl rfl ?_
        obtain ⟨hb19, hF⟩ := fr_chk hF
        refine sv_iald (j := (fr_ix a2)) X rfl hb19 rfl dX8_introduced_59 ?_
        refine sv_ldc X kn_X8_204 dX8_introduced_60 ?_
        obtain ⟨v20, hM21, hF⟩ := fr_bS_some hF
        have K22 : fr_V p l e (fr_rm 4) s m args below meth c g Q 4 s18 97 [(0, .ref (g.2.1 59)), (1, .int a1), (2, .int a2), (3, .int a3)] [.int v20] := by
          exact sv_iret X hr hQ dX8_introduced_97 hF
        refine sv_icmp_lt (tgt := 70) X dX8_introduced_62 (by decide) (fun h26 => ?_) (fun h26 => ?_)
        · replace hM21 := fr_pos hM21 h26
          refine sv_iload_n (i := 3) X dX8_introduced_70 rfl rfl ?_
          refine sv_if_ne (tgt := 87) X dX8_introduced_71 (by decide) (fun h25 => ?_) (fun h25 => ?_)
          · replace hM21 := fr_neg hM21 h25
            refine sv_aload_n (i := 0) X dX8_introduced_87 rfl rfl ?_
            refine sv_getr X ix_X8 rfl 18 (by decide) rfl rfl fl_X8_34 dX8_introduced_88 ?_
            refine sv_iload_n (i := 2) X dX8_introduced_91 rfl rfl ?_
            obtain ⟨hb23, hM21⟩ := fr_chk hM21
            refine sv_iald (j := (fr_ix a2)) X rfl hb23 rfl dX8_introduced_92 ?_
            refine sv_sipush (v := 1000) X dX8_introduced_93 (by decide) ?_
            refine sv_irem X dX8_introduced_96 (by decide) ?_
            obtain rfl := fr_i1 hM21
            exact K22
          · replace hM21 := fr_pos hM21 h25
            refine sv_aload_n (i := 0) X dX8_introduced_74 rfl rfl ?_
            refine sv_getr X ix_X8 rfl 18 (by decide) rfl rfl fl_X8_34 dX8_introduced_75 ?_
            refine sv_iload_n (i := 2) X dX8_introduced_78 rfl rfl ?_
            obtain ⟨hb24, hM21⟩ := fr_chk hM21
            refine sv_iald (j := (fr_ix a2)) X rfl hb24 rfl dX8_introduced_79 ?_
            refine sv_sipush (v := 1000) X dX8_introduced_80 (by decide) ?_
            refine sv_idiv X dX8_introduced_83 (by decide) ?_
            refine sv_goto (tgt := 97) X dX8_introduced_84 (by decide) ?_
            obtain rfl := fr_i1 hM21
            exact K22
        · replace hM21 := fr_neg hM21 h26
          refine sv_ldc X kn_X8_134 dX8_introduced_65 ?_
          refine sv_goto (tgt := 97) X dX8_introduced_67 (by decide) ?_
          obtain rfl := fr_i1 hM21
          exact K22
      · replace hF := fr_pos hF h27
        refine sv_ldc X kn_X8_73 dX8_introduced_26 ?_
        exact sv_iret X hr hQ dX8_introduced_28 hF
theorem c_X8_introduced {l : Launch} {g : fr_G} {a1 : Int32} {a2 : Int32} {a3 : Int32}  {σ τ : fr_St} {r : Int32} (hF : F_X8_introduced a1 a2 a3 σ = some (r, τ)) : fr_Ci l g yX8_introduced (fr_ws yX8_introduced cX8_introduced 4 (some .int)) 4 [.ref (g.2.1 59), .int a1, .int a2, .int a3] σ r τ := fr_mi (by decide) (Nat.le_of_ble_eq_true rfl) (fun p e s m below meth c X hr => b_X8_introduced X hr  rfl hF)
def L_X8_forgets_15  : Nat → Int32 → Int32 → fr_St → Option (Int32 × Int32 × fr_St)
  | 0, _, _, _ => none
  | n + 1, x1, x2, σ => if ((σ 63 2) * (σ 63 3)) ≤ x2 then (some (x1, x2, σ)) else (if (σ 63 3) = 0 then none else fr_let ((x2 / (σ 63 3))) (fun v2 => if (σ 63 3) = 0 then none else fr_let ((x2 - x2 / (σ 63 3) * (σ 63 3))) (fun v4 => fr_bP (F_X8_limit v2 σ) (fun r7 s6 => if fr_ib (((86 : Int32) + ((4 : Int32) * v2)) + v4) 122 = true then fr_let (((r7 - ((s6 63 4) - (s6 63 (fr_ix (((86 : Int32) + ((4 : Int32) * v2)) + v4))))) + (1 : Int32))) (fun v9 => fr_bP (F_X8_isByFeet v2 s6) (fun b12 s11 => fr_bP (if (fr_bi b12) = 0 then (some (x1, s11)) else (fr_bP (F_X8_opens v2 v4 s11) (fun b20 s19 => if (fr_bi b20) = 0 then (some (x1, s19)) else (if x1 ≤ v9 then (some (x1, s19)) else (some (v9, s19)))))) (fun v13 s14 => fr_let (x2 + (1 : Int32)) (fun v17 => L_X8_forgets_15  n v13 v17 s14)))) else none))))
set_option maxRecDepth 100000 in
set_option maxHeartbeats 4000000 in
theorem wL_X8_forgets_15 {p : Program} {l : Launch} {e : Env} {s : State} {m : MethodId} {args : Array Value} {below : List Frame} {meth : Method} {c : Code} {g : fr_G} {Q : State → Prop} (X : fr_X p s m args meth c g cX8_forgets RX8 6)   {y1 : Int32} {y2 : Int32} {τ : fr_St} (K : fr_V p l e (fr_rm 3) s m args below meth c g Q 6 τ 119 [(0, .ref (g.2.1 59)), (1, .int y1), (2, .int y2)] []) : ∀ (n : Nat) (x1 : Int32) (x2 : Int32) (σ : fr_St), L_X8_forgets_15  n x1 x2 σ = some (y1, y2, τ) → fr_V p l e (fr_rm 3) s m args below meth c g Q 6 σ 15 [(0, .ref (g.2.1 59)), (1, .int x1), (2, .int x2)] [] := by
  intro n
  induction n with
  | zero => intro x1 x2 σ hL; cases hL
  | succ n ih =>
    intro x1 x2 σ hL
    rw [L_X8_forgets_15] at hL
    refine sv_iload_n (i := 2) X dX8_forgets_15 rfl rfl ?_
    refine sv_aload_n (i := 0) X dX8_forgets_16 rfl rfl ?_
    refine sv_getr X ix_X8 rfl 5 (by decide) rfl rfl fl_X8_19 dX8_forgets_17 ?_
    refine sv_iconst (v := 2) X dX8_forgets_20 (by decide) ?_
    refine sv_iald (j := 2) X rfl (by decide) (by decide) dX8_forgets_21 ?_
    refine sv_aload_n (i := 0) X dX8_forgets_22 rfl rfl ?_
    refine sv_getr X ix_X8 rfl 5 (by decide) rfl rfl fl_X8_19 dX8_forgets_23 ?_
    refine sv_iconst (v := 3) X dX8_forgets_26 (by decide) ?_
    refine sv_iald (j := 3) X rfl (by decide) (by decide) dX8_forgets_27 ?_
    refine sv_imul X dX8_forgets_28 ?_
    refine sv_icmp_ge (tgt := 119) X dX8_forgets_29 (by decide) (fun h24 => ?_) (fun h24 => ?_)
    · replace hL := fr_pos hL h24
      obtain ⟨rfl, rfl, rfl⟩ := fr_i3 hL
      exact K
    · replace hL := fr_neg hL h24
      refine sv_iload_n (i := 2) X dX8_forgets_32 rfl rfl ?_
      refine sv_aload_n (i := 0) X dX8_forgets_33 rfl rfl ?_
      refine sv_getr X ix_X8 rfl 5 (by decide) rfl rfl fl_X8_19 dX8_forgets_34 ?_
      refine sv_iconst (v := 3) X dX8_forgets_37 (by decide) ?_
      refine sv_iald (j := 3) X rfl (by decide) (by decide) dX8_forgets_38 ?_
      obtain ⟨hn1, hL⟩ := fr_chn hL
      refine sv_idiv X dX8_forgets_39 hn1 ?_
      refine sv_topi (fun v2 ev2 => ?_)
      replace hL := fr_lete hL ev2
      refine sv_istore_n X dX8_forgets_40 rfl (by decide) rfl ?_
      refine sv_iload_n (i := 3) X dX8_forgets_41 rfl rfl ?_
      refine sv_aload_n (i := 1) X dX8_forgets_42 rfl rfl ?_
      refine sv_getr X ix_X8 rfl 5 (by decide) rfl rfl fl_X8_19 dX8_forgets_43 ?_
      refine sv_iconst (v := 3) X dX8_forgets_46 (by decide) ?_
      refine sv_iald (j := 3) X rfl (by decide) (by decide) dX8_forgets_47 ?_
      obtain ⟨hn3, hL⟩ := fr_chn hL
      refine sv_irem X dX8_forgets_48 hn3 ?_
      refine sv_topi (fun v4 ev4 => ?_)
      replace hL := fr_lete hL ev4
      refine sv_istore X dX8_forgets_49 (by decide) rfl ?_
      refine sv_aload_n (i := 2) X dX8_forgets_51 rfl rfl ?_
      refine sv_iload_n (i := 1) X dX8_forgets_52 rfl rfl ?_
      obtain ⟨r7, s6, hc5, hL⟩ := fr_bP_some hL
      refine sv_callVi X (c_X8_limit hc5) cd_X8_limit ml_X8_162 im_X8_limit se_X8_limit in_RX8 hd_X8_limit rfl rfl (by decide) rfl (Nat.le_of_ble_eq_true rfl) dX8_forgets_53 rfl ?_
      refine sv_aload_n (i := 2) X dX8_forgets_56 rfl rfl ?_
      refine sv_getr X ix_X8 rfl 5 (by decide) rfl rfl fl_X8_19 dX8_forgets_57 ?_
      refine sv_iconst (v := 4) X dX8_forgets_60 (by decide) ?_
      refine sv_iald (j := 4) X rfl (by decide) (by decide) dX8_forgets_61 ?_
      refine sv_aload_n (i := 2) X dX8_forgets_62 rfl rfl ?_
      refine sv_getr X ix_X8 rfl 5 (by decide) rfl rfl fl_X8_19 dX8_forgets_63 ?_
      refine sv_bipush (v := 86) X dX8_forgets_66 (by decide) ?_
      refine sv_iconst (v := 4) X dX8_forgets_68 (by decide) ?_
      refine sv_iload_n (i := 1) X dX8_forgets_69 rfl rfl ?_
      refine sv_imul X dX8_forgets_70 ?_
      refine sv_iadd X dX8_forgets_71 ?_
      refine sv_iload (i := 0) X dX8_forgets_72 rfl ?_
      refine sv_iadd X dX8_forgets_74 ?_
      obtain ⟨hb8, hL⟩ := fr_chk hL
      refine sv_iald (j := (fr_ix (((86 : Int32) + ((4 : Int32) * v2)) + v4))) X rfl hb8 rfl dX8_forgets_75 ?_
      refine sv_isub X dX8_forgets_76 ?_
      refine sv_isub X dX8_forgets_77 ?_
      refine sv_iconst (v := 1) X dX8_forgets_78 (by decide) ?_
      refine sv_iadd X dX8_forgets_79 ?_
      refine sv_topi (fun v9 ev9 => ?_)
      replace hL := fr_lete hL ev9
      refine sv_istore X dX8_forgets_80 (by decide) rfl ?_
      refine sv_aload_n (i := 3) X dX8_forgets_82 rfl rfl ?_
      refine sv_iload_n (i := 2) X dX8_forgets_83 rfl rfl ?_
      obtain ⟨b12, s11, hc10, hL⟩ := fr_bP_some hL
      refine sv_callVi X (c_X8_isByFeet hc10) cd_X8_isByFeet ml_X8_159 im_X8_isByFeet se_X8_isByFeet in_RX8 hd_X8_isByFeet rfl rfl (by decide) rfl (Nat.le_of_ble_eq_true rfl) dX8_forgets_84 rfl ?_
      obtain ⟨v13, s14, hM15, hL⟩ := fr_bP_some hL
      have K16 : fr_V p l e (fr_rm 3) s m args below meth c g Q 6 s14 112 [(0, .ref (g.2.1 59)), (1, .int x1), (2, .int x2), (3, .int v2), (4, .int v4), (5, .int v9)] [.int v13] := by
        refine sv_istore_n X dX8_forgets_112 rfl (by decide) rfl ?_
        obtain ⟨v17, ev17⟩ : ∃ y : Int32, y = x2 + (1 : Int32) := ⟨_, rfl⟩
        replace hL := fr_lete hL ev17
        refine sv_iinc (i := 2) (v := v17) X dX8_forgets_113 rfl (by rw [ev17]; rfl) (by decide) rfl ?_
        refine sv_goto (tgt := 15) X dX8_forgets_116 (by decide) ?_
        exact sv_perm [2, 1, 0] rfl (ih _ _ _ hL)
      refine sv_if_eq (tgt := 111) X dX8_forgets_87 (by decide) (fun h23 => ?_) (fun h23 => ?_)
      · replace hM15 := fr_pos hM15 h23
        refine sv_iload_n (i := 4) X dX8_forgets_111 rfl rfl ?_
        obtain ⟨rfl, rfl⟩ := fr_i2 hM15
        exact sv_perm [3, 4, 5, 2, 1, 0] rfl K16
      · replace hM15 := fr_neg hM15 h23
        refine sv_aload_n (i := 3) X dX8_forgets_90 rfl rfl ?_
        refine sv_iload_n (i := 2) X dX8_forgets_91 rfl rfl ?_
        refine sv_iload (i := 1) X dX8_forgets_92 rfl ?_
        obtain ⟨b20, s19, hc18, hM15⟩ := fr_bP_some hM15
        refine sv_callVi X (c_X8_opens hc18) cd_X8_opens ml_X8_169 im_X8_opens se_X8_opens in_RX8 hd_X8_opens rfl rfl (by decide) rfl (Nat.le_of_ble_eq_true rfl) dX8_forgets_94 rfl ?_
        refine sv_if_eq (tgt := 111) X dX8_forgets_97 (by decide) (fun h22 => ?_) (fun h22 => ?_)
        · replace hM15 := fr_pos hM15 h22
          refine sv_iload_n (i := 4) X dX8_forgets_111 rfl rfl ?_
          obtain ⟨rfl, rfl⟩ := fr_i2 hM15
          exact sv_perm [3, 4, 5, 2, 1, 0] rfl K16
        · replace hM15 := fr_neg hM15 h22
          refine sv_iload (i := 0) X dX8_forgets_100 rfl ?_
          refine sv_iload_n (i := 4) X dX8_forgets_102 rfl rfl ?_
          refine sv_icmp_ge (tgt := 111) X dX8_forgets_103 (by decide) (fun h21 => ?_) (fun h21 => ?_)
          · replace hM15 := fr_pos hM15 h21
            refine sv_iload_n (i := 4) X dX8_forgets_111 rfl rfl ?_
            obtain ⟨rfl, rfl⟩ := fr_i2 hM15
            exact sv_perm [3, 4, 5, 2, 1, 0] rfl K16
          · replace hM15 := fr_neg hM15 h21
            refine sv_iload (i := 0) X dX8_forgets_106 rfl ?_
            refine sv_goto (tgt := 112) X dX8_forgets_108 (by decide) ?_
            obtain ⟨rfl, rfl⟩ := fr_i2 hM15
            exact sv_perm [3, 4, 5, 2, 1, 0] rfl K16
def F_X8_forgets  (σ : fr_St) : Option (Int32 × fr_St) := if (σ 59 4) = 0 then (some ((-1000002 : Int32), σ)) else (fr_bP (L_X8_forgets_15  fr_fu (100000 : Int32) (0 : Int32) σ) (fun v1 q8 => fr_pP q8 (fun v2 s3 => fr_bP (F_X8_orNone v1 s3) (fun r7 s6 => some (r7, s6)))))
set_option maxRecDepth 100000 in
set_option maxHeartbeats 4000000 in
theorem b_X8_forgets {p : Program} {l : Launch} {e : Env} {s : State} {m : MethodId} {args : Array Value} {below : List Frame} {meth : Method} {c : Code} {g : fr_G} {Q : State → Prop} (X : fr_X p s m args meth c g cX8_forgets RX8 6) (hr : meth.sig.returnType = (some .int))   {σ τ : fr_St} {r : Int32} (hQ : Q = fr_Qi below args s g r τ) (hF : F_X8_forgets  σ = some (r, τ)) : fr_V p l e (fr_rm 3) s m args below meth c g Q 6 σ 0 [(0, .ref (g.2.1 59))] [] := by
  unfold F_X8_forgets at hF
  refine sv_aload_n (i := 0) X dX8_forgets_0 rfl rfl ?_
  refine sv_geti X ix_X8 rfl 4 (by decide) rfl rfl fl_X8_149 dX8_forgets_1 ?_
  refine sv_if_ne (tgt := 10) X dX8_forgets_4 (by decide) (fun h9 => ?_) (fun h9 => ?_)
  · replace hF := fr_neg hF h9
    refine sv_ldc X kn_X8_204 dX8_forgets_10 ?_
    refine sv_istore_n X dX8_forgets_12 rfl (by decide) rfl ?_
    refine sv_iconst (v := 0) X dX8_forgets_13 (by decide) ?_
    refine sv_istore_n X dX8_forgets_14 rfl (by decide) rfl ?_
    refine sv_perm [2, 1, 0] rfl ?_
    obtain ⟨v1, ⟨v2, s3⟩, hl4, hF⟩ := fr_bP_some hF
    dsimp only [fr_pP] at hF
    refine wL_X8_forgets_15 X   ?_ fr_fu _ _ _ hl4
    refine sv_iload_n (i := 1) X dX8_forgets_119 rfl rfl ?_
    obtain ⟨r7, s6, hc5, hF⟩ := fr_bP_some hF
    refine sv_callSi X (c_X8_orNone hc5) cd_X8_orNone ml_X8_212 sm_X8_orNone in_RX8 hd_X8_orNone (by decide) rfl (Nat.le_of_ble_eq_true rfl) dX8_forgets_120 rfl ?_
    exact sv_iret X hr hQ dX8_forgets_123 hF
  · replace hF := fr_pos hF h9
    refine sv_ldc X kn_X8_185 dX8_forgets_7 ?_
    exact sv_iret X hr hQ dX8_forgets_9 hF
theorem c_X8_forgets {l : Launch} {g : fr_G}   {σ τ : fr_St} {r : Int32} (hF : F_X8_forgets  σ = some (r, τ)) : fr_Ci l g yX8_forgets (fr_ws yX8_forgets cX8_forgets 6 (some .int)) 3 [.ref (g.2.1 59)] σ r τ := fr_mi (by decide) (Nat.le_of_ble_eq_true rfl) (fun p e s m below meth c X hr => b_X8_forgets X hr  rfl hF)
def L_X8_nobody_49 (k1 : Int32) (k3 : Int32) : Nat → Int32 → Int32 → fr_St → Option (Int32 × Int32 × fr_St)
  | 0, _, _, _ => none
  | n + 1, x4, x5, σ => if (σ 63 3) ≤ x5 then (some (x4, x5, σ)) else (fr_bP (if x4 = 0 then (some ((0 : Int32), σ)) else (fr_bP (F_X8_opensOn k3 x5 ((σ 63 4) + k1) σ) (fun b8 s7 => if (fr_bi b8) = 0 then (some ((1 : Int32), s7)) else (some ((0 : Int32), s7))))) (fun v1 s2 => fr_let (x5 + (1 : Int32)) (fun v5 => L_X8_nobody_49 k1 k3 n v1 v5 s2)))
set_option maxRecDepth 100000 in
set_option maxHeartbeats 4000000 in
theorem wL_X8_nobody_49 {p : Program} {l : Launch} {e : Env} {s : State} {m : MethodId} {args : Array Value} {below : List Frame} {meth : Method} {c : Code} {g : fr_G} {Q : State → Prop} (X : fr_X p s m args meth c g cX8_nobody RX8 6)  (k1 : Int32) (k2 : Int32) (k3 : Int32) {y4 : Int32} {y5 : Int32} {τ : fr_St} (K : fr_V p l e (fr_rm 2) s m args below meth c g Q 6 τ 96 [(0, .ref (g.2.1 59)), (1, .int k1), (2, .int k2), (3, .int k3), (4, .int y4), (5, .int y5)] []) : ∀ (n : Nat) (x4 : Int32) (x5 : Int32) (σ : fr_St), L_X8_nobody_49 k1 k3 n x4 x5 σ = some (y4, y5, τ) → fr_V p l e (fr_rm 2) s m args below meth c g Q 6 σ 49 [(0, .ref (g.2.1 59)), (1, .int k1), (2, .int k2), (3, .int k3), (4, .int x4), (5, .int x5)] [] := by
  intro n
  induction n with
  | zero => intro x4 x5 σ hL; cases hL
  | succ n ih =>
    intro x4 x5 σ hL
    rw [L_X8_nobody_49] at hL
    refine sv_iload (i := 5) X dX8_nobody_49 rfl ?_
    refine sv_aload_n (i := 0) X dX8_nobody_51 rfl rfl ?_
    refine sv_getr X ix_X8 rfl 5 (by decide) rfl rfl fl_X8_19 dX8_nobody_52 ?_
    refine sv_iconst (v := 3) X dX8_nobody_55 (by decide) ?_
    refine sv_iald (j := 3) X rfl (by decide) (by decide) dX8_nobody_56 ?_
    refine sv_icmp_ge (tgt := 96) X dX8_nobody_57 (by decide) (fun h11 => ?_) (fun h11 => ?_)
    · replace hL := fr_pos hL h11
      obtain ⟨rfl, rfl, rfl⟩ := fr_i3 hL
      exact K
    · replace hL := fr_neg hL h11
      refine sv_iload (i := 4) X dX8_nobody_60 rfl ?_
      obtain ⟨v1, s2, hM3, hL⟩ := fr_bP_some hL
      have K4 : fr_V p l e (fr_rm 2) s m args below meth c g Q 6 s2 88 [(0, .ref (g.2.1 59)), (1, .int k1), (2, .int k2), (3, .int k3), (4, .int x4), (5, .int x5)] [.int v1] := by
        refine sv_istore X dX8_nobody_88 (by decide) rfl ?_
        obtain ⟨v5, ev5⟩ : ∃ y : Int32, y = x5 + (1 : Int32) := ⟨_, rfl⟩
        replace hL := fr_lete hL ev5
        refine sv_iinc (i := 5) (v := v5) X dX8_nobody_90 rfl (by rw [ev5]; rfl) (by decide) rfl ?_
        refine sv_goto (tgt := 49) X dX8_nobody_93 (by decide) ?_
        exact sv_perm [2, 3, 4, 5, 1, 0] rfl (ih _ _ _ hL)
      refine sv_if_eq (tgt := 87) X dX8_nobody_62 (by decide) (fun h10 => ?_) (fun h10 => ?_)
      · replace hM3 := fr_pos hM3 h10
        refine sv_iconst (v := 0) X dX8_nobody_87 (by decide) ?_
        obtain ⟨rfl, rfl⟩ := fr_i2 hM3
        exact K4
      · replace hM3 := fr_neg hM3 h10
        refine sv_aload_n (i := 0) X dX8_nobody_65 rfl rfl ?_
        refine sv_iload_n (i := 3) X dX8_nobody_66 rfl rfl ?_
        refine sv_iload (i := 5) X dX8_nobody_67 rfl ?_
        refine sv_aload_n (i := 0) X dX8_nobody_69 rfl rfl ?_
        refine sv_getr X ix_X8 rfl 5 (by decide) rfl rfl fl_X8_19 dX8_nobody_70 ?_
        refine sv_iconst (v := 4) X dX8_nobody_73 (by decide) ?_
        refine sv_iald (j := 4) X rfl (by decide) (by decide) dX8_nobody_74 ?_
        refine sv_iload_n (i := 1) X dX8_nobody_75 rfl rfl ?_
        refine sv_iadd X dX8_nobody_76 ?_
        obtain ⟨b8, s7, hc6, hM3⟩ := fr_bP_some hM3
        refine sv_callVi X (c_X8_opensOn hc6) cd_X8_opensOn ml_X8_165 im_X8_opensOn se_X8_opensOn in_RX8 hd_X8_opensOn rfl rfl (by decide) rfl (Nat.le_of_ble_eq_true rfl) dX8_nobody_77 rfl ?_
        refine sv_if_ne (tgt := 87) X dX8_nobody_80 (by decide) (fun h9 => ?_) (fun h9 => ?_)
        · replace hM3 := fr_neg hM3 h9
          refine sv_iconst (v := 0) X dX8_nobody_87 (by decide) ?_
          obtain ⟨rfl, rfl⟩ := fr_i2 hM3
          exact K4
        · replace hM3 := fr_pos hM3 h9
          refine sv_iconst (v := 1) X dX8_nobody_83 (by decide) ?_
          refine sv_goto (tgt := 88) X dX8_nobody_84 (by decide) ?_
          obtain ⟨rfl, rfl⟩ := fr_i2 hM3
          exact K4
def L_X8_nobody_29 (k1 : Int32) : Nat → Int32 → Int32 → fr_St → Option (Int32 × Int32 × fr_St)
  | 0, _, _, _ => none
  | n + 1, x2, x3, σ => if (σ 63 2) ≤ x3 then (some (x2, x3, σ)) else (fr_bP (F_X8_isByFeet x3 σ) (fun b3 s2 => fr_let ((fr_bi b3)) (fun v4 => fr_bP (L_X8_nobody_49 k1 x3 fr_fu v4 (0 : Int32) s2) (fun v5 q15 => fr_pP q15 (fun v6 s7 => fr_bS (if v5 = 0 then (some ((0 : Int32))) else (some (((1 : Int32) <<< (x3 &&& 31))))) (fun v9 => fr_let ((x2 ||| v9)) (fun v12 => fr_let (x3 + (1 : Int32)) (fun v13 => L_X8_nobody_29 k1 n v12 v13 s7))))))))
set_option maxRecDepth 100000 in
set_option maxHeartbeats 4000000 in
theorem wL_X8_nobody_29 {p : Program} {l : Launch} {e : Env} {s : State} {m : MethodId} {args : Array Value} {below : List Frame} {meth : Method} {c : Code} {g : fr_G} {Q : State → Prop} (X : fr_X p s m args meth c g cX8_nobody RX8 6)  (k1 : Int32) {y2 : Int32} {y3 : Int32} {τ : fr_St} (K : fr_V p l e (fr_rm 2) s m args below meth c g Q 6 τ 117 [(0, .ref (g.2.1 59)), (1, .int k1), (2, .int y2), (3, .int y3)] []) : ∀ (n : Nat) (x2 : Int32) (x3 : Int32) (σ : fr_St), L_X8_nobody_29 k1 n x2 x3 σ = some (y2, y3, τ) → fr_V p l e (fr_rm 2) s m args below meth c g Q 6 σ 29 [(0, .ref (g.2.1 59)), (1, .int k1), (2, .int x2), (3, .int x3)] [] := by
  intro n
  induction n with
  | zero => intro x2 x3 σ hL; cases hL
  | succ n ih =>
    intro x2 x3 σ hL
    rw [L_X8_nobody_29] at hL
    refine sv_iload_n (i := 3) X dX8_nobody_29 rfl rfl ?_
    refine sv_aload_n (i := 0) X dX8_nobody_30 rfl rfl ?_
    refine sv_getr X ix_X8 rfl 5 (by decide) rfl rfl fl_X8_19 dX8_nobody_31 ?_
    refine sv_iconst (v := 2) X dX8_nobody_34 (by decide) ?_
    refine sv_iald (j := 2) X rfl (by decide) (by decide) dX8_nobody_35 ?_
    refine sv_icmp_ge (tgt := 117) X dX8_nobody_36 (by decide) (fun h16 => ?_) (fun h16 => ?_)
    · replace hL := fr_pos hL h16
      obtain ⟨rfl, rfl, rfl⟩ := fr_i3 hL
      exact K
    · replace hL := fr_neg hL h16
      refine sv_aload_n (i := 0) X dX8_nobody_39 rfl rfl ?_
      refine sv_iload_n (i := 3) X dX8_nobody_40 rfl rfl ?_
      obtain ⟨b3, s2, hc1, hL⟩ := fr_bP_some hL
      refine sv_callVi X (c_X8_isByFeet hc1) cd_X8_isByFeet ml_X8_159 im_X8_isByFeet se_X8_isByFeet in_RX8 hd_X8_isByFeet rfl rfl (by decide) rfl (Nat.le_of_ble_eq_true rfl) dX8_nobody_41 rfl ?_
      refine sv_topi (fun v4 ev4 => ?_)
      replace hL := fr_lete hL ev4
      refine sv_istore X dX8_nobody_44 (by decide) rfl ?_
      refine sv_iconst (v := 0) X dX8_nobody_46 (by decide) ?_
      refine sv_istore X dX8_nobody_47 (by decide) rfl ?_
      refine sv_perm [2, 3, 4, 5, 1, 0] rfl ?_
      obtain ⟨v5, ⟨v6, s7⟩, hl8, hL⟩ := fr_bP_some hL
      dsimp only [fr_pP] at hL
      refine wL_X8_nobody_49 X  k1 x2 x3 ?_ fr_fu _ _ _ hl8
      refine sv_iload_n (i := 2) X dX8_nobody_96 rfl rfl ?_
      refine sv_iload (i := 4) X dX8_nobody_97 rfl ?_
      obtain ⟨v9, hM10, hL⟩ := fr_bS_some hL
      have K11 : fr_V p l e (fr_rm 2) s m args below meth c g Q 6 s7 109 [(0, .ref (g.2.1 59)), (1, .int k1), (2, .int x2), (3, .int x3), (4, .int v5), (5, .int v6)] [.int v9, .int x2] := by
        refine sv_ior X dX8_nobody_109 ?_
        refine sv_topi (fun v12 ev12 => ?_)
        replace hL := fr_lete hL ev12
        refine sv_istore_n X dX8_nobody_110 rfl (by decide) rfl ?_
        obtain ⟨v13, ev13⟩ : ∃ y : Int32, y = x3 + (1 : Int32) := ⟨_, rfl⟩
        replace hL := fr_lete hL ev13
        refine sv_iinc (i := 3) (v := v13) X dX8_nobody_111 rfl (by rw [ev13]; rfl) (by decide) rfl ?_
        refine sv_goto (tgt := 29) X dX8_nobody_114 (by decide) ?_
        exact sv_perm [2, 3, 1, 0] rfl (ih _ _ _ hL)
      refine sv_if_eq (tgt := 108) X dX8_nobody_99 (by decide) (fun h14 => ?_) (fun h14 => ?_)
      · replace hM10 := fr_pos hM10 h14
        refine sv_iconst (v := 0) X dX8_nobody_108 (by decide) ?_
        obtain rfl := fr_i1 hM10
        exact K11
      · replace hM10 := fr_neg hM10 h14
        refine sv_iconst (v := 1) X dX8_nobody_102 (by decide) ?_
        refine sv_iload_n (i := 3) X dX8_nobody_103 rfl rfl ?_
        refine sv_ishl X dX8_nobody_104 ?_
        refine sv_goto (tgt := 109) X dX8_nobody_105 (by decide) ?_
        obtain rfl := fr_i1 hM10
        exact K11
def F_X8_nobody (a1 : Int32) (σ : fr_St) : Option (Int32 × fr_St) := if (σ 59 4) = 0 then (some ((-1000002 : Int32), σ)) else (fr_bP (F_X8_in (a1.toInt64) (0 : Int64) (99 : Int64) σ) (fun b3 s2 => if (fr_bi b3) = 0 then (some ((-1000001 : Int32), s2)) else (fr_bP (L_X8_nobody_29 a1 fr_fu (0 : Int32) (0 : Int32) s2) (fun v4 q8 => fr_pP q8 (fun v5 s6 => some (v4, s6))))))
set_option maxRecDepth 100000 in
set_option maxHeartbeats 4000000 in
theorem b_X8_nobody {p : Program} {l : Launch} {e : Env} {s : State} {m : MethodId} {args : Array Value} {below : List Frame} {meth : Method} {c : Code} {g : fr_G} {Q : State → Prop} (X : fr_X p s m args meth c g cX8_nobody RX8 6) (hr : meth.sig.returnType = (some .int)) {a1 : Int32}  {σ τ : fr_St} {r : Int32} (hQ : Q = fr_Qi below args s g r τ) (hF : F_X8_nobody a1 σ = some (r, τ)) : fr_V p l e (fr_rm 2) s m args below meth c g Q 6 σ 0 [(0, .ref (g.2.1 59)), (1, .int a1)] [] := by
  unfold F_X8_nobody at hF
  refine sv_aload_n (i := 0) X dX8_nobody_0 rfl rfl ?_
  refine sv_geti X ix_X8 rfl 4 (by decide) rfl rfl fl_X8_149 dX8_nobody_1 ?_
  refine sv_if_ne (tgt := 10) X dX8_nobody_4 (by decide) (fun h10 => ?_) (fun h10 => ?_)
  · replace hF := fr_neg hF h10
    refine sv_iload_n (i := 1) X dX8_nobody_10 rfl rfl ?_
    refine sv_i2l X dX8_nobody_11 ?_
    refine sv_lconst (v := 0) X dX8_nobody_12 (by decide) ?_
    refine sv_ldc2_w X kl_X8_215 dX8_nobody_13 ?_
    obtain ⟨b3, s2, hc1, hF⟩ := fr_bP_some hF
    refine sv_callSi X (c_X8_in hc1) cd_X8_in ml_X8_63 sm_X8_in in_RX8 hd_X8_in (by decide) rfl (Nat.le_of_ble_eq_true rfl) dX8_nobody_16 rfl ?_
    refine sv_if_ne (tgt := 25) X dX8_nobody_19 (by decide) (fun h9 => ?_) (fun h9 => ?_)
    · replace hF := fr_neg hF h9
      refine sv_iconst (v := 0) X dX8_nobody_25 (by decide) ?_
      refine sv_istore_n X dX8_nobody_26 rfl (by decide) rfl ?_
      refine sv_iconst (v := 0) X dX8_nobody_27 (by decide) ?_
      refine sv_istore_n X dX8_nobody_28 rfl (by decide) rfl ?_
      refine sv_perm [2, 3, 1, 0] rfl ?_
      obtain ⟨v4, ⟨v5, s6⟩, hl7, hF⟩ := fr_bP_some hF
      dsimp only [fr_pP] at hF
      refine wL_X8_nobody_29 X  a1 ?_ fr_fu _ _ _ hl7
      refine sv_iload_n (i := 2) X dX8_nobody_117 rfl rfl ?_
      exact sv_iret X hr hQ dX8_nobody_118 hF
    · replace hF := fr_pos hF h9
      refine sv_ldc X kn_X8_73 dX8_nobody_22 ?_
      exact sv_iret X hr hQ dX8_nobody_24 hF
  · replace hF := fr_pos hF h10
    refine sv_ldc X kn_X8_185 dX8_nobody_7 ?_
    exact sv_iret X hr hQ dX8_nobody_9 hF
theorem c_X8_nobody {l : Launch} {g : fr_G} {a1 : Int32}  {σ τ : fr_St} {r : Int32} (hF : F_X8_nobody a1 σ = some (r, τ)) : fr_Ci l g yX8_nobody (fr_ws yX8_nobody cX8_nobody 6 (some .int)) 2 [.ref (g.2.1 59), .int a1] σ r τ := fr_mi (by decide) (Nat.le_of_ble_eq_true rfl) (fun p e s m below meth c X hr => b_X8_nobody X hr  rfl hF)
