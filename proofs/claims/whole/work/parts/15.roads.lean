def F_X7_fine (a1 : Int32) (σ : fr_St) : Option (Int32 × fr_St) := fr_let (fr_up σ 0 10 (0 : Int32)) (fun s1 => some (a1, s1))
set_option maxRecDepth 100000 in
set_option maxHeartbeats 4000000 in
theorem b_X7_fine {p : Program} {l : Launch} {e : Env} {s : State} {m : MethodId} {args : Array Value} {below : List Frame} {meth : Method} {c : Code} {g : fr_G} {Q : State → Prop} (X : fr_X p s m args meth c g cX7_fine RX7 2) (hr : meth.sig.returnType = (some .int)) {a1 : Int32}  {σ τ : fr_St} {r : Int32} (hQ : Q = fr_Qi below args s g r τ) (hF : F_X7_fine a1 σ = some (r, τ)) : fr_V p l e (fr_rm 0) s m args below meth c g Q 2 σ 0 [(0, .ref (g.2.1 0)), (1, .int a1)] [] := by
  unfold F_X7_fine at hF
  refine sv_aload_n (i := 0) X dX7_fine_0 rfl rfl ?_
  refine sv_iconst (v := 0) X dX7_fine_1 (by decide) ?_
  refine sv_puti (ty := .int) X ix_X7 tyX7_ok nmX7 rfl 10 (by decide) rfl rfl fl_X7_69 rfl rfl rfl rfl dX7_fine_2 ?_
  refine sv_sig (fun s1 es1 => ?_)
  replace hF := fr_lete hF es1
  refine sv_iload_n (i := 1) X dX7_fine_5 rfl rfl ?_
  exact sv_iret X hr hQ dX7_fine_6 hF
theorem c_X7_fine {l : Launch} {g : fr_G} {a1 : Int32}  {σ τ : fr_St} {r : Int32} (hF : F_X7_fine a1 σ = some (r, τ)) : fr_Ci l g yX7_fine (fr_ws yX7_fine cX7_fine 2 (some .int)) 0 [.ref (g.2.1 0), .int a1] σ r τ := fr_mi (by decide) (Nat.le_of_ble_eq_true rfl) (fun p e s m below meth c X hr => b_X7_fine X hr  rfl hF)
def F_X7_found (a1 : Int32) (σ : fr_St) : Option (Int32 × fr_St) := fr_let (fr_up σ 0 10 a1) (fun s1 => some (((-1000010 : Int32) - a1), s1))
set_option maxRecDepth 100000 in
set_option maxHeartbeats 4000000 in
theorem b_X7_found {p : Program} {l : Launch} {e : Env} {s : State} {m : MethodId} {args : Array Value} {below : List Frame} {meth : Method} {c : Code} {g : fr_G} {Q : State → Prop} (X : fr_X p s m args meth c g cX7_found RX7 2) (hr : meth.sig.returnType = (some .int)) {a1 : Int32}  {σ τ : fr_St} {r : Int32} (hQ : Q = fr_Qi below args s g r τ) (hF : F_X7_found a1 σ = some (r, τ)) : fr_V p l e (fr_rm 0) s m args below meth c g Q 2 σ 0 [(0, .ref (g.2.1 0)), (1, .int a1)] [] := by
  unfold F_X7_found at hF
  refine sv_aload_n (i := 0) X dX7_found_0 rfl rfl ?_
  refine sv_iload_n (i := 1) X dX7_found_1 rfl rfl ?_
  refine sv_puti (ty := .int) X ix_X7 tyX7_ok nmX7 rfl 10 (by decide) rfl rfl fl_X7_69 rfl rfl rfl rfl dX7_found_2 ?_
  refine sv_sig (fun s1 es1 => ?_)
  replace hF := fr_lete hF es1
  refine sv_ldc_w X kn_X7_307 dX7_found_5 ?_
  refine sv_iload_n (i := 1) X dX7_found_8 rfl rfl ?_
  refine sv_isub X dX7_found_9 ?_
  exact sv_iret X hr hQ dX7_found_10 hF
theorem c_X7_found {l : Launch} {g : fr_G} {a1 : Int32}  {σ τ : fr_St} {r : Int32} (hF : F_X7_found a1 σ = some (r, τ)) : fr_Ci l g yX7_found (fr_ws yX7_found cX7_found 2 (some .int)) 0 [.ref (g.2.1 0), .int a1] σ r τ := fr_mi (by decide) (Nat.le_of_ble_eq_true rfl) (fun p e s m below meth c X hr => b_X7_found X hr  rfl hF)
def F_X7_row (a1 : Int32) (a2 : Int32) (a3 : Int32) (σ : fr_St) : Option (Int32 × fr_St) := fr_bP (F_X6_hasNumber a1 σ) (fun b3 s2 => if (fr_bi b3) = 0 then (some ((-1000001 : Int32), s2)) else (if a2 < 0 then (some ((-1000001 : Int32), s2)) else (if (2 : Int32) < a2 then (some ((-1000001 : Int32), s2)) else (if a3 ≤ (40 : Int32) then (if 0 ≤ a3 then (fr_bS (F_X6_put a1 a2 a3 s2) (fun s5 => fr_bP (F_X7_fine a3 s5) (fun r8 s7 => some (r8, s7)))) else (fr_bP (F_X7_found (4 : Int32) s2) (fun r11 s10 => some (r11, s10)))) else (some ((-1000001 : Int32), s2))))))
set_option maxRecDepth 100000 in
set_option maxHeartbeats 4000000 in
theorem b_X7_row {p : Program} {l : Launch} {e : Env} {s : State} {m : MethodId} {args : Array Value} {below : List Frame} {meth : Method} {c : Code} {g : fr_G} {Q : State → Prop} (X : fr_X p s m args meth c g cX7_row RX7 4) (hr : meth.sig.returnType = (some .int)) {a1 : Int32} {a2 : Int32} {a3 : Int32}  {σ τ : fr_St} {r : Int32} (hQ : Q = fr_Qi below args s g r τ) (hF : F_X7_row a1 a2 a3 σ = some (r, τ)) : fr_V p l e (fr_rm 2) s m args below meth c g Q 4 σ 0 [(0, .ref (g.2.1 0)), (1, .int a1), (2, .int a2), (3, .int a3)] [] := by
  unfold F_X7_row at hF
  refine sv_iload_n (i := 1) X dX7_row_0 rfl rfl ?_
  obtain ⟨b3, s2, hc1, hF⟩ := fr_bP_some hF
  refine sv_callSi X (c_X6_hasNumber hc1) cd_X6_hasNumber ml_X7_72 sm_X6_hasNumber in_RX6 hd_X6_hasNumber (by decide) rfl (Nat.le_of_ble_eq_true rfl) dX7_row_1 rfl ?_
  refine sv_if_eq (tgt := 22) X dX7_row_4 (by decide) (fun h16 => ?_) (fun h16 => ?_)
  · replace hF := fr_pos hF h16
    refine sv_ldc X kn_X7_76 dX7_row_22 ?_
    exact sv_iret X hr hQ dX7_row_24 hF
  · replace hF := fr_neg hF h16
    refine sv_iload_n (i := 2) X dX7_row_7 rfl rfl ?_
    refine sv_if_lt (tgt := 22) X dX7_row_8 (by decide) (fun h15 => ?_) (fun h15 => ?_)
    · replace hF := fr_pos hF h15
      refine sv_ldc X kn_X7_76 dX7_row_22 ?_
      exact sv_iret X hr hQ dX7_row_24 hF
    · replace hF := fr_neg hF h15
      refine sv_iload_n (i := 2) X dX7_row_11 rfl rfl ?_
      refine sv_iconst (v := 2) X dX7_row_12 (by decide) ?_
      refine sv_icmp_gt (tgt := 22) X dX7_row_13 (by decide) (fun h14 => ?_) (fun h14 => ?_)
      · replace hF := fr_pos hF h14
        refine sv_ldc X kn_X7_76 dX7_row_22 ?_
        exact sv_iret X hr hQ dX7_row_24 hF
      · replace hF := fr_neg hF h14
        refine sv_iload_n (i := 3) X dX7_row_16 rfl rfl ?_
        refine sv_bipush (v := 40) X dX7_row_17 (by decide) ?_
        refine sv_icmp_le (tgt := 25) X dX7_row_19 (by decide) (fun h13 => ?_) (fun h13 => ?_)
        · replace hF := fr_pos hF h13
          refine sv_iload_n (i := 3) X dX7_row_25 rfl rfl ?_
          refine sv_if_ge (tgt := 35) X dX7_row_26 (by decide) (fun h12 => ?_) (fun h12 => ?_)
          · replace hF := fr_pos hF h12
            refine sv_aload_n (i := 0) X dX7_row_35 rfl rfl ?_
            refine sv_getr X ix_X7 rfl 0 (by decide) rfl rfl fl_X7_13 dX7_row_36 ?_
            refine sv_iload_n (i := 1) X dX7_row_39 rfl rfl ?_
            refine sv_iload_n (i := 2) X dX7_row_40 rfl rfl ?_
            refine sv_iload_n (i := 3) X dX7_row_41 rfl rfl ?_
            obtain ⟨s5, hc4, hF⟩ := fr_bS_some hF
            refine sv_callVv X (c_X6_put hc4) cd_X6_put ml_X7_81 im_X6_put se_X6_put in_RX6 hd_X6_put rfl rfl (by decide) rfl (Nat.le_of_ble_eq_true rfl) dX7_row_42 rfl ?_
            refine sv_aload_n (i := 0) X dX7_row_45 rfl rfl ?_
            refine sv_iload_n (i := 3) X dX7_row_46 rfl rfl ?_
            obtain ⟨r8, s7, hc6, hF⟩ := fr_bP_some hF
            refine sv_callVi X (c_X7_fine hc6) cd_X7_fine ml_X7_85 im_X7_fine se_X7_fine in_RX7 hd_X7_fine rfl rfl (by decide) rfl (Nat.le_of_ble_eq_true rfl) dX7_row_47 rfl ?_
            exact sv_iret X hr hQ dX7_row_50 hF
          · replace hF := fr_neg hF h12
            refine sv_aload_n (i := 0) X dX7_row_29 rfl rfl ?_
            refine sv_iconst (v := 4) X dX7_row_30 (by decide) ?_
            obtain ⟨r11, s10, hc9, hF⟩ := fr_bP_some hF
            refine sv_callVi X (c_X7_found hc9) cd_X7_found ml_X7_77 im_X7_found se_X7_found in_RX7 hd_X7_found rfl rfl (by decide) rfl (Nat.le_of_ble_eq_true rfl) dX7_row_31 rfl ?_
            exact sv_iret X hr hQ dX7_row_34 hF
        · replace hF := fr_neg hF h13
          refine sv_ldc X kn_X7_76 dX7_row_22 ?_
          exact sv_iret X hr hQ dX7_row_24 hF
theorem c_X7_row {l : Launch} {g : fr_G} {a1 : Int32} {a2 : Int32} {a3 : Int32}  {σ τ : fr_St} {r : Int32} (hF : F_X7_row a1 a2 a3 σ = some (r, τ)) : fr_Ci l g yX7_row (fr_ws yX7_row cX7_row 4 (some .int)) 2 [.ref (g.2.1 0), .int a1, .int a2, .int a3] σ r τ := fr_mi (by decide) (Nat.le_of_ble_eq_true rfl) (fun p e s m below meth c X hr => b_X7_row X hr  rfl hF)
def F_X7_set (a1 : Int32) (a2 : Int32) (a3 : Int32) (σ : fr_St) : Option (Int32 × fr_St) := fr_bP (F_X6_hasNumber a1 σ) (fun b3 s2 => if (fr_bi b3) = 0 then (some ((-1000001 : Int32), s2)) else (fr_bP (F_X6_isMissing a1 s2) (fun b6 s5 => if (fr_bi b6) = 0 then (fr_bP (F_X6_holds a1 a2 (1 : Int32) s5) (fun b9 s8 => if (fr_bi b9) = 0 then (fr_bP (F_X7_found (2 : Int32) s8) (fun r18 s17 => some (r18, s17))) else (fr_bP (F_X6_putItem a1 a2 a3 s8) (fun r12 s11 => fr_bP (F_X7_fine r12 s11) (fun r15 s14 => some (r15, s14)))))) else (fr_bP (F_X7_found (1 : Int32) s5) (fun r22 s21 => some (r22, s21))))))
set_option maxRecDepth 100000 in
set_option maxHeartbeats 4000000 in
theorem b_X7_set {p : Program} {l : Launch} {e : Env} {s : State} {m : MethodId} {args : Array Value} {below : List Frame} {meth : Method} {c : Code} {g : fr_G} {Q : State → Prop} (X : fr_X p s m args meth c g cX7_set RX7 4) (hr : meth.sig.returnType = (some .int)) {a1 : Int32} {a2 : Int32} {a3 : Int32}  {σ τ : fr_St} {r : Int32} (hQ : Q = fr_Qi below args s g r τ) (hF : F_X7_set a1 a2 a3 σ = some (r, τ)) : fr_V p l e (fr_rm 2) s m args below meth c g Q 4 σ 0 [(0, .ref (g.2.1 0)), (1, .int a1), (2, .int a2), (3, .int a3)] [] := by
  unfold F_X7_set at hF
  refine sv_iload_n (i := 1) X dX7_set_0 rfl rfl ?_
  obtain ⟨b3, s2, hc1, hF⟩ := fr_bP_some hF
  refine sv_callSi X (c_X6_hasNumber hc1) cd_X6_hasNumber ml_X7_72 sm_X6_hasNumber in_RX6 hd_X6_hasNumber (by decide) rfl (Nat.le_of_ble_eq_true rfl) dX7_set_1 rfl ?_
  refine sv_if_ne (tgt := 10) X dX7_set_4 (by decide) (fun h24 => ?_) (fun h24 => ?_)
  · replace hF := fr_neg hF h24
    refine sv_aload_n (i := 0) X dX7_set_10 rfl rfl ?_
    refine sv_getr X ix_X7 rfl 0 (by decide) rfl rfl fl_X7_13 dX7_set_11 ?_
    refine sv_iload_n (i := 1) X dX7_set_14 rfl rfl ?_
    obtain ⟨b6, s5, hc4, hF⟩ := fr_bP_some hF
    refine sv_callVi X (c_X6_isMissing hc4) cd_X6_isMissing ml_X7_88 im_X6_isMissing se_X6_isMissing in_RX6 hd_X6_isMissing rfl rfl (by decide) rfl (Nat.le_of_ble_eq_true rfl) dX7_set_15 rfl ?_
    refine sv_if_eq (tgt := 27) X dX7_set_18 (by decide) (fun h23 => ?_) (fun h23 => ?_)
    · replace hF := fr_pos hF h23
      refine sv_aload_n (i := 0) X dX7_set_27 rfl rfl ?_
      refine sv_getr X ix_X7 rfl 0 (by decide) rfl rfl fl_X7_13 dX7_set_28 ?_
      refine sv_iload_n (i := 1) X dX7_set_31 rfl rfl ?_
      refine sv_iload_n (i := 2) X dX7_set_32 rfl rfl ?_
      refine sv_iconst (v := 1) X dX7_set_33 (by decide) ?_
      obtain ⟨b9, s8, hc7, hF⟩ := fr_bP_some hF
      refine sv_callVi X (c_X6_holds hc7) cd_X6_holds ml_X7_91 im_X6_holds se_X6_holds in_RX6 hd_X6_holds rfl rfl (by decide) rfl (Nat.le_of_ble_eq_true rfl) dX7_set_34 rfl ?_
      refine sv_if_ne (tgt := 46) X dX7_set_37 (by decide) (fun h19 => ?_) (fun h19 => ?_)
      · replace hF := fr_neg hF h19
        refine sv_aload_n (i := 0) X dX7_set_46 rfl rfl ?_
        refine sv_aload_n (i := 0) X dX7_set_47 rfl rfl ?_
        refine sv_getr X ix_X7 rfl 0 (by decide) rfl rfl fl_X7_13 dX7_set_48 ?_
        refine sv_iload_n (i := 1) X dX7_set_51 rfl rfl ?_
        refine sv_iload_n (i := 2) X dX7_set_52 rfl rfl ?_
        refine sv_iload_n (i := 3) X dX7_set_53 rfl rfl ?_
        obtain ⟨r12, s11, hc10, hF⟩ := fr_bP_some hF
        refine sv_callVi X (c_X6_putItem hc10) cd_X6_putItem ml_X7_95 im_X6_putItem se_X6_putItem in_RX6 hd_X6_putItem rfl rfl (by decide) rfl (Nat.le_of_ble_eq_true rfl) dX7_set_54 rfl ?_
        obtain ⟨r15, s14, hc13, hF⟩ := fr_bP_some hF
        refine sv_callVi X (c_X7_fine hc13) cd_X7_fine ml_X7_85 im_X7_fine se_X7_fine in_RX7 hd_X7_fine rfl rfl (by decide) rfl (Nat.le_of_ble_eq_true rfl) dX7_set_57 rfl ?_
        exact sv_iret X hr hQ dX7_set_60 hF
      · replace hF := fr_pos hF h19
        refine sv_aload_n (i := 0) X dX7_set_40 rfl rfl ?_
        refine sv_iconst (v := 2) X dX7_set_41 (by decide) ?_
        obtain ⟨r18, s17, hc16, hF⟩ := fr_bP_some hF
        refine sv_callVi X (c_X7_found hc16) cd_X7_found ml_X7_77 im_X7_found se_X7_found in_RX7 hd_X7_found rfl rfl (by decide) rfl (Nat.le_of_ble_eq_true rfl) dX7_set_42 rfl ?_
        exact sv_iret X hr hQ dX7_set_45 hF
    · replace hF := fr_neg hF h23
      refine sv_aload_n (i := 0) X dX7_set_21 rfl rfl ?_
      refine sv_iconst (v := 1) X dX7_set_22 (by decide) ?_
      obtain ⟨r22, s21, hc20, hF⟩ := fr_bP_some hF
      refine sv_callVi X (c_X7_found hc20) cd_X7_found ml_X7_77 im_X7_found se_X7_found in_RX7 hd_X7_found rfl rfl (by decide) rfl (Nat.le_of_ble_eq_true rfl) dX7_set_23 rfl ?_
      exact sv_iret X hr hQ dX7_set_26 hF
  · replace hF := fr_pos hF h24
    refine sv_ldc X kn_X7_76 dX7_set_7 ?_
    exact sv_iret X hr hQ dX7_set_9 hF
theorem c_X7_set {l : Launch} {g : fr_G} {a1 : Int32} {a2 : Int32} {a3 : Int32}  {σ τ : fr_St} {r : Int32} (hF : F_X7_set a1 a2 a3 σ = some (r, τ)) : fr_Ci l g yX7_set (fr_ws yX7_set cX7_set 4 (some .int)) 2 [.ref (g.2.1 0), .int a1, .int a2, .int a3] σ r τ := fr_mi (by decide) (Nat.le_of_ble_eq_true rfl) (fun p e s m below meth c X hr => b_X7_set X hr  rfl hF)
def F_X7_copy (a1 : Int32) (a2 : Int32) (a3 : Int32) (a4 : Int32) (a5 : Int32) (σ : fr_St) : Option (Int32 × fr_St) := fr_bP (F_X6_hasNumber a1 σ) (fun b3 s2 => if (fr_bi b3) = 0 then (some ((-1000001 : Int32), s2)) else (fr_bP (F_X6_hasNumber a3 s2) (fun b6 s5 => if (fr_bi b6) = 0 then (some ((-1000001 : Int32), s5)) else (fr_bP (F_X6_isMissing a1 s5) (fun b9 s8 => if (fr_bi b9) = 0 then (fr_bP (F_X6_isMissing a3 s8) (fun b15 s14 => if (fr_bi b15) = 0 then (fr_bP (F_X6_laneOf a1 s14) (fun r18 s17 => fr_bP (F_X6_laneOf a3 s17) (fun r21 s20 => if r18 = r21 then (fr_bP (F_X6_holds a1 a2 a5 s20) (fun b24 s23 => if (fr_bi b24) = 0 then (fr_bP (F_X7_found (2 : Int32) s23) (fun r27 s26 => some (r27, s26))) else (fr_bP (F_X6_holds a3 a4 a5 s23) (fun b30 s29 => if (fr_bi b30) = 0 then (fr_bP (F_X7_found (2 : Int32) s29) (fun r38 s37 => some (r38, s37))) else (fr_bS (F_X6_bring a1 a2 a3 a4 a5 s29) (fun s32 => fr_bP (F_X7_fine a5 s32) (fun r35 s34 => some (r35, s34)))))))) else (fr_bP (F_X7_found (5 : Int32) s20) (fun r43 s42 => some (r43, s42)))))) else (fr_bP (F_X7_found (1 : Int32) s14) (fun r47 s46 => some (r47, s46))))) else (fr_bP (F_X7_found (1 : Int32) s8) (fun r12 s11 => some (r12, s11))))))))
set_option maxRecDepth 100000 in
set_option maxHeartbeats 4000000 in
theorem b_X7_copy {p : Program} {l : Launch} {e : Env} {s : State} {m : MethodId} {args : Array Value} {below : List Frame} {meth : Method} {c : Code} {g : fr_G} {Q : State → Prop} (X : fr_X p s m args meth c g cX7_copy RX7 6) (hr : meth.sig.returnType = (some .int)) {a1 : Int32} {a2 : Int32} {a3 : Int32} {a4 : Int32} {a5 : Int32}  {σ τ : fr_St} {r : Int32} (hQ : Q = fr_Qi below args s g r τ) (hF : F_X7_copy a1 a2 a3 a4 a5 σ = some (r, τ)) : fr_V p l e (fr_rm 2) s m args below meth c g Q 6 σ 0 [(0, .ref (g.2.1 0)), (1, .int a1), (2, .int a2), (3, .int a3), (4, .int a4), (5, .int a5)] [] := by
  unfold F_X7_copy at hF
  refine sv_iload_n (i := 1) X dX7_copy_0 rfl rfl ?_
  obtain ⟨b3, s2, hc1, hF⟩ := fr_bP_some hF
  refine sv_callSi X (c_X6_hasNumber hc1) cd_X6_hasNumber ml_X7_72 sm_X6_hasNumber in_RX6 hd_X6_hasNumber (by decide) rfl (Nat.le_of_ble_eq_true rfl) dX7_copy_1 rfl ?_
  refine sv_if_eq (tgt := 14) X dX7_copy_4 (by decide) (fun h51 => ?_) (fun h51 => ?_)
  · replace hF := fr_pos hF h51
    refine sv_ldc X kn_X7_76 dX7_copy_14 ?_
    exact sv_iret X hr hQ dX7_copy_16 hF
  · replace hF := fr_neg hF h51
    refine sv_iload_n (i := 3) X dX7_copy_7 rfl rfl ?_
    obtain ⟨b6, s5, hc4, hF⟩ := fr_bP_some hF
    refine sv_callSi X (c_X6_hasNumber hc4) cd_X6_hasNumber ml_X7_72 sm_X6_hasNumber in_RX6 hd_X6_hasNumber (by decide) rfl (Nat.le_of_ble_eq_true rfl) dX7_copy_8 rfl ?_
    refine sv_if_ne (tgt := 17) X dX7_copy_11 (by decide) (fun h50 => ?_) (fun h50 => ?_)
    · replace hF := fr_neg hF h50
      refine sv_aload_n (i := 0) X dX7_copy_17 rfl rfl ?_
      refine sv_getr X ix_X7 rfl 0 (by decide) rfl rfl fl_X7_13 dX7_copy_18 ?_
      refine sv_iload_n (i := 1) X dX7_copy_21 rfl rfl ?_
      obtain ⟨b9, s8, hc7, hF⟩ := fr_bP_some hF
      refine sv_callVi X (c_X6_isMissing hc7) cd_X6_isMissing ml_X7_88 im_X6_isMissing se_X6_isMissing in_RX6 hd_X6_isMissing rfl rfl (by decide) rfl (Nat.le_of_ble_eq_true rfl) dX7_copy_22 rfl ?_
      refine sv_if_ne (tgt := 39) X dX7_copy_25 (by decide) (fun h49 => ?_) (fun h49 => ?_)
      · replace hF := fr_neg hF h49
        refine sv_aload_n (i := 0) X dX7_copy_39 rfl rfl ?_
        refine sv_iconst (v := 1) X dX7_copy_40 (by decide) ?_
        obtain ⟨r12, s11, hc10, hF⟩ := fr_bP_some hF
        refine sv_callVi X (c_X7_found hc10) cd_X7_found ml_X7_77 im_X7_found se_X7_found in_RX7 hd_X7_found rfl rfl (by decide) rfl (Nat.le_of_ble_eq_true rfl) dX7_copy_41 rfl ?_
        exact sv_iret X hr hQ dX7_copy_44 hF
      · replace hF := fr_pos hF h49
        refine sv_aload_n (i := 0) X dX7_copy_28 rfl rfl ?_
        refine sv_getr X ix_X7 rfl 0 (by decide) rfl rfl fl_X7_13 dX7_copy_29 ?_
        refine sv_iload_n (i := 3) X dX7_copy_32 rfl rfl ?_
        obtain ⟨b15, s14, hc13, hF⟩ := fr_bP_some hF
        refine sv_callVi X (c_X6_isMissing hc13) cd_X6_isMissing ml_X7_88 im_X6_isMissing se_X6_isMissing in_RX6 hd_X6_isMissing rfl rfl (by decide) rfl (Nat.le_of_ble_eq_true rfl) dX7_copy_33 rfl ?_
        refine sv_if_eq (tgt := 45) X dX7_copy_36 (by decide) (fun h48 => ?_) (fun h48 => ?_)
        · replace hF := fr_pos hF h48
          refine sv_aload_n (i := 0) X dX7_copy_45 rfl rfl ?_
          refine sv_getr X ix_X7 rfl 0 (by decide) rfl rfl fl_X7_13 dX7_copy_46 ?_
          refine sv_iload_n (i := 1) X dX7_copy_49 rfl rfl ?_
          obtain ⟨r18, s17, hc16, hF⟩ := fr_bP_some hF
          refine sv_callVi X (c_X6_laneOf hc16) cd_X6_laneOf ml_X7_99 im_X6_laneOf se_X6_laneOf in_RX6 hd_X6_laneOf rfl rfl (by decide) rfl (Nat.le_of_ble_eq_true rfl) dX7_copy_50 rfl ?_
          refine sv_aload_n (i := 0) X dX7_copy_53 rfl rfl ?_
          refine sv_getr X ix_X7 rfl 0 (by decide) rfl rfl fl_X7_13 dX7_copy_54 ?_
          refine sv_iload_n (i := 3) X dX7_copy_57 rfl rfl ?_
          obtain ⟨r21, s20, hc19, hF⟩ := fr_bP_some hF
          refine sv_callVi X (c_X6_laneOf hc19) cd_X6_laneOf ml_X7_99 im_X6_laneOf se_X6_laneOf in_RX6 hd_X6_laneOf rfl rfl (by decide) rfl (Nat.le_of_ble_eq_true rfl) dX7_copy_58 rfl ?_
          refine sv_icmp_eq (tgt := 70) X dX7_copy_61 (by decide) (fun h44 => ?_) (fun h44 => ?_)
          · replace hF := fr_pos hF h44
            refine sv_aload_n (i := 0) X dX7_copy_70 rfl rfl ?_
            refine sv_getr X ix_X7 rfl 0 (by decide) rfl rfl fl_X7_13 dX7_copy_71 ?_
            refine sv_iload_n (i := 1) X dX7_copy_74 rfl rfl ?_
            refine sv_iload_n (i := 2) X dX7_copy_75 rfl rfl ?_
            refine sv_iload (i := 5) X dX7_copy_76 rfl ?_
            obtain ⟨b24, s23, hc22, hF⟩ := fr_bP_some hF
            refine sv_callVi X (c_X6_holds hc22) cd_X6_holds ml_X7_91 im_X6_holds se_X6_holds in_RX6 hd_X6_holds rfl rfl (by decide) rfl (Nat.le_of_ble_eq_true rfl) dX7_copy_78 rfl ?_
            refine sv_if_eq (tgt := 99) X dX7_copy_81 (by decide) (fun h40 => ?_) (fun h40 => ?_)
            · replace hF := fr_pos hF h40
              refine sv_aload_n (i := 0) X dX7_copy_99 rfl rfl ?_
              refine sv_iconst (v := 2) X dX7_copy_100 (by decide) ?_
              obtain ⟨r27, s26, hc25, hF⟩ := fr_bP_some hF
              refine sv_callVi X (c_X7_found hc25) cd_X7_found ml_X7_77 im_X7_found se_X7_found in_RX7 hd_X7_found rfl rfl (by decide) rfl (Nat.le_of_ble_eq_true rfl) dX7_copy_101 rfl ?_
              exact sv_iret X hr hQ dX7_copy_104 hF
            · replace hF := fr_neg hF h40
              refine sv_aload_n (i := 0) X dX7_copy_84 rfl rfl ?_
              refine sv_getr X ix_X7 rfl 0 (by decide) rfl rfl fl_X7_13 dX7_copy_85 ?_
              refine sv_iload_n (i := 3) X dX7_copy_88 rfl rfl ?_
              refine sv_iload (i := 4) X dX7_copy_89 rfl ?_
              refine sv_iload (i := 5) X dX7_copy_91 rfl ?_
              obtain ⟨b30, s29, hc28, hF⟩ := fr_bP_some hF
              refine sv_callVi X (c_X6_holds hc28) cd_X6_holds ml_X7_91 im_X6_holds se_X6_holds in_RX6 hd_X6_holds rfl rfl (by decide) rfl (Nat.le_of_ble_eq_true rfl) dX7_copy_93 rfl ?_
              refine sv_if_ne (tgt := 105) X dX7_copy_96 (by decide) (fun h39 => ?_) (fun h39 => ?_)
              · replace hF := fr_neg hF h39
                refine sv_aload_n (i := 0) X dX7_copy_105 rfl rfl ?_
                refine sv_getr X ix_X7 rfl 0 (by decide) rfl rfl fl_X7_13 dX7_copy_106 ?_
                refine sv_iload_n (i := 1) X dX7_copy_109 rfl rfl ?_
                refine sv_iload_n (i := 2) X dX7_copy_110 rfl rfl ?_
                refine sv_iload_n (i := 3) X dX7_copy_111 rfl rfl ?_
                refine sv_iload (i := 4) X dX7_copy_112 rfl ?_
                refine sv_iload (i := 5) X dX7_copy_114 rfl ?_
                obtain ⟨s32, hc31, hF⟩ := fr_bS_some hF
                refine sv_callVv X (c_X6_bring hc31) cd_X6_bring ml_X7_102 im_X6_bring se_X6_bring in_RX6 hd_X6_bring rfl rfl (by decide) rfl (Nat.le_of_ble_eq_true rfl) dX7_copy_116 rfl ?_
                refine sv_aload_n (i := 0) X dX7_copy_119 rfl rfl ?_
                refine sv_iload (i := 5) X dX7_copy_120 rfl ?_
                obtain ⟨r35, s34, hc33, hF⟩ := fr_bP_some hF
                refine sv_callVi X (c_X7_fine hc33) cd_X7_fine ml_X7_85 im_X7_fine se_X7_fine in_RX7 hd_X7_fine rfl rfl (by decide) rfl (Nat.le_of_ble_eq_true rfl) dX7_copy_122 rfl ?_
                exact sv_iret X hr hQ dX7_copy_125 hF
              · replace hF := fr_pos hF h39
                refine sv_aload_n (i := 0) X dX7_copy_99 rfl rfl ?_
                refine sv_iconst (v := 2) X dX7_copy_100 (by decide) ?_
                obtain ⟨r38, s37, hc36, hF⟩ := fr_bP_some hF
                refine sv_callVi X (c_X7_found hc36) cd_X7_found ml_X7_77 im_X7_found se_X7_found in_RX7 hd_X7_found rfl rfl (by decide) rfl (Nat.le_of_ble_eq_true rfl) dX7_copy_101 rfl ?_
                exact sv_iret X hr hQ dX7_copy_104 hF
          · replace hF := fr_neg hF h44
            refine sv_aload_n (i := 0) X dX7_copy_64 rfl rfl ?_
            refine sv_iconst (v := 5) X dX7_copy_65 (by decide) ?_
            obtain ⟨r43, s42, hc41, hF⟩ := fr_bP_some hF
            refine sv_callVi X (c_X7_found hc41) cd_X7_found ml_X7_77 im_X7_found se_X7_found in_RX7 hd_X7_found rfl rfl (by decide) rfl (Nat.le_of_ble_eq_true rfl) dX7_copy_66 rfl ?_
            exact sv_iret X hr hQ dX7_copy_69 hF
        · replace hF := fr_neg hF h48
          refine sv_aload_n (i := 0) X dX7_copy_39 rfl rfl ?_
          refine sv_iconst (v := 1) X dX7_copy_40 (by decide) ?_
          obtain ⟨r47, s46, hc45, hF⟩ := fr_bP_some hF
          refine sv_callVi X (c_X7_found hc45) cd_X7_found ml_X7_77 im_X7_found se_X7_found in_RX7 hd_X7_found rfl rfl (by decide) rfl (Nat.le_of_ble_eq_true rfl) dX7_copy_41 rfl ?_
          exact sv_iret X hr hQ dX7_copy_44 hF
    · replace hF := fr_pos hF h50
      refine sv_ldc X kn_X7_76 dX7_copy_14 ?_
      exact sv_iret X hr hQ dX7_copy_16 hF
theorem c_X7_copy {l : Launch} {g : fr_G} {a1 : Int32} {a2 : Int32} {a3 : Int32} {a4 : Int32} {a5 : Int32}  {σ τ : fr_St} {r : Int32} (hF : F_X7_copy a1 a2 a3 a4 a5 σ = some (r, τ)) : fr_Ci l g yX7_copy (fr_ws yX7_copy cX7_copy 6 (some .int)) 2 [.ref (g.2.1 0), .int a1, .int a2, .int a3, .int a4, .int a5] σ r τ := fr_mi (by decide) (Nat.le_of_ble_eq_true rfl) (fun p e s m below meth c X hr => b_X7_copy X hr  rfl hF)
def F_X7_drop (a1 : Int32) (σ : fr_St) : Option (Int32 × fr_St) := fr_bP (F_X6_hasNumber a1 σ) (fun b3 s2 => if (fr_bi b3) = 0 then (some ((-1000001 : Int32), s2)) else (fr_bP (F_X6_isMissing a1 s2) (fun b6 s5 => if (fr_bi b6) = 0 then (fr_bP (F_X6_takeAway a1 s5) (fun r9 s8 => fr_bP (F_X7_fine r9 s8) (fun r12 s11 => some (r12, s11)))) else (fr_bP (F_X7_found (1 : Int32) s5) (fun r15 s14 => some (r15, s14))))))
set_option maxRecDepth 100000 in
set_option maxHeartbeats 4000000 in
theorem b_X7_drop {p : Program} {l : Launch} {e : Env} {s : State} {m : MethodId} {args : Array Value} {below : List Frame} {meth : Method} {c : Code} {g : fr_G} {Q : State → Prop} (X : fr_X p s m args meth c g cX7_drop RX7 2) (hr : meth.sig.returnType = (some .int)) {a1 : Int32}  {σ τ : fr_St} {r : Int32} (hQ : Q = fr_Qi below args s g r τ) (hF : F_X7_drop a1 σ = some (r, τ)) : fr_V p l e (fr_rm 1) s m args below meth c g Q 2 σ 0 [(0, .ref (g.2.1 0)), (1, .int a1)] [] := by
  unfold F_X7_drop at hF
  refine sv_iload_n (i := 1) X dX7_drop_0 rfl rfl ?_
  obtain ⟨b3, s2, hc1, hF⟩ := fr_bP_some hF
  refine sv_callSi X (c_X6_hasNumber hc1) cd_X6_hasNumber ml_X7_72 sm_X6_hasNumber in_RX6 hd_X6_hasNumber (by decide) rfl (Nat.le_of_ble_eq_true rfl) dX7_drop_1 rfl ?_
  refine sv_if_ne (tgt := 10) X dX7_drop_4 (by decide) (fun h17 => ?_) (fun h17 => ?_)
  · replace hF := fr_neg hF h17
    refine sv_aload_n (i := 0) X dX7_drop_10 rfl rfl ?_
    refine sv_getr X ix_X7 rfl 0 (by decide) rfl rfl fl_X7_13 dX7_drop_11 ?_
    refine sv_iload_n (i := 1) X dX7_drop_14 rfl rfl ?_
    obtain ⟨b6, s5, hc4, hF⟩ := fr_bP_some hF
    refine sv_callVi X (c_X6_isMissing hc4) cd_X6_isMissing ml_X7_88 im_X6_isMissing se_X6_isMissing in_RX6 hd_X6_isMissing rfl rfl (by decide) rfl (Nat.le_of_ble_eq_true rfl) dX7_drop_15 rfl ?_
    refine sv_if_eq (tgt := 27) X dX7_drop_18 (by decide) (fun h16 => ?_) (fun h16 => ?_)
    · replace hF := fr_pos hF h16
      refine sv_aload_n (i := 0) X dX7_drop_27 rfl rfl ?_
      refine sv_aload_n (i := 0) X dX7_drop_28 rfl rfl ?_
      refine sv_getr X ix_X7 rfl 0 (by decide) rfl rfl fl_X7_13 dX7_drop_29 ?_
      refine sv_iload_n (i := 1) X dX7_drop_32 rfl rfl ?_
      obtain ⟨r9, s8, hc7, hF⟩ := fr_bP_some hF
      refine sv_callVi X (c_X6_takeAway hc7) cd_X6_takeAway ml_X7_106 im_X6_takeAway se_X6_takeAway in_RX6 hd_X6_takeAway rfl rfl (by decide) rfl (Nat.le_of_ble_eq_true rfl) dX7_drop_33 rfl ?_
      obtain ⟨r12, s11, hc10, hF⟩ := fr_bP_some hF
      refine sv_callVi X (c_X7_fine hc10) cd_X7_fine ml_X7_85 im_X7_fine se_X7_fine in_RX7 hd_X7_fine rfl rfl (by decide) rfl (Nat.le_of_ble_eq_true rfl) dX7_drop_36 rfl ?_
      exact sv_iret X hr hQ dX7_drop_39 hF
    · replace hF := fr_neg hF h16
      refine sv_aload_n (i := 0) X dX7_drop_21 rfl rfl ?_
      refine sv_iconst (v := 1) X dX7_drop_22 (by decide) ?_
      obtain ⟨r15, s14, hc13, hF⟩ := fr_bP_some hF
      refine sv_callVi X (c_X7_found hc13) cd_X7_found ml_X7_77 im_X7_found se_X7_found in_RX7 hd_X7_found rfl rfl (by decide) rfl (Nat.le_of_ble_eq_true rfl) dX7_drop_23 rfl ?_
      exact sv_iret X hr hQ dX7_drop_26 hF
  · replace hF := fr_pos hF h17
    refine sv_ldc X kn_X7_76 dX7_drop_7 ?_
    exact sv_iret X hr hQ dX7_drop_9 hF
theorem c_X7_drop {l : Launch} {g : fr_G} {a1 : Int32}  {σ τ : fr_St} {r : Int32} (hF : F_X7_drop a1 σ = some (r, τ)) : fr_Ci l g yX7_drop (fr_ws yX7_drop cX7_drop 2 (some .int)) 1 [.ref (g.2.1 0), .int a1] σ r τ := fr_mi (by decide) (Nat.le_of_ble_eq_true rfl) (fun p e s m below meth c X hr => b_X7_drop X hr  rfl hF)
def F_X7_feed (a1 : Int32) (σ : fr_St) : Option (Int32 × fr_St) := if a1 < 0 then (some ((-1000001 : Int32), σ)) else (if a1 ≤ (255 : Int32) then (fr_bP (F_X4_isFull σ) (fun b3 s2 => if (fr_bi b3) = 0 then (fr_bP (F_X4_append a1 s2) (fun r6 s5 => some (r6, s5))) else (some ((-1000003 : Int32), s2)))) else (some ((-1000001 : Int32), σ)))
set_option maxRecDepth 100000 in
set_option maxHeartbeats 4000000 in
theorem b_X7_feed {p : Program} {l : Launch} {e : Env} {s : State} {m : MethodId} {args : Array Value} {below : List Frame} {meth : Method} {c : Code} {g : fr_G} {Q : State → Prop} (X : fr_X p s m args meth c g cX7_feed RX7 2) (hr : meth.sig.returnType = (some .int)) {a1 : Int32}  {σ τ : fr_St} {r : Int32} (hQ : Q = fr_Qi below args s g r τ) (hF : F_X7_feed a1 σ = some (r, τ)) : fr_V p l e (fr_rm 2) s m args below meth c g Q 2 σ 0 [(0, .ref (g.2.1 0)), (1, .int a1)] [] := by
  unfold F_X7_feed at hF
  refine sv_iload_n (i := 1) X dX7_feed_0 rfl rfl ?_
  refine sv_if_lt (tgt := 11) X dX7_feed_1 (by decide) (fun h9 => ?_) (fun h9 => ?_)
  · replace hF := fr_pos hF h9
    refine sv_ldc X kn_X7_76 dX7_feed_11 ?_
    exact sv_iret X hr hQ dX7_feed_13 hF
  · replace hF := fr_neg hF h9
    refine sv_iload_n (i := 1) X dX7_feed_4 rfl rfl ?_
    refine sv_sipush (v := 255) X dX7_feed_5 (by decide) ?_
    refine sv_icmp_le (tgt := 14) X dX7_feed_8 (by decide) (fun h8 => ?_) (fun h8 => ?_)
    · replace hF := fr_pos hF h8
      refine sv_aload_n (i := 0) X dX7_feed_14 rfl rfl ?_
      refine sv_getr X ix_X7 rfl 1 (by decide) rfl rfl fl_X7_22 dX7_feed_15 ?_
      obtain ⟨b3, s2, hc1, hF⟩ := fr_bP_some hF
      refine sv_callVi X (c_X4_isFull hc1) cd_X4_isFull ml_X7_109 im_X4_isFull se_X4_isFull in_RX4 hd_X4_isFull rfl rfl (by decide) rfl (Nat.le_of_ble_eq_true rfl) dX7_feed_18 rfl ?_
      refine sv_if_eq (tgt := 27) X dX7_feed_21 (by decide) (fun h7 => ?_) (fun h7 => ?_)
      · replace hF := fr_pos hF h7
        refine sv_aload_n (i := 0) X dX7_feed_27 rfl rfl ?_
        refine sv_getr X ix_X7 rfl 1 (by decide) rfl rfl fl_X7_22 dX7_feed_28 ?_
        refine sv_iload_n (i := 1) X dX7_feed_31 rfl rfl ?_
        obtain ⟨r6, s5, hc4, hF⟩ := fr_bP_some hF
        refine sv_callVi X (c_X4_append hc4) cd_X4_append ml_X7_114 im_X4_append se_X4_append in_RX4 hd_X4_append rfl rfl (by decide) rfl (Nat.le_of_ble_eq_true rfl) dX7_feed_32 rfl ?_
        exact sv_iret X hr hQ dX7_feed_35 hF
      · replace hF := fr_neg hF h7
        refine sv_ldc X kn_X7_113 dX7_feed_24 ?_
        exact sv_iret X hr hQ dX7_feed_26 hF
    · replace hF := fr_neg hF h8
      refine sv_ldc X kn_X7_76 dX7_feed_11 ?_
      exact sv_iret X hr hQ dX7_feed_13 hF
theorem c_X7_feed {l : Launch} {g : fr_G} {a1 : Int32}  {σ τ : fr_St} {r : Int32} (hF : F_X7_feed a1 σ = some (r, τ)) : fr_Ci l g yX7_feed (fr_ws yX7_feed cX7_feed 2 (some .int)) 2 [.ref (g.2.1 0), .int a1] σ r τ := fr_mi (by decide) (Nat.le_of_ble_eq_true rfl) (fun p e s m below meth c X hr => b_X7_feed X hr  rfl hF)
def F_X7_land  (σ : fr_St) : Option (Int32 × fr_St) := fr_bP (F_X4_readInto σ) (fun b3 s2 => fr_let ((fr_bi b3)) (fun v4 => fr_bS (F_X4_clearTape s2) (fun s6 => if v4 = 0 then (fr_bP (F_X4_faultNumber s6) (fun r16 s15 => fr_let (fr_up s15 0 9 r16) (fun s17 => fr_bP (F_X4_faultPlace s17) (fun r20 s19 => some (((-1000100 : Int32) - r20), s19))))) else (fr_bS (F_X3_takeFrom 15 18 s6) (fun s8 => fr_bS (F_X0_forgetAll s8) (fun s10 => fr_bP (F_X3_people 15 s10) (fun r13 s12 => some (r13, s12))))))))
set_option maxRecDepth 100000 in
set_option maxHeartbeats 4000000 in
theorem b_X7_land {p : Program} {l : Launch} {e : Env} {s : State} {m : MethodId} {args : Array Value} {below : List Frame} {meth : Method} {c : Code} {g : fr_G} {Q : State → Prop} (X : fr_X p s m args meth c g cX7_land RX7 2) (hr : meth.sig.returnType = (some .int))   {σ τ : fr_St} {r : Int32} (hQ : Q = fr_Qi below args s g r τ) (hF : F_X7_land  σ = some (r, τ)) : fr_V p l e (fr_rm 6) s m args below meth c g Q 2 σ 0 [(0, .ref (g.2.1 0))] [] := by
  unfold F_X7_land at hF
  refine sv_aload_n (i := 0) X dX7_land_0 rfl rfl ?_
  refine sv_getr X ix_X7 rfl 1 (by decide) rfl rfl fl_X7_22 dX7_land_1 ?_
  refine sv_aload_n (i := 0) X dX7_land_4 rfl rfl ?_
  refine sv_getr X ix_X7 rfl 3 (by decide) rfl rfl fl_X7_30 dX7_land_5 ?_
  obtain ⟨b3, s2, hc1, hF⟩ := fr_bP_some hF
  refine sv_callVi X (c_X4_readInto hc1) cd_X4_readInto ml_X7_117 im_X4_readInto se_X4_readInto in_RX4 hd_X4_readInto rfl rfl (by decide) rfl (Nat.le_of_ble_eq_true rfl) dX7_land_8 rfl ?_
  refine sv_topi (fun v4 ev4 => ?_)
  replace hF := fr_lete hF ev4
  refine sv_istore_n X dX7_land_11 rfl (by decide) rfl ?_
  refine sv_aload_n (i := 1) X dX7_land_12 rfl rfl ?_
  refine sv_getr X ix_X7 rfl 1 (by decide) rfl rfl fl_X7_22 dX7_land_13 ?_
  obtain ⟨s6, hc5, hF⟩ := fr_bS_some hF
  refine sv_callVv X (c_X4_clearTape hc5) cd_X4_clearTape ml_X7_121 im_X4_clearTape se_X4_clearTape in_RX4 hd_X4_clearTape rfl rfl (by decide) rfl (Nat.le_of_ble_eq_true rfl) dX7_land_16 rfl ?_
  refine sv_iload_n (i := 0) X dX7_land_19 rfl rfl ?_
  refine sv_if_ne (tgt := 45) X dX7_land_20 (by decide) (fun h21 => ?_) (fun h21 => ?_)
  · replace hF := fr_neg hF h21
    refine sv_aload_n (i := 1) X dX7_land_45 rfl rfl ?_
    refine sv_getr X ix_X7 rfl 2 (by decide) rfl rfl fl_X7_26 dX7_land_46 ?_
    refine sv_aload_n (i := 1) X dX7_land_49 rfl rfl ?_
    refine sv_getr X ix_X7 rfl 3 (by decide) rfl rfl fl_X7_30 dX7_land_50 ?_
    refine sv_getr X ix_X3 rfl 0 (by decide) rfl rfl fl_X7_132 dX7_land_53 ?_
    obtain ⟨s8, hc7, hF⟩ := fr_bS_some hF
    refine sv_callVv X (c_X3_takeFrom rfl rfl rfl hc7) cd_X3_takeFrom ml_X7_136 im_X3_takeFrom se_X3_takeFrom in_RX3 hd_X3_takeFrom rfl rfl (by decide) rfl (Nat.le_of_ble_eq_true rfl) dX7_land_56 rfl ?_
    refine sv_aload_n (i := 1) X dX7_land_59 rfl rfl ?_
    refine sv_getr X ix_X7 rfl 4 (by decide) rfl rfl fl_X7_36 dX7_land_60 ?_
    obtain ⟨s10, hc9, hF⟩ := fr_bS_some hF
    refine sv_callVv X (c_X0_forgetAll hc9) cd_X0_forgetAll ml_X7_140 im_X0_forgetAll se_X0_forgetAll in_RX0 hd_X0_forgetAll rfl rfl (by decide) rfl (Nat.le_of_ble_eq_true rfl) dX7_land_63 rfl ?_
    refine sv_aload_n (i := 1) X dX7_land_66 rfl rfl ?_
    refine sv_getr X ix_X7 rfl 2 (by decide) rfl rfl fl_X7_26 dX7_land_67 ?_
    obtain ⟨r13, s12, hc11, hF⟩ := fr_bP_some hF
    refine sv_callVi X (c_X3_people rfl rfl hc11) cd_X3_people ml_X7_143 im_X3_people se_X3_people in_RX3 hd_X3_people rfl rfl (by decide) rfl (Nat.le_of_ble_eq_true rfl) dX7_land_70 rfl ?_
    exact sv_iret X hr hQ dX7_land_73 hF
  · replace hF := fr_pos hF h21
    refine sv_aload_n (i := 1) X dX7_land_23 rfl rfl ?_
    refine sv_aload_n (i := 1) X dX7_land_24 rfl rfl ?_
    refine sv_getr X ix_X7 rfl 1 (by decide) rfl rfl fl_X7_22 dX7_land_25 ?_
    obtain ⟨r16, s15, hc14, hF⟩ := fr_bP_some hF
    refine sv_callVi X (c_X4_faultNumber hc14) cd_X4_faultNumber ml_X7_124 im_X4_faultNumber se_X4_faultNumber in_RX4 hd_X4_faultNumber rfl rfl (by decide) rfl (Nat.le_of_ble_eq_true rfl) dX7_land_28 rfl ?_
    refine sv_puti (ty := .int) X ix_X7 tyX7_ok nmX7 rfl 9 (by decide) rfl rfl fl_X7_65 rfl rfl rfl rfl dX7_land_31 ?_
    refine sv_sig (fun s17 es17 => ?_)
    replace hF := fr_lete hF es17
    refine sv_ldc X kn_X7_128 dX7_land_34 ?_
    refine sv_aload_n (i := 1) X dX7_land_36 rfl rfl ?_
    refine sv_getr X ix_X7 rfl 1 (by decide) rfl rfl fl_X7_22 dX7_land_37 ?_
    obtain ⟨r20, s19, hc18, hF⟩ := fr_bP_some hF
    refine sv_callVi X (c_X4_faultPlace hc18) cd_X4_faultPlace ml_X7_129 im_X4_faultPlace se_X4_faultPlace in_RX4 hd_X4_faultPlace rfl rfl (by decide) rfl (Nat.le_of_ble_eq_true rfl) dX7_land_40 rfl ?_
    refine sv_isub X dX7_land_43 ?_
    exact sv_iret X hr hQ dX7_land_44 hF
theorem c_X7_land {l : Launch} {g : fr_G}   {σ τ : fr_St} {r : Int32} (hF : F_X7_land  σ = some (r, τ)) : fr_Ci l g yX7_land (fr_ws yX7_land cX7_land 2 (some .int)) 6 [.ref (g.2.1 0)] σ r τ := fr_mi (by decide) (Nat.le_of_ble_eq_true rfl) (fun p e s m below meth c X hr => b_X7_land X hr  rfl hF)
def F_X7_fault  (σ : fr_St) : Option (Int32 × fr_St) := some ((σ 0 9), σ)
set_option maxRecDepth 100000 in
set_option maxHeartbeats 4000000 in
theorem b_X7_fault {p : Program} {l : Launch} {e : Env} {s : State} {m : MethodId} {args : Array Value} {below : List Frame} {meth : Method} {c : Code} {g : fr_G} {Q : State → Prop} (X : fr_X p s m args meth c g cX7_fault RX7 1) (hr : meth.sig.returnType = (some .int))   {σ τ : fr_St} {r : Int32} (hQ : Q = fr_Qi below args s g r τ) (hF : F_X7_fault  σ = some (r, τ)) : fr_V p l e (fr_rm 0) s m args below meth c g Q 1 σ 0 [(0, .ref (g.2.1 0))] [] := by
  unfold F_X7_fault at hF
  refine sv_aload_n (i := 0) X dX7_fault_0 rfl rfl ?_
  refine sv_geti X ix_X7 rfl 9 (by decide) rfl rfl fl_X7_65 dX7_fault_1 ?_
  exact sv_iret X hr hQ dX7_fault_4 hF
theorem c_X7_fault {l : Launch} {g : fr_G}   {σ τ : fr_St} {r : Int32} (hF : F_X7_fault  σ = some (r, τ)) : fr_Ci l g yX7_fault (fr_ws yX7_fault cX7_fault 1 (some .int)) 0 [.ref (g.2.1 0)] σ r τ := fr_mi (by decide) (Nat.le_of_ble_eq_true rfl) (fun p e s m below meth c X hr => b_X7_fault X hr  rfl hF)
def F_X7_walk (a1 : Int32) (a2 : Int32) (σ : fr_St) : Option (Int32 × fr_St) := fr_bP (F_X3_hasPerson 15 a1 σ) (fun b3 s2 => if (fr_bi b3) = 0 then (some ((-1000001 : Int32), s2)) else (fr_bP (F_X3_hasRoad 15 a2 s2) (fun b6 s5 => if (fr_bi b6) = 0 then (some ((-1000001 : Int32), s5)) else (fr_bP (F_X3_canGo 15 a1 a2 s5) (fun b9 s8 => if (fr_bi b9) = 0 then (some ((-1000002 : Int32), s8)) else (fr_bS (F_X0_keep s8) (fun s11 => fr_bS (F_X3_goOver 15 a1 a2 s11) (fun s13 => fr_bP (F_X3_placeOf 15 a1 s13) (fun r16 s15 => some (r16, s15))))))))))
set_option maxRecDepth 100000 in
set_option maxHeartbeats 4000000 in
theorem b_X7_walk {p : Program} {l : Launch} {e : Env} {s : State} {m : MethodId} {args : Array Value} {below : List Frame} {meth : Method} {c : Code} {g : fr_G} {Q : State → Prop} (X : fr_X p s m args meth c g cX7_walk RX7 3) (hr : meth.sig.returnType = (some .int)) {a1 : Int32} {a2 : Int32}  {σ τ : fr_St} {r : Int32} (hQ : Q = fr_Qi below args s g r τ) (hF : F_X7_walk a1 a2 σ = some (r, τ)) : fr_V p l e (fr_rm 4) s m args below meth c g Q 3 σ 0 [(0, .ref (g.2.1 0)), (1, .int a1), (2, .int a2)] [] := by
  unfold F_X7_walk at hF
  refine sv_aload_n (i := 0) X dX7_walk_0 rfl rfl ?_
  refine sv_getr X ix_X7 rfl 2 (by decide) rfl rfl fl_X7_26 dX7_walk_1 ?_
  refine sv_iload_n (i := 1) X dX7_walk_4 rfl rfl ?_
  obtain ⟨b3, s2, hc1, hF⟩ := fr_bP_some hF
  refine sv_callVi X (c_X3_hasPerson rfl rfl hc1) cd_X3_hasPerson ml_X7_146 im_X3_hasPerson se_X3_hasPerson in_RX3 hd_X3_hasPerson rfl rfl (by decide) rfl (Nat.le_of_ble_eq_true rfl) dX7_walk_5 rfl ?_
  refine sv_if_eq (tgt := 22) X dX7_walk_8 (by decide) (fun h19 => ?_) (fun h19 => ?_)
  · replace hF := fr_pos hF h19
    refine sv_ldc X kn_X7_76 dX7_walk_22 ?_
    exact sv_iret X hr hQ dX7_walk_24 hF
  · replace hF := fr_neg hF h19
    refine sv_aload_n (i := 0) X dX7_walk_11 rfl rfl ?_
    refine sv_getr X ix_X7 rfl 2 (by decide) rfl rfl fl_X7_26 dX7_walk_12 ?_
    refine sv_iload_n (i := 2) X dX7_walk_15 rfl rfl ?_
    obtain ⟨b6, s5, hc4, hF⟩ := fr_bP_some hF
    refine sv_callVi X (c_X3_hasRoad rfl rfl hc4) cd_X3_hasRoad ml_X7_149 im_X3_hasRoad se_X3_hasRoad in_RX3 hd_X3_hasRoad rfl rfl (by decide) rfl (Nat.le_of_ble_eq_true rfl) dX7_walk_16 rfl ?_
    refine sv_if_ne (tgt := 25) X dX7_walk_19 (by decide) (fun h18 => ?_) (fun h18 => ?_)
    · replace hF := fr_neg hF h18
      refine sv_aload_n (i := 0) X dX7_walk_25 rfl rfl ?_
      refine sv_getr X ix_X7 rfl 2 (by decide) rfl rfl fl_X7_26 dX7_walk_26 ?_
      refine sv_iload_n (i := 1) X dX7_walk_29 rfl rfl ?_
      refine sv_iload_n (i := 2) X dX7_walk_30 rfl rfl ?_
      obtain ⟨b9, s8, hc7, hF⟩ := fr_bP_some hF
      refine sv_callVi X (c_X3_canGo rfl rfl hc7) cd_X3_canGo ml_X7_152 im_X3_canGo se_X3_canGo in_RX3 hd_X3_canGo rfl rfl (by decide) rfl (Nat.le_of_ble_eq_true rfl) dX7_walk_31 rfl ?_
      refine sv_if_ne (tgt := 40) X dX7_walk_34 (by decide) (fun h17 => ?_) (fun h17 => ?_)
      · replace hF := fr_neg hF h17
        refine sv_aload_n (i := 0) X dX7_walk_40 rfl rfl ?_
        refine sv_getr X ix_X7 rfl 4 (by decide) rfl rfl fl_X7_36 dX7_walk_41 ?_
        refine sv_aload_n (i := 0) X dX7_walk_44 rfl rfl ?_
        refine sv_getr X ix_X7 rfl 2 (by decide) rfl rfl fl_X7_26 dX7_walk_45 ?_
        obtain ⟨s11, hc10, hF⟩ := fr_bS_some hF
        refine sv_callVv X (c_X0_keep hc10) cd_X0_keep ml_X7_157 im_X0_keep se_X0_keep in_RX0 hd_X0_keep rfl rfl (by decide) rfl (Nat.le_of_ble_eq_true rfl) dX7_walk_48 rfl ?_
        refine sv_aload_n (i := 0) X dX7_walk_51 rfl rfl ?_
        refine sv_getr X ix_X7 rfl 2 (by decide) rfl rfl fl_X7_26 dX7_walk_52 ?_
        refine sv_iload_n (i := 1) X dX7_walk_55 rfl rfl ?_
        refine sv_iload_n (i := 2) X dX7_walk_56 rfl rfl ?_
        obtain ⟨s13, hc12, hF⟩ := fr_bS_some hF
        refine sv_callVv X (c_X3_goOver rfl rfl hc12) cd_X3_goOver ml_X7_160 im_X3_goOver se_X3_goOver in_RX3 hd_X3_goOver rfl rfl (by decide) rfl (Nat.le_of_ble_eq_true rfl) dX7_walk_57 rfl ?_
        refine sv_aload_n (i := 0) X dX7_walk_60 rfl rfl ?_
        refine sv_getr X ix_X7 rfl 2 (by decide) rfl rfl fl_X7_26 dX7_walk_61 ?_
        refine sv_iload_n (i := 1) X dX7_walk_64 rfl rfl ?_
        obtain ⟨r16, s15, hc14, hF⟩ := fr_bP_some hF
        refine sv_callVi X (c_X3_placeOf rfl rfl hc14) cd_X3_placeOf ml_X7_164 im_X3_placeOf se_X3_placeOf in_RX3 hd_X3_placeOf rfl rfl (by decide) rfl (Nat.le_of_ble_eq_true rfl) dX7_walk_65 rfl ?_
        exact sv_iret X hr hQ dX7_walk_68 hF
      · replace hF := fr_pos hF h17
        refine sv_ldc X kn_X7_156 dX7_walk_37 ?_
        exact sv_iret X hr hQ dX7_walk_39 hF
    · replace hF := fr_pos hF h18
      refine sv_ldc X kn_X7_76 dX7_walk_22 ?_
      exact sv_iret X hr hQ dX7_walk_24 hF
theorem c_X7_walk {l : Launch} {g : fr_G} {a1 : Int32} {a2 : Int32}  {σ τ : fr_St} {r : Int32} (hF : F_X7_walk a1 a2 σ = some (r, τ)) : fr_Ci l g yX7_walk (fr_ws yX7_walk cX7_walk 3 (some .int)) 4 [.ref (g.2.1 0), .int a1, .int a2] σ r τ := fr_mi (by decide) (Nat.le_of_ble_eq_true rfl) (fun p e s m below meth c X hr => b_X7_walk X hr  rfl hF)
def F_X7_lead (a1 : Int32) (a2 : Int32) (a3 : Int32) (σ : fr_St) : Option (Int32 × fr_St) := fr_bP (F_X3_areTwo 15 a1 a2 σ) (fun b3 s2 => if (fr_bi b3) = 0 then (some ((-1000001 : Int32), s2)) else (fr_bP (F_X3_hasRoad 15 a3 s2) (fun b6 s5 => if (fr_bi b6) = 0 then (some ((-1000001 : Int32), s5)) else (fr_bP (F_X3_placeOf 15 a1 s5) (fun r9 s8 => fr_bP (F_X3_placeOf 15 a2 s8) (fun r12 s11 => if r9 = r12 then (fr_bP (F_X3_canGo 15 a1 a3 s11) (fun b15 s14 => if (fr_bi b15) = 0 then (some ((-1000002 : Int32), s14)) else (fr_bS (F_X0_keep s14) (fun s17 => fr_bS (F_X3_goOver 15 a1 a3 s17) (fun s19 => fr_bS (F_X3_goOver 15 a2 a3 s19) (fun s21 => fr_bP (F_X3_placeOf 15 a1 s21) (fun r24 s23 => some (r24, s23)))))))) else (some ((-1000002 : Int32), s11))))))))
set_option maxRecDepth 100000 in
set_option maxHeartbeats 4000000 in
theorem b_X7_lead {p : Program} {l : Launch} {e : Env} {s : State} {m : MethodId} {args : Array Value} {below : List Frame} {meth : Method} {c : Code} {g : fr_G} {Q : State → Prop} (X : fr_X p s m args meth c g cX7_lead RX7 4) (hr : meth.sig.returnType = (some .int)) {a1 : Int32} {a2 : Int32} {a3 : Int32}  {σ τ : fr_St} {r : Int32} (hQ : Q = fr_Qi below args s g r τ) (hF : F_X7_lead a1 a2 a3 σ = some (r, τ)) : fr_V p l e (fr_rm 4) s m args below meth c g Q 4 σ 0 [(0, .ref (g.2.1 0)), (1, .int a1), (2, .int a2), (3, .int a3)] [] := by
  unfold F_X7_lead at hF
  refine sv_aload_n (i := 0) X dX7_lead_0 rfl rfl ?_
  refine sv_getr X ix_X7 rfl 2 (by decide) rfl rfl fl_X7_26 dX7_lead_1 ?_
  refine sv_iload_n (i := 1) X dX7_lead_4 rfl rfl ?_
  refine sv_iload_n (i := 2) X dX7_lead_5 rfl rfl ?_
  obtain ⟨b3, s2, hc1, hF⟩ := fr_bP_some hF
  refine sv_callVi X (c_X3_areTwo rfl rfl hc1) cd_X3_areTwo ml_X7_167 im_X3_areTwo se_X3_areTwo in_RX3 hd_X3_areTwo rfl rfl (by decide) rfl (Nat.le_of_ble_eq_true rfl) dX7_lead_6 rfl ?_
  refine sv_if_eq (tgt := 23) X dX7_lead_9 (by decide) (fun h28 => ?_) (fun h28 => ?_)
  · replace hF := fr_pos hF h28
    refine sv_ldc X kn_X7_76 dX7_lead_23 ?_
    exact sv_iret X hr hQ dX7_lead_25 hF
  · replace hF := fr_neg hF h28
    refine sv_aload_n (i := 0) X dX7_lead_12 rfl rfl ?_
    refine sv_getr X ix_X7 rfl 2 (by decide) rfl rfl fl_X7_26 dX7_lead_13 ?_
    refine sv_iload_n (i := 3) X dX7_lead_16 rfl rfl ?_
    obtain ⟨b6, s5, hc4, hF⟩ := fr_bP_some hF
    refine sv_callVi X (c_X3_hasRoad rfl rfl hc4) cd_X3_hasRoad ml_X7_149 im_X3_hasRoad se_X3_hasRoad in_RX3 hd_X3_hasRoad rfl rfl (by decide) rfl (Nat.le_of_ble_eq_true rfl) dX7_lead_17 rfl ?_
    refine sv_if_ne (tgt := 26) X dX7_lead_20 (by decide) (fun h27 => ?_) (fun h27 => ?_)
    · replace hF := fr_neg hF h27
      refine sv_aload_n (i := 0) X dX7_lead_26 rfl rfl ?_
      refine sv_getr X ix_X7 rfl 2 (by decide) rfl rfl fl_X7_26 dX7_lead_27 ?_
      refine sv_iload_n (i := 1) X dX7_lead_30 rfl rfl ?_
      obtain ⟨r9, s8, hc7, hF⟩ := fr_bP_some hF
      refine sv_callVi X (c_X3_placeOf rfl rfl hc7) cd_X3_placeOf ml_X7_164 im_X3_placeOf se_X3_placeOf in_RX3 hd_X3_placeOf rfl rfl (by decide) rfl (Nat.le_of_ble_eq_true rfl) dX7_lead_31 rfl ?_
      refine sv_aload_n (i := 0) X dX7_lead_34 rfl rfl ?_
      refine sv_getr X ix_X7 rfl 2 (by decide) rfl rfl fl_X7_26 dX7_lead_35 ?_
      refine sv_iload_n (i := 2) X dX7_lead_38 rfl rfl ?_
      obtain ⟨r12, s11, hc10, hF⟩ := fr_bP_some hF
      refine sv_callVi X (c_X3_placeOf rfl rfl hc10) cd_X3_placeOf ml_X7_164 im_X3_placeOf se_X3_placeOf in_RX3 hd_X3_placeOf rfl rfl (by decide) rfl (Nat.le_of_ble_eq_true rfl) dX7_lead_39 rfl ?_
      refine sv_icmp_ne (tgt := 57) X dX7_lead_42 (by decide) (fun h26 => ?_) (fun h26 => ?_)
      · replace hF := fr_neg hF h26
        refine sv_ldc X kn_X7_156 dX7_lead_57 ?_
        exact sv_iret X hr hQ dX7_lead_59 hF
      · replace hF := fr_pos hF h26
        refine sv_aload_n (i := 0) X dX7_lead_45 rfl rfl ?_
        refine sv_getr X ix_X7 rfl 2 (by decide) rfl rfl fl_X7_26 dX7_lead_46 ?_
        refine sv_iload_n (i := 1) X dX7_lead_49 rfl rfl ?_
        refine sv_iload_n (i := 3) X dX7_lead_50 rfl rfl ?_
        obtain ⟨b15, s14, hc13, hF⟩ := fr_bP_some hF
        refine sv_callVi X (c_X3_canGo rfl rfl hc13) cd_X3_canGo ml_X7_152 im_X3_canGo se_X3_canGo in_RX3 hd_X3_canGo rfl rfl (by decide) rfl (Nat.le_of_ble_eq_true rfl) dX7_lead_51 rfl ?_
        refine sv_if_ne (tgt := 60) X dX7_lead_54 (by decide) (fun h25 => ?_) (fun h25 => ?_)
        · replace hF := fr_neg hF h25
          refine sv_aload_n (i := 0) X dX7_lead_60 rfl rfl ?_
          refine sv_getr X ix_X7 rfl 4 (by decide) rfl rfl fl_X7_36 dX7_lead_61 ?_
          refine sv_aload_n (i := 0) X dX7_lead_64 rfl rfl ?_
          refine sv_getr X ix_X7 rfl 2 (by decide) rfl rfl fl_X7_26 dX7_lead_65 ?_
          obtain ⟨s17, hc16, hF⟩ := fr_bS_some hF
          refine sv_callVv X (c_X0_keep hc16) cd_X0_keep ml_X7_157 im_X0_keep se_X0_keep in_RX0 hd_X0_keep rfl rfl (by decide) rfl (Nat.le_of_ble_eq_true rfl) dX7_lead_68 rfl ?_
          refine sv_aload_n (i := 0) X dX7_lead_71 rfl rfl ?_
          refine sv_getr X ix_X7 rfl 2 (by decide) rfl rfl fl_X7_26 dX7_lead_72 ?_
          refine sv_iload_n (i := 1) X dX7_lead_75 rfl rfl ?_
          refine sv_iload_n (i := 3) X dX7_lead_76 rfl rfl ?_
          obtain ⟨s19, hc18, hF⟩ := fr_bS_some hF
          refine sv_callVv X (c_X3_goOver rfl rfl hc18) cd_X3_goOver ml_X7_160 im_X3_goOver se_X3_goOver in_RX3 hd_X3_goOver rfl rfl (by decide) rfl (Nat.le_of_ble_eq_true rfl) dX7_lead_77 rfl ?_
          refine sv_aload_n (i := 0) X dX7_lead_80 rfl rfl ?_
          refine sv_getr X ix_X7 rfl 2 (by decide) rfl rfl fl_X7_26 dX7_lead_81 ?_
          refine sv_iload_n (i := 2) X dX7_lead_84 rfl rfl ?_
          refine sv_iload_n (i := 3) X dX7_lead_85 rfl rfl ?_
          obtain ⟨s21, hc20, hF⟩ := fr_bS_some hF
          refine sv_callVv X (c_X3_goOver rfl rfl hc20) cd_X3_goOver ml_X7_160 im_X3_goOver se_X3_goOver in_RX3 hd_X3_goOver rfl rfl (by decide) rfl (Nat.le_of_ble_eq_true rfl) dX7_lead_86 rfl ?_
          refine sv_aload_n (i := 0) X dX7_lead_89 rfl rfl ?_
          refine sv_getr X ix_X7 rfl 2 (by decide) rfl rfl fl_X7_26 dX7_lead_90 ?_
          refine sv_iload_n (i := 1) X dX7_lead_93 rfl rfl ?_
          obtain ⟨r24, s23, hc22, hF⟩ := fr_bP_some hF
          refine sv_callVi X (c_X3_placeOf rfl rfl hc22) cd_X3_placeOf ml_X7_164 im_X3_placeOf se_X3_placeOf in_RX3 hd_X3_placeOf rfl rfl (by decide) rfl (Nat.le_of_ble_eq_true rfl) dX7_lead_94 rfl ?_
          exact sv_iret X hr hQ dX7_lead_97 hF
        · replace hF := fr_pos hF h25
          refine sv_ldc X kn_X7_156 dX7_lead_57 ?_
          exact sv_iret X hr hQ dX7_lead_59 hF
    · replace hF := fr_pos hF h27
      refine sv_ldc X kn_X7_76 dX7_lead_23 ?_
      exact sv_iret X hr hQ dX7_lead_25 hF
theorem c_X7_lead {l : Launch} {g : fr_G} {a1 : Int32} {a2 : Int32} {a3 : Int32}  {σ τ : fr_St} {r : Int32} (hF : F_X7_lead a1 a2 a3 σ = some (r, τ)) : fr_Ci l g yX7_lead (fr_ws yX7_lead cX7_lead 4 (some .int)) 4 [.ref (g.2.1 0), .int a1, .int a2, .int a3] σ r τ := fr_mi (by decide) (Nat.le_of_ble_eq_true rfl) (fun p e s m below meth c X hr => b_X7_lead X hr  rfl hF)
def F_X7_change (a1 : Int32) (a2 : Int32) (σ : fr_St) : Option (Int32 × fr_St) := fr_bP (F_X3_areTwo 15 a1 a2 σ) (fun b3 s2 => if (fr_bi b3) = 0 then (some ((-1000001 : Int32), s2)) else (fr_bS (F_X0_keep s2) (fun s5 => fr_bS (F_X3_swapSoles 15 a1 a2 s5) (fun s7 => fr_bP (F_X3_soleOf 15 a1 s7) (fun r10 s9 => some (r10, s9))))))
set_option maxRecDepth 100000 in
set_option maxHeartbeats 4000000 in
theorem b_X7_change {p : Program} {l : Launch} {e : Env} {s : State} {m : MethodId} {args : Array Value} {below : List Frame} {meth : Method} {c : Code} {g : fr_G} {Q : State → Prop} (X : fr_X p s m args meth c g cX7_change RX7 3) (hr : meth.sig.returnType = (some .int)) {a1 : Int32} {a2 : Int32}  {σ τ : fr_St} {r : Int32} (hQ : Q = fr_Qi below args s g r τ) (hF : F_X7_change a1 a2 σ = some (r, τ)) : fr_V p l e (fr_rm 3) s m args below meth c g Q 3 σ 0 [(0, .ref (g.2.1 0)), (1, .int a1), (2, .int a2)] [] := by
  unfold F_X7_change at hF
  refine sv_aload_n (i := 0) X dX7_change_0 rfl rfl ?_
  refine sv_getr X ix_X7 rfl 2 (by decide) rfl rfl fl_X7_26 dX7_change_1 ?_
  refine sv_iload_n (i := 1) X dX7_change_4 rfl rfl ?_
  refine sv_iload_n (i := 2) X dX7_change_5 rfl rfl ?_
  obtain ⟨b3, s2, hc1, hF⟩ := fr_bP_some hF
  refine sv_callVi X (c_X3_areTwo rfl rfl hc1) cd_X3_areTwo ml_X7_167 im_X3_areTwo se_X3_areTwo in_RX3 hd_X3_areTwo rfl rfl (by decide) rfl (Nat.le_of_ble_eq_true rfl) dX7_change_6 rfl ?_
  refine sv_if_ne (tgt := 15) X dX7_change_9 (by decide) (fun h11 => ?_) (fun h11 => ?_)
  · replace hF := fr_neg hF h11
    refine sv_aload_n (i := 0) X dX7_change_15 rfl rfl ?_
    refine sv_getr X ix_X7 rfl 4 (by decide) rfl rfl fl_X7_36 dX7_change_16 ?_
    refine sv_aload_n (i := 0) X dX7_change_19 rfl rfl ?_
    refine sv_getr X ix_X7 rfl 2 (by decide) rfl rfl fl_X7_26 dX7_change_20 ?_
    obtain ⟨s5, hc4, hF⟩ := fr_bS_some hF
    refine sv_callVv X (c_X0_keep hc4) cd_X0_keep ml_X7_157 im_X0_keep se_X0_keep in_RX0 hd_X0_keep rfl rfl (by decide) rfl (Nat.le_of_ble_eq_true rfl) dX7_change_23 rfl ?_
    refine sv_aload_n (i := 0) X dX7_change_26 rfl rfl ?_
    refine sv_getr X ix_X7 rfl 2 (by decide) rfl rfl fl_X7_26 dX7_change_27 ?_
    refine sv_iload_n (i := 1) X dX7_change_30 rfl rfl ?_
    refine sv_iload_n (i := 2) X dX7_change_31 rfl rfl ?_
    obtain ⟨s7, hc6, hF⟩ := fr_bS_some hF
    refine sv_callVv X (c_X3_swapSoles rfl rfl hc6) cd_X3_swapSoles ml_X7_170 im_X3_swapSoles se_X3_swapSoles in_RX3 hd_X3_swapSoles rfl rfl (by decide) rfl (Nat.le_of_ble_eq_true rfl) dX7_change_32 rfl ?_
    refine sv_aload_n (i := 0) X dX7_change_35 rfl rfl ?_
    refine sv_getr X ix_X7 rfl 2 (by decide) rfl rfl fl_X7_26 dX7_change_36 ?_
    refine sv_iload_n (i := 1) X dX7_change_39 rfl rfl ?_
    obtain ⟨r10, s9, hc8, hF⟩ := fr_bP_some hF
    refine sv_callVi X (c_X3_soleOf rfl rfl hc8) cd_X3_soleOf ml_X7_173 im_X3_soleOf se_X3_soleOf in_RX3 hd_X3_soleOf rfl rfl (by decide) rfl (Nat.le_of_ble_eq_true rfl) dX7_change_40 rfl ?_
    exact sv_iret X hr hQ dX7_change_43 hF
  · replace hF := fr_pos hF h11
    refine sv_ldc X kn_X7_76 dX7_change_12 ?_
    exact sv_iret X hr hQ dX7_change_14 hF
theorem c_X7_change {l : Launch} {g : fr_G} {a1 : Int32} {a2 : Int32}  {σ τ : fr_St} {r : Int32} (hF : F_X7_change a1 a2 σ = some (r, τ)) : fr_Ci l g yX7_change (fr_ws yX7_change cX7_change 3 (some .int)) 3 [.ref (g.2.1 0), .int a1, .int a2] σ r τ := fr_mi (by decide) (Nat.le_of_ble_eq_true rfl) (fun p e s m below meth c X hr => b_X7_change X hr  rfl hF)
def F_X7_heels (a1 : Int32) (σ : fr_St) : Option (Int32 × fr_St) := fr_bP (F_X3_hasPerson 15 a1 σ) (fun b3 s2 => if (fr_bi b3) = 0 then (some ((-1000001 : Int32), s2)) else (fr_bS (F_X0_keep s2) (fun s5 => fr_bP (F_X3_soleOf 15 a1 s5) (fun r8 s7 => fr_bP (F_X3_forgetSole 15 r8 s7) (fun r11 s10 => some (r11, s10))))))
set_option maxRecDepth 100000 in
set_option maxHeartbeats 4000000 in
theorem b_X7_heels {p : Program} {l : Launch} {e : Env} {s : State} {m : MethodId} {args : Array Value} {below : List Frame} {meth : Method} {c : Code} {g : fr_G} {Q : State → Prop} (X : fr_X p s m args meth c g cX7_heels RX7 2) (hr : meth.sig.returnType = (some .int)) {a1 : Int32}  {σ τ : fr_St} {r : Int32} (hQ : Q = fr_Qi below args s g r τ) (hF : F_X7_heels a1 σ = some (r, τ)) : fr_V p l e (fr_rm 3) s m args below meth c g Q 2 σ 0 [(0, .ref (g.2.1 0)), (1, .int a1)] [] := by
  unfold F_X7_heels at hF
  refine sv_aload_n (i := 0) X dX7_heels_0 rfl rfl ?_
  refine sv_getr X ix_X7 rfl 2 (by decide) rfl rfl fl_X7_26 dX7_heels_1 ?_
  refine sv_iload_n (i := 1) X dX7_heels_4 rfl rfl ?_
  obtain ⟨b3, s2, hc1, hF⟩ := fr_bP_some hF
  refine sv_callVi X (c_X3_hasPerson rfl rfl hc1) cd_X3_hasPerson ml_X7_146 im_X3_hasPerson se_X3_hasPerson in_RX3 hd_X3_hasPerson rfl rfl (by decide) rfl (Nat.le_of_ble_eq_true rfl) dX7_heels_5 rfl ?_
  refine sv_if_ne (tgt := 14) X dX7_heels_8 (by decide) (fun h12 => ?_) (fun h12 => ?_)
  · replace hF := fr_neg hF h12
    refine sv_aload_n (i := 0) X dX7_heels_14 rfl rfl ?_
    refine sv_getr X ix_X7 rfl 4 (by decide) rfl rfl fl_X7_36 dX7_heels_15 ?_
    refine sv_aload_n (i := 0) X dX7_heels_18 rfl rfl ?_
    refine sv_getr X ix_X7 rfl 2 (by decide) rfl rfl fl_X7_26 dX7_heels_19 ?_
    obtain ⟨s5, hc4, hF⟩ := fr_bS_some hF
    refine sv_callVv X (c_X0_keep hc4) cd_X0_keep ml_X7_157 im_X0_keep se_X0_keep in_RX0 hd_X0_keep rfl rfl (by decide) rfl (Nat.le_of_ble_eq_true rfl) dX7_heels_22 rfl ?_
    refine sv_aload_n (i := 0) X dX7_heels_25 rfl rfl ?_
    refine sv_getr X ix_X7 rfl 2 (by decide) rfl rfl fl_X7_26 dX7_heels_26 ?_
    refine sv_aload_n (i := 0) X dX7_heels_29 rfl rfl ?_
    refine sv_getr X ix_X7 rfl 2 (by decide) rfl rfl fl_X7_26 dX7_heels_30 ?_
    refine sv_iload_n (i := 1) X dX7_heels_33 rfl rfl ?_
    obtain ⟨r8, s7, hc6, hF⟩ := fr_bP_some hF
    refine sv_callVi X (c_X3_soleOf rfl rfl hc6) cd_X3_soleOf ml_X7_173 im_X3_soleOf se_X3_soleOf in_RX3 hd_X3_soleOf rfl rfl (by decide) rfl (Nat.le_of_ble_eq_true rfl) dX7_heels_34 rfl ?_
    obtain ⟨r11, s10, hc9, hF⟩ := fr_bP_some hF
    refine sv_callVi X (c_X3_forgetSole rfl rfl hc9) cd_X3_forgetSole ml_X7_176 im_X3_forgetSole se_X3_forgetSole in_RX3 hd_X3_forgetSole rfl rfl (by decide) rfl (Nat.le_of_ble_eq_true rfl) dX7_heels_37 rfl ?_
    exact sv_iret X hr hQ dX7_heels_40 hF
  · replace hF := fr_pos hF h12
    refine sv_ldc X kn_X7_76 dX7_heels_11 ?_
    exact sv_iret X hr hQ dX7_heels_13 hF
theorem c_X7_heels {l : Launch} {g : fr_G} {a1 : Int32}  {σ τ : fr_St} {r : Int32} (hF : F_X7_heels a1 σ = some (r, τ)) : fr_Ci l g yX7_heels (fr_ws yX7_heels cX7_heels 2 (some .int)) 3 [.ref (g.2.1 0), .int a1] σ r τ := fr_mi (by decide) (Nat.le_of_ble_eq_true rfl) (fun p e s m below meth c X hr => b_X7_heels X hr  rfl hF)
def F_X7_day  (σ : fr_St) : Option (Int32 × fr_St) := fr_bP (F_X3_stands 15 σ) (fun b3 s2 => if (fr_bi b3) = 0 then (some ((-1000002 : Int32), s2)) else (fr_bP (F_X3_today 15 s2) (fun r6 s5 => if r6 < (999 : Int32) then (fr_bS (F_X0_keep s5) (fun s8 => fr_bS (F_X3_nextDay 15 s8) (fun s10 => fr_bP (F_X3_today 15 s10) (fun r13 s12 => some (r13, s12))))) else (some ((-1000003 : Int32), s5)))))
set_option maxRecDepth 100000 in
set_option maxHeartbeats 4000000 in
theorem b_X7_day {p : Program} {l : Launch} {e : Env} {s : State} {m : MethodId} {args : Array Value} {below : List Frame} {meth : Method} {c : Code} {g : fr_G} {Q : State → Prop} (X : fr_X p s m args meth c g cX7_day RX7 1) (hr : meth.sig.returnType = (some .int))   {σ τ : fr_St} {r : Int32} (hQ : Q = fr_Qi below args s g r τ) (hF : F_X7_day  σ = some (r, τ)) : fr_V p l e (fr_rm 3) s m args below meth c g Q 1 σ 0 [(0, .ref (g.2.1 0))] [] := by
  unfold F_X7_day at hF
  refine sv_aload_n (i := 0) X dX7_day_0 rfl rfl ?_
  refine sv_getr X ix_X7 rfl 2 (by decide) rfl rfl fl_X7_26 dX7_day_1 ?_
  obtain ⟨b3, s2, hc1, hF⟩ := fr_bP_some hF
  refine sv_callVi X (c_X3_stands rfl rfl hc1) cd_X3_stands ml_X7_179 im_X3_stands se_X3_stands in_RX3 hd_X3_stands rfl rfl (by decide) rfl (Nat.le_of_ble_eq_true rfl) dX7_day_4 rfl ?_
  refine sv_if_ne (tgt := 13) X dX7_day_7 (by decide) (fun h15 => ?_) (fun h15 => ?_)
  · replace hF := fr_neg hF h15
    refine sv_aload_n (i := 0) X dX7_day_13 rfl rfl ?_
    refine sv_getr X ix_X7 rfl 2 (by decide) rfl rfl fl_X7_26 dX7_day_14 ?_
    obtain ⟨r6, s5, hc4, hF⟩ := fr_bP_some hF
    refine sv_callVi X (c_X3_today rfl rfl hc4) cd_X3_today ml_X7_182 im_X3_today se_X3_today in_RX3 hd_X3_today rfl rfl (by decide) rfl (Nat.le_of_ble_eq_true rfl) dX7_day_17 rfl ?_
    refine sv_sipush (v := 999) X dX7_day_20 (by decide) ?_
    refine sv_icmp_lt (tgt := 29) X dX7_day_23 (by decide) (fun h14 => ?_) (fun h14 => ?_)
    · replace hF := fr_pos hF h14
      refine sv_aload_n (i := 0) X dX7_day_29 rfl rfl ?_
      refine sv_getr X ix_X7 rfl 4 (by decide) rfl rfl fl_X7_36 dX7_day_30 ?_
      refine sv_aload_n (i := 0) X dX7_day_33 rfl rfl ?_
      refine sv_getr X ix_X7 rfl 2 (by decide) rfl rfl fl_X7_26 dX7_day_34 ?_
      obtain ⟨s8, hc7, hF⟩ := fr_bS_some hF
      refine sv_callVv X (c_X0_keep hc7) cd_X0_keep ml_X7_157 im_X0_keep se_X0_keep in_RX0 hd_X0_keep rfl rfl (by decide) rfl (Nat.le_of_ble_eq_true rfl) dX7_day_37 rfl ?_
      refine sv_aload_n (i := 0) X dX7_day_40 rfl rfl ?_
      refine sv_getr X ix_X7 rfl 2 (by decide) rfl rfl fl_X7_26 dX7_day_41 ?_
      obtain ⟨s10, hc9, hF⟩ := fr_bS_some hF
      refine sv_callVv X (c_X3_nextDay rfl rfl hc9) cd_X3_nextDay ml_X7_185 im_X3_nextDay se_X3_nextDay in_RX3 hd_X3_nextDay rfl rfl (by decide) rfl (Nat.le_of_ble_eq_true rfl) dX7_day_44 rfl ?_
      refine sv_aload_n (i := 0) X dX7_day_47 rfl rfl ?_
      refine sv_getr X ix_X7 rfl 2 (by decide) rfl rfl fl_X7_26 dX7_day_48 ?_
      obtain ⟨r13, s12, hc11, hF⟩ := fr_bP_some hF
      refine sv_callVi X (c_X3_today rfl rfl hc11) cd_X3_today ml_X7_182 im_X3_today se_X3_today in_RX3 hd_X3_today rfl rfl (by decide) rfl (Nat.le_of_ble_eq_true rfl) dX7_day_51 rfl ?_
      exact sv_iret X hr hQ dX7_day_54 hF
    · replace hF := fr_neg hF h14
      refine sv_ldc X kn_X7_113 dX7_day_26 ?_
      exact sv_iret X hr hQ dX7_day_28 hF
  · replace hF := fr_pos hF h15
    refine sv_ldc X kn_X7_156 dX7_day_10 ?_
    exact sv_iret X hr hQ dX7_day_12 hF
theorem c_X7_day {l : Launch} {g : fr_G}   {σ τ : fr_St} {r : Int32} (hF : F_X7_day  σ = some (r, τ)) : fr_Ci l g yX7_day (fr_ws yX7_day cX7_day 1 (some .int)) 3 [.ref (g.2.1 0)] σ r τ := fr_mi (by decide) (Nat.le_of_ble_eq_true rfl) (fun p e s m below meth c X hr => b_X7_day X hr  rfl hF)
def F_X7_undo  (σ : fr_St) : Option (Int32 × fr_St) := fr_bP (F_X0_number σ) (fun r3 s2 => if r3 = 0 then (some ((-1000002 : Int32), s2)) else (fr_bS (F_X0_takeBack s2) (fun s5 => fr_bP (F_X0_number s5) (fun r8 s7 => some (r8, s7)))))
set_option maxRecDepth 100000 in
set_option maxHeartbeats 4000000 in
theorem b_X7_undo {p : Program} {l : Launch} {e : Env} {s : State} {m : MethodId} {args : Array Value} {below : List Frame} {meth : Method} {c : Code} {g : fr_G} {Q : State → Prop} (X : fr_X p s m args meth c g cX7_undo RX7 1) (hr : meth.sig.returnType = (some .int))   {σ τ : fr_St} {r : Int32} (hQ : Q = fr_Qi below args s g r τ) (hF : F_X7_undo  σ = some (r, τ)) : fr_V p l e (fr_rm 3) s m args below meth c g Q 1 σ 0 [(0, .ref (g.2.1 0))] [] := by
  unfold F_X7_undo at hF
  refine sv_aload_n (i := 0) X dX7_undo_0 rfl rfl ?_
  refine sv_getr X ix_X7 rfl 4 (by decide) rfl rfl fl_X7_36 dX7_undo_1 ?_
  obtain ⟨r3, s2, hc1, hF⟩ := fr_bP_some hF
  refine sv_callVi X (c_X0_number hc1) cd_X0_number ml_X7_188 im_X0_number se_X0_number in_RX0 hd_X0_number rfl rfl (by decide) rfl (Nat.le_of_ble_eq_true rfl) dX7_undo_4 rfl ?_
  refine sv_if_ne (tgt := 13) X dX7_undo_7 (by decide) (fun h9 => ?_) (fun h9 => ?_)
  · replace hF := fr_neg hF h9
    refine sv_aload_n (i := 0) X dX7_undo_13 rfl rfl ?_
    refine sv_getr X ix_X7 rfl 4 (by decide) rfl rfl fl_X7_36 dX7_undo_14 ?_
    refine sv_aload_n (i := 0) X dX7_undo_17 rfl rfl ?_
    refine sv_getr X ix_X7 rfl 2 (by decide) rfl rfl fl_X7_26 dX7_undo_18 ?_
    obtain ⟨s5, hc4, hF⟩ := fr_bS_some hF
    refine sv_callVv X (c_X0_takeBack hc4) cd_X0_takeBack ml_X7_191 im_X0_takeBack se_X0_takeBack in_RX0 hd_X0_takeBack rfl rfl (by decide) rfl (Nat.le_of_ble_eq_true rfl) dX7_undo_21 rfl ?_
    refine sv_aload_n (i := 0) X dX7_undo_24 rfl rfl ?_
    refine sv_getr X ix_X7 rfl 4 (by decide) rfl rfl fl_X7_36 dX7_undo_25 ?_
    obtain ⟨r8, s7, hc6, hF⟩ := fr_bP_some hF
    refine sv_callVi X (c_X0_number hc6) cd_X0_number ml_X7_188 im_X0_number se_X0_number in_RX0 hd_X0_number rfl rfl (by decide) rfl (Nat.le_of_ble_eq_true rfl) dX7_undo_28 rfl ?_
    exact sv_iret X hr hQ dX7_undo_31 hF
  · replace hF := fr_pos hF h9
    refine sv_ldc X kn_X7_156 dX7_undo_10 ?_
    exact sv_iret X hr hQ dX7_undo_12 hF
theorem c_X7_undo {l : Launch} {g : fr_G}   {σ τ : fr_St} {r : Int32} (hF : F_X7_undo  σ = some (r, τ)) : fr_Ci l g yX7_undo (fr_ws yX7_undo cX7_undo 1 (some .int)) 3 [.ref (g.2.1 0)] σ r τ := fr_mi (by decide) (Nat.le_of_ble_eq_true rfl) (fun p e s m below meth c X hr => b_X7_undo X hr  rfl hF)
def F_X7_person (a1 : Int32) (a2 : Int32) (σ : fr_St) : Option (Int32 × fr_St) := fr_bP (F_X3_hasPerson 15 a1 σ) (fun b3 s2 => if (fr_bi b3) = 0 then (some ((-1000001 : Int32), s2)) else (if a2 = (0 : Int32) then (fr_bP (F_X3_placeOf 15 a1 s2) (fun r7 s6 => some (r7, s6))) else (if a2 = (1 : Int32) then (fr_bP (F_X3_soleOf 15 a1 s2) (fun r11 s10 => some (r11, s10))) else (if a2 = (2 : Int32) then (fr_bP (F_X3_roadsOpenTo 15 a1 s2) (fun r15 s14 => some (r15, s14))) else (some ((-1000001 : Int32), s2))))))
set_option maxRecDepth 100000 in
set_option maxHeartbeats 4000000 in
theorem b_X7_person {p : Program} {l : Launch} {e : Env} {s : State} {m : MethodId} {args : Array Value} {below : List Frame} {meth : Method} {c : Code} {g : fr_G} {Q : State → Prop} (X : fr_X p s m args meth c g cX7_person RX7 3) (hr : meth.sig.returnType = (some .int)) {a1 : Int32} {a2 : Int32}  {σ τ : fr_St} {r : Int32} (hQ : Q = fr_Qi below args s g r τ) (hF : F_X7_person a1 a2 σ = some (r, τ)) : fr_V p l e (fr_rm 4) s m args below meth c g Q 3 σ 0 [(0, .ref (g.2.1 0)), (1, .int a1), (2, .int a2)] [] := by
  unfold F_X7_person at hF
  refine sv_aload_n (i := 0) X dX7_person_0 rfl rfl ?_
  refine sv_getr X ix_X7 rfl 2 (by decide) rfl rfl fl_X7_26 dX7_person_1 ?_
  refine sv_iload_n (i := 1) X dX7_person_4 rfl rfl ?_
  obtain ⟨b3, s2, hc1, hF⟩ := fr_bP_some hF
  refine sv_callVi X (c_X3_hasPerson rfl rfl hc1) cd_X3_hasPerson ml_X7_146 im_X3_hasPerson se_X3_hasPerson in_RX3 hd_X3_hasPerson rfl rfl (by decide) rfl (Nat.le_of_ble_eq_true rfl) dX7_person_5 rfl ?_
  refine sv_if_ne (tgt := 14) X dX7_person_8 (by decide) (fun h16 => ?_) (fun h16 => ?_)
  · replace hF := fr_neg hF h16
    refine sv_iload_n (i := 2) X dX7_person_14 rfl rfl ?_
    by_cases h4 : a2 = (0 : Int32)
    · replace hF := fr_pos hF h4
      refine sv_tin (v := (0 : Int32)) (tgt := 40) X h4 (by decide) (by decide) rfl (by decide) dX7_person_15 ?_
      refine sv_aload_n (i := 0) X dX7_person_40 rfl rfl ?_
      refine sv_getr X ix_X7 rfl 2 (by decide) rfl rfl fl_X7_26 dX7_person_41 ?_
      refine sv_iload_n (i := 1) X dX7_person_44 rfl rfl ?_
      obtain ⟨r7, s6, hc5, hF⟩ := fr_bP_some hF
      refine sv_callVi X (c_X3_placeOf rfl rfl hc5) cd_X3_placeOf ml_X7_164 im_X3_placeOf se_X3_placeOf in_RX3 hd_X3_placeOf rfl rfl (by decide) rfl (Nat.le_of_ble_eq_true rfl) dX7_person_45 rfl ?_
      exact sv_iret X hr hQ dX7_person_48 hF
    · replace hF := fr_neg hF h4
      by_cases h8 : a2 = (1 : Int32)
      · replace hF := fr_pos hF h8
        refine sv_tin (v := (1 : Int32)) (tgt := 49) X h8 (by decide) (by decide) rfl (by decide) dX7_person_15 ?_
        refine sv_aload_n (i := 0) X dX7_person_49 rfl rfl ?_
        refine sv_getr X ix_X7 rfl 2 (by decide) rfl rfl fl_X7_26 dX7_person_50 ?_
        refine sv_iload_n (i := 1) X dX7_person_53 rfl rfl ?_
        obtain ⟨r11, s10, hc9, hF⟩ := fr_bP_some hF
        refine sv_callVi X (c_X3_soleOf rfl rfl hc9) cd_X3_soleOf ml_X7_173 im_X3_soleOf se_X3_soleOf in_RX3 hd_X3_soleOf rfl rfl (by decide) rfl (Nat.le_of_ble_eq_true rfl) dX7_person_54 rfl ?_
        exact sv_iret X hr hQ dX7_person_57 hF
      · replace hF := fr_neg hF h8
        by_cases h12 : a2 = (2 : Int32)
        · replace hF := fr_pos hF h12
          refine sv_tin (v := (2 : Int32)) (tgt := 58) X h12 (by decide) (by decide) rfl (by decide) dX7_person_15 ?_
          refine sv_aload_n (i := 0) X dX7_person_58 rfl rfl ?_
          refine sv_getr X ix_X7 rfl 2 (by decide) rfl rfl fl_X7_26 dX7_person_59 ?_
          refine sv_iload_n (i := 1) X dX7_person_62 rfl rfl ?_
          obtain ⟨r15, s14, hc13, hF⟩ := fr_bP_some hF
          refine sv_callVi X (c_X3_roadsOpenTo rfl rfl hc13) cd_X3_roadsOpenTo ml_X7_194 im_X3_roadsOpenTo se_X3_roadsOpenTo in_RX3 hd_X3_roadsOpenTo rfl rfl (by decide) rfl (Nat.le_of_ble_eq_true rfl) dX7_person_63 rfl ?_
          exact sv_iret X hr hQ dX7_person_66 hF
        · replace hF := fr_neg hF h12
          have hz : ¬ (a2).toInt = 0 ∧ ¬ (a2).toInt = 1 ∧ ¬ (a2).toInt = 2 := ⟨lv_neT h4 (k := (0 : Int32)) (a := 0) (by decide), lv_neT h8 (k := (1 : Int32)) (a := 1) (by decide), lv_neT h12 (k := (2 : Int32)) (a := 2) (by decide)⟩
          refine sv_tout (tgt := 67) X (by omega) (by decide) dX7_person_15 ?_
          refine sv_ldc X kn_X7_76 dX7_person_67 ?_
          exact sv_iret X hr hQ dX7_person_69 hF
  · replace hF := fr_pos hF h16
    refine sv_ldc X kn_X7_76 dX7_person_11 ?_
    exact sv_iret X hr hQ dX7_person_13 hF
theorem c_X7_person {l : Launch} {g : fr_G} {a1 : Int32} {a2 : Int32}  {σ τ : fr_St} {r : Int32} (hF : F_X7_person a1 a2 σ = some (r, τ)) : fr_Ci l g yX7_person (fr_ws yX7_person cX7_person 3 (some .int)) 4 [.ref (g.2.1 0), .int a1, .int a2] σ r τ := fr_mi (by decide) (Nat.le_of_ble_eq_true rfl) (fun p e s m below meth c X hr => b_X7_person X hr  rfl hF)
def F_X7_road (a1 : Int32) (a2 : Int32) (σ : fr_St) : Option (Int32 × fr_St) := fr_bP (F_X3_hasRoad 15 a1 σ) (fun b3 s2 => if (fr_bi b3) = 0 then (some ((-1000001 : Int32), s2)) else (if a2 = (0 : Int32) then (fr_bP (F_X3_oneEnd 15 a1 s2) (fun r7 s6 => some (r7, s6))) else (if a2 = (1 : Int32) then (fr_bP (F_X3_otherEnd 15 a1 s2) (fun r11 s10 => some (r11, s10))) else (if a2 = (2 : Int32) then (fr_bP (F_X3_longOf 15 a1 s2) (fun r15 s14 => some (r15, s14))) else (if a2 = (3 : Int32) then (fr_bP (F_X3_today 15 s2) (fun r19 s18 => fr_bP (F_X3_solesOf 15 a1 r19 s18) (fun r22 s21 => some (r22, s21)))) else (some ((-1000001 : Int32), s2)))))))
set_option maxRecDepth 100000 in
set_option maxHeartbeats 4000000 in
theorem b_X7_road {p : Program} {l : Launch} {e : Env} {s : State} {m : MethodId} {args : Array Value} {below : List Frame} {meth : Method} {c : Code} {g : fr_G} {Q : State → Prop} (X : fr_X p s m args meth c g cX7_road RX7 3) (hr : meth.sig.returnType = (some .int)) {a1 : Int32} {a2 : Int32}  {σ τ : fr_St} {r : Int32} (hQ : Q = fr_Qi below args s g r τ) (hF : F_X7_road a1 a2 σ = some (r, τ)) : fr_V p l e (fr_rm 4) s m args below meth c g Q 3 σ 0 [(0, .ref (g.2.1 0)), (1, .int a1), (2, .int a2)] [] := by
  unfold F_X7_road at hF
  refine sv_aload_n (i := 0) X dX7_road_0 rfl rfl ?_
  refine sv_getr X ix_X7 rfl 2 (by decide) rfl rfl fl_X7_26 dX7_road_1 ?_
  refine sv_iload_n (i := 1) X dX7_road_4 rfl rfl ?_
  obtain ⟨b3, s2, hc1, hF⟩ := fr_bP_some hF
  refine sv_callVi X (c_X3_hasRoad rfl rfl hc1) cd_X3_hasRoad ml_X7_149 im_X3_hasRoad se_X3_hasRoad in_RX3 hd_X3_hasRoad rfl rfl (by decide) rfl (Nat.le_of_ble_eq_true rfl) dX7_road_5 rfl ?_
  refine sv_if_ne (tgt := 14) X dX7_road_8 (by decide) (fun h23 => ?_) (fun h23 => ?_)
  · replace hF := fr_neg hF h23
    refine sv_iload_n (i := 2) X dX7_road_14 rfl rfl ?_
    by_cases h4 : a2 = (0 : Int32)
    · replace hF := fr_pos hF h4
      refine sv_tin (v := (0 : Int32)) (tgt := 44) X h4 (by decide) (by decide) rfl (by decide) dX7_road_15 ?_
      refine sv_aload_n (i := 0) X dX7_road_44 rfl rfl ?_
      refine sv_getr X ix_X7 rfl 2 (by decide) rfl rfl fl_X7_26 dX7_road_45 ?_
      refine sv_iload_n (i := 1) X dX7_road_48 rfl rfl ?_
      obtain ⟨r7, s6, hc5, hF⟩ := fr_bP_some hF
      refine sv_callVi X (c_X3_oneEnd rfl rfl hc5) cd_X3_oneEnd ml_X7_197 im_X3_oneEnd se_X3_oneEnd in_RX3 hd_X3_oneEnd rfl rfl (by decide) rfl (Nat.le_of_ble_eq_true rfl) dX7_road_49 rfl ?_
      exact sv_iret X hr hQ dX7_road_52 hF
    · replace hF := fr_neg hF h4
      by_cases h8 : a2 = (1 : Int32)
      · replace hF := fr_pos hF h8
        refine sv_tin (v := (1 : Int32)) (tgt := 53) X h8 (by decide) (by decide) rfl (by decide) dX7_road_15 ?_
        refine sv_aload_n (i := 0) X dX7_road_53 rfl rfl ?_
        refine sv_getr X ix_X7 rfl 2 (by decide) rfl rfl fl_X7_26 dX7_road_54 ?_
        refine sv_iload_n (i := 1) X dX7_road_57 rfl rfl ?_
        obtain ⟨r11, s10, hc9, hF⟩ := fr_bP_some hF
        refine sv_callVi X (c_X3_otherEnd rfl rfl hc9) cd_X3_otherEnd ml_X7_200 im_X3_otherEnd se_X3_otherEnd in_RX3 hd_X3_otherEnd rfl rfl (by decide) rfl (Nat.le_of_ble_eq_true rfl) dX7_road_58 rfl ?_
        exact sv_iret X hr hQ dX7_road_61 hF
      · replace hF := fr_neg hF h8
        by_cases h12 : a2 = (2 : Int32)
        · replace hF := fr_pos hF h12
          refine sv_tin (v := (2 : Int32)) (tgt := 62) X h12 (by decide) (by decide) rfl (by decide) dX7_road_15 ?_
          refine sv_aload_n (i := 0) X dX7_road_62 rfl rfl ?_
          refine sv_getr X ix_X7 rfl 2 (by decide) rfl rfl fl_X7_26 dX7_road_63 ?_
          refine sv_iload_n (i := 1) X dX7_road_66 rfl rfl ?_
          obtain ⟨r15, s14, hc13, hF⟩ := fr_bP_some hF
          refine sv_callVi X (c_X3_longOf rfl rfl hc13) cd_X3_longOf ml_X7_203 im_X3_longOf se_X3_longOf in_RX3 hd_X3_longOf rfl rfl (by decide) rfl (Nat.le_of_ble_eq_true rfl) dX7_road_67 rfl ?_
          exact sv_iret X hr hQ dX7_road_70 hF
        · replace hF := fr_neg hF h12
          by_cases h16 : a2 = (3 : Int32)
          · replace hF := fr_pos hF h16
            refine sv_tin (v := (3 : Int32)) (tgt := 71) X h16 (by decide) (by decide) rfl (by decide) dX7_road_15 ?_
            refine sv_aload_n (i := 0) X dX7_road_71 rfl rfl ?_
            refine sv_getr X ix_X7 rfl 2 (by decide) rfl rfl fl_X7_26 dX7_road_72 ?_
            refine sv_iload_n (i := 1) X dX7_road_75 rfl rfl ?_
            refine sv_aload_n (i := 0) X dX7_road_76 rfl rfl ?_
            refine sv_getr X ix_X7 rfl 2 (by decide) rfl rfl fl_X7_26 dX7_road_77 ?_
            obtain ⟨r19, s18, hc17, hF⟩ := fr_bP_some hF
            refine sv_callVi X (c_X3_today rfl rfl hc17) cd_X3_today ml_X7_182 im_X3_today se_X3_today in_RX3 hd_X3_today rfl rfl (by decide) rfl (Nat.le_of_ble_eq_true rfl) dX7_road_80 rfl ?_
            obtain ⟨r22, s21, hc20, hF⟩ := fr_bP_some hF
            refine sv_callVi X (c_X3_solesOf rfl rfl hc20) cd_X3_solesOf ml_X7_206 im_X3_solesOf se_X3_solesOf in_RX3 hd_X3_solesOf rfl rfl (by decide) rfl (Nat.le_of_ble_eq_true rfl) dX7_road_83 rfl ?_
            exact sv_iret X hr hQ dX7_road_86 hF
          · replace hF := fr_neg hF h16
            have hz : ¬ (a2).toInt = 0 ∧ ¬ (a2).toInt = 1 ∧ ¬ (a2).toInt = 2 ∧ ¬ (a2).toInt = 3 := ⟨lv_neT h4 (k := (0 : Int32)) (a := 0) (by decide), lv_neT h8 (k := (1 : Int32)) (a := 1) (by decide), lv_neT h12 (k := (2 : Int32)) (a := 2) (by decide), lv_neT h16 (k := (3 : Int32)) (a := 3) (by decide)⟩
            refine sv_tout (tgt := 87) X (by omega) (by decide) dX7_road_15 ?_
            refine sv_ldc X kn_X7_76 dX7_road_87 ?_
            exact sv_iret X hr hQ dX7_road_89 hF
  · replace hF := fr_pos hF h23
    refine sv_ldc X kn_X7_76 dX7_road_11 ?_
    exact sv_iret X hr hQ dX7_road_13 hF
theorem c_X7_road {l : Launch} {g : fr_G} {a1 : Int32} {a2 : Int32}  {σ τ : fr_St} {r : Int32} (hF : F_X7_road a1 a2 σ = some (r, τ)) : fr_Ci l g yX7_road (fr_ws yX7_road cX7_road 3 (some .int)) 4 [.ref (g.2.1 0), .int a1, .int a2] σ r τ := fr_mi (by decide) (Nat.le_of_ble_eq_true rfl) (fun p e s m below meth c X hr => b_X7_road X hr  rfl hF)
def F_X7_met (a1 : Int32) (a2 : Int32) (a3 : Int32) (σ : fr_St) : Option (Int32 × fr_St) := fr_bP (F_X3_hasRoad 15 a1 σ) (fun b3 s2 => if (fr_bi b3) = 0 then (some ((-1000001 : Int32), s2)) else (fr_bP (F_X3_hasSole 15 a2 s2) (fun b6 s5 => if (fr_bi b6) = 0 then (some ((-1000001 : Int32), s5)) else (if a3 = (0 : Int32) then (fr_bP (F_X3_timesMet 15 a1 a2 s5) (fun r10 s9 => some (r10, s9))) else (if a3 = (1 : Int32) then (fr_bP (F_X3_timesMet 15 a1 a2 s5) (fun r14 s13 => fr_bP (if r14 = 0 then (some ((-1000000 : Int32), s13)) else (fr_bP (F_X3_lastMet 15 a1 a2 s13) (fun r21 s20 => some (r21, s20)))) (fun v15 s16 => some (v15, s16)))) else (some ((-1000001 : Int32), s5)))))))
set_option maxRecDepth 100000 in
set_option maxHeartbeats 4000000 in
theorem b_X7_met {p : Program} {l : Launch} {e : Env} {s : State} {m : MethodId} {args : Array Value} {below : List Frame} {meth : Method} {c : Code} {g : fr_G} {Q : State → Prop} (X : fr_X p s m args meth c g cX7_met RX7 4) (hr : meth.sig.returnType = (some .int)) {a1 : Int32} {a2 : Int32} {a3 : Int32}  {σ τ : fr_St} {r : Int32} (hQ : Q = fr_Qi below args s g r τ) (hF : F_X7_met a1 a2 a3 σ = some (r, τ)) : fr_V p l e (fr_rm 3) s m args below meth c g Q 4 σ 0 [(0, .ref (g.2.1 0)), (1, .int a1), (2, .int a2), (3, .int a3)] [] := by
  unfold F_X7_met at hF
  refine sv_aload_n (i := 0) X dX7_met_0 rfl rfl ?_
  refine sv_getr X ix_X7 rfl 2 (by decide) rfl rfl fl_X7_26 dX7_met_1 ?_
  refine sv_iload_n (i := 1) X dX7_met_4 rfl rfl ?_
  obtain ⟨b3, s2, hc1, hF⟩ := fr_bP_some hF
  refine sv_callVi X (c_X3_hasRoad rfl rfl hc1) cd_X3_hasRoad ml_X7_149 im_X3_hasRoad se_X3_hasRoad in_RX3 hd_X3_hasRoad rfl rfl (by decide) rfl (Nat.le_of_ble_eq_true rfl) dX7_met_5 rfl ?_
  refine sv_if_eq (tgt := 22) X dX7_met_8 (by decide) (fun h24 => ?_) (fun h24 => ?_)
  · replace hF := fr_pos hF h24
    refine sv_ldc X kn_X7_76 dX7_met_22 ?_
    exact sv_iret X hr hQ dX7_met_24 hF
  · replace hF := fr_neg hF h24
    refine sv_aload_n (i := 0) X dX7_met_11 rfl rfl ?_
    refine sv_getr X ix_X7 rfl 2 (by decide) rfl rfl fl_X7_26 dX7_met_12 ?_
    refine sv_iload_n (i := 2) X dX7_met_15 rfl rfl ?_
    obtain ⟨b6, s5, hc4, hF⟩ := fr_bP_some hF
    refine sv_callVi X (c_X3_hasSole rfl rfl hc4) cd_X3_hasSole ml_X7_210 im_X3_hasSole se_X3_hasSole in_RX3 hd_X3_hasSole rfl rfl (by decide) rfl (Nat.le_of_ble_eq_true rfl) dX7_met_16 rfl ?_
    refine sv_if_ne (tgt := 25) X dX7_met_19 (by decide) (fun h23 => ?_) (fun h23 => ?_)
    · replace hF := fr_neg hF h23
      refine sv_iload_n (i := 3) X dX7_met_25 rfl rfl ?_
      by_cases h7 : a3 = (0 : Int32)
      · replace hF := fr_pos hF h7
        refine sv_look (off := 26) (tgt := 52) X (by decide) (by first | (rw [h7]; done) | (rw [h7]; rfl)) (by decide) dX7_met_26 ?_
        refine sv_aload_n (i := 0) X dX7_met_52 rfl rfl ?_
        refine sv_getr X ix_X7 rfl 2 (by decide) rfl rfl fl_X7_26 dX7_met_53 ?_
        refine sv_iload_n (i := 1) X dX7_met_56 rfl rfl ?_
        refine sv_iload_n (i := 2) X dX7_met_57 rfl rfl ?_
        obtain ⟨r10, s9, hc8, hF⟩ := fr_bP_some hF
        refine sv_callVi X (c_X3_timesMet rfl rfl hc8) cd_X3_timesMet ml_X7_213 im_X3_timesMet se_X3_timesMet in_RX3 hd_X3_timesMet rfl rfl (by decide) rfl (Nat.le_of_ble_eq_true rfl) dX7_met_58 rfl ?_
        exact sv_iret X hr hQ dX7_met_61 hF
      · replace hF := fr_neg hF h7
        by_cases h11 : a3 = (1 : Int32)
        · replace hF := fr_pos hF h11
          refine sv_look (off := 36) (tgt := 62) X (by decide) (by first | (rw [h11]; done) | (rw [h11]; rfl)) (by decide) dX7_met_26 ?_
          refine sv_aload_n (i := 0) X dX7_met_62 rfl rfl ?_
          refine sv_getr X ix_X7 rfl 2 (by decide) rfl rfl fl_X7_26 dX7_met_63 ?_
          refine sv_iload_n (i := 1) X dX7_met_66 rfl rfl ?_
          refine sv_iload_n (i := 2) X dX7_met_67 rfl rfl ?_
          obtain ⟨r14, s13, hc12, hF⟩ := fr_bP_some hF
          refine sv_callVi X (c_X3_timesMet rfl rfl hc12) cd_X3_timesMet ml_X7_213 im_X3_timesMet se_X3_timesMet in_RX3 hd_X3_timesMet rfl rfl (by decide) rfl (Nat.le_of_ble_eq_true rfl) dX7_met_68 rfl ?_
          obtain ⟨v15, s16, hM17, hF⟩ := fr_bP_some hF
          have K18 : fr_V p l e (fr_rm 3) s m args below meth c g Q 4 s16 88 [(0, .ref (g.2.1 0)), (1, .int a1), (2, .int a2), (3, .int a3)] [.int v15] := by
            exact sv_iret X hr hQ dX7_met_88 hF
          refine sv_if_ne (tgt := 79) X dX7_met_71 (by decide) (fun h22 => ?_) (fun h22 => ?_)
          · replace hM17 := fr_neg hM17 h22
            refine sv_aload_n (i := 0) X dX7_met_79 rfl rfl ?_
            refine sv_getr X ix_X7 rfl 2 (by decide) rfl rfl fl_X7_26 dX7_met_80 ?_
            refine sv_iload_n (i := 1) X dX7_met_83 rfl rfl ?_
            refine sv_iload_n (i := 2) X dX7_met_84 rfl rfl ?_
            obtain ⟨r21, s20, hc19, hM17⟩ := fr_bP_some hM17
            refine sv_callVi X (c_X3_lastMet rfl rfl hc19) cd_X3_lastMet ml_X7_217 im_X3_lastMet se_X3_lastMet in_RX3 hd_X3_lastMet rfl rfl (by decide) rfl (Nat.le_of_ble_eq_true rfl) dX7_met_85 rfl ?_
            obtain ⟨rfl, rfl⟩ := fr_i2 hM17
            exact K18
          · replace hM17 := fr_pos hM17 h22
            refine sv_ldc X kn_X7_216 dX7_met_74 ?_
            refine sv_goto (tgt := 88) X dX7_met_76 (by decide) ?_
            obtain ⟨rfl, rfl⟩ := fr_i2 hM17
            exact K18
        · replace hF := fr_neg hF h11
          refine sv_look (off := 63) (tgt := 89) X (by decide) ((lv_osw h7 (k := (0 : Int32)) (by decide)).trans ((lv_osw h11 (k := (1 : Int32)) (by decide)).trans (rfl))) (by decide) dX7_met_26 ?_
          refine sv_ldc X kn_X7_76 dX7_met_89 ?_
          exact sv_iret X hr hQ dX7_met_91 hF
    · replace hF := fr_pos hF h23
      refine sv_ldc X kn_X7_76 dX7_met_22 ?_
      exact sv_iret X hr hQ dX7_met_24 hF
theorem c_X7_met {l : Launch} {g : fr_G} {a1 : Int32} {a2 : Int32} {a3 : Int32}  {σ τ : fr_St} {r : Int32} (hF : F_X7_met a1 a2 a3 σ = some (r, τ)) : fr_Ci l g yX7_met (fr_ws yX7_met cX7_met 4 (some .int)) 3 [.ref (g.2.1 0), .int a1, .int a2, .int a3] σ r τ := fr_mi (by decide) (Nat.le_of_ble_eq_true rfl) (fun p e s m below meth c X hr => b_X7_met X hr  rfl hF)
def F_X7_reach (a1 : Int32) (σ : fr_St) : Option (Int32 × fr_St) := fr_bP (F_X3_hasPerson 15 a1 σ) (fun b3 s2 => fr_bP (if (fr_bi b3) = 0 then (some ((-1000001 : Int32), s2)) else (fr_bP (F_X5_reachOf a1 s2) (fun r10 s9 => some (r10, s9)))) (fun v4 s5 => some (v4, s5)))
set_option maxRecDepth 100000 in
set_option maxHeartbeats 4000000 in
theorem b_X7_reach {p : Program} {l : Launch} {e : Env} {s : State} {m : MethodId} {args : Array Value} {below : List Frame} {meth : Method} {c : Code} {g : fr_G} {Q : State → Prop} (X : fr_X p s m args meth c g cX7_reach RX7 2) (hr : meth.sig.returnType = (some .int)) {a1 : Int32}  {σ τ : fr_St} {r : Int32} (hQ : Q = fr_Qi below args s g r τ) (hF : F_X7_reach a1 σ = some (r, τ)) : fr_V p l e (fr_rm 5) s m args below meth c g Q 2 σ 0 [(0, .ref (g.2.1 0)), (1, .int a1)] [] := by
  unfold F_X7_reach at hF
  refine sv_aload_n (i := 0) X dX7_reach_0 rfl rfl ?_
  refine sv_getr X ix_X7 rfl 2 (by decide) rfl rfl fl_X7_26 dX7_reach_1 ?_
  refine sv_iload_n (i := 1) X dX7_reach_4 rfl rfl ?_
  obtain ⟨b3, s2, hc1, hF⟩ := fr_bP_some hF
  refine sv_callVi X (c_X3_hasPerson rfl rfl hc1) cd_X3_hasPerson ml_X7_146 im_X3_hasPerson se_X3_hasPerson in_RX3 hd_X3_hasPerson rfl rfl (by decide) rfl (Nat.le_of_ble_eq_true rfl) dX7_reach_5 rfl ?_
  obtain ⟨v4, s5, hM6, hF⟩ := fr_bP_some hF
  have K7 : fr_V p l e (fr_rm 5) s m args below meth c g Q 2 s5 24 [(0, .ref (g.2.1 0)), (1, .int a1)] [.int v4] := by
    exact sv_iret X hr hQ dX7_reach_24 hF
  refine sv_if_eq (tgt := 22) X dX7_reach_8 (by decide) (fun h11 => ?_) (fun h11 => ?_)
  · replace hM6 := fr_pos hM6 h11
    refine sv_ldc X kn_X7_76 dX7_reach_22 ?_
    obtain ⟨rfl, rfl⟩ := fr_i2 hM6
    exact K7
  · replace hM6 := fr_neg hM6 h11
    refine sv_aload_n (i := 0) X dX7_reach_11 rfl rfl ?_
    refine sv_getr X ix_X7 rfl 5 (by decide) rfl rfl fl_X7_45 dX7_reach_12 ?_
    refine sv_iload_n (i := 1) X dX7_reach_15 rfl rfl ?_
    obtain ⟨r10, s9, hc8, hM6⟩ := fr_bP_some hM6
    refine sv_callVi X (c_X5_reachOf hc8) cd_X5_reachOf ml_X7_220 im_X5_reachOf se_X5_reachOf in_RX5 hd_X5_reachOf rfl rfl (by decide) rfl (Nat.le_of_ble_eq_true rfl) dX7_reach_16 rfl ?_
    refine sv_goto (tgt := 24) X dX7_reach_19 (by decide) ?_
    obtain ⟨rfl, rfl⟩ := fr_i2 hM6
    exact K7
theorem c_X7_reach {l : Launch} {g : fr_G} {a1 : Int32}  {σ τ : fr_St} {r : Int32} (hF : F_X7_reach a1 σ = some (r, τ)) : fr_Ci l g yX7_reach (fr_ws yX7_reach cX7_reach 2 (some .int)) 5 [.ref (g.2.1 0), .int a1] σ r τ := fr_mi (by decide) (Nat.le_of_ble_eq_true rfl) (fun p e s m below meth c X hr => b_X7_reach X hr  rfl hF)
def F_X7_way (a1 : Int32) (a2 : Int32) (σ : fr_St) : Option (Int32 × fr_St) := fr_bP (F_X3_hasPerson 15 a1 σ) (fun b3 s2 => fr_bP (if (fr_bi b3) = 0 then (some ((-1000001 : Int32), s2)) else (fr_bP (F_X3_hasPlace 15 a2 s2) (fun b10 s9 => if (fr_bi b10) = 0 then (some ((-1000001 : Int32), s9)) else (fr_bP (F_X5_wayTo a1 a2 s9) (fun r13 s12 => some (r13, s12)))))) (fun v4 s5 => some (v4, s5)))
set_option maxRecDepth 100000 in
set_option maxHeartbeats 4000000 in
theorem b_X7_way {p : Program} {l : Launch} {e : Env} {s : State} {m : MethodId} {args : Array Value} {below : List Frame} {meth : Method} {c : Code} {g : fr_G} {Q : State → Prop} (X : fr_X p s m args meth c g cX7_way RX7 3) (hr : meth.sig.returnType = (some .int)) {a1 : Int32} {a2 : Int32}  {σ τ : fr_St} {r : Int32} (hQ : Q = fr_Qi below args s g r τ) (hF : F_X7_way a1 a2 σ = some (r, τ)) : fr_V p l e (fr_rm 6) s m args below meth c g Q 3 σ 0 [(0, .ref (g.2.1 0)), (1, .int a1), (2, .int a2)] [] := by
  unfold F_X7_way at hF
  refine sv_aload_n (i := 0) X dX7_way_0 rfl rfl ?_
  refine sv_getr X ix_X7 rfl 2 (by decide) rfl rfl fl_X7_26 dX7_way_1 ?_
  refine sv_iload_n (i := 1) X dX7_way_4 rfl rfl ?_
  obtain ⟨b3, s2, hc1, hF⟩ := fr_bP_some hF
  refine sv_callVi X (c_X3_hasPerson rfl rfl hc1) cd_X3_hasPerson ml_X7_146 im_X3_hasPerson se_X3_hasPerson in_RX3 hd_X3_hasPerson rfl rfl (by decide) rfl (Nat.le_of_ble_eq_true rfl) dX7_way_5 rfl ?_
  obtain ⟨v4, s5, hM6, hF⟩ := fr_bP_some hF
  have K7 : fr_V p l e (fr_rm 6) s m args below meth c g Q 3 s5 36 [(0, .ref (g.2.1 0)), (1, .int a1), (2, .int a2)] [.int v4] := by
    exact sv_iret X hr hQ dX7_way_36 hF
  refine sv_if_eq (tgt := 34) X dX7_way_8 (by decide) (fun h15 => ?_) (fun h15 => ?_)
  · replace hM6 := fr_pos hM6 h15
    refine sv_ldc X kn_X7_76 dX7_way_34 ?_
    obtain ⟨rfl, rfl⟩ := fr_i2 hM6
    exact K7
  · replace hM6 := fr_neg hM6 h15
    refine sv_aload_n (i := 0) X dX7_way_11 rfl rfl ?_
    refine sv_getr X ix_X7 rfl 2 (by decide) rfl rfl fl_X7_26 dX7_way_12 ?_
    refine sv_iload_n (i := 2) X dX7_way_15 rfl rfl ?_
    obtain ⟨b10, s9, hc8, hM6⟩ := fr_bP_some hM6
    refine sv_callVi X (c_X3_hasPlace rfl rfl hc8) cd_X3_hasPlace ml_X7_223 im_X3_hasPlace se_X3_hasPlace in_RX3 hd_X3_hasPlace rfl rfl (by decide) rfl (Nat.le_of_ble_eq_true rfl) dX7_way_16 rfl ?_
    refine sv_if_eq (tgt := 34) X dX7_way_19 (by decide) (fun h14 => ?_) (fun h14 => ?_)
    · replace hM6 := fr_pos hM6 h14
      refine sv_ldc X kn_X7_76 dX7_way_34 ?_
      obtain ⟨rfl, rfl⟩ := fr_i2 hM6
      exact K7
    · replace hM6 := fr_neg hM6 h14
      refine sv_aload_n (i := 0) X dX7_way_22 rfl rfl ?_
      refine sv_getr X ix_X7 rfl 5 (by decide) rfl rfl fl_X7_45 dX7_way_23 ?_
      refine sv_iload_n (i := 1) X dX7_way_26 rfl rfl ?_
      refine sv_iload_n (i := 2) X dX7_way_27 rfl rfl ?_
      obtain ⟨r13, s12, hc11, hM6⟩ := fr_bP_some hM6
      refine sv_callVi X (c_X5_wayTo hc11) cd_X5_wayTo ml_X7_226 im_X5_wayTo se_X5_wayTo in_RX5 hd_X5_wayTo rfl rfl (by decide) rfl (Nat.le_of_ble_eq_true rfl) dX7_way_28 rfl ?_
      refine sv_goto (tgt := 36) X dX7_way_31 (by decide) ?_
      obtain ⟨rfl, rfl⟩ := fr_i2 hM6
      exact K7
theorem c_X7_way {l : Launch} {g : fr_G} {a1 : Int32} {a2 : Int32}  {σ τ : fr_St} {r : Int32} (hF : F_X7_way a1 a2 σ = some (r, τ)) : fr_Ci l g yX7_way (fr_ws yX7_way cX7_way 3 (some .int)) 6 [.ref (g.2.1 0), .int a1, .int a2] σ r τ := fr_mi (by decide) (Nat.le_of_ble_eq_true rfl) (fun p e s m below meth c X hr => b_X7_way X hr  rfl hF)
def F_X7_led (a1 : Int32) (a2 : Int32) (a3 : Int32) (σ : fr_St) : Option (Int32 × fr_St) := fr_bP (F_X3_areTwo 15 a1 a2 σ) (fun b3 s2 => fr_bP (if (fr_bi b3) = 0 then (some ((-1000001 : Int32), s2)) else (fr_bP (F_X3_hasPlace 15 a3 s2) (fun b10 s9 => if (fr_bi b10) = 0 then (some ((-1000001 : Int32), s9)) else (fr_bP (F_X5_ledTo a1 a2 a3 s9) (fun r13 s12 => some (r13, s12)))))) (fun v4 s5 => some (v4, s5)))
set_option maxRecDepth 100000 in
set_option maxHeartbeats 4000000 in
theorem b_X7_led {p : Program} {l : Launch} {e : Env} {s : State} {m : MethodId} {args : Array Value} {below : List Frame} {meth : Method} {c : Code} {g : fr_G} {Q : State → Prop} (X : fr_X p s m args meth c g cX7_led RX7 4) (hr : meth.sig.returnType = (some .int)) {a1 : Int32} {a2 : Int32} {a3 : Int32}  {σ τ : fr_St} {r : Int32} (hQ : Q = fr_Qi below args s g r τ) (hF : F_X7_led a1 a2 a3 σ = some (r, τ)) : fr_V p l e (fr_rm 5) s m args below meth c g Q 4 σ 0 [(0, .ref (g.2.1 0)), (1, .int a1), (2, .int a2), (3, .int a3)] [] := by
  unfold F_X7_led at hF
  refine sv_aload_n (i := 0) X dX7_led_0 rfl rfl ?_
  refine sv_getr X ix_X7 rfl 2 (by decide) rfl rfl fl_X7_26 dX7_led_1 ?_
  refine sv_iload_n (i := 1) X dX7_led_4 rfl rfl ?_
  refine sv_iload_n (i := 2) X dX7_led_5 rfl rfl ?_
  obtain ⟨b3, s2, hc1, hF⟩ := fr_bP_some hF
  refine sv_callVi X (c_X3_areTwo rfl rfl hc1) cd_X3_areTwo ml_X7_167 im_X3_areTwo se_X3_areTwo in_RX3 hd_X3_areTwo rfl rfl (by decide) rfl (Nat.le_of_ble_eq_true rfl) dX7_led_6 rfl ?_
  obtain ⟨v4, s5, hM6, hF⟩ := fr_bP_some hF
  have K7 : fr_V p l e (fr_rm 5) s m args below meth c g Q 4 s5 38 [(0, .ref (g.2.1 0)), (1, .int a1), (2, .int a2), (3, .int a3)] [.int v4] := by
    exact sv_iret X hr hQ dX7_led_38 hF
  refine sv_if_eq (tgt := 36) X dX7_led_9 (by decide) (fun h15 => ?_) (fun h15 => ?_)
  · replace hM6 := fr_pos hM6 h15
    refine sv_ldc X kn_X7_76 dX7_led_36 ?_
    obtain ⟨rfl, rfl⟩ := fr_i2 hM6
    exact K7
  · replace hM6 := fr_neg hM6 h15
    refine sv_aload_n (i := 0) X dX7_led_12 rfl rfl ?_
    refine sv_getr X ix_X7 rfl 2 (by decide) rfl rfl fl_X7_26 dX7_led_13 ?_
    refine sv_iload_n (i := 3) X dX7_led_16 rfl rfl ?_
    obtain ⟨b10, s9, hc8, hM6⟩ := fr_bP_some hM6
    refine sv_callVi X (c_X3_hasPlace rfl rfl hc8) cd_X3_hasPlace ml_X7_223 im_X3_hasPlace se_X3_hasPlace in_RX3 hd_X3_hasPlace rfl rfl (by decide) rfl (Nat.le_of_ble_eq_true rfl) dX7_led_17 rfl ?_
    refine sv_if_eq (tgt := 36) X dX7_led_20 (by decide) (fun h14 => ?_) (fun h14 => ?_)
    · replace hM6 := fr_pos hM6 h14
      refine sv_ldc X kn_X7_76 dX7_led_36 ?_
      obtain ⟨rfl, rfl⟩ := fr_i2 hM6
      exact K7
    · replace hM6 := fr_neg hM6 h14
      refine sv_aload_n (i := 0) X dX7_led_23 rfl rfl ?_
      refine sv_getr X ix_X7 rfl 5 (by decide) rfl rfl fl_X7_45 dX7_led_24 ?_
      refine sv_iload_n (i := 1) X dX7_led_27 rfl rfl ?_
      refine sv_iload_n (i := 2) X dX7_led_28 rfl rfl ?_
      refine sv_iload_n (i := 3) X dX7_led_29 rfl rfl ?_
      obtain ⟨r13, s12, hc11, hM6⟩ := fr_bP_some hM6
      refine sv_callVi X (c_X5_ledTo hc11) cd_X5_ledTo ml_X7_229 im_X5_ledTo se_X5_ledTo in_RX5 hd_X5_ledTo rfl rfl (by decide) rfl (Nat.le_of_ble_eq_true rfl) dX7_led_30 rfl ?_
      refine sv_goto (tgt := 38) X dX7_led_33 (by decide) ?_
      obtain ⟨rfl, rfl⟩ := fr_i2 hM6
      exact K7
theorem c_X7_led {l : Launch} {g : fr_G} {a1 : Int32} {a2 : Int32} {a3 : Int32}  {σ τ : fr_St} {r : Int32} (hF : F_X7_led a1 a2 a3 σ = some (r, τ)) : fr_Ci l g yX7_led (fr_ws yX7_led cX7_led 4 (some .int)) 5 [.ref (g.2.1 0), .int a1, .int a2, .int a3] σ r τ := fr_mi (by decide) (Nat.le_of_ble_eq_true rfl) (fun p e s m below meth c X hr => b_X7_led X hr  rfl hF)
def F_X7_isZeroOrOne (a1 : Int32) (σ : fr_St) : Option (Bool × fr_St) := fr_bS (if a1 = 0 then (some ((1 : Int32))) else (if a1 = (1 : Int32) then (some ((1 : Int32))) else (some ((0 : Int32))))) (fun v1 => if v1 = 0 then some (false, σ) else if v1 = 1 then some (true, σ) else none)
set_option maxRecDepth 100000 in
set_option maxHeartbeats 4000000 in
theorem b_X7_isZeroOrOne {p : Program} {l : Launch} {e : Env} {s : State} {m : MethodId} {args : Array Value} {below : List Frame} {meth : Method} {c : Code} {g : fr_G} {Q : State → Prop} (X : fr_X p s m args meth c g cX7_isZeroOrOne RX7 1) (hr : meth.sig.returnType = (some .boolean)) {a1 : Int32}  {σ τ : fr_St} {r : Bool} (hQ : Q = fr_Qi below args s g (fr_bi r) τ) (hF : F_X7_isZeroOrOne a1 σ = some (r, τ)) : fr_V p l e (fr_rm 0) s m args below meth c g Q 1 σ 0 [(0, .int a1)] [] := by
  unfold F_X7_isZeroOrOne at hF
  refine sv_iload_n (i := 0) X dX7_isZeroOrOne_0 rfl rfl ?_
  obtain ⟨v1, hM2, hF⟩ := fr_bS_some hF
  have K3 : fr_V p l e (fr_rm 0) s m args below meth c g Q 1 σ 14 [(0, .int a1)] [.int v1] := by
    exact sv_zretv X hr hQ dX7_isZeroOrOne_14 hF
  refine sv_if_eq (tgt := 9) X dX7_isZeroOrOne_1 (by decide) (fun h5 => ?_) (fun h5 => ?_)
  · replace hM2 := fr_pos hM2 h5
    refine sv_iconst (v := 1) X dX7_isZeroOrOne_9 (by decide) ?_
    refine sv_goto (tgt := 14) X dX7_isZeroOrOne_10 (by decide) ?_
    obtain rfl := fr_i1 hM2
    exact K3
  · replace hM2 := fr_neg hM2 h5
    refine sv_iload_n (i := 0) X dX7_isZeroOrOne_4 rfl rfl ?_
    refine sv_iconst (v := 1) X dX7_isZeroOrOne_5 (by decide) ?_
    refine sv_icmp_ne (tgt := 13) X dX7_isZeroOrOne_6 (by decide) (fun h4 => ?_) (fun h4 => ?_)
    · replace hM2 := fr_neg hM2 h4
      refine sv_iconst (v := 0) X dX7_isZeroOrOne_13 (by decide) ?_
      obtain rfl := fr_i1 hM2
      exact K3
    · replace hM2 := fr_pos hM2 h4
      refine sv_iconst (v := 1) X dX7_isZeroOrOne_9 (by decide) ?_
      refine sv_goto (tgt := 14) X dX7_isZeroOrOne_10 (by decide) ?_
      obtain rfl := fr_i1 hM2
      exact K3
theorem c_X7_isZeroOrOne {l : Launch} {g : fr_G} {a1 : Int32}  {σ τ : fr_St} {r : Bool} (hF : F_X7_isZeroOrOne a1 σ = some (r, τ)) : fr_Ci l g yX7_isZeroOrOne (fr_ws yX7_isZeroOrOne cX7_isZeroOrOne 1 (some .boolean)) 0 [.int a1] σ (fr_bi r) τ := fr_mz (by decide) (Nat.le_of_ble_eq_true rfl) (fun p e s m below meth c X hr => b_X7_isZeroOrOne X hr  rfl hF)
def F_X7_introduced (a1 : Int32) (a2 : Int32) (a3 : Int32) (σ : fr_St) : Option (Int32 × fr_St) := fr_bP (F_X3_hasPerson 15 a1 σ) (fun b3 s2 => if (fr_bi b3) = 0 then (some ((-1000001 : Int32), s2)) else (fr_bP (F_X3_hasPlace 15 a2 s2) (fun b6 s5 => if (fr_bi b6) = 0 then (some ((-1000001 : Int32), s5)) else (fr_bP (F_X7_isZeroOrOne a3 s5) (fun b9 s8 => if (fr_bi b9) = 0 then (some ((-1000001 : Int32), s8)) else (fr_bP (F_X5_introducedTo a1 a2 a3 s8) (fun r12 s11 => some (r12, s11))))))))
set_option maxRecDepth 100000 in
set_option maxHeartbeats 4000000 in
theorem b_X7_introduced {p : Program} {l : Launch} {e : Env} {s : State} {m : MethodId} {args : Array Value} {below : List Frame} {meth : Method} {c : Code} {g : fr_G} {Q : State → Prop} (X : fr_X p s m args meth c g cX7_introduced RX7 4) (hr : meth.sig.returnType = (some .int)) {a1 : Int32} {a2 : Int32} {a3 : Int32}  {σ τ : fr_St} {r : Int32} (hQ : Q = fr_Qi below args s g r τ) (hF : F_X7_introduced a1 a2 a3 σ = some (r, τ)) : fr_V p l e (fr_rm 5) s m args below meth c g Q 4 σ 0 [(0, .ref (g.2.1 0)), (1, .int a1), (2, .int a2), (3, .int a3)] [] := by
  unfold F_X7_introduced at hF
  refine sv_aload_n (i := 0) X dX7_introduced_0 rfl rfl ?_
  refine sv_getr X ix_X7 rfl 2 (by decide) rfl rfl fl_X7_26 dX7_introduced_1 ?_
  refine sv_iload_n (i := 1) X dX7_introduced_4 rfl rfl ?_
  obtain ⟨b3, s2, hc1, hF⟩ := fr_bP_some hF
  refine sv_callVi X (c_X3_hasPerson rfl rfl hc1) cd_X3_hasPerson ml_X7_146 im_X3_hasPerson se_X3_hasPerson in_RX3 hd_X3_hasPerson rfl rfl (by decide) rfl (Nat.le_of_ble_eq_true rfl) dX7_introduced_5 rfl ?_
  refine sv_if_eq (tgt := 29) X dX7_introduced_8 (by decide) (fun h15 => ?_) (fun h15 => ?_)
  · replace hF := fr_pos hF h15
    refine sv_ldc X kn_X7_76 dX7_introduced_29 ?_
    exact sv_iret X hr hQ dX7_introduced_31 hF
  · replace hF := fr_neg hF h15
    refine sv_aload_n (i := 0) X dX7_introduced_11 rfl rfl ?_
    refine sv_getr X ix_X7 rfl 2 (by decide) rfl rfl fl_X7_26 dX7_introduced_12 ?_
    refine sv_iload_n (i := 2) X dX7_introduced_15 rfl rfl ?_
    obtain ⟨b6, s5, hc4, hF⟩ := fr_bP_some hF
    refine sv_callVi X (c_X3_hasPlace rfl rfl hc4) cd_X3_hasPlace ml_X7_223 im_X3_hasPlace se_X3_hasPlace in_RX3 hd_X3_hasPlace rfl rfl (by decide) rfl (Nat.le_of_ble_eq_true rfl) dX7_introduced_16 rfl ?_
    refine sv_if_eq (tgt := 29) X dX7_introduced_19 (by decide) (fun h14 => ?_) (fun h14 => ?_)
    · replace hF := fr_pos hF h14
      refine sv_ldc X kn_X7_76 dX7_introduced_29 ?_
      exact sv_iret X hr hQ dX7_introduced_31 hF
    · replace hF := fr_neg hF h14
      refine sv_iload_n (i := 3) X dX7_introduced_22 rfl rfl ?_
      obtain ⟨b9, s8, hc7, hF⟩ := fr_bP_some hF
      refine sv_callSi X (c_X7_isZeroOrOne hc7) cd_X7_isZeroOrOne ml_X7_232 sm_X7_isZeroOrOne in_RX7 hd_X7_isZeroOrOne (by decide) rfl (Nat.le_of_ble_eq_true rfl) dX7_introduced_23 rfl ?_
      refine sv_if_ne (tgt := 32) X dX7_introduced_26 (by decide) (fun h13 => ?_) (fun h13 => ?_)
      · replace hF := fr_neg hF h13
        refine sv_aload_n (i := 0) X dX7_introduced_32 rfl rfl ?_
        refine sv_getr X ix_X7 rfl 5 (by decide) rfl rfl fl_X7_45 dX7_introduced_33 ?_
        refine sv_iload_n (i := 1) X dX7_introduced_36 rfl rfl ?_
        refine sv_iload_n (i := 2) X dX7_introduced_37 rfl rfl ?_
        refine sv_iload_n (i := 3) X dX7_introduced_38 rfl rfl ?_
        obtain ⟨r12, s11, hc10, hF⟩ := fr_bP_some hF
        refine sv_callVi X (c_X5_introducedTo hc10) cd_X5_introducedTo ml_X7_235 im_X5_introducedTo se_X5_introducedTo in_RX5 hd_X5_introducedTo rfl rfl (by decide) rfl (Nat.le_of_ble_eq_true rfl) dX7_introduced_39 rfl ?_
        exact sv_iret X hr hQ dX7_introduced_42 hF
      · replace hF := fr_pos hF h13
        refine sv_ldc X kn_X7_76 dX7_introduced_29 ?_
        exact sv_iret X hr hQ dX7_introduced_31 hF
theorem c_X7_introduced {l : Launch} {g : fr_G} {a1 : Int32} {a2 : Int32} {a3 : Int32}  {σ τ : fr_St} {r : Int32} (hF : F_X7_introduced a1 a2 a3 σ = some (r, τ)) : fr_Ci l g yX7_introduced (fr_ws yX7_introduced cX7_introduced 4 (some .int)) 5 [.ref (g.2.1 0), .int a1, .int a2, .int a3] σ r τ := fr_mi (by decide) (Nat.le_of_ble_eq_true rfl) (fun p e s m below meth c X hr => b_X7_introduced X hr  rfl hF)
def F_X7_forgets  (σ : fr_St) : Option (Int32 × fr_St) := fr_bP (F_X3_stands 15 σ) (fun b3 s2 => fr_bP (if (fr_bi b3) = 0 then (some ((-1000002 : Int32), s2)) else (fr_bP (F_X5_daysUntilForgotten s2) (fun r10 s9 => some (r10, s9)))) (fun v4 s5 => some (v4, s5)))
set_option maxRecDepth 100000 in
set_option maxHeartbeats 4000000 in
theorem b_X7_forgets {p : Program} {l : Launch} {e : Env} {s : State} {m : MethodId} {args : Array Value} {below : List Frame} {meth : Method} {c : Code} {g : fr_G} {Q : State → Prop} (X : fr_X p s m args meth c g cX7_forgets RX7 1) (hr : meth.sig.returnType = (some .int))   {σ τ : fr_St} {r : Int32} (hQ : Q = fr_Qi below args s g r τ) (hF : F_X7_forgets  σ = some (r, τ)) : fr_V p l e (fr_rm 5) s m args below meth c g Q 1 σ 0 [(0, .ref (g.2.1 0))] [] := by
  unfold F_X7_forgets at hF
  refine sv_aload_n (i := 0) X dX7_forgets_0 rfl rfl ?_
  refine sv_getr X ix_X7 rfl 2 (by decide) rfl rfl fl_X7_26 dX7_forgets_1 ?_
  obtain ⟨b3, s2, hc1, hF⟩ := fr_bP_some hF
  refine sv_callVi X (c_X3_stands rfl rfl hc1) cd_X3_stands ml_X7_179 im_X3_stands se_X3_stands in_RX3 hd_X3_stands rfl rfl (by decide) rfl (Nat.le_of_ble_eq_true rfl) dX7_forgets_4 rfl ?_
  obtain ⟨v4, s5, hM6, hF⟩ := fr_bP_some hF
  have K7 : fr_V p l e (fr_rm 5) s m args below meth c g Q 1 s5 22 [(0, .ref (g.2.1 0))] [.int v4] := by
    exact sv_iret X hr hQ dX7_forgets_22 hF
  refine sv_if_eq (tgt := 20) X dX7_forgets_7 (by decide) (fun h11 => ?_) (fun h11 => ?_)
  · replace hM6 := fr_pos hM6 h11
    refine sv_ldc X kn_X7_156 dX7_forgets_20 ?_
    obtain ⟨rfl, rfl⟩ := fr_i2 hM6
    exact K7
  · replace hM6 := fr_neg hM6 h11
    refine sv_aload_n (i := 0) X dX7_forgets_10 rfl rfl ?_
    refine sv_getr X ix_X7 rfl 5 (by decide) rfl rfl fl_X7_45 dX7_forgets_11 ?_
    obtain ⟨r10, s9, hc8, hM6⟩ := fr_bP_some hM6
    refine sv_callVi X (c_X5_daysUntilForgotten hc8) cd_X5_daysUntilForgotten ml_X7_238 im_X5_daysUntilForgotten se_X5_daysUntilForgotten in_RX5 hd_X5_daysUntilForgotten rfl rfl (by decide) rfl (Nat.le_of_ble_eq_true rfl) dX7_forgets_14 rfl ?_
    refine sv_goto (tgt := 22) X dX7_forgets_17 (by decide) ?_
    obtain ⟨rfl, rfl⟩ := fr_i2 hM6
    exact K7
theorem c_X7_forgets {l : Launch} {g : fr_G}   {σ τ : fr_St} {r : Int32} (hF : F_X7_forgets  σ = some (r, τ)) : fr_Ci l g yX7_forgets (fr_ws yX7_forgets cX7_forgets 1 (some .int)) 5 [.ref (g.2.1 0)] σ r τ := fr_mi (by decide) (Nat.le_of_ble_eq_true rfl) (fun p e s m below meth c X hr => b_X7_forgets X hr  rfl hF)
def F_X7_nobody (a1 : Int32) (σ : fr_St) : Option (Int32 × fr_St) := fr_bP (F_X3_stands 15 σ) (fun b3 s2 => if (fr_bi b3) = 0 then (some ((-1000002 : Int32), s2)) else (fr_bP (if a1 < 0 then (some ((-1000001 : Int32), s2)) else (if a1 ≤ (99 : Int32) then (fr_bP (F_X5_roadsKnowingNobody a1 s2) (fun r10 s9 => some (r10, s9))) else (some ((-1000001 : Int32), s2)))) (fun v4 s5 => some (v4, s5))))
set_option maxRecDepth 100000 in
set_option maxHeartbeats 4000000 in
theorem b_X7_nobody {p : Program} {l : Launch} {e : Env} {s : State} {m : MethodId} {args : Array Value} {below : List Frame} {meth : Method} {c : Code} {g : fr_G} {Q : State → Prop} (X : fr_X p s m args meth c g cX7_nobody RX7 2) (hr : meth.sig.returnType = (some .int)) {a1 : Int32}  {σ τ : fr_St} {r : Int32} (hQ : Q = fr_Qi below args s g r τ) (hF : F_X7_nobody a1 σ = some (r, τ)) : fr_V p l e (fr_rm 5) s m args below meth c g Q 2 σ 0 [(0, .ref (g.2.1 0)), (1, .int a1)] [] := by
  unfold F_X7_nobody at hF
  refine sv_aload_n (i := 0) X dX7_nobody_0 rfl rfl ?_
  refine sv_getr X ix_X7 rfl 2 (by decide) rfl rfl fl_X7_26 dX7_nobody_1 ?_
  obtain ⟨b3, s2, hc1, hF⟩ := fr_bP_some hF
  refine sv_callVi X (c_X3_stands rfl rfl hc1) cd_X3_stands ml_X7_179 im_X3_stands se_X3_stands in_RX3 hd_X3_stands rfl rfl (by decide) rfl (Nat.le_of_ble_eq_true rfl) dX7_nobody_4 rfl ?_
  refine sv_if_ne (tgt := 13) X dX7_nobody_7 (by decide) (fun h13 => ?_) (fun h13 => ?_)
  · replace hF := fr_neg hF h13
    refine sv_iload_n (i := 1) X dX7_nobody_13 rfl rfl ?_
    obtain ⟨v4, s5, hM6, hF⟩ := fr_bP_some hF
    have K7 : fr_V p l e (fr_rm 5) s m args below meth c g Q 2 s5 36 [(0, .ref (g.2.1 0)), (1, .int a1)] [.int v4] := by
      exact sv_iret X hr hQ dX7_nobody_36 hF
    refine sv_if_lt (tgt := 23) X dX7_nobody_14 (by decide) (fun h12 => ?_) (fun h12 => ?_)
    · replace hM6 := fr_pos hM6 h12
      refine sv_ldc X kn_X7_76 dX7_nobody_23 ?_
      refine sv_goto (tgt := 36) X dX7_nobody_25 (by decide) ?_
      obtain ⟨rfl, rfl⟩ := fr_i2 hM6
      exact K7
    · replace hM6 := fr_neg hM6 h12
      refine sv_iload_n (i := 1) X dX7_nobody_17 rfl rfl ?_
      refine sv_bipush (v := 99) X dX7_nobody_18 (by decide) ?_
      refine sv_icmp_le (tgt := 28) X dX7_nobody_20 (by decide) (fun h11 => ?_) (fun h11 => ?_)
      · replace hM6 := fr_pos hM6 h11
        refine sv_aload_n (i := 0) X dX7_nobody_28 rfl rfl ?_
        refine sv_getr X ix_X7 rfl 5 (by decide) rfl rfl fl_X7_45 dX7_nobody_29 ?_
        refine sv_iload_n (i := 1) X dX7_nobody_32 rfl rfl ?_
        obtain ⟨r10, s9, hc8, hM6⟩ := fr_bP_some hM6
        refine sv_callVi X (c_X5_roadsKnowingNobody hc8) cd_X5_roadsKnowingNobody ml_X7_241 im_X5_roadsKnowingNobody se_X5_roadsKnowingNobody in_RX5 hd_X5_roadsKnowingNobody rfl rfl (by decide) rfl (Nat.le_of_ble_eq_true rfl) dX7_nobody_33 rfl ?_
        obtain ⟨rfl, rfl⟩ := fr_i2 hM6
        exact K7
      · replace hM6 := fr_neg hM6 h11
        refine sv_ldc X kn_X7_76 dX7_nobody_23 ?_
        refine sv_goto (tgt := 36) X dX7_nobody_25 (by decide) ?_
        obtain ⟨rfl, rfl⟩ := fr_i2 hM6
        exact K7
  · replace hF := fr_pos hF h13
    refine sv_ldc X kn_X7_156 dX7_nobody_10 ?_
    exact sv_iret X hr hQ dX7_nobody_12 hF
theorem c_X7_nobody {l : Launch} {g : fr_G} {a1 : Int32}  {σ τ : fr_St} {r : Int32} (hF : F_X7_nobody a1 σ = some (r, τ)) : fr_Ci l g yX7_nobody (fr_ws yX7_nobody cX7_nobody 2 (some .int)) 5 [.ref (g.2.1 0), .int a1] σ r τ := fr_mi (by decide) (Nat.le_of_ble_eq_true rfl) (fun p e s m below meth c X hr => b_X7_nobody X hr  rfl hF)
def F_X7_round (a1 : Int32) (σ : fr_St) : Option (Int32 × fr_St) := fr_bP (F_X3_hasPerson 15 a1 σ) (fun b3 s2 => fr_bP (if (fr_bi b3) = 0 then (some ((-1000001 : Int32), s2)) else (fr_bP (F_X5_roundOf a1 s2) (fun r10 s9 => some (r10, s9)))) (fun v4 s5 => some (v4, s5)))
set_option maxRecDepth 100000 in
set_option maxHeartbeats 4000000 in
theorem b_X7_round {p : Program} {l : Launch} {e : Env} {s : State} {m : MethodId} {args : Array Value} {below : List Frame} {meth : Method} {c : Code} {g : fr_G} {Q : State → Prop} (X : fr_X p s m args meth c g cX7_round RX7 2) (hr : meth.sig.returnType = (some .int)) {a1 : Int32}  {σ τ : fr_St} {r : Int32} (hQ : Q = fr_Qi below args s g r τ) (hF : F_X7_round a1 σ = some (r, τ)) : fr_V p l e (fr_rm 5) s m args below meth c g Q 2 σ 0 [(0, .ref (g.2.1 0)), (1, .int a1)] [] := by
  unfold F_X7_round at hF
  refine sv_aload_n (i := 0) X dX7_round_0 rfl rfl ?_
  refine sv_getr X ix_X7 rfl 2 (by decide) rfl rfl fl_X7_26 dX7_round_1 ?_
  refine sv_iload_n (i := 1) X dX7_round_4 rfl rfl ?_
  obtain ⟨b3, s2, hc1, hF⟩ := fr_bP_some hF
  refine sv_callVi X (c_X3_hasPerson rfl rfl hc1) cd_X3_hasPerson ml_X7_146 im_X3_hasPerson se_X3_hasPerson in_RX3 hd_X3_hasPerson rfl rfl (by decide) rfl (Nat.le_of_ble_eq_true rfl) dX7_round_5 rfl ?_
  obtain ⟨v4, s5, hM6, hF⟩ := fr_bP_some hF
  have K7 : fr_V p l e (fr_rm 5) s m args below meth c g Q 2 s5 24 [(0, .ref (g.2.1 0)), (1, .int a1)] [.int v4] := by
    exact sv_iret X hr hQ dX7_round_24 hF
  refine sv_if_eq (tgt := 22) X dX7_round_8 (by decide) (fun h11 => ?_) (fun h11 => ?_)
  · replace hM6 := fr_pos hM6 h11
    refine sv_ldc X kn_X7_76 dX7_round_22 ?_
    obtain ⟨rfl, rfl⟩ := fr_i2 hM6
    exact K7
  · replace hM6 := fr_neg hM6 h11
    refine sv_aload_n (i := 0) X dX7_round_11 rfl rfl ?_
    refine sv_getr X ix_X7 rfl 5 (by decide) rfl rfl fl_X7_45 dX7_round_12 ?_
    refine sv_iload_n (i := 1) X dX7_round_15 rfl rfl ?_
    obtain ⟨r10, s9, hc8, hM6⟩ := fr_bP_some hM6
    refine sv_callVi X (c_X5_roundOf hc8) cd_X5_roundOf ml_X7_244 im_X5_roundOf se_X5_roundOf in_RX5 hd_X5_roundOf rfl rfl (by decide) rfl (Nat.le_of_ble_eq_true rfl) dX7_round_16 rfl ?_
    refine sv_goto (tgt := 24) X dX7_round_19 (by decide) ?_
    obtain ⟨rfl, rfl⟩ := fr_i2 hM6
    exact K7
theorem c_X7_round {l : Launch} {g : fr_G} {a1 : Int32}  {σ τ : fr_St} {r : Int32} (hF : F_X7_round a1 σ = some (r, τ)) : fr_Ci l g yX7_round (fr_ws yX7_round cX7_round 2 (some .int)) 5 [.ref (g.2.1 0), .int a1] σ r τ := fr_mi (by decide) (Nat.le_of_ble_eq_true rfl) (fun p e s m below meth c X hr => b_X7_round X hr  rfl hF)
def F_X7_bars (a1 : Int32) (a2 : Int32) (a3 : Int32) (σ : fr_St) : Option (Int32 × fr_St) := fr_bP (F_X3_hasPerson 15 a1 σ) (fun b3 s2 => if (fr_bi b3) = 0 then (some ((-1000001 : Int32), s2)) else (fr_bP (F_X3_hasPlace 15 a2 s2) (fun b6 s5 => if (fr_bi b6) = 0 then (some ((-1000001 : Int32), s5)) else (fr_bP (F_X7_isZeroOrOne a3 s5) (fun b9 s8 => if (fr_bi b9) = 0 then (some ((-1000001 : Int32), s8)) else (fr_bP (F_X3_placeOf 15 a1 s8) (fun r12 s11 => if r12 = a2 then (some ((-1000000 : Int32), s11)) else (fr_bP (F_X5_barsAgainst a1 a2 s11) (fun r15 s14 => fr_bP (if a3 = 0 then (fr_bP (F_J6_bitCount_0f7a4 r15 s14) (fun r22 s21 => some (r22, s21))) else (some (r15, s14))) (fun v16 s17 => some (v16, s17)))))))))))
set_option maxRecDepth 100000 in
set_option maxHeartbeats 4000000 in
theorem b_X7_bars {p : Program} {l : Launch} {e : Env} {s : State} {m : MethodId} {args : Array Value} {below : List Frame} {meth : Method} {c : Code} {g : fr_G} {Q : State → Prop} (X : fr_X p s m args meth c g cX7_bars RX7 5) (hr : meth.sig.returnType = (some .int)) {a1 : Int32} {a2 : Int32} {a3 : Int32}  {σ τ : fr_St} {r : Int32} (hQ : Q = fr_Qi below args s g r τ) (hF : F_X7_bars a1 a2 a3 σ = some (r, τ)) : fr_V p l e (fr_rm 5) s m args below meth c g Q 5 σ 0 [(0, .ref (g.2.1 0)), (1, .int a1), (2, .int a2), (3, .int a3)] [] := by
  unfold F_X7_bars at hF
  refine sv_aload_n (i := 0) X dX7_bars_0 rfl rfl ?_
  refine sv_getr X ix_X7 rfl 2 (by decide) rfl rfl fl_X7_26 dX7_bars_1 ?_
  refine sv_iload_n (i := 1) X dX7_bars_4 rfl rfl ?_
  obtain ⟨b3, s2, hc1, hF⟩ := fr_bP_some hF
  refine sv_callVi X (c_X3_hasPerson rfl rfl hc1) cd_X3_hasPerson ml_X7_146 im_X3_hasPerson se_X3_hasPerson in_RX3 hd_X3_hasPerson rfl rfl (by decide) rfl (Nat.le_of_ble_eq_true rfl) dX7_bars_5 rfl ?_
  refine sv_if_eq (tgt := 29) X dX7_bars_8 (by decide) (fun h27 => ?_) (fun h27 => ?_)
  · replace hF := fr_pos hF h27
    refine sv_ldc X kn_X7_76 dX7_bars_29 ?_
    exact sv_iret X hr hQ dX7_bars_31 hF
  · replace hF := fr_neg hF h27
    refine sv_aload_n (i := 0) X dX7_bars_11 rfl rfl ?_
    refine sv_getr X ix_X7 rfl 2 (by decide) rfl rfl fl_X7_26 dX7_bars_12 ?_
    refine sv_iload_n (i := 2) X dX7_bars_15 rfl rfl ?_
    obtain ⟨b6, s5, hc4, hF⟩ := fr_bP_some hF
    refine sv_callVi X (c_X3_hasPlace rfl rfl hc4) cd_X3_hasPlace ml_X7_223 im_X3_hasPlace se_X3_hasPlace in_RX3 hd_X3_hasPlace rfl rfl (by decide) rfl (Nat.le_of_ble_eq_true rfl) dX7_bars_16 rfl ?_
    refine sv_if_eq (tgt := 29) X dX7_bars_19 (by decide) (fun h26 => ?_) (fun h26 => ?_)
    · replace hF := fr_pos hF h26
      refine sv_ldc X kn_X7_76 dX7_bars_29 ?_
      exact sv_iret X hr hQ dX7_bars_31 hF
    · replace hF := fr_neg hF h26
      refine sv_iload_n (i := 3) X dX7_bars_22 rfl rfl ?_
      obtain ⟨b9, s8, hc7, hF⟩ := fr_bP_some hF
      refine sv_callSi X (c_X7_isZeroOrOne hc7) cd_X7_isZeroOrOne ml_X7_232 sm_X7_isZeroOrOne in_RX7 hd_X7_isZeroOrOne (by decide) rfl (Nat.le_of_ble_eq_true rfl) dX7_bars_23 rfl ?_
      refine sv_if_ne (tgt := 32) X dX7_bars_26 (by decide) (fun h25 => ?_) (fun h25 => ?_)
      · replace hF := fr_neg hF h25
        refine sv_aload_n (i := 0) X dX7_bars_32 rfl rfl ?_
        refine sv_getr X ix_X7 rfl 2 (by decide) rfl rfl fl_X7_26 dX7_bars_33 ?_
        refine sv_iload_n (i := 1) X dX7_bars_36 rfl rfl ?_
        obtain ⟨r12, s11, hc10, hF⟩ := fr_bP_some hF
        refine sv_callVi X (c_X3_placeOf rfl rfl hc10) cd_X3_placeOf ml_X7_164 im_X3_placeOf se_X3_placeOf in_RX3 hd_X3_placeOf rfl rfl (by decide) rfl (Nat.le_of_ble_eq_true rfl) dX7_bars_37 rfl ?_
        refine sv_iload_n (i := 2) X dX7_bars_40 rfl rfl ?_
        refine sv_icmp_ne (tgt := 47) X dX7_bars_41 (by decide) (fun h24 => ?_) (fun h24 => ?_)
        · replace hF := fr_neg hF h24
          refine sv_aload_n (i := 0) X dX7_bars_47 rfl rfl ?_
          refine sv_getr X ix_X7 rfl 5 (by decide) rfl rfl fl_X7_45 dX7_bars_48 ?_
          refine sv_iload_n (i := 1) X dX7_bars_51 rfl rfl ?_
          refine sv_iload_n (i := 2) X dX7_bars_52 rfl rfl ?_
          obtain ⟨r15, s14, hc13, hF⟩ := fr_bP_some hF
          refine sv_callVi X (c_X5_barsAgainst hc13) cd_X5_barsAgainst ml_X7_247 im_X5_barsAgainst se_X5_barsAgainst in_RX5 hd_X5_barsAgainst rfl rfl (by decide) rfl (Nat.le_of_ble_eq_true rfl) dX7_bars_53 rfl ?_
          refine sv_istore X dX7_bars_56 (by decide) rfl ?_
          refine sv_iload_n (i := 4) X dX7_bars_58 rfl rfl ?_
          obtain ⟨v16, s17, hM18, hF⟩ := fr_bP_some hF
          have K19 : fr_V p l e (fr_rm 5) s m args below meth c g Q 5 s17 72 [(0, .ref (g.2.1 0)), (1, .int a1), (2, .int a2), (3, .int a3), (4, .int r15)] [.int v16] := by
            exact sv_iret X hr hQ dX7_bars_72 hF
          refine sv_if_ne (tgt := 70) X dX7_bars_59 (by decide) (fun h23 => ?_) (fun h23 => ?_)
          · replace hM18 := fr_neg hM18 h23
            refine sv_iload (i := 0) X dX7_bars_70 rfl ?_
            obtain ⟨rfl, rfl⟩ := fr_i2 hM18
            exact sv_perm [1, 2, 3, 4, 0] rfl K19
          · replace hM18 := fr_pos hM18 h23
            refine sv_iload (i := 0) X dX7_bars_62 rfl ?_
            obtain ⟨r22, s21, hc20, hM18⟩ := fr_bP_some hM18
            refine sv_callSi X (c_J6_bitCount_0f7a4 hc20) cd_J6_bitCount_0f7a4 ml_X7_250 sm_J6_bitCount_0f7a4 in_RJ6 hd_J6_bitCount_0f7a4 (by decide) rfl (Nat.le_of_ble_eq_true rfl) dX7_bars_64 rfl ?_
            refine sv_goto (tgt := 72) X dX7_bars_67 (by decide) ?_
            obtain ⟨rfl, rfl⟩ := fr_i2 hM18
            exact sv_perm [1, 2, 3, 4, 0] rfl K19
        · replace hF := fr_pos hF h24
          refine sv_ldc X kn_X7_216 dX7_bars_44 ?_
          exact sv_iret X hr hQ dX7_bars_46 hF
      · replace hF := fr_pos hF h25
        refine sv_ldc X kn_X7_76 dX7_bars_29 ?_
        exact sv_iret X hr hQ dX7_bars_31 hF
theorem c_X7_bars {l : Launch} {g : fr_G} {a1 : Int32} {a2 : Int32} {a3 : Int32}  {σ τ : fr_St} {r : Int32} (hF : F_X7_bars a1 a2 a3 σ = some (r, τ)) : fr_Ci l g yX7_bars (fr_ws yX7_bars cX7_bars 5 (some .int)) 5 [.ref (g.2.1 0), .int a1, .int a2, .int a3] σ r τ := fr_mi (by decide) (Nat.le_of_ble_eq_true rfl) (fun p e s m below meth c X hr => b_X7_bars X hr  rfl hF)
def F_X7_meet (a1 : Int32) (a2 : Int32) (a3 : Int32) (σ : fr_St) : Option (Int32 × fr_St) := fr_bP (F_X3_areTwo 15 a1 a2 σ) (fun b3 s2 => if (fr_bi b3) = 0 then (some ((-1000001 : Int32), s2)) else (fr_bP (F_X7_isZeroOrOne a3 s2) (fun b6 s5 => if (fr_bi b6) = 0 then (some ((-1000001 : Int32), s5)) else (fr_bP (F_X5_meetingOf a1 a2 a3 s5) (fun r9 s8 => some (r9, s8))))))
set_option maxRecDepth 100000 in
set_option maxHeartbeats 4000000 in
theorem b_X7_meet {p : Program} {l : Launch} {e : Env} {s : State} {m : MethodId} {args : Array Value} {below : List Frame} {meth : Method} {c : Code} {g : fr_G} {Q : State → Prop} (X : fr_X p s m args meth c g cX7_meet RX7 4) (hr : meth.sig.returnType = (some .int)) {a1 : Int32} {a2 : Int32} {a3 : Int32}  {σ τ : fr_St} {r : Int32} (hQ : Q = fr_Qi below args s g r τ) (hF : F_X7_meet a1 a2 a3 σ = some (r, τ)) : fr_V p l e (fr_rm 6) s m args below meth c g Q 4 σ 0 [(0, .ref (g.2.1 0)), (1, .int a1), (2, .int a2), (3, .int a3)] [] := by
  unfold F_X7_meet at hF
  refine sv_aload_n (i := 0) X dX7_meet_0 rfl rfl ?_
  refine sv_getr X ix_X7 rfl 2 (by decide) rfl rfl fl_X7_26 dX7_meet_1 ?_
  refine sv_iload_n (i := 1) X dX7_meet_4 rfl rfl ?_
  refine sv_iload_n (i := 2) X dX7_meet_5 rfl rfl ?_
  obtain ⟨b3, s2, hc1, hF⟩ := fr_bP_some hF
  refine sv_callVi X (c_X3_areTwo rfl rfl hc1) cd_X3_areTwo ml_X7_167 im_X3_areTwo se_X3_areTwo in_RX3 hd_X3_areTwo rfl rfl (by decide) rfl (Nat.le_of_ble_eq_true rfl) dX7_meet_6 rfl ?_
  refine sv_if_eq (tgt := 19) X dX7_meet_9 (by decide) (fun h11 => ?_) (fun h11 => ?_)
  · replace hF := fr_pos hF h11
    refine sv_ldc X kn_X7_76 dX7_meet_19 ?_
    exact sv_iret X hr hQ dX7_meet_21 hF
  · replace hF := fr_neg hF h11
    refine sv_iload_n (i := 3) X dX7_meet_12 rfl rfl ?_
    obtain ⟨b6, s5, hc4, hF⟩ := fr_bP_some hF
    refine sv_callSi X (c_X7_isZeroOrOne hc4) cd_X7_isZeroOrOne ml_X7_232 sm_X7_isZeroOrOne in_RX7 hd_X7_isZeroOrOne (by decide) rfl (Nat.le_of_ble_eq_true rfl) dX7_meet_13 rfl ?_
    refine sv_if_ne (tgt := 22) X dX7_meet_16 (by decide) (fun h10 => ?_) (fun h10 => ?_)
    · replace hF := fr_neg hF h10
      refine sv_aload_n (i := 0) X dX7_meet_22 rfl rfl ?_
      refine sv_getr X ix_X7 rfl 5 (by decide) rfl rfl fl_X7_45 dX7_meet_23 ?_
      refine sv_iload_n (i := 1) X dX7_meet_26 rfl rfl ?_
      refine sv_iload_n (i := 2) X dX7_meet_27 rfl rfl ?_
      refine sv_iload_n (i := 3) X dX7_meet_28 rfl rfl ?_
      obtain ⟨r9, s8, hc7, hF⟩ := fr_bP_some hF
      refine sv_callVi X (c_X5_meetingOf hc7) cd_X5_meetingOf ml_X7_255 im_X5_meetingOf se_X5_meetingOf in_RX5 hd_X5_meetingOf rfl rfl (by decide) rfl (Nat.le_of_ble_eq_true rfl) dX7_meet_29 rfl ?_
      exact sv_iret X hr hQ dX7_meet_32 hF
    · replace hF := fr_pos hF h10
      refine sv_ldc X kn_X7_76 dX7_meet_19 ?_
      exact sv_iret X hr hQ dX7_meet_21 hF
theorem c_X7_meet {l : Launch} {g : fr_G} {a1 : Int32} {a2 : Int32} {a3 : Int32}  {σ τ : fr_St} {r : Int32} (hF : F_X7_meet a1 a2 a3 σ = some (r, τ)) : fr_Ci l g yX7_meet (fr_ws yX7_meet cX7_meet 4 (some .int)) 6 [.ref (g.2.1 0), .int a1, .int a2, .int a3] σ r τ := fr_mi (by decide) (Nat.le_of_ble_eq_true rfl) (fun p e s m below meth c X hr => b_X7_meet X hr  rfl hF)
def L_X7_solesThatWent_16 (k1 : Int32) (k2 : Int32) (k3 : Int32) : Nat → Int32 → Int32 → Int32 → fr_St → Option ((Int32 × fr_St) ⊕ (Int32 × Int32 × Int32 × fr_St))
  | 0, _, _, _, _ => none
  | n + 1, x5, x6, x7, σ => if k3 ≤ x7 then (some (.inr (x5, x6, x7, σ))) else (fr_bP (F_X6_itemOf k1 (k2 + x7) σ) (fun r3 s2 => fr_bP (F_X3_hasRoad 15 r3 s2) (fun b6 s5 => if (fr_bi b6) = 0 then (some (.inl ((-1000001 : Int32), s5))) else (fr_bP (F_X3_isEnd 15 r3 x6 s5) (fun b9 s8 => if (fr_bi b9) = 0 then (some (.inl ((-1000001 : Int32), s8))) else (fr_bP (F_X3_today 15 s8) (fun r12 s11 => fr_bP (F_X3_solesOf 15 r3 r12 s11) (fun r15 s14 => fr_let ((x5 &&& r15)) (fun v16 => fr_bP (F_X3_across 15 r3 x6 s14) (fun r19 s18 => fr_let (x7 + (1 : Int32)) (fun v20 => L_X7_solesThatWent_16 k1 k2 k3 n v16 r19 v20 s18)))))))))))
set_option maxRecDepth 100000 in
set_option maxHeartbeats 4000000 in
theorem wL_X7_solesThatWent_16 {p : Program} {l : Launch} {e : Env} {s : State} {m : MethodId} {args : Array Value} {below : List Frame} {meth : Method} {c : Code} {g : fr_G} {Q : State → Prop} (X : fr_X p s m args meth c g cX7_solesThatWent RX7 9)  (hr : meth.sig.returnType = (some .int)) {z : (Int32 × fr_St) ⊕ (Int32 × Int32 × Int32 × fr_St)} (KR : (∀ (r : Int32) (τ : fr_St), z = .inl (r, τ) → Q = fr_Qi below args s g r τ)) (k1 : Int32) (k2 : Int32) (k3 : Int32) (k4 : Int32) (KE : ∀ (y5 : Int32) (y6 : Int32) (y7 : Int32) (τ : fr_St), z = .inr (y5, y6, y7, τ) → fr_V p l e (fr_rm 4) s m args below meth c g Q 9 τ 105 [(0, .ref (g.2.1 0)), (1, .int k1), (2, .int k2), (3, .int k3), (4, .int k4), (5, .int y5), (6, .int y6), (7, .int y7)] []) : ∀ (n : Nat) (x5 : Int32) (x6 : Int32) (x7 : Int32) (σ : fr_St), L_X7_solesThatWent_16 k1 k2 k3 n x5 x6 x7 σ = some z → fr_V p l e (fr_rm 4) s m args below meth c g Q 9 σ 16 [(0, .ref (g.2.1 0)), (1, .int k1), (2, .int k2), (3, .int k3), (4, .int k4), (5, .int x5), (6, .int x6), (7, .int x7)] [] := by
  intro n
  induction n with
  | zero => intro x5 x6 x7 σ hL; cases hL
  | succ n ih =>
    intro x5 x6 x7 σ hL
    rw [L_X7_solesThatWent_16] at hL
    refine sv_iload (i := 7) X dX7_solesThatWent_16 rfl ?_
    refine sv_iload_n (i := 3) X dX7_solesThatWent_18 rfl rfl ?_
    refine sv_icmp_ge (tgt := 105) X dX7_solesThatWent_19 (by decide) (fun h23 => ?_) (fun h23 => ?_)
    · replace hL := fr_pos hL h23
      obtain rfl := Option.some.inj hL
      exact (KE _ _ _ _ rfl)
    · replace hL := fr_neg hL h23
      refine sv_aload_n (i := 0) X dX7_solesThatWent_22 rfl rfl ?_
      refine sv_getr X ix_X7 rfl 0 (by decide) rfl rfl fl_X7_13 dX7_solesThatWent_23 ?_
      refine sv_iload_n (i := 1) X dX7_solesThatWent_26 rfl rfl ?_
      refine sv_iload_n (i := 2) X dX7_solesThatWent_27 rfl rfl ?_
      refine sv_iload (i := 7) X dX7_solesThatWent_28 rfl ?_
      refine sv_iadd X dX7_solesThatWent_30 ?_
      obtain ⟨r3, s2, hc1, hL⟩ := fr_bP_some hL
      refine sv_callVi X (c_X6_itemOf hc1) cd_X6_itemOf ml_X7_311 im_X6_itemOf se_X6_itemOf in_RX6 hd_X6_itemOf rfl rfl (by decide) rfl (Nat.le_of_ble_eq_true rfl) dX7_solesThatWent_31 rfl ?_
      refine sv_istore X dX7_solesThatWent_34 (by decide) rfl ?_
      refine sv_aload_n (i := 1) X dX7_solesThatWent_36 rfl rfl ?_
      refine sv_getr X ix_X7 rfl 2 (by decide) rfl rfl fl_X7_26 dX7_solesThatWent_37 ?_
      refine sv_iload (i := 0) X dX7_solesThatWent_40 rfl ?_
      obtain ⟨b6, s5, hc4, hL⟩ := fr_bP_some hL
      refine sv_callVi X (c_X3_hasRoad rfl rfl hc4) cd_X3_hasRoad ml_X7_149 im_X3_hasRoad se_X3_hasRoad in_RX3 hd_X3_hasRoad rfl rfl (by decide) rfl (Nat.le_of_ble_eq_true rfl) dX7_solesThatWent_42 rfl ?_
      refine sv_if_eq (tgt := 62) X dX7_solesThatWent_45 (by decide) (fun h22 => ?_) (fun h22 => ?_)
      · replace hL := fr_pos hL h22
        refine sv_ldc X kn_X7_76 dX7_solesThatWent_62 ?_
        obtain rfl := Option.some.inj hL
        exact sv_iret X hr (KR _ _ rfl) dX7_solesThatWent_64 rfl
      · replace hL := fr_neg hL h22
        refine sv_aload_n (i := 1) X dX7_solesThatWent_48 rfl rfl ?_
        refine sv_getr X ix_X7 rfl 2 (by decide) rfl rfl fl_X7_26 dX7_solesThatWent_49 ?_
        refine sv_iload (i := 0) X dX7_solesThatWent_52 rfl ?_
        refine sv_iload (i := 7) X dX7_solesThatWent_54 rfl ?_
        obtain ⟨b9, s8, hc7, hL⟩ := fr_bP_some hL
        refine sv_callVi X (c_X3_isEnd rfl rfl hc7) cd_X3_isEnd ml_X7_314 im_X3_isEnd se_X3_isEnd in_RX3 hd_X3_isEnd rfl rfl (by decide) rfl (Nat.le_of_ble_eq_true rfl) dX7_solesThatWent_56 rfl ?_
        refine sv_if_ne (tgt := 65) X dX7_solesThatWent_59 (by decide) (fun h21 => ?_) (fun h21 => ?_)
        · replace hL := fr_neg hL h21
          refine sv_iload (i := 6) X dX7_solesThatWent_65 rfl ?_
          refine sv_aload_n (i := 1) X dX7_solesThatWent_67 rfl rfl ?_
          refine sv_getr X ix_X7 rfl 2 (by decide) rfl rfl fl_X7_26 dX7_solesThatWent_68 ?_
          refine sv_iload (i := 0) X dX7_solesThatWent_71 rfl ?_
          refine sv_aload_n (i := 1) X dX7_solesThatWent_73 rfl rfl ?_
          refine sv_getr X ix_X7 rfl 2 (by decide) rfl rfl fl_X7_26 dX7_solesThatWent_74 ?_
          obtain ⟨r12, s11, hc10, hL⟩ := fr_bP_some hL
          refine sv_callVi X (c_X3_today rfl rfl hc10) cd_X3_today ml_X7_182 im_X3_today se_X3_today in_RX3 hd_X3_today rfl rfl (by decide) rfl (Nat.le_of_ble_eq_true rfl) dX7_solesThatWent_77 rfl ?_
          obtain ⟨r15, s14, hc13, hL⟩ := fr_bP_some hL
          refine sv_callVi X (c_X3_solesOf rfl rfl hc13) cd_X3_solesOf ml_X7_206 im_X3_solesOf se_X3_solesOf in_RX3 hd_X3_solesOf rfl rfl (by decide) rfl (Nat.le_of_ble_eq_true rfl) dX7_solesThatWent_80 rfl ?_
          refine sv_iand X dX7_solesThatWent_83 ?_
          refine sv_topi (fun v16 ev16 => ?_)
          replace hL := fr_lete hL ev16
          refine sv_istore X dX7_solesThatWent_84 (by decide) rfl ?_
          refine sv_aload_n (i := 2) X dX7_solesThatWent_86 rfl rfl ?_
          refine sv_getr X ix_X7 rfl 2 (by decide) rfl rfl fl_X7_26 dX7_solesThatWent_87 ?_
          refine sv_iload (i := 1) X dX7_solesThatWent_90 rfl ?_
          refine sv_iload (i := 7) X dX7_solesThatWent_92 rfl ?_
          obtain ⟨r19, s18, hc17, hL⟩ := fr_bP_some hL
          refine sv_callVi X (c_X3_across rfl rfl hc17) cd_X3_across ml_X7_317 im_X3_across se_X3_across in_RX3 hd_X3_across rfl rfl (by decide) rfl (Nat.le_of_ble_eq_true rfl) dX7_solesThatWent_94 rfl ?_
          refine sv_istore X dX7_solesThatWent_97 (by decide) rfl ?_
          obtain ⟨v20, ev20⟩ : ∃ y : Int32, y = x7 + (1 : Int32) := ⟨_, rfl⟩
          replace hL := fr_lete hL ev20
          refine sv_iinc (i := 8) (v := v20) X dX7_solesThatWent_99 rfl (by rw [ev20]; rfl) (by decide) rfl ?_
          refine sv_goto (tgt := 16) X dX7_solesThatWent_102 (by decide) ?_
          exact sv_perm [4, 5, 6, 7, 8, 2, 1, 0] rfl (ih _ _ _ _ hL)
        · replace hL := fr_pos hL h21
          refine sv_ldc X kn_X7_76 dX7_solesThatWent_62 ?_
          obtain rfl := Option.some.inj hL
          exact sv_iret X hr (KR _ _ rfl) dX7_solesThatWent_64 rfl
def F_X7_solesThatWent (a1 : Int32) (a2 : Int32) (a3 : Int32) (a4 : Int32) (σ : fr_St) : Option (Int32 × fr_St) := fr_bP (F_X3_allSoles 15 σ) (fun r3 s2 => fr_bR (L_X7_solesThatWent_16 a1 a2 a3 fr_fu r3 a4 (0 : Int32) s2) (fun q0 => some q0) (fun q10 => fr_pP q10 (fun v4 q11 => fr_pP q11 (fun v5 q12 => fr_pP q12 (fun v6 s7 => some (v4, s7))))))
set_option maxRecDepth 100000 in
set_option maxHeartbeats 4000000 in
theorem b_X7_solesThatWent {p : Program} {l : Launch} {e : Env} {s : State} {m : MethodId} {args : Array Value} {below : List Frame} {meth : Method} {c : Code} {g : fr_G} {Q : State → Prop} (X : fr_X p s m args meth c g cX7_solesThatWent RX7 9) (hr : meth.sig.returnType = (some .int)) {a1 : Int32} {a2 : Int32} {a3 : Int32} {a4 : Int32}  {σ τ : fr_St} {r : Int32} (hQ : Q = fr_Qi below args s g r τ) (hF : F_X7_solesThatWent a1 a2 a3 a4 σ = some (r, τ)) : fr_V p l e (fr_rm 4) s m args below meth c g Q 9 σ 0 [(0, .ref (g.2.1 0)), (1, .int a1), (2, .int a2), (3, .int a3), (4, .int a4)] [] := by
  unfold F_X7_solesThatWent at hF
  refine sv_aload_n (i := 0) X dX7_solesThatWent_0 rfl rfl ?_
  refine sv_getr X ix_X7 rfl 2 (by decide) rfl rfl fl_X7_26 dX7_solesThatWent_1 ?_
  obtain ⟨r3, s2, hc1, hF⟩ := fr_bP_some hF
  refine sv_callVi X (c_X3_allSoles rfl rfl hc1) cd_X3_allSoles ml_X7_308 im_X3_allSoles se_X3_allSoles in_RX3 hd_X3_allSoles rfl rfl (by decide) rfl (Nat.le_of_ble_eq_true rfl) dX7_solesThatWent_4 rfl ?_
  refine sv_istore X dX7_solesThatWent_7 (by decide) rfl ?_
  refine sv_iload (i := 5) X dX7_solesThatWent_9 rfl ?_
  refine sv_istore X dX7_solesThatWent_11 (by decide) rfl ?_
  refine sv_iconst (v := 0) X dX7_solesThatWent_13 (by decide) ?_
  refine sv_istore X dX7_solesThatWent_14 (by decide) rfl ?_
  refine sv_perm [3, 4, 5, 6, 7, 2, 1, 0] rfl ?_
  rcases fr_bR_some hF with ⟨⟨rr, ss⟩, hl8, hF⟩ | ⟨⟨v4, v5, v6, s7⟩, hl8, hF⟩
  · obtain ⟨rfl, rfl⟩ := fr_i2 hF
    exact wL_X7_solesThatWent_16 X  hr (fun r τ e => by cases e; exact hQ) a1 a2 a3 a4 (fun _ _ _ _ e => by cases e) fr_fu _ _ _ _ hl8
  · dsimp only [fr_pP] at hF
    refine wL_X7_solesThatWent_16 X  hr (fun r τ e => by cases e) a1 a2 a3 a4 (fun _ _ _ _ e => ?_) fr_fu _ _ _ _ hl8
    cases e
    refine sv_iload (i := 5) X dX7_solesThatWent_105 rfl ?_
    exact sv_iret X hr hQ dX7_solesThatWent_107 hF
theorem c_X7_solesThatWent {l : Launch} {g : fr_G} {a1 : Int32} {a2 : Int32} {a3 : Int32} {a4 : Int32}  {σ τ : fr_St} {r : Int32} (hF : F_X7_solesThatWent a1 a2 a3 a4 σ = some (r, τ)) : fr_Ci l g yX7_solesThatWent (fr_ws yX7_solesThatWent cX7_solesThatWent 9 (some .int)) 4 [.ref (g.2.1 0), .int a1, .int a2, .int a3, .int a4] σ r τ := fr_mi (by decide) (Nat.le_of_ble_eq_true rfl) (fun p e s m below meth c X hr => b_X7_solesThatWent X hr  rfl hF)
def F_X7_whose (a1 : Int32) (a2 : Int32) (a3 : Int32) (a4 : Int32) (σ : fr_St) : Option (Int32 × fr_St) := fr_bP (F_X3_stands 15 σ) (fun b3 s2 => if (fr_bi b3) = 0 then (some ((-1000002 : Int32), s2)) else (fr_bP (F_X6_hasNumber a1 s2) (fun b6 s5 => if (fr_bi b6) = 0 then (some ((-1000001 : Int32), s5)) else (if a3 < 0 then (some ((-1000001 : Int32), s5)) else (if (16 : Int32) < a3 then (some ((-1000001 : Int32), s5)) else (fr_bP (F_X3_hasPlace 15 a4 s5) (fun b9 s8 => if (fr_bi b9) = 0 then (some ((-1000001 : Int32), s8)) else (fr_bP (F_X6_isMissing a1 s8) (fun b12 s11 => if (fr_bi b12) = 0 then (fr_bP (F_X6_holds a1 a2 a3 s11) (fun b15 s14 => if (fr_bi b15) = 0 then (fr_bP (F_X7_found (2 : Int32) s14) (fun r29 s28 => some (r29, s28))) else (fr_bP (F_X7_solesThatWent a1 a2 a3 a4 s14) (fun r18 s17 => fr_bP (if r18 = (-1000001 : Int32) then (some ((-1000001 : Int32), s17)) else (fr_bP (F_X7_fine r18 s17) (fun r25 s24 => some (r25, s24)))) (fun v19 s20 => some (v19, s20)))))) else (fr_bP (F_X7_found (1 : Int32) s11) (fun r33 s32 => some (r33, s32))))))))))))
set_option maxRecDepth 100000 in
set_option maxHeartbeats 4000000 in
theorem b_X7_whose {p : Program} {l : Launch} {e : Env} {s : State} {m : MethodId} {args : Array Value} {below : List Frame} {meth : Method} {c : Code} {g : fr_G} {Q : State → Prop} (X : fr_X p s m args meth c g cX7_whose RX7 6) (hr : meth.sig.returnType = (some .int)) {a1 : Int32} {a2 : Int32} {a3 : Int32} {a4 : Int32}  {σ τ : fr_St} {r : Int32} (hQ : Q = fr_Qi below args s g r τ) (hF : F_X7_whose a1 a2 a3 a4 σ = some (r, τ)) : fr_V p l e (fr_rm 5) s m args below meth c g Q 6 σ 0 [(0, .ref (g.2.1 0)), (1, .int a1), (2, .int a2), (3, .int a3), (4, .int a4)] [] := by
  unfold F_X7_whose at hF
  refine sv_aload_n (i := 0) X dX7_whose_0 rfl rfl ?_
  refine sv_getr X ix_X7 rfl 2 (by decide) rfl rfl fl_X7_26 dX7_whose_1 ?_
  obtain ⟨b3, s2, hc1, hF⟩ := fr_bP_some hF
  refine sv_callVi X (c_X3_stands rfl rfl hc1) cd_X3_stands ml_X7_179 im_X3_stands se_X3_stands in_RX3 hd_X3_stands rfl rfl (by decide) rfl (Nat.le_of_ble_eq_true rfl) dX7_whose_4 rfl ?_
  refine sv_if_ne (tgt := 13) X dX7_whose_7 (by decide) (fun h39 => ?_) (fun h39 => ?_)
  · replace hF := fr_neg hF h39
    refine sv_iload_n (i := 1) X dX7_whose_13 rfl rfl ?_
    obtain ⟨b6, s5, hc4, hF⟩ := fr_bP_some hF
    refine sv_callSi X (c_X6_hasNumber hc4) cd_X6_hasNumber ml_X7_72 sm_X6_hasNumber in_RX6 hd_X6_hasNumber (by decide) rfl (Nat.le_of_ble_eq_true rfl) dX7_whose_14 rfl ?_
    refine sv_if_eq (tgt := 42) X dX7_whose_17 (by decide) (fun h38 => ?_) (fun h38 => ?_)
    · replace hF := fr_pos hF h38
      refine sv_ldc X kn_X7_76 dX7_whose_42 ?_
      exact sv_iret X hr hQ dX7_whose_44 hF
    · replace hF := fr_neg hF h38
      refine sv_iload_n (i := 3) X dX7_whose_20 rfl rfl ?_
      refine sv_if_lt (tgt := 42) X dX7_whose_21 (by decide) (fun h37 => ?_) (fun h37 => ?_)
      · replace hF := fr_pos hF h37
        refine sv_ldc X kn_X7_76 dX7_whose_42 ?_
        exact sv_iret X hr hQ dX7_whose_44 hF
      · replace hF := fr_neg hF h37
        refine sv_iload_n (i := 3) X dX7_whose_24 rfl rfl ?_
        refine sv_bipush (v := 16) X dX7_whose_25 (by decide) ?_
        refine sv_icmp_gt (tgt := 42) X dX7_whose_27 (by decide) (fun h36 => ?_) (fun h36 => ?_)
        · replace hF := fr_pos hF h36
          refine sv_ldc X kn_X7_76 dX7_whose_42 ?_
          exact sv_iret X hr hQ dX7_whose_44 hF
        · replace hF := fr_neg hF h36
          refine sv_aload_n (i := 0) X dX7_whose_30 rfl rfl ?_
          refine sv_getr X ix_X7 rfl 2 (by decide) rfl rfl fl_X7_26 dX7_whose_31 ?_
          refine sv_iload (i := 4) X dX7_whose_34 rfl ?_
          obtain ⟨b9, s8, hc7, hF⟩ := fr_bP_some hF
          refine sv_callVi X (c_X3_hasPlace rfl rfl hc7) cd_X3_hasPlace ml_X7_223 im_X3_hasPlace se_X3_hasPlace in_RX3 hd_X3_hasPlace rfl rfl (by decide) rfl (Nat.le_of_ble_eq_true rfl) dX7_whose_36 rfl ?_
          refine sv_if_ne (tgt := 45) X dX7_whose_39 (by decide) (fun h35 => ?_) (fun h35 => ?_)
          · replace hF := fr_neg hF h35
            refine sv_aload_n (i := 0) X dX7_whose_45 rfl rfl ?_
            refine sv_getr X ix_X7 rfl 0 (by decide) rfl rfl fl_X7_13 dX7_whose_46 ?_
            refine sv_iload_n (i := 1) X dX7_whose_49 rfl rfl ?_
            obtain ⟨b12, s11, hc10, hF⟩ := fr_bP_some hF
            refine sv_callVi X (c_X6_isMissing hc10) cd_X6_isMissing ml_X7_88 im_X6_isMissing se_X6_isMissing in_RX6 hd_X6_isMissing rfl rfl (by decide) rfl (Nat.le_of_ble_eq_true rfl) dX7_whose_50 rfl ?_
            refine sv_if_eq (tgt := 62) X dX7_whose_53 (by decide) (fun h34 => ?_) (fun h34 => ?_)
            · replace hF := fr_pos hF h34
              refine sv_aload_n (i := 0) X dX7_whose_62 rfl rfl ?_
              refine sv_getr X ix_X7 rfl 0 (by decide) rfl rfl fl_X7_13 dX7_whose_63 ?_
              refine sv_iload_n (i := 1) X dX7_whose_66 rfl rfl ?_
              refine sv_iload_n (i := 2) X dX7_whose_67 rfl rfl ?_
              refine sv_iload_n (i := 3) X dX7_whose_68 rfl rfl ?_
              obtain ⟨b15, s14, hc13, hF⟩ := fr_bP_some hF
              refine sv_callVi X (c_X6_holds hc13) cd_X6_holds ml_X7_91 im_X6_holds se_X6_holds in_RX6 hd_X6_holds rfl rfl (by decide) rfl (Nat.le_of_ble_eq_true rfl) dX7_whose_69 rfl ?_
              refine sv_if_ne (tgt := 81) X dX7_whose_72 (by decide) (fun h30 => ?_) (fun h30 => ?_)
              · replace hF := fr_neg hF h30
                refine sv_aload_n (i := 0) X dX7_whose_81 rfl rfl ?_
                refine sv_iload_n (i := 1) X dX7_whose_82 rfl rfl ?_
                refine sv_iload_n (i := 2) X dX7_whose_83 rfl rfl ?_
                refine sv_iload_n (i := 3) X dX7_whose_84 rfl rfl ?_
                refine sv_iload (i := 4) X dX7_whose_85 rfl ?_
                obtain ⟨r18, s17, hc16, hF⟩ := fr_bP_some hF
                refine sv_callVi X (c_X7_solesThatWent hc16) cd_X7_solesThatWent ml_X7_258 im_X7_solesThatWent se_X7_solesThatWent in_RX7 hd_X7_solesThatWent rfl rfl (by decide) rfl (Nat.le_of_ble_eq_true rfl) dX7_whose_87 rfl ?_
                refine sv_istore X dX7_whose_90 (by decide) rfl ?_
                refine sv_iload (i := 0) X dX7_whose_92 rfl ?_
                refine sv_ldc X kn_X7_76 dX7_whose_94 ?_
                obtain ⟨v19, s20, hM21, hF⟩ := fr_bP_some hF
                have K22 : fr_V p l e (fr_rm 5) s m args below meth c g Q 6 s20 110 [(0, .ref (g.2.1 0)), (1, .int a1), (2, .int a2), (3, .int a3), (4, .int a4), (5, .int r18)] [.int v19] := by
                  exact sv_iret X hr hQ dX7_whose_110 hF
                refine sv_icmp_ne (tgt := 104) X dX7_whose_96 (by decide) (fun h26 => ?_) (fun h26 => ?_)
                · replace hM21 := fr_neg hM21 h26
                  refine sv_aload_n (i := 1) X dX7_whose_104 rfl rfl ?_
                  refine sv_iload (i := 0) X dX7_whose_105 rfl ?_
                  obtain ⟨r25, s24, hc23, hM21⟩ := fr_bP_some hM21
                  refine sv_callVi X (c_X7_fine hc23) cd_X7_fine ml_X7_85 im_X7_fine se_X7_fine in_RX7 hd_X7_fine rfl rfl (by decide) rfl (Nat.le_of_ble_eq_true rfl) dX7_whose_107 rfl ?_
                  obtain ⟨rfl, rfl⟩ := fr_i2 hM21
                  exact sv_perm [1, 2, 3, 4, 5, 0] rfl K22
                · replace hM21 := fr_pos hM21 h26
                  refine sv_ldc X kn_X7_76 dX7_whose_99 ?_
                  refine sv_goto (tgt := 110) X dX7_whose_101 (by decide) ?_
                  obtain ⟨rfl, rfl⟩ := fr_i2 hM21
                  exact sv_perm [1, 2, 3, 4, 5, 0] rfl K22
              · replace hF := fr_pos hF h30
                refine sv_aload_n (i := 0) X dX7_whose_75 rfl rfl ?_
                refine sv_iconst (v := 2) X dX7_whose_76 (by decide) ?_
                obtain ⟨r29, s28, hc27, hF⟩ := fr_bP_some hF
                refine sv_callVi X (c_X7_found hc27) cd_X7_found ml_X7_77 im_X7_found se_X7_found in_RX7 hd_X7_found rfl rfl (by decide) rfl (Nat.le_of_ble_eq_true rfl) dX7_whose_77 rfl ?_
                exact sv_iret X hr hQ dX7_whose_80 hF
            · replace hF := fr_neg hF h34
              refine sv_aload_n (i := 0) X dX7_whose_56 rfl rfl ?_
              refine sv_iconst (v := 1) X dX7_whose_57 (by decide) ?_
              obtain ⟨r33, s32, hc31, hF⟩ := fr_bP_some hF
              refine sv_callVi X (c_X7_found hc31) cd_X7_found ml_X7_77 im_X7_found se_X7_found in_RX7 hd_X7_found rfl rfl (by decide) rfl (Nat.le_of_ble_eq_true rfl) dX7_whose_58 rfl ?_
              exact sv_iret X hr hQ dX7_whose_61 hF
          · replace hF := fr_pos hF h35
            refine sv_ldc X kn_X7_76 dX7_whose_42 ?_
            exact sv_iret X hr hQ dX7_whose_44 hF
  · replace hF := fr_pos hF h39
    refine sv_ldc X kn_X7_156 dX7_whose_10 ?_
    exact sv_iret X hr hQ dX7_whose_12 hF
theorem c_X7_whose {l : Launch} {g : fr_G} {a1 : Int32} {a2 : Int32} {a3 : Int32} {a4 : Int32}  {σ τ : fr_St} {r : Int32} (hF : F_X7_whose a1 a2 a3 a4 σ = some (r, τ)) : fr_Ci l g yX7_whose (fr_ws yX7_whose cX7_whose 6 (some .int)) 5 [.ref (g.2.1 0), .int a1, .int a2, .int a3, .int a4] σ r τ := fr_mi (by decide) (Nat.le_of_ble_eq_true rfl) (fun p e s m below meth c X hr => b_X7_whose X hr  rfl hF)
def F_X7_snow (a1 : Int32) (a2 : Int32) (a3 : Int32) (a4 : Int32) (σ : fr_St) : Option (Int64 × fr_St) := fr_bP (F_X3_hasPerson 15 a1 σ) (fun b3 s2 => if (fr_bi b3) = 0 then (some ((-1000001 : Int64), s2)) else (fr_bP (F_X3_hasPlace 15 a2 s2) (fun b6 s5 => if (fr_bi b6) = 0 then (some ((-1000001 : Int64), s5)) else (if a3 < 0 then (some ((-1000001 : Int64), s5)) else (if (10 : Int32) < a3 then (some ((-1000001 : Int64), s5)) else (fr_bP (F_X7_isZeroOrOne a4 s5) (fun b9 s8 => if (fr_bi b9) = 0 then (some ((-1000001 : Int64), s8)) else (fr_bP (F_X5_snowOdds a1 a2 a3 a4 s8) (fun w12 s11 => some (w12, s11))))))))))
set_option maxRecDepth 100000 in
set_option maxHeartbeats 4000000 in
theorem b_X7_snow {p : Program} {l : Launch} {e : Env} {s : State} {m : MethodId} {args : Array Value} {below : List Frame} {meth : Method} {c : Code} {g : fr_G} {Q : State → Prop} (X : fr_X p s m args meth c g cX7_snow RX7 5) (hr : meth.sig.returnType = (some .long)) {a1 : Int32} {a2 : Int32} {a3 : Int32} {a4 : Int32}  {σ τ : fr_St} {r : Int64} (hQ : Q = fr_Ql below args s g r τ) (hF : F_X7_snow a1 a2 a3 a4 σ = some (r, τ)) : fr_V p l e (fr_rm 5) s m args below meth c g Q 5 σ 0 [(0, .ref (g.2.1 0)), (1, .int a1), (2, .int a2), (3, .int a3), (4, .int a4)] [] := by
  unfold F_X7_snow at hF
  refine sv_aload_n (i := 0) X dX7_snow_0 rfl rfl ?_
  refine sv_getr X ix_X7 rfl 2 (by decide) rfl rfl fl_X7_26 dX7_snow_1 ?_
  refine sv_iload_n (i := 1) X dX7_snow_4 rfl rfl ?_
  obtain ⟨b3, s2, hc1, hF⟩ := fr_bP_some hF
  refine sv_callVi X (c_X3_hasPerson rfl rfl hc1) cd_X3_hasPerson ml_X7_146 im_X3_hasPerson se_X3_hasPerson in_RX3 hd_X3_hasPerson rfl rfl (by decide) rfl (Nat.le_of_ble_eq_true rfl) dX7_snow_5 rfl ?_
  refine sv_if_eq (tgt := 40) X dX7_snow_8 (by decide) (fun h17 => ?_) (fun h17 => ?_)
  · replace hF := fr_pos hF h17
    refine sv_ldc2_w X kl_X7_262 dX7_snow_40 ?_
    exact sv_lret X hr hQ dX7_snow_43 hF
  · replace hF := fr_neg hF h17
    refine sv_aload_n (i := 0) X dX7_snow_11 rfl rfl ?_
    refine sv_getr X ix_X7 rfl 2 (by decide) rfl rfl fl_X7_26 dX7_snow_12 ?_
    refine sv_iload_n (i := 2) X dX7_snow_15 rfl rfl ?_
    obtain ⟨b6, s5, hc4, hF⟩ := fr_bP_some hF
    refine sv_callVi X (c_X3_hasPlace rfl rfl hc4) cd_X3_hasPlace ml_X7_223 im_X3_hasPlace se_X3_hasPlace in_RX3 hd_X3_hasPlace rfl rfl (by decide) rfl (Nat.le_of_ble_eq_true rfl) dX7_snow_16 rfl ?_
    refine sv_if_eq (tgt := 40) X dX7_snow_19 (by decide) (fun h16 => ?_) (fun h16 => ?_)
    · replace hF := fr_pos hF h16
      refine sv_ldc2_w X kl_X7_262 dX7_snow_40 ?_
      exact sv_lret X hr hQ dX7_snow_43 hF
    · replace hF := fr_neg hF h16
      refine sv_iload_n (i := 3) X dX7_snow_22 rfl rfl ?_
      refine sv_if_lt (tgt := 40) X dX7_snow_23 (by decide) (fun h15 => ?_) (fun h15 => ?_)
      · replace hF := fr_pos hF h15
        refine sv_ldc2_w X kl_X7_262 dX7_snow_40 ?_
        exact sv_lret X hr hQ dX7_snow_43 hF
      · replace hF := fr_neg hF h15
        refine sv_iload_n (i := 3) X dX7_snow_26 rfl rfl ?_
        refine sv_bipush (v := 10) X dX7_snow_27 (by decide) ?_
        refine sv_icmp_gt (tgt := 40) X dX7_snow_29 (by decide) (fun h14 => ?_) (fun h14 => ?_)
        · replace hF := fr_pos hF h14
          refine sv_ldc2_w X kl_X7_262 dX7_snow_40 ?_
          exact sv_lret X hr hQ dX7_snow_43 hF
        · replace hF := fr_neg hF h14
          refine sv_iload (i := 4) X dX7_snow_32 rfl ?_
          obtain ⟨b9, s8, hc7, hF⟩ := fr_bP_some hF
          refine sv_callSi X (c_X7_isZeroOrOne hc7) cd_X7_isZeroOrOne ml_X7_232 sm_X7_isZeroOrOne in_RX7 hd_X7_isZeroOrOne (by decide) rfl (Nat.le_of_ble_eq_true rfl) dX7_snow_34 rfl ?_
          refine sv_if_ne (tgt := 44) X dX7_snow_37 (by decide) (fun h13 => ?_) (fun h13 => ?_)
          · replace hF := fr_neg hF h13
            refine sv_aload_n (i := 0) X dX7_snow_44 rfl rfl ?_
            refine sv_getr X ix_X7 rfl 5 (by decide) rfl rfl fl_X7_45 dX7_snow_45 ?_
            refine sv_iload_n (i := 1) X dX7_snow_48 rfl rfl ?_
            refine sv_iload_n (i := 2) X dX7_snow_49 rfl rfl ?_
            refine sv_iload_n (i := 3) X dX7_snow_50 rfl rfl ?_
            refine sv_iload (i := 4) X dX7_snow_51 rfl ?_
            obtain ⟨w12, s11, hc10, hF⟩ := fr_bP_some hF
            refine sv_callVl X (c_X5_snowOdds hc10) cd_X5_snowOdds ml_X7_264 im_X5_snowOdds se_X5_snowOdds in_RX5 hd_X5_snowOdds rfl rfl (by decide) rfl (Nat.le_of_ble_eq_true rfl) dX7_snow_53 rfl ?_
            exact sv_lret X hr hQ dX7_snow_56 hF
          · replace hF := fr_pos hF h13
            refine sv_ldc2_w X kl_X7_262 dX7_snow_40 ?_
            exact sv_lret X hr hQ dX7_snow_43 hF
theorem c_X7_snow {l : Launch} {g : fr_G} {a1 : Int32} {a2 : Int32} {a3 : Int32} {a4 : Int32}  {σ τ : fr_St} {r : Int64} (hF : F_X7_snow a1 a2 a3 a4 σ = some (r, τ)) : fr_Cl l g yX7_snow (fr_ws yX7_snow cX7_snow 5 (some .long)) 5 [.ref (g.2.1 0), .int a1, .int a2, .int a3, .int a4] σ r τ := fr_ml (by decide) (Nat.le_of_ble_eq_true rfl) (fun p e s m below meth c X hr => b_X7_snow X hr  rfl hF)
def F_X7_image (a1 : Int32) (σ : fr_St) : Option (Int32 × fr_St) := if a1 < 0 then (some ((-1000001 : Int32), σ)) else (if a1 < (2 : Int32) then (fr_bP (F_X3_stands 15 σ) (fun b3 s2 => if (fr_bi b3) = 0 then (some ((-1000002 : Int32), s2)) else (if fr_ib a1 2 = true then fr_bS (F_X3_keepIn 15 (56 + fr_ix a1) s2) (fun s6 => if fr_ib a1 2 = true then fr_let (fr_up s6 58 (fr_ix a1) (1 : Int32)) (fun s8 => some ((1 : Int32), s8)) else none) else none))) else (some ((-1000001 : Int32), σ)))
set_option maxRecDepth 100000 in
set_option maxHeartbeats 4000000 in
theorem b_X7_image {p : Program} {l : Launch} {e : Env} {s : State} {m : MethodId} {args : Array Value} {below : List Frame} {meth : Method} {c : Code} {g : fr_G} {Q : State → Prop} (X : fr_X p s m args meth c g cX7_image RX7 2) (hr : meth.sig.returnType = (some .int)) {a1 : Int32}  {σ τ : fr_St} {r : Int32} (hQ : Q = fr_Qi below args s g r τ) (hF : F_X7_image a1 σ = some (r, τ)) : fr_V p l e (fr_rm 2) s m args below meth c g Q 2 σ 0 [(0, .ref (g.2.1 0)), (1, .int a1)] [] := by
  unfold F_X7_image at hF
  refine sv_iload_n (i := 1) X dX7_image_0 rfl rfl ?_
  refine sv_if_lt (tgt := 9) X dX7_image_1 (by decide) (fun h11 => ?_) (fun h11 => ?_)
  · replace hF := fr_pos hF h11
    refine sv_ldc X kn_X7_76 dX7_image_9 ?_
    exact sv_iret X hr hQ dX7_image_11 hF
  · replace hF := fr_neg hF h11
    refine sv_iload_n (i := 1) X dX7_image_4 rfl rfl ?_
    refine sv_iconst (v := 2) X dX7_image_5 (by decide) ?_
    refine sv_icmp_lt (tgt := 12) X dX7_image_6 (by decide) (fun h10 => ?_) (fun h10 => ?_)
    · replace hF := fr_pos hF h10
      refine sv_aload_n (i := 0) X dX7_image_12 rfl rfl ?_
      refine sv_getr X ix_X7 rfl 2 (by decide) rfl rfl fl_X7_26 dX7_image_13 ?_
      obtain ⟨b3, s2, hc1, hF⟩ := fr_bP_some hF
      refine sv_callVi X (c_X3_stands rfl rfl hc1) cd_X3_stands ml_X7_179 im_X3_stands se_X3_stands in_RX3 hd_X3_stands rfl rfl (by decide) rfl (Nat.le_of_ble_eq_true rfl) dX7_image_16 rfl ?_
      refine sv_if_ne (tgt := 25) X dX7_image_19 (by decide) (fun h9 => ?_) (fun h9 => ?_)
      · replace hF := fr_neg hF h9
        refine sv_aload_n (i := 0) X dX7_image_25 rfl rfl ?_
        refine sv_getr X ix_X7 rfl 2 (by decide) rfl rfl fl_X7_26 dX7_image_26 ?_
        refine sv_aload_n (i := 0) X dX7_image_29 rfl rfl ?_
        refine sv_getr X ix_X7 rfl 7 (by decide) rfl rfl fl_X7_58 dX7_image_30 ?_
        refine sv_iload_n (i := 1) X dX7_image_33 rfl rfl ?_
        obtain ⟨hb4, hF⟩ := fr_chk hF
        refine sv_aald (t := 56 + fr_ix a1) X rfl hb4 (fr_a55 _ (fr_ixlt hb4)).1 dX7_image_34 ?_
        obtain ⟨s6, hc5, hF⟩ := fr_bS_some hF
        refine sv_callVv X (c_X3_keepIn rfl rfl ((fr_a55 _ (fr_ixlt hb4)).2) hc5) cd_X3_keepIn ml_X7_268 im_X3_keepIn se_X3_keepIn in_RX3 hd_X3_keepIn rfl rfl (by decide) rfl (Nat.le_of_ble_eq_true rfl) dX7_image_35 rfl ?_
        refine sv_aload_n (i := 0) X dX7_image_38 rfl rfl ?_
        refine sv_getr X ix_X7 rfl 8 (by decide) rfl rfl fl_X7_61 dX7_image_39 ?_
        refine sv_iload_n (i := 1) X dX7_image_42 rfl rfl ?_
        refine sv_iconst (v := 1) X dX7_image_43 (by decide) ?_
        obtain ⟨hb7, hF⟩ := fr_chk hF
        refine sv_zast (j := (fr_ix a1)) X rfl hb7 rfl (by decide) dX7_image_44 ?_
        refine sv_sig (fun s8 es8 => ?_)
        replace hF := fr_lete hF es8
        refine sv_iconst (v := 1) X dX7_image_45 (by decide) ?_
        exact sv_iret X hr hQ dX7_image_46 hF
      · replace hF := fr_pos hF h9
        refine sv_ldc X kn_X7_156 dX7_image_22 ?_
        exact sv_iret X hr hQ dX7_image_24 hF
    · replace hF := fr_neg hF h10
      refine sv_ldc X kn_X7_76 dX7_image_9 ?_
      exact sv_iret X hr hQ dX7_image_11 hF
theorem c_X7_image {l : Launch} {g : fr_G} {a1 : Int32}  {σ τ : fr_St} {r : Int32} (hF : F_X7_image a1 σ = some (r, τ)) : fr_Ci l g yX7_image (fr_ws yX7_image cX7_image 2 (some .int)) 2 [.ref (g.2.1 0), .int a1] σ r τ := fr_mi (by decide) (Nat.le_of_ble_eq_true rfl) (fun p e s m below meth c X hr => b_X7_image X hr  rfl hF)
def F_X7_restore (a1 : Int32) (σ : fr_St) : Option (Int32 × fr_St) := if a1 < 0 then (some ((-1000001 : Int32), σ)) else (if a1 < (2 : Int32) then (if fr_ib a1 2 = true then if (σ 58 (fr_ix a1)) = 0 then (some ((-1000002 : Int32), σ)) else (if fr_ib a1 2 = true then fr_bS (F_X3_takeFrom 15 (56 + fr_ix a1) σ) (fun s4 => fr_bS (F_X0_forgetAll s4) (fun s6 => some ((1 : Int32), s6))) else none) else none) else (some ((-1000001 : Int32), σ)))
set_option maxRecDepth 100000 in
set_option maxHeartbeats 4000000 in
theorem b_X7_restore {p : Program} {l : Launch} {e : Env} {s : State} {m : MethodId} {args : Array Value} {below : List Frame} {meth : Method} {c : Code} {g : fr_G} {Q : State → Prop} (X : fr_X p s m args meth c g cX7_restore RX7 2) (hr : meth.sig.returnType = (some .int)) {a1 : Int32}  {σ τ : fr_St} {r : Int32} (hQ : Q = fr_Qi below args s g r τ) (hF : F_X7_restore a1 σ = some (r, τ)) : fr_V p l e (fr_rm 2) s m args below meth c g Q 2 σ 0 [(0, .ref (g.2.1 0)), (1, .int a1)] [] := by
  unfold F_X7_restore at hF
  refine sv_iload_n (i := 1) X dX7_restore_0 rfl rfl ?_
  refine sv_if_lt (tgt := 9) X dX7_restore_1 (by decide) (fun h9 => ?_) (fun h9 => ?_)
  · replace hF := fr_pos hF h9
    refine sv_ldc X kn_X7_76 dX7_restore_9 ?_
    exact sv_iret X hr hQ dX7_restore_11 hF
  · replace hF := fr_neg hF h9
    refine sv_iload_n (i := 1) X dX7_restore_4 rfl rfl ?_
    refine sv_iconst (v := 2) X dX7_restore_5 (by decide) ?_
    refine sv_icmp_lt (tgt := 12) X dX7_restore_6 (by decide) (fun h8 => ?_) (fun h8 => ?_)
    · replace hF := fr_pos hF h8
      refine sv_aload_n (i := 0) X dX7_restore_12 rfl rfl ?_
      refine sv_getr X ix_X7 rfl 8 (by decide) rfl rfl fl_X7_61 dX7_restore_13 ?_
      refine sv_iload_n (i := 1) X dX7_restore_16 rfl rfl ?_
      obtain ⟨hb1, hF⟩ := fr_chk hF
      refine sv_zald (j := (fr_ix a1)) X rfl hb1 rfl dX7_restore_17 ?_
      refine sv_if_ne (tgt := 24) X dX7_restore_18 (by decide) (fun h7 => ?_) (fun h7 => ?_)
      · replace hF := fr_neg hF h7
        refine sv_aload_n (i := 0) X dX7_restore_24 rfl rfl ?_
        refine sv_getr X ix_X7 rfl 2 (by decide) rfl rfl fl_X7_26 dX7_restore_25 ?_
        refine sv_aload_n (i := 0) X dX7_restore_28 rfl rfl ?_
        refine sv_getr X ix_X7 rfl 7 (by decide) rfl rfl fl_X7_58 dX7_restore_29 ?_
        refine sv_iload_n (i := 1) X dX7_restore_32 rfl rfl ?_
        obtain ⟨hb2, hF⟩ := fr_chk hF
        refine sv_aald (t := 56 + fr_ix a1) X rfl hb2 (fr_a55 _ (fr_ixlt hb2)).1 dX7_restore_33 ?_
        obtain ⟨s4, hc3, hF⟩ := fr_bS_some hF
        refine sv_callVv X (c_X3_takeFrom rfl rfl ((fr_a55 _ (fr_ixlt hb2)).2) hc3) cd_X3_takeFrom ml_X7_136 im_X3_takeFrom se_X3_takeFrom in_RX3 hd_X3_takeFrom rfl rfl (by decide) rfl (Nat.le_of_ble_eq_true rfl) dX7_restore_34 rfl ?_
        refine sv_aload_n (i := 0) X dX7_restore_37 rfl rfl ?_
        refine sv_getr X ix_X7 rfl 4 (by decide) rfl rfl fl_X7_36 dX7_restore_38 ?_
        obtain ⟨s6, hc5, hF⟩ := fr_bS_some hF
        refine sv_callVv X (c_X0_forgetAll hc5) cd_X0_forgetAll ml_X7_140 im_X0_forgetAll se_X0_forgetAll in_RX0 hd_X0_forgetAll rfl rfl (by decide) rfl (Nat.le_of_ble_eq_true rfl) dX7_restore_41 rfl ?_
        refine sv_iconst (v := 1) X dX7_restore_44 (by decide) ?_
        exact sv_iret X hr hQ dX7_restore_45 hF
      · replace hF := fr_pos hF h7
        refine sv_ldc X kn_X7_156 dX7_restore_21 ?_
        exact sv_iret X hr hQ dX7_restore_23 hF
    · replace hF := fr_neg hF h8
      refine sv_ldc X kn_X7_76 dX7_restore_9 ?_
      exact sv_iret X hr hQ dX7_restore_11 hF
theorem c_X7_restore {l : Launch} {g : fr_G} {a1 : Int32}  {σ τ : fr_St} {r : Int32} (hF : F_X7_restore a1 σ = some (r, τ)) : fr_Ci l g yX7_restore (fr_ws yX7_restore cX7_restore 2 (some .int)) 2 [.ref (g.2.1 0), .int a1] σ r τ := fr_mi (by decide) (Nat.le_of_ble_eq_true rfl) (fun p e s m below meth c X hr => b_X7_restore X hr  rfl hF)
def F_X7_kind (a1 : Int32) (σ : fr_St) : Option (Int32 × fr_St) := fr_bP (F_X3_hasRoad 15 a1 σ) (fun b3 s2 => fr_bP (if (fr_bi b3) = 0 then (some ((-1000001 : Int32), s2)) else (fr_bP (F_X3_kindOf 15 a1 s2) (fun r10 s9 => some (r10, s9)))) (fun v4 s5 => some (v4, s5)))
set_option maxRecDepth 100000 in
set_option maxHeartbeats 4000000 in
theorem b_X7_kind {p : Program} {l : Launch} {e : Env} {s : State} {m : MethodId} {args : Array Value} {below : List Frame} {meth : Method} {c : Code} {g : fr_G} {Q : State → Prop} (X : fr_X p s m args meth c g cX7_kind RX7 2) (hr : meth.sig.returnType = (some .int)) {a1 : Int32}  {σ τ : fr_St} {r : Int32} (hQ : Q = fr_Qi below args s g r τ) (hF : F_X7_kind a1 σ = some (r, τ)) : fr_V p l e (fr_rm 2) s m args below meth c g Q 2 σ 0 [(0, .ref (g.2.1 0)), (1, .int a1)] [] := by
  unfold F_X7_kind at hF
  refine sv_aload_n (i := 0) X dX7_kind_0 rfl rfl ?_
  refine sv_getr X ix_X7 rfl 2 (by decide) rfl rfl fl_X7_26 dX7_kind_1 ?_
  refine sv_iload_n (i := 1) X dX7_kind_4 rfl rfl ?_
  obtain ⟨b3, s2, hc1, hF⟩ := fr_bP_some hF
  refine sv_callVi X (c_X3_hasRoad rfl rfl hc1) cd_X3_hasRoad ml_X7_149 im_X3_hasRoad se_X3_hasRoad in_RX3 hd_X3_hasRoad rfl rfl (by decide) rfl (Nat.le_of_ble_eq_true rfl) dX7_kind_5 rfl ?_
  obtain ⟨v4, s5, hM6, hF⟩ := fr_bP_some hF
  have K7 : fr_V p l e (fr_rm 2) s m args below meth c g Q 2 s5 24 [(0, .ref (g.2.1 0)), (1, .int a1)] [.int v4] := by
    exact sv_iret X hr hQ dX7_kind_24 hF
  refine sv_if_eq (tgt := 22) X dX7_kind_8 (by decide) (fun h11 => ?_) (fun h11 => ?_)
  · replace hM6 := fr_pos hM6 h11
    refine sv_ldc X kn_X7_76 dX7_kind_22 ?_
    obtain ⟨rfl, rfl⟩ := fr_i2 hM6
    exact K7
  · replace hM6 := fr_neg hM6 h11
    refine sv_aload_n (i := 0) X dX7_kind_11 rfl rfl ?_
    refine sv_getr X ix_X7 rfl 2 (by decide) rfl rfl fl_X7_26 dX7_kind_12 ?_
    refine sv_iload_n (i := 1) X dX7_kind_15 rfl rfl ?_
    obtain ⟨r10, s9, hc8, hM6⟩ := fr_bP_some hM6
    refine sv_callVi X (c_X3_kindOf rfl rfl hc8) cd_X3_kindOf ml_X7_271 im_X3_kindOf se_X3_kindOf in_RX3 hd_X3_kindOf rfl rfl (by decide) rfl (Nat.le_of_ble_eq_true rfl) dX7_kind_16 rfl ?_
    refine sv_goto (tgt := 24) X dX7_kind_19 (by decide) ?_
    obtain ⟨rfl, rfl⟩ := fr_i2 hM6
    exact K7
theorem c_X7_kind {l : Launch} {g : fr_G} {a1 : Int32}  {σ τ : fr_St} {r : Int32} (hF : F_X7_kind a1 σ = some (r, τ)) : fr_Ci l g yX7_kind (fr_ws yX7_kind cX7_kind 2 (some .int)) 2 [.ref (g.2.1 0), .int a1] σ r τ := fr_mi (by decide) (Nat.le_of_ble_eq_true rfl) (fun p e s m below meth c X hr => b_X7_kind X hr  rfl hF)
def F_X7_as (a1 : Int32) (a2 : Int32) (σ : fr_St) : Option (Int32 × fr_St) := fr_bP (F_X3_hasRoad 15 a1 σ) (fun b3 s2 => if (fr_bi b3) = 0 then (some ((-1000001 : Int32), s2)) else (fr_bP (F_X2_hasNumber a2 s2) (fun b6 s5 => if (fr_bi b6) = 0 then (some ((-1000001 : Int32), s5)) else (fr_bP (F_X3_kindOf 15 a1 s5) (fun r9 s8 => fr_bP (F_X2_isA r9 a2 s8) (fun b12 s11 => fr_bP (if (fr_bi b12) = 0 then (fr_bP (F_X7_found (3 : Int32) s11) (fun r19 s18 => some (r19, s18))) else (fr_bP (F_X7_fine a1 s11) (fun r22 s21 => some (r22, s21)))) (fun v13 s14 => some (v13, s14))))))))
set_option maxRecDepth 100000 in
set_option maxHeartbeats 4000000 in
theorem b_X7_as {p : Program} {l : Launch} {e : Env} {s : State} {m : MethodId} {args : Array Value} {below : List Frame} {meth : Method} {c : Code} {g : fr_G} {Q : State → Prop} (X : fr_X p s m args meth c g cX7_as RX7 3) (hr : meth.sig.returnType = (some .int)) {a1 : Int32} {a2 : Int32}  {σ τ : fr_St} {r : Int32} (hQ : Q = fr_Qi below args s g r τ) (hF : F_X7_as a1 a2 σ = some (r, τ)) : fr_V p l e (fr_rm 3) s m args below meth c g Q 3 σ 0 [(0, .ref (g.2.1 0)), (1, .int a1), (2, .int a2)] [] := by
  unfold F_X7_as at hF
  refine sv_aload_n (i := 0) X dX7_as_0 rfl rfl ?_
  refine sv_getr X ix_X7 rfl 2 (by decide) rfl rfl fl_X7_26 dX7_as_1 ?_
  refine sv_iload_n (i := 1) X dX7_as_4 rfl rfl ?_
  obtain ⟨b3, s2, hc1, hF⟩ := fr_bP_some hF
  refine sv_callVi X (c_X3_hasRoad rfl rfl hc1) cd_X3_hasRoad ml_X7_149 im_X3_hasRoad se_X3_hasRoad in_RX3 hd_X3_hasRoad rfl rfl (by decide) rfl (Nat.le_of_ble_eq_true rfl) dX7_as_5 rfl ?_
  refine sv_if_eq (tgt := 18) X dX7_as_8 (by decide) (fun h25 => ?_) (fun h25 => ?_)
  · replace hF := fr_pos hF h25
    refine sv_ldc X kn_X7_76 dX7_as_18 ?_
    exact sv_iret X hr hQ dX7_as_20 hF
  · replace hF := fr_neg hF h25
    refine sv_iload_n (i := 2) X dX7_as_11 rfl rfl ?_
    obtain ⟨b6, s5, hc4, hF⟩ := fr_bP_some hF
    refine sv_callSi X (c_X2_hasNumber hc4) cd_X2_hasNumber ml_X7_274 sm_X2_hasNumber in_RX2 hd_X2_hasNumber (by decide) rfl (Nat.le_of_ble_eq_true rfl) dX7_as_12 rfl ?_
    refine sv_if_ne (tgt := 21) X dX7_as_15 (by decide) (fun h24 => ?_) (fun h24 => ?_)
    · replace hF := fr_neg hF h24
      refine sv_aload_n (i := 0) X dX7_as_21 rfl rfl ?_
      refine sv_getr X ix_X7 rfl 2 (by decide) rfl rfl fl_X7_26 dX7_as_22 ?_
      refine sv_iload_n (i := 1) X dX7_as_25 rfl rfl ?_
      obtain ⟨r9, s8, hc7, hF⟩ := fr_bP_some hF
      refine sv_callVi X (c_X3_kindOf rfl rfl hc7) cd_X3_kindOf ml_X7_271 im_X3_kindOf se_X3_kindOf in_RX3 hd_X3_kindOf rfl rfl (by decide) rfl (Nat.le_of_ble_eq_true rfl) dX7_as_26 rfl ?_
      refine sv_iload_n (i := 2) X dX7_as_29 rfl rfl ?_
      obtain ⟨b12, s11, hc10, hF⟩ := fr_bP_some hF
      refine sv_callSi X (c_X2_isA hc10) cd_X2_isA ml_X7_277 sm_X2_isA in_RX2 hd_X2_isA (by decide) rfl (Nat.le_of_ble_eq_true rfl) dX7_as_30 rfl ?_
      obtain ⟨v13, s14, hM15, hF⟩ := fr_bP_some hF
      have K16 : fr_V p l e (fr_rm 3) s m args below meth c g Q 3 s14 49 [(0, .ref (g.2.1 0)), (1, .int a1), (2, .int a2)] [.int v13] := by
        exact sv_iret X hr hQ dX7_as_49 hF
      refine sv_if_eq (tgt := 44) X dX7_as_33 (by decide) (fun h23 => ?_) (fun h23 => ?_)
      · replace hM15 := fr_pos hM15 h23
        refine sv_aload_n (i := 0) X dX7_as_44 rfl rfl ?_
        refine sv_iconst (v := 3) X dX7_as_45 (by decide) ?_
        obtain ⟨r19, s18, hc17, hM15⟩ := fr_bP_some hM15
        refine sv_callVi X (c_X7_found hc17) cd_X7_found ml_X7_77 im_X7_found se_X7_found in_RX7 hd_X7_found rfl rfl (by decide) rfl (Nat.le_of_ble_eq_true rfl) dX7_as_46 rfl ?_
        obtain ⟨rfl, rfl⟩ := fr_i2 hM15
        exact K16
      · replace hM15 := fr_neg hM15 h23
        refine sv_aload_n (i := 0) X dX7_as_36 rfl rfl ?_
        refine sv_iload_n (i := 1) X dX7_as_37 rfl rfl ?_
        obtain ⟨r22, s21, hc20, hM15⟩ := fr_bP_some hM15
        refine sv_callVi X (c_X7_fine hc20) cd_X7_fine ml_X7_85 im_X7_fine se_X7_fine in_RX7 hd_X7_fine rfl rfl (by decide) rfl (Nat.le_of_ble_eq_true rfl) dX7_as_38 rfl ?_
        refine sv_goto (tgt := 49) X dX7_as_41 (by decide) ?_
        obtain ⟨rfl, rfl⟩ := fr_i2 hM15
        exact K16
    · replace hF := fr_pos hF h24
      refine sv_ldc X kn_X7_76 dX7_as_18 ?_
      exact sv_iret X hr hQ dX7_as_20 hF
theorem c_X7_as {l : Launch} {g : fr_G} {a1 : Int32} {a2 : Int32}  {σ τ : fr_St} {r : Int32} (hF : F_X7_as a1 a2 σ = some (r, τ)) : fr_Ci l g yX7_as (fr_ws yX7_as cX7_as 3 (some .int)) 3 [.ref (g.2.1 0), .int a1, .int a2] σ r τ := fr_mi (by decide) (Nat.le_of_ble_eq_true rfl) (fun p e s m below meth c X hr => b_X7_as X hr  rfl hF)
def F_X7_ask (a1 : Int32) (a2 : Int32) (σ : fr_St) : Option (Int32 × fr_St) := fr_bP (F_X3_hasRoad 15 a1 σ) (fun b3 s2 => if (fr_bi b3) = 0 then (some ((-1000001 : Int32), s2)) else (fr_bP (F_X7_isZeroOrOne a2 s2) (fun b6 s5 => if (fr_bi b6) = 0 then (some ((-1000001 : Int32), s5)) else (fr_bS (F_X1_clearTrace s5) (fun s8 => fr_bP (F_X1_answer a1 a2 (0 : Int32) s8) (fun r11 s10 => some (r11, s10)))))))
set_option maxRecDepth 100000 in
set_option maxHeartbeats 4000000 in
theorem b_X7_ask {p : Program} {l : Launch} {e : Env} {s : State} {m : MethodId} {args : Array Value} {below : List Frame} {meth : Method} {c : Code} {g : fr_G} {Q : State → Prop} (X : fr_X p s m args meth c g cX7_ask RX7 3) (hr : meth.sig.returnType = (some .int)) {a1 : Int32} {a2 : Int32}  {σ τ : fr_St} {r : Int32} (hQ : Q = fr_Qi below args s g r τ) (hF : F_X7_ask a1 a2 σ = some (r, τ)) : fr_V p l e (fr_rm 101) s m args below meth c g Q 3 σ 0 [(0, .ref (g.2.1 0)), (1, .int a1), (2, .int a2)] [] := by
  unfold F_X7_ask at hF
  refine sv_aload_n (i := 0) X dX7_ask_0 rfl rfl ?_
  refine sv_getr X ix_X7 rfl 2 (by decide) rfl rfl fl_X7_26 dX7_ask_1 ?_
  refine sv_iload_n (i := 1) X dX7_ask_4 rfl rfl ?_
  obtain ⟨b3, s2, hc1, hF⟩ := fr_bP_some hF
  refine sv_callVi X (c_X3_hasRoad rfl rfl hc1) cd_X3_hasRoad ml_X7_149 im_X3_hasRoad se_X3_hasRoad in_RX3 hd_X3_hasRoad rfl rfl (by decide) rfl (Nat.le_of_ble_eq_true rfl) dX7_ask_5 rfl ?_
  refine sv_if_eq (tgt := 18) X dX7_ask_8 (by decide) (fun h13 => ?_) (fun h13 => ?_)
  · replace hF := fr_pos hF h13
    refine sv_ldc X kn_X7_76 dX7_ask_18 ?_
    exact sv_iret X hr hQ dX7_ask_20 hF
  · replace hF := fr_neg hF h13
    refine sv_iload_n (i := 2) X dX7_ask_11 rfl rfl ?_
    obtain ⟨b6, s5, hc4, hF⟩ := fr_bP_some hF
    refine sv_callSi X (c_X7_isZeroOrOne hc4) cd_X7_isZeroOrOne ml_X7_232 sm_X7_isZeroOrOne in_RX7 hd_X7_isZeroOrOne (by decide) rfl (Nat.le_of_ble_eq_true rfl) dX7_ask_12 rfl ?_
    refine sv_if_ne (tgt := 21) X dX7_ask_15 (by decide) (fun h12 => ?_) (fun h12 => ?_)
    · replace hF := fr_neg hF h12
      refine sv_aload_n (i := 0) X dX7_ask_21 rfl rfl ?_
      refine sv_getr X ix_X7 rfl 6 (by decide) rfl rfl fl_X7_52 dX7_ask_22 ?_
      obtain ⟨s8, hc7, hF⟩ := fr_bS_some hF
      refine sv_callVv X (c_X1_clearTrace hc7) cd_X1_clearTrace ml_X7_280 im_X1_clearTrace se_X1_clearTrace in_RX1 hd_X1_clearTrace rfl rfl (by decide) rfl (Nat.le_of_ble_eq_true rfl) dX7_ask_25 rfl ?_
      refine sv_aload_n (i := 0) X dX7_ask_28 rfl rfl ?_
      refine sv_getr X ix_X7 rfl 6 (by decide) rfl rfl fl_X7_52 dX7_ask_29 ?_
      refine sv_iload_n (i := 1) X dX7_ask_32 rfl rfl ?_
      refine sv_iload_n (i := 2) X dX7_ask_33 rfl rfl ?_
      refine sv_iconst (v := 0) X dX7_ask_34 (by decide) ?_
      obtain ⟨r11, s10, hc9, hF⟩ := fr_bP_some hF
      refine sv_callVi X (c_X1_answer hc9) cd_X1_answer ml_X7_283 im_X1_answer se_X1_answer in_RX1 hd_X1_answer rfl rfl (by decide) rfl (Nat.le_of_ble_eq_true rfl) dX7_ask_35 rfl ?_
      exact sv_iret X hr hQ dX7_ask_38 hF
    · replace hF := fr_pos hF h12
      refine sv_ldc X kn_X7_76 dX7_ask_18 ?_
      exact sv_iret X hr hQ dX7_ask_20 hF
theorem c_X7_ask {l : Launch} {g : fr_G} {a1 : Int32} {a2 : Int32}  {σ τ : fr_St} {r : Int32} (hF : F_X7_ask a1 a2 σ = some (r, τ)) : fr_Ci l g yX7_ask (fr_ws yX7_ask cX7_ask 3 (some .int)) 101 [.ref (g.2.1 0), .int a1, .int a2] σ r τ := fr_mi (by decide) (Nat.le_of_ble_eq_true rfl) (fun p e s m below meth c X hr => b_X7_ask X hr  rfl hF)
def F_X7_trace (a1 : Int32) (σ : fr_St) : Option (Int32 × fr_St) := fr_bP (F_X1_traced a1 σ) (fun r3 s2 => some (r3, s2))
set_option maxRecDepth 100000 in
set_option maxHeartbeats 4000000 in
theorem b_X7_trace {p : Program} {l : Launch} {e : Env} {s : State} {m : MethodId} {args : Array Value} {below : List Frame} {meth : Method} {c : Code} {g : fr_G} {Q : State → Prop} (X : fr_X p s m args meth c g cX7_trace RX7 2) (hr : meth.sig.returnType = (some .int)) {a1 : Int32}  {σ τ : fr_St} {r : Int32} (hQ : Q = fr_Qi below args s g r τ) (hF : F_X7_trace a1 σ = some (r, τ)) : fr_V p l e (fr_rm 1) s m args below meth c g Q 2 σ 0 [(0, .ref (g.2.1 0)), (1, .int a1)] [] := by
  unfold F_X7_trace at hF
  refine sv_aload_n (i := 0) X dX7_trace_0 rfl rfl ?_
  refine sv_getr X ix_X7 rfl 6 (by decide) rfl rfl fl_X7_52 dX7_trace_1 ?_
  refine sv_iload_n (i := 1) X dX7_trace_4 rfl rfl ?_
  obtain ⟨r3, s2, hc1, hF⟩ := fr_bP_some hF
  refine sv_callVi X (c_X1_traced hc1) cd_X1_traced ml_X7_286 im_X1_traced se_X1_traced in_RX1 hd_X1_traced rfl rfl (by decide) rfl (Nat.le_of_ble_eq_true rfl) dX7_trace_5 rfl ?_
  exact sv_iret X hr hQ dX7_trace_8 hF
theorem c_X7_trace {l : Launch} {g : fr_G} {a1 : Int32}  {σ τ : fr_St} {r : Int32} (hF : F_X7_trace a1 σ = some (r, τ)) : fr_Ci l g yX7_trace (fr_ws yX7_trace cX7_trace 2 (some .int)) 1 [.ref (g.2.1 0), .int a1] σ r τ := fr_mi (by decide) (Nat.le_of_ble_eq_true rfl) (fun p e s m below meth c X hr => b_X7_trace X hr  rfl hF)
def F_X7_count (a1 : Int32) (σ : fr_St) : Option (Int32 × fr_St) := if a1 = (0 : Int32) then (fr_bP (F_X6_rowsThere σ) (fun r4 s3 => some (r4, s3))) else (if a1 = (1 : Int32) then (fr_bP (F_X3_roads 15 σ) (fun r8 s7 => some (r8, s7))) else (if a1 = (2 : Int32) then (fr_bP (F_X3_people 15 σ) (fun r12 s11 => some (r12, s11))) else (if a1 = (3 : Int32) then (fr_bP (F_X3_places 15 σ) (fun r16 s15 => some (r16, s15))) else (if a1 = (4 : Int32) then (fr_bP (F_X3_fade 15 σ) (fun r20 s19 => some (r20, s19))) else (if a1 = (5 : Int32) then (fr_bP (F_X3_today 15 σ) (fun r24 s23 => some (r24, s23))) else (if a1 = (6 : Int32) then (fr_bP (F_X3_spent 15 σ) (fun r28 s27 => some (r28, s27))) else (if a1 = (7 : Int32) then (fr_bP (F_X0_number σ) (fun r32 s31 => some (r32, s31))) else (if a1 = (8 : Int32) then (fr_bP (F_X4_length σ) (fun r36 s35 => some (r36, s35))) else (some ((-1000001 : Int32), σ))))))))))
set_option maxRecDepth 100000 in
set_option maxHeartbeats 4000000 in
theorem b_X7_count {p : Program} {l : Launch} {e : Env} {s : State} {m : MethodId} {args : Array Value} {below : List Frame} {meth : Method} {c : Code} {g : fr_G} {Q : State → Prop} (X : fr_X p s m args meth c g cX7_count RX7 2) (hr : meth.sig.returnType = (some .int)) {a1 : Int32}  {σ τ : fr_St} {r : Int32} (hQ : Q = fr_Qi below args s g r τ) (hF : F_X7_count a1 σ = some (r, τ)) : fr_V p l e (fr_rm 2) s m args below meth c g Q 2 σ 0 [(0, .ref (g.2.1 0)), (1, .int a1)] [] := by
  unfold F_X7_count at hF
  refine sv_iload_n (i := 1) X dX7_count_0 rfl rfl ?_
  by_cases h1 : a1 = (0 : Int32)
  · replace hF := fr_pos hF h1
    refine sv_tin (v := (0 : Int32)) (tgt := 52) X h1 (by decide) (by decide) rfl (by decide) dX7_count_1 ?_
    refine sv_aload_n (i := 0) X dX7_count_52 rfl rfl ?_
    refine sv_getr X ix_X7 rfl 0 (by decide) rfl rfl fl_X7_13 dX7_count_53 ?_
    obtain ⟨r4, s3, hc2, hF⟩ := fr_bP_some hF
    refine sv_callVi X (c_X6_rowsThere hc2) cd_X6_rowsThere ml_X7_289 im_X6_rowsThere se_X6_rowsThere in_RX6 hd_X6_rowsThere rfl rfl (by decide) rfl (Nat.le_of_ble_eq_true rfl) dX7_count_56 rfl ?_
    exact sv_iret X hr hQ dX7_count_59 hF
  · replace hF := fr_neg hF h1
    by_cases h5 : a1 = (1 : Int32)
    · replace hF := fr_pos hF h5
      refine sv_tin (v := (1 : Int32)) (tgt := 60) X h5 (by decide) (by decide) rfl (by decide) dX7_count_1 ?_
      refine sv_aload_n (i := 0) X dX7_count_60 rfl rfl ?_
      refine sv_getr X ix_X7 rfl 2 (by decide) rfl rfl fl_X7_26 dX7_count_61 ?_
      obtain ⟨r8, s7, hc6, hF⟩ := fr_bP_some hF
      refine sv_callVi X (c_X3_roads rfl rfl hc6) cd_X3_roads ml_X7_292 im_X3_roads se_X3_roads in_RX3 hd_X3_roads rfl rfl (by decide) rfl (Nat.le_of_ble_eq_true rfl) dX7_count_64 rfl ?_
      exact sv_iret X hr hQ dX7_count_67 hF
    · replace hF := fr_neg hF h5
      by_cases h9 : a1 = (2 : Int32)
      · replace hF := fr_pos hF h9
        refine sv_tin (v := (2 : Int32)) (tgt := 68) X h9 (by decide) (by decide) rfl (by decide) dX7_count_1 ?_
        refine sv_aload_n (i := 0) X dX7_count_68 rfl rfl ?_
        refine sv_getr X ix_X7 rfl 2 (by decide) rfl rfl fl_X7_26 dX7_count_69 ?_
        obtain ⟨r12, s11, hc10, hF⟩ := fr_bP_some hF
        refine sv_callVi X (c_X3_people rfl rfl hc10) cd_X3_people ml_X7_143 im_X3_people se_X3_people in_RX3 hd_X3_people rfl rfl (by decide) rfl (Nat.le_of_ble_eq_true rfl) dX7_count_72 rfl ?_
        exact sv_iret X hr hQ dX7_count_75 hF
      · replace hF := fr_neg hF h9
        by_cases h13 : a1 = (3 : Int32)
        · replace hF := fr_pos hF h13
          refine sv_tin (v := (3 : Int32)) (tgt := 76) X h13 (by decide) (by decide) rfl (by decide) dX7_count_1 ?_
          refine sv_aload_n (i := 0) X dX7_count_76 rfl rfl ?_
          refine sv_getr X ix_X7 rfl 2 (by decide) rfl rfl fl_X7_26 dX7_count_77 ?_
          obtain ⟨r16, s15, hc14, hF⟩ := fr_bP_some hF
          refine sv_callVi X (c_X3_places rfl rfl hc14) cd_X3_places ml_X7_295 im_X3_places se_X3_places in_RX3 hd_X3_places rfl rfl (by decide) rfl (Nat.le_of_ble_eq_true rfl) dX7_count_80 rfl ?_
          exact sv_iret X hr hQ dX7_count_83 hF
        · replace hF := fr_neg hF h13
          by_cases h17 : a1 = (4 : Int32)
          · replace hF := fr_pos hF h17
            refine sv_tin (v := (4 : Int32)) (tgt := 84) X h17 (by decide) (by decide) rfl (by decide) dX7_count_1 ?_
            refine sv_aload_n (i := 0) X dX7_count_84 rfl rfl ?_
            refine sv_getr X ix_X7 rfl 2 (by decide) rfl rfl fl_X7_26 dX7_count_85 ?_
            obtain ⟨r20, s19, hc18, hF⟩ := fr_bP_some hF
            refine sv_callVi X (c_X3_fade rfl rfl hc18) cd_X3_fade ml_X7_298 im_X3_fade se_X3_fade in_RX3 hd_X3_fade rfl rfl (by decide) rfl (Nat.le_of_ble_eq_true rfl) dX7_count_88 rfl ?_
            exact sv_iret X hr hQ dX7_count_91 hF
          · replace hF := fr_neg hF h17
            by_cases h21 : a1 = (5 : Int32)
            · replace hF := fr_pos hF h21
              refine sv_tin (v := (5 : Int32)) (tgt := 92) X h21 (by decide) (by decide) rfl (by decide) dX7_count_1 ?_
              refine sv_aload_n (i := 0) X dX7_count_92 rfl rfl ?_
              refine sv_getr X ix_X7 rfl 2 (by decide) rfl rfl fl_X7_26 dX7_count_93 ?_
              obtain ⟨r24, s23, hc22, hF⟩ := fr_bP_some hF
              refine sv_callVi X (c_X3_today rfl rfl hc22) cd_X3_today ml_X7_182 im_X3_today se_X3_today in_RX3 hd_X3_today rfl rfl (by decide) rfl (Nat.le_of_ble_eq_true rfl) dX7_count_96 rfl ?_
              exact sv_iret X hr hQ dX7_count_99 hF
            · replace hF := fr_neg hF h21
              by_cases h25 : a1 = (6 : Int32)
              · replace hF := fr_pos hF h25
                refine sv_tin (v := (6 : Int32)) (tgt := 100) X h25 (by decide) (by decide) rfl (by decide) dX7_count_1 ?_
                refine sv_aload_n (i := 0) X dX7_count_100 rfl rfl ?_
                refine sv_getr X ix_X7 rfl 2 (by decide) rfl rfl fl_X7_26 dX7_count_101 ?_
                obtain ⟨r28, s27, hc26, hF⟩ := fr_bP_some hF
                refine sv_callVi X (c_X3_spent rfl rfl hc26) cd_X3_spent ml_X7_301 im_X3_spent se_X3_spent in_RX3 hd_X3_spent rfl rfl (by decide) rfl (Nat.le_of_ble_eq_true rfl) dX7_count_104 rfl ?_
                exact sv_iret X hr hQ dX7_count_107 hF
              · replace hF := fr_neg hF h25
                by_cases h29 : a1 = (7 : Int32)
                · replace hF := fr_pos hF h29
                  refine sv_tin (v := (7 : Int32)) (tgt := 108) X h29 (by decide) (by decide) rfl (by decide) dX7_count_1 ?_
                  refine sv_aload_n (i := 0) X dX7_count_108 rfl rfl ?_
                  refine sv_getr X ix_X7 rfl 4 (by decide) rfl rfl fl_X7_36 dX7_count_109 ?_
                  obtain ⟨r32, s31, hc30, hF⟩ := fr_bP_some hF
                  refine sv_callVi X (c_X0_number hc30) cd_X0_number ml_X7_188 im_X0_number se_X0_number in_RX0 hd_X0_number rfl rfl (by decide) rfl (Nat.le_of_ble_eq_true rfl) dX7_count_112 rfl ?_
                  exact sv_iret X hr hQ dX7_count_115 hF
                · replace hF := fr_neg hF h29
                  by_cases h33 : a1 = (8 : Int32)
                  · replace hF := fr_pos hF h33
                    refine sv_tin (v := (8 : Int32)) (tgt := 116) X h33 (by decide) (by decide) rfl (by decide) dX7_count_1 ?_
                    refine sv_aload_n (i := 0) X dX7_count_116 rfl rfl ?_
                    refine sv_getr X ix_X7 rfl 1 (by decide) rfl rfl fl_X7_22 dX7_count_117 ?_
                    obtain ⟨r36, s35, hc34, hF⟩ := fr_bP_some hF
                    refine sv_callVi X (c_X4_length hc34) cd_X4_length ml_X7_304 im_X4_length se_X4_length in_RX4 hd_X4_length rfl rfl (by decide) rfl (Nat.le_of_ble_eq_true rfl) dX7_count_120 rfl ?_
                    exact sv_iret X hr hQ dX7_count_123 hF
                  · replace hF := fr_neg hF h33
                    have hz : ¬ (a1).toInt = 0 ∧ ¬ (a1).toInt = 1 ∧ ¬ (a1).toInt = 2 ∧ ¬ (a1).toInt = 3 ∧ ¬ (a1).toInt = 4 ∧ ¬ (a1).toInt = 5 ∧ ¬ (a1).toInt = 6 ∧ ¬ (a1).toInt = 7 ∧ ¬ (a1).toInt = 8 := ⟨lv_neT h1 (k := (0 : Int32)) (a := 0) (by decide), lv_neT h5 (k := (1 : Int32)) (a := 1) (by decide), lv_neT h9 (k := (2 : Int32)) (a := 2) (by decide), lv_neT h13 (k := (3 : Int32)) (a := 3) (by decide), lv_neT h17 (k := (4 : Int32)) (a := 4) (by decide), lv_neT h21 (k := (5 : Int32)) (a := 5) (by decide), lv_neT h25 (k := (6 : Int32)) (a := 6) (by decide), lv_neT h29 (k := (7 : Int32)) (a := 7) (by decide), lv_neT h33 (k := (8 : Int32)) (a := 8) (by decide)⟩
                    refine sv_tout (tgt := 124) X (by omega) (by decide) dX7_count_1 ?_
                    refine sv_ldc X kn_X7_76 dX7_count_124 ?_
                    exact sv_iret X hr hQ dX7_count_126 hF
theorem c_X7_count {l : Launch} {g : fr_G} {a1 : Int32}  {σ τ : fr_St} {r : Int32} (hF : F_X7_count a1 σ = some (r, τ)) : fr_Ci l g yX7_count (fr_ws yX7_count cX7_count 2 (some .int)) 2 [.ref (g.2.1 0), .int a1] σ r τ := fr_mi (by decide) (Nat.le_of_ble_eq_true rfl) (fun p e s m below meth c X hr => b_X7_count X hr  rfl hF)
def F_X7_status  (σ : fr_St) : Option (Int32 × fr_St) := some ((σ 0 10), σ)
set_option maxRecDepth 100000 in
set_option maxHeartbeats 4000000 in
theorem b_X7_status {p : Program} {l : Launch} {e : Env} {s : State} {m : MethodId} {args : Array Value} {below : List Frame} {meth : Method} {c : Code} {g : fr_G} {Q : State → Prop} (X : fr_X p s m args meth c g cX7_status RX7 1) (hr : meth.sig.returnType = (some .int))   {σ τ : fr_St} {r : Int32} (hQ : Q = fr_Qi below args s g r τ) (hF : F_X7_status  σ = some (r, τ)) : fr_V p l e (fr_rm 0) s m args below meth c g Q 1 σ 0 [(0, .ref (g.2.1 0))] [] := by
  unfold F_X7_status at hF
  refine sv_aload_n (i := 0) X dX7_status_0 rfl rfl ?_
  refine sv_geti X ix_X7 rfl 10 (by decide) rfl rfl fl_X7_69 dX7_status_1 ?_
  exact sv_iret X hr hQ dX7_status_4 hF
theorem c_X7_status {l : Launch} {g : fr_G}   {σ τ : fr_St} {r : Int32} (hF : F_X7_status  σ = some (r, τ)) : fr_Ci l g yX7_status (fr_ws yX7_status cX7_status 1 (some .int)) 0 [.ref (g.2.1 0)] σ r τ := fr_mi (by decide) (Nat.le_of_ble_eq_true rfl) (fun p e s m below meth c X hr => b_X7_status X hr  rfl hF)
