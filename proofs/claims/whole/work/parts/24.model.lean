def L_X8_image_25 (k1 : Int32) : Nat → Int32 → fr_St → Option (Int32 × fr_St)
  | 0, _, _ => none
  | n + 1, x2, σ => if (122 : Int32) ≤ x2 then (some (x2, σ)) else (if fr_ib x2 122 = true then if fr_ib (((122 : Int32) * k1) + x2) 244 = true then fr_let (fr_up σ 73 (fr_ix (((122 : Int32) * k1) + x2)) (σ 63 (fr_ix x2))) (fun s3 => fr_let (x2 + (1 : Int32)) (fun v4 => L_X8_image_25 k1 n v4 s3)) else none else none)
set_option maxRecDepth 100000 in
set_option maxHeartbeats 4000000 in
theorem wL_X8_image_25 {p : Program} {l : Launch} {e : Env} {s : State} {m : MethodId} {args : Array Value} {below : List Frame} {meth : Method} {c : Code} {g : fr_G} {Q : State → Prop} (X : fr_X p s m args meth c g cX8_image RX8 3)  (k1 : Int32) {y2 : Int32} {τ : fr_St} (K : fr_V p l e (fr_rm 1) s m args below meth c g Q 3 τ 54 [(0, .ref (g.2.1 59)), (1, .int k1), (2, .int y2)] []) : ∀ (n : Nat) (x2 : Int32) (σ : fr_St), L_X8_image_25 k1 n x2 σ = some (y2, τ) → fr_V p l e (fr_rm 1) s m args below meth c g Q 3 σ 25 [(0, .ref (g.2.1 59)), (1, .int k1), (2, .int x2)] [] := by
  intro n
  induction n with
  | zero => intro x2 σ hL; cases hL
  | succ n ih =>
    intro x2 σ hL
    rw [L_X8_image_25] at hL
    refine sv_iload_n (i := 2) X dX8_image_25 rfl rfl ?_
    refine sv_bipush (v := 122) X dX8_image_26 (by decide) ?_
    refine sv_icmp_ge (tgt := 54) X dX8_image_28 (by decide) (fun h5 => ?_) (fun h5 => ?_)
    · replace hL := fr_pos hL h5
      obtain ⟨rfl, rfl⟩ := fr_i2 hL
      exact K
    · replace hL := fr_neg hL h5
      refine sv_aload_n (i := 0) X dX8_image_31 rfl rfl ?_
      refine sv_getr X ix_X8 rfl 23 (by decide) rfl rfl fl_X8_50 dX8_image_32 ?_
      refine sv_bipush (v := 122) X dX8_image_35 (by decide) ?_
      refine sv_iload_n (i := 1) X dX8_image_37 rfl rfl ?_
      refine sv_imul X dX8_image_38 ?_
      refine sv_iload_n (i := 2) X dX8_image_39 rfl rfl ?_
      refine sv_iadd X dX8_image_40 ?_
      refine sv_aload_n (i := 0) X dX8_image_41 rfl rfl ?_
      refine sv_getr X ix_X8 rfl 5 (by decide) rfl rfl fl_X8_19 dX8_image_42 ?_
      refine sv_iload_n (i := 2) X dX8_image_45 rfl rfl ?_
      obtain ⟨hb1, hL⟩ := fr_chk hL
      refine sv_iald (j := (fr_ix x2)) X rfl hb1 rfl dX8_image_46 ?_
      obtain ⟨hb2, hL⟩ := fr_chk hL
      refine sv_iast (j := (fr_ix (((122 : Int32) * k1) + x2))) X rfl hb2 rfl dX8_image_47 ?_
      refine sv_sig (fun s3 es3 => ?_)
      replace hL := fr_lete hL es3
      obtain ⟨v4, ev4⟩ : ∃ y : Int32, y = x2 + (1 : Int32) := ⟨_, rfl⟩
      replace hL := fr_lete hL ev4
      refine sv_iinc (i := 2) (v := v4) X dX8_image_48 rfl (by rw [ev4]; rfl) (by decide) rfl ?_
      refine sv_goto (tgt := 25) X dX8_image_51 (by decide) ?_
      exact sv_perm [1, 2, 0] rfl (ih _ _ hL)
def F_X8_image (a1 : Int32) (σ : fr_St) : Option (Int32 × fr_St) := fr_bP (F_X8_in (a1.toInt64) (0 : Int64) (1 : Int64) σ) (fun b3 s2 => if (fr_bi b3) = 0 then (some ((-1000001 : Int32), s2)) else (if (s2 59 4) = 0 then (some ((-1000002 : Int32), s2)) else (fr_bP (L_X8_image_25 a1 fr_fu (0 : Int32) s2) (fun v4 s5 => if fr_ib a1 2 = true then fr_let (fr_up s5 72 (fr_ix a1) (1 : Int32)) (fun s8 => some ((1 : Int32), s8)) else none))))
set_option maxRecDepth 100000 in
set_option maxHeartbeats 4000000 in
theorem b_X8_image {p : Program} {l : Launch} {e : Env} {s : State} {m : MethodId} {args : Array Value} {below : List Frame} {meth : Method} {c : Code} {g : fr_G} {Q : State → Prop} (X : fr_X p s m args meth c g cX8_image RX8 3) (hr : meth.sig.returnType = (some .int)) {a1 : Int32}  {σ τ : fr_St} {r : Int32} (hQ : Q = fr_Qi below args s g r τ) (hF : F_X8_image a1 σ = some (r, τ)) : fr_V p l e (fr_rm 1) s m args below meth c g Q 3 σ 0 [(0, .ref (g.2.1 59)), (1, .int a1)] [] := by
  unfold F_X8_image at hF
  refine sv_iload_n (i := 1) X dX8_image_0 rfl rfl ?_
  refine sv_i2l X dX8_image_1 ?_
  refine sv_lconst (v := 0) X dX8_image_2 (by decide) ?_
  refine sv_lconst (v := 1) X dX8_image_3 (by decide) ?_
  obtain ⟨b3, s2, hc1, hF⟩ := fr_bP_some hF
  refine sv_callSi X (c_X8_in hc1) cd_X8_in ml_X8_63 sm_X8_in in_RX8 hd_X8_in (by decide) rfl (Nat.le_of_ble_eq_true rfl) dX8_image_4 rfl ?_
  refine sv_if_ne (tgt := 13) X dX8_image_7 (by decide) (fun h10 => ?_) (fun h10 => ?_)
  · replace hF := fr_neg hF h10
    refine sv_aload_n (i := 0) X dX8_image_13 rfl rfl ?_
    refine sv_geti X ix_X8 rfl 4 (by decide) rfl rfl fl_X8_149 dX8_image_14 ?_
    refine sv_if_ne (tgt := 23) X dX8_image_17 (by decide) (fun h9 => ?_) (fun h9 => ?_)
    · replace hF := fr_neg hF h9
      refine sv_iconst (v := 0) X dX8_image_23 (by decide) ?_
      refine sv_istore_n X dX8_image_24 rfl (by decide) rfl ?_
      refine sv_perm [1, 2, 0] rfl ?_
      obtain ⟨v4, s5, hl6, hF⟩ := fr_bP_some hF
      refine wL_X8_image_25 X  a1 ?_ fr_fu _ _ hl6
      refine sv_aload_n (i := 0) X dX8_image_54 rfl rfl ?_
      refine sv_getr X ix_X8 rfl 22 (by decide) rfl rfl fl_X8_46 dX8_image_55 ?_
      refine sv_iload_n (i := 1) X dX8_image_58 rfl rfl ?_
      refine sv_iconst (v := 1) X dX8_image_59 (by decide) ?_
      obtain ⟨hb7, hF⟩ := fr_chk hF
      refine sv_zast (j := (fr_ix a1)) X rfl hb7 rfl (by decide) dX8_image_60 ?_
      refine sv_sig (fun s8 es8 => ?_)
      replace hF := fr_lete hF es8
      refine sv_iconst (v := 1) X dX8_image_61 (by decide) ?_
      exact sv_iret X hr hQ dX8_image_62 hF
    · replace hF := fr_pos hF h9
      refine sv_ldc X kn_X8_185 dX8_image_20 ?_
      exact sv_iret X hr hQ dX8_image_22 hF
  · replace hF := fr_pos hF h10
    refine sv_ldc X kn_X8_73 dX8_image_10 ?_
    exact sv_iret X hr hQ dX8_image_12 hF
theorem c_X8_image {l : Launch} {g : fr_G} {a1 : Int32}  {σ τ : fr_St} {r : Int32} (hF : F_X8_image a1 σ = some (r, τ)) : fr_Ci l g yX8_image (fr_ws yX8_image cX8_image 3 (some .int)) 1 [.ref (g.2.1 59), .int a1] σ r τ := fr_mi (by decide) (Nat.le_of_ble_eq_true rfl) (fun p e s m below meth c X hr => b_X8_image X hr  rfl hF)
def L_X8_restore_27 (k1 : Int32) : Nat → Int32 → fr_St → Option (Int32 × fr_St)
  | 0, _, _ => none
  | n + 1, x2, σ => if (122 : Int32) ≤ x2 then (some (x2, σ)) else (if fr_ib (((122 : Int32) * k1) + x2) 244 = true then if fr_ib x2 122 = true then fr_let (fr_up σ 63 (fr_ix x2) (σ 73 (fr_ix (((122 : Int32) * k1) + x2)))) (fun s3 => fr_let (x2 + (1 : Int32)) (fun v4 => L_X8_restore_27 k1 n v4 s3)) else none else none)
set_option maxRecDepth 100000 in
set_option maxHeartbeats 4000000 in
theorem wL_X8_restore_27 {p : Program} {l : Launch} {e : Env} {s : State} {m : MethodId} {args : Array Value} {below : List Frame} {meth : Method} {c : Code} {g : fr_G} {Q : State → Prop} (X : fr_X p s m args meth c g cX8_restore RX8 3)  (k1 : Int32) {y2 : Int32} {τ : fr_St} (K : fr_V p l e (fr_rm 1) s m args below meth c g Q 3 τ 56 [(0, .ref (g.2.1 59)), (1, .int k1), (2, .int y2)] []) : ∀ (n : Nat) (x2 : Int32) (σ : fr_St), L_X8_restore_27 k1 n x2 σ = some (y2, τ) → fr_V p l e (fr_rm 1) s m args below meth c g Q 3 σ 27 [(0, .ref (g.2.1 59)), (1, .int k1), (2, .int x2)] [] := by
  intro n
  induction n with
  | zero => intro x2 σ hL; cases hL
  | succ n ih =>
    intro x2 σ hL
    rw [L_X8_restore_27] at hL
    refine sv_iload_n (i := 2) X dX8_restore_27 rfl rfl ?_
    refine sv_bipush (v := 122) X dX8_restore_28 (by decide) ?_
    refine sv_icmp_ge (tgt := 56) X dX8_restore_30 (by decide) (fun h5 => ?_) (fun h5 => ?_)
    · replace hL := fr_pos hL h5
      obtain ⟨rfl, rfl⟩ := fr_i2 hL
      exact K
    · replace hL := fr_neg hL h5
      refine sv_aload_n (i := 0) X dX8_restore_33 rfl rfl ?_
      refine sv_getr X ix_X8 rfl 5 (by decide) rfl rfl fl_X8_19 dX8_restore_34 ?_
      refine sv_iload_n (i := 2) X dX8_restore_37 rfl rfl ?_
      refine sv_aload_n (i := 0) X dX8_restore_38 rfl rfl ?_
      refine sv_getr X ix_X8 rfl 23 (by decide) rfl rfl fl_X8_50 dX8_restore_39 ?_
      refine sv_bipush (v := 122) X dX8_restore_42 (by decide) ?_
      refine sv_iload_n (i := 1) X dX8_restore_44 rfl rfl ?_
      refine sv_imul X dX8_restore_45 ?_
      refine sv_iload_n (i := 2) X dX8_restore_46 rfl rfl ?_
      refine sv_iadd X dX8_restore_47 ?_
      obtain ⟨hb1, hL⟩ := fr_chk hL
      refine sv_iald (j := (fr_ix (((122 : Int32) * k1) + x2))) X rfl hb1 rfl dX8_restore_48 ?_
      obtain ⟨hb2, hL⟩ := fr_chk hL
      refine sv_iast (j := (fr_ix x2)) X rfl hb2 rfl dX8_restore_49 ?_
      refine sv_sig (fun s3 es3 => ?_)
      replace hL := fr_lete hL es3
      obtain ⟨v4, ev4⟩ : ∃ y : Int32, y = x2 + (1 : Int32) := ⟨_, rfl⟩
      replace hL := fr_lete hL ev4
      refine sv_iinc (i := 2) (v := v4) X dX8_restore_50 rfl (by rw [ev4]; rfl) (by decide) rfl ?_
      refine sv_goto (tgt := 27) X dX8_restore_53 (by decide) ?_
      exact sv_perm [1, 2, 0] rfl (ih _ _ hL)
def F_X8_restore (a1 : Int32) (σ : fr_St) : Option (Int32 × fr_St) := fr_bP (F_X8_in (a1.toInt64) (0 : Int64) (1 : Int64) σ) (fun b3 s2 => if (fr_bi b3) = 0 then (some ((-1000001 : Int32), s2)) else (if fr_ib a1 2 = true then if (s2 72 (fr_ix a1)) = 0 then (some ((-1000002 : Int32), s2)) else (fr_bP (L_X8_restore_27 a1 fr_fu (0 : Int32) s2) (fun v5 s6 => fr_let (fr_up s6 59 17 (0 : Int32)) (fun s8 => some ((1 : Int32), s8)))) else none))
set_option maxRecDepth 100000 in
set_option maxHeartbeats 4000000 in
theorem b_X8_restore {p : Program} {l : Launch} {e : Env} {s : State} {m : MethodId} {args : Array Value} {below : List Frame} {meth : Method} {c : Code} {g : fr_G} {Q : State → Prop} (X : fr_X p s m args meth c g cX8_restore RX8 3) (hr : meth.sig.returnType = (some .int)) {a1 : Int32}  {σ τ : fr_St} {r : Int32} (hQ : Q = fr_Qi below args s g r τ) (hF : F_X8_restore a1 σ = some (r, τ)) : fr_V p l e (fr_rm 1) s m args below meth c g Q 3 σ 0 [(0, .ref (g.2.1 59)), (1, .int a1)] [] := by
  unfold F_X8_restore at hF
  refine sv_iload_n (i := 1) X dX8_restore_0 rfl rfl ?_
  refine sv_i2l X dX8_restore_1 ?_
  refine sv_lconst (v := 0) X dX8_restore_2 (by decide) ?_
  refine sv_lconst (v := 1) X dX8_restore_3 (by decide) ?_
  obtain ⟨b3, s2, hc1, hF⟩ := fr_bP_some hF
  refine sv_callSi X (c_X8_in hc1) cd_X8_in ml_X8_63 sm_X8_in in_RX8 hd_X8_in (by decide) rfl (Nat.le_of_ble_eq_true rfl) dX8_restore_4 rfl ?_
  refine sv_if_ne (tgt := 13) X dX8_restore_7 (by decide) (fun h10 => ?_) (fun h10 => ?_)
  · replace hF := fr_neg hF h10
    refine sv_aload_n (i := 0) X dX8_restore_13 rfl rfl ?_
    refine sv_getr X ix_X8 rfl 22 (by decide) rfl rfl fl_X8_46 dX8_restore_14 ?_
    refine sv_iload_n (i := 1) X dX8_restore_17 rfl rfl ?_
    obtain ⟨hb4, hF⟩ := fr_chk hF
    refine sv_zald (j := (fr_ix a1)) X rfl hb4 rfl dX8_restore_18 ?_
    refine sv_if_ne (tgt := 25) X dX8_restore_19 (by decide) (fun h9 => ?_) (fun h9 => ?_)
    · replace hF := fr_neg hF h9
      refine sv_iconst (v := 0) X dX8_restore_25 (by decide) ?_
      refine sv_istore_n X dX8_restore_26 rfl (by decide) rfl ?_
      refine sv_perm [1, 2, 0] rfl ?_
      obtain ⟨v5, s6, hl7, hF⟩ := fr_bP_some hF
      refine wL_X8_restore_27 X  a1 ?_ fr_fu _ _ hl7
      refine sv_aload_n (i := 0) X dX8_restore_56 rfl rfl ?_
      refine sv_iconst (v := 0) X dX8_restore_57 (by decide) ?_
      refine sv_puti (ty := .int) X ix_X8 tyX8_ok nmX8 rfl 17 (by decide) rfl rfl fl_X8_153 rfl rfl rfl rfl dX8_restore_58 ?_
      refine sv_sig (fun s8 es8 => ?_)
      replace hF := fr_lete hF es8
      refine sv_iconst (v := 1) X dX8_restore_61 (by decide) ?_
      exact sv_iret X hr hQ dX8_restore_62 hF
    · replace hF := fr_pos hF h9
      refine sv_ldc X kn_X8_185 dX8_restore_22 ?_
      exact sv_iret X hr hQ dX8_restore_24 hF
  · replace hF := fr_pos hF h10
    refine sv_ldc X kn_X8_73 dX8_restore_10 ?_
    exact sv_iret X hr hQ dX8_restore_12 hF
theorem c_X8_restore {l : Launch} {g : fr_G} {a1 : Int32}  {σ τ : fr_St} {r : Int32} (hF : F_X8_restore a1 σ = some (r, τ)) : fr_Ci l g yX8_restore (fr_ws yX8_restore cX8_restore 3 (some .int)) 1 [.ref (g.2.1 59), .int a1] σ r τ := fr_mi (by decide) (Nat.le_of_ble_eq_true rfl) (fun p e s m below meth c X hr => b_X8_restore X hr  rfl hF)
def F_X8_kind (a1 : Int32) (σ : fr_St) : Option (Int32 × fr_St) := fr_bP (F_X8_isRoad a1 σ) (fun b3 s2 => fr_bS (if (fr_bi b3) = 0 then (some ((-1000001 : Int32))) else (if fr_ib ((14 : Int32) + a1) 122 = true then some ((s2 63 (fr_ix ((14 : Int32) + a1)))) else none)) (fun v4 => some (v4, s2)))
set_option maxRecDepth 100000 in
set_option maxHeartbeats 4000000 in
theorem b_X8_kind {p : Program} {l : Launch} {e : Env} {s : State} {m : MethodId} {args : Array Value} {below : List Frame} {meth : Method} {c : Code} {g : fr_G} {Q : State → Prop} (X : fr_X p s m args meth c g cX8_kind RX8 2) (hr : meth.sig.returnType = (some .int)) {a1 : Int32}  {σ τ : fr_St} {r : Int32} (hQ : Q = fr_Qi below args s g r τ) (hF : F_X8_kind a1 σ = some (r, τ)) : fr_V p l e (fr_rm 2) s m args below meth c g Q 2 σ 0 [(0, .ref (g.2.1 59)), (1, .int a1)] [] := by
  unfold F_X8_kind at hF
  refine sv_aload_n (i := 0) X dX8_kind_0 rfl rfl ?_
  refine sv_iload_n (i := 1) X dX8_kind_1 rfl rfl ?_
  obtain ⟨b3, s2, hc1, hF⟩ := fr_bP_some hF
  refine sv_callVi X (c_X8_isRoad hc1) cd_X8_isRoad ml_X8_182 im_X8_isRoad se_X8_isRoad in_RX8 hd_X8_isRoad rfl rfl (by decide) rfl (Nat.le_of_ble_eq_true rfl) dX8_kind_2 rfl ?_
  obtain ⟨v4, hM5, hF⟩ := fr_bS_some hF
  have K6 : fr_V p l e (fr_rm 2) s m args below meth c g Q 2 s2 22 [(0, .ref (g.2.1 59)), (1, .int a1)] [.int v4] := by
    exact sv_iret X hr hQ dX8_kind_22 hF
  refine sv_if_eq (tgt := 20) X dX8_kind_5 (by decide) (fun h8 => ?_) (fun h8 => ?_)
  · replace hM5 := fr_pos hM5 h8
    refine sv_ldc X kn_X8_73 dX8_kind_20 ?_
    obtain rfl := fr_i1 hM5
    exact K6
  · replace hM5 := fr_neg hM5 h8
    refine sv_aload_n (i := 0) X dX8_kind_8 rfl rfl ?_
    refine sv_getr X ix_X8 rfl 5 (by decide) rfl rfl fl_X8_19 dX8_kind_9 ?_
    refine sv_bipush (v := 14) X dX8_kind_12 (by decide) ?_
    refine sv_iload_n (i := 1) X dX8_kind_14 rfl rfl ?_
    refine sv_iadd X dX8_kind_15 ?_
    obtain ⟨hb7, hM5⟩ := fr_chk hM5
    refine sv_iald (j := (fr_ix ((14 : Int32) + a1))) X rfl hb7 rfl dX8_kind_16 ?_
    refine sv_goto (tgt := 22) X dX8_kind_17 (by decide) ?_
    obtain rfl := fr_i1 hM5
    exact K6
theorem c_X8_kind {l : Launch} {g : fr_G} {a1 : Int32}  {σ τ : fr_St} {r : Int32} (hF : F_X8_kind a1 σ = some (r, τ)) : fr_Ci l g yX8_kind (fr_ws yX8_kind cX8_kind 2 (some .int)) 2 [.ref (g.2.1 59), .int a1] σ r τ := fr_mi (by decide) (Nat.le_of_ble_eq_true rfl) (fun p e s m below meth c X hr => b_X8_kind X hr  rfl hF)
def F_X8_isKind (a1 : Int32) (a2 : Int32) (σ : fr_St) : Option (Bool × fr_St) := fr_bS (if a2 = 0 then (some ((1 : Int32))) else (if a1 = a2 then (some ((1 : Int32))) else (if a2 = (1 : Int32) then (if a1 < (4 : Int32) then (some ((1 : Int32))) else (if a2 = (4 : Int32) then (if a1 = (5 : Int32) then (some ((1 : Int32))) else (some ((0 : Int32)))) else (some ((0 : Int32))))) else (if a2 = (4 : Int32) then (if a1 = (5 : Int32) then (some ((1 : Int32))) else (some ((0 : Int32)))) else (some ((0 : Int32))))))) (fun v1 => if v1 = 0 then some (false, σ) else if v1 = 1 then some (true, σ) else none)
set_option maxRecDepth 100000 in
set_option maxHeartbeats 4000000 in
theorem b_X8_isKind {p : Program} {l : Launch} {e : Env} {s : State} {m : MethodId} {args : Array Value} {below : List Frame} {meth : Method} {c : Code} {g : fr_G} {Q : State → Prop} (X : fr_X p s m args meth c g cX8_isKind RX8 2) (hr : meth.sig.returnType = (some .boolean)) {a1 : Int32} {a2 : Int32}  {σ τ : fr_St} {r : Bool} (hQ : Q = fr_Qi below args s g (fr_bi r) τ) (hF : F_X8_isKind a1 a2 σ = some (r, τ)) : fr_V p l e (fr_rm 0) s m args below meth c g Q 2 σ 0 [(0, .int a1), (1, .int a2)] [] := by
  unfold F_X8_isKind at hF
  refine sv_iload_n (i := 1) X dX8_isKind_0 rfl rfl ?_
  obtain ⟨v1, hM2, hF⟩ := fr_bS_some hF
  have K3 : fr_V p l e (fr_rm 0) s m args below meth c g Q 2 σ 34 [(0, .int a1), (1, .int a2)] [.int v1] := by
    exact sv_zretv X hr hQ dX8_isKind_34 hF
  refine sv_if_eq (tgt := 29) X dX8_isKind_1 (by decide) (fun h11 => ?_) (fun h11 => ?_)
  · replace hM2 := fr_pos hM2 h11
    refine sv_iconst (v := 1) X dX8_isKind_29 (by decide) ?_
    refine sv_goto (tgt := 34) X dX8_isKind_30 (by decide) ?_
    obtain rfl := fr_i1 hM2
    exact K3
  · replace hM2 := fr_neg hM2 h11
    refine sv_iload_n (i := 0) X dX8_isKind_4 rfl rfl ?_
    refine sv_iload_n (i := 1) X dX8_isKind_5 rfl rfl ?_
    refine sv_icmp_eq (tgt := 29) X dX8_isKind_6 (by decide) (fun h10 => ?_) (fun h10 => ?_)
    · replace hM2 := fr_pos hM2 h10
      refine sv_iconst (v := 1) X dX8_isKind_29 (by decide) ?_
      refine sv_goto (tgt := 34) X dX8_isKind_30 (by decide) ?_
      obtain rfl := fr_i1 hM2
      exact K3
    · replace hM2 := fr_neg hM2 h10
      refine sv_iload_n (i := 1) X dX8_isKind_9 rfl rfl ?_
      refine sv_iconst (v := 1) X dX8_isKind_10 (by decide) ?_
      refine sv_icmp_ne (tgt := 19) X dX8_isKind_11 (by decide) (fun h9 => ?_) (fun h9 => ?_)
      · replace hM2 := fr_neg hM2 h9
        refine sv_iload_n (i := 1) X dX8_isKind_19 rfl rfl ?_
        refine sv_iconst (v := 4) X dX8_isKind_20 (by decide) ?_
        refine sv_icmp_ne (tgt := 33) X dX8_isKind_21 (by decide) (fun h5 => ?_) (fun h5 => ?_)
        · replace hM2 := fr_neg hM2 h5
          refine sv_iconst (v := 0) X dX8_isKind_33 (by decide) ?_
          obtain rfl := fr_i1 hM2
          exact K3
        · replace hM2 := fr_pos hM2 h5
          refine sv_iload_n (i := 0) X dX8_isKind_24 rfl rfl ?_
          refine sv_iconst (v := 5) X dX8_isKind_25 (by decide) ?_
          refine sv_icmp_ne (tgt := 33) X dX8_isKind_26 (by decide) (fun h4 => ?_) (fun h4 => ?_)
          · replace hM2 := fr_neg hM2 h4
            refine sv_iconst (v := 0) X dX8_isKind_33 (by decide) ?_
            obtain rfl := fr_i1 hM2
            exact K3
          · replace hM2 := fr_pos hM2 h4
            refine sv_iconst (v := 1) X dX8_isKind_29 (by decide) ?_
            refine sv_goto (tgt := 34) X dX8_isKind_30 (by decide) ?_
            obtain rfl := fr_i1 hM2
            exact K3
      · replace hM2 := fr_pos hM2 h9
        refine sv_iload_n (i := 0) X dX8_isKind_14 rfl rfl ?_
        refine sv_iconst (v := 4) X dX8_isKind_15 (by decide) ?_
        refine sv_icmp_lt (tgt := 29) X dX8_isKind_16 (by decide) (fun h8 => ?_) (fun h8 => ?_)
        · replace hM2 := fr_pos hM2 h8
          refine sv_iconst (v := 1) X dX8_isKind_29 (by decide) ?_
          refine sv_goto (tgt := 34) X dX8_isKind_30 (by decide) ?_
          obtain rfl := fr_i1 hM2
          exact K3
        · replace hM2 := fr_neg hM2 h8
          refine sv_iload_n (i := 1) X dX8_isKind_19 rfl rfl ?_
          refine sv_iconst (v := 4) X dX8_isKind_20 (by decide) ?_
          refine sv_icmp_ne (tgt := 33) X dX8_isKind_21 (by decide) (fun h7 => ?_) (fun h7 => ?_)
          · replace hM2 := fr_neg hM2 h7
            refine sv_iconst (v := 0) X dX8_isKind_33 (by decide) ?_
            obtain rfl := fr_i1 hM2
            exact K3
          · replace hM2 := fr_pos hM2 h7
            refine sv_iload_n (i := 0) X dX8_isKind_24 rfl rfl ?_
            refine sv_iconst (v := 5) X dX8_isKind_25 (by decide) ?_
            refine sv_icmp_ne (tgt := 33) X dX8_isKind_26 (by decide) (fun h6 => ?_) (fun h6 => ?_)
            · replace hM2 := fr_neg hM2 h6
              refine sv_iconst (v := 0) X dX8_isKind_33 (by decide) ?_
              obtain rfl := fr_i1 hM2
              exact K3
            · replace hM2 := fr_pos hM2 h6
              refine sv_iconst (v := 1) X dX8_isKind_29 (by decide) ?_
              refine sv_goto (tgt := 34) X dX8_isKind_30 (by decide) ?_
              obtain rfl := fr_i1 hM2
              exact K3
theorem c_X8_isKind {l : Launch} {g : fr_G} {a1 : Int32} {a2 : Int32}  {σ τ : fr_St} {r : Bool} (hF : F_X8_isKind a1 a2 σ = some (r, τ)) : fr_Ci l g yX8_isKind (fr_ws yX8_isKind cX8_isKind 2 (some .boolean)) 0 [.int a1, .int a2] σ (fr_bi r) τ := fr_mz (by decide) (Nat.le_of_ble_eq_true rfl) (fun p e s m below meth c X hr => b_X8_isKind X hr  rfl hF)
def F_X8_as (a1 : Int32) (a2 : Int32) (σ : fr_St) : Option (Int32 × fr_St) := fr_bP (F_X8_isRoad a1 σ) (fun b3 s2 => if (fr_bi b3) = 0 then (some ((-1000001 : Int32), s2)) else (fr_bP (F_X8_in (a2.toInt64) (0 : Int64) (5 : Int64) s2) (fun b6 s5 => if (fr_bi b6) = 0 then (some ((-1000001 : Int32), s5)) else (if fr_ib ((14 : Int32) + a1) 122 = true then fr_bP (F_X8_isKind (s5 63 (fr_ix ((14 : Int32) + a1))) a2 s5) (fun b10 s9 => fr_bP (if (fr_bi b10) = 0 then (fr_bP (F_X8_find (3 : Int32) s9) (fun r17 s16 => some (r17, s16))) else (fr_bP (F_X8_well a1 s9) (fun r20 s19 => some (r20, s19)))) (fun v11 s12 => some (v11, s12))) else none))))
set_option maxRecDepth 100000 in
set_option maxHeartbeats 4000000 in
theorem b_X8_as {p : Program} {l : Launch} {e : Env} {s : State} {m : MethodId} {args : Array Value} {below : List Frame} {meth : Method} {c : Code} {g : fr_G} {Q : State → Prop} (X : fr_X p s m args meth c g cX8_as RX8 3) (hr : meth.sig.returnType = (some .int)) {a1 : Int32} {a2 : Int32}  {σ τ : fr_St} {r : Int32} (hQ : Q = fr_Qi below args s g r τ) (hF : F_X8_as a1 a2 σ = some (r, τ)) : fr_V p l e (fr_rm 2) s m args below meth c g Q 3 σ 0 [(0, .ref (g.2.1 59)), (1, .int a1), (2, .int a2)] [] := by
  unfold F_X8_as at hF
  refine sv_aload_n (i := 0) X dX8_as_0 rfl rfl ?_
  refine sv_iload_n (i := 1) X dX8_as_1 rfl rfl ?_
  obtain ⟨b3, s2, hc1, hF⟩ := fr_bP_some hF
  refine sv_callVi X (c_X8_isRoad hc1) cd_X8_isRoad ml_X8_182 im_X8_isRoad se_X8_isRoad in_RX8 hd_X8_isRoad rfl rfl (by decide) rfl (Nat.le_of_ble_eq_true rfl) dX8_as_2 rfl ?_
  refine sv_if_eq (tgt := 20) X dX8_as_5 (by decide) (fun h23 => ?_) (fun h23 => ?_)
  · replace hF := fr_pos hF h23
    refine sv_ldc X kn_X8_73 dX8_as_20 ?_
    exact sv_iret X hr hQ dX8_as_22 hF
  · replace hF := fr_neg hF h23
    refine sv_iload_n (i := 2) X dX8_as_8 rfl rfl ?_
    refine sv_i2l X dX8_as_9 ?_
    refine sv_lconst (v := 0) X dX8_as_10 (by decide) ?_
    refine sv_ldc2_w X kl_X8_229 dX8_as_11 ?_
    obtain ⟨b6, s5, hc4, hF⟩ := fr_bP_some hF
    refine sv_callSi X (c_X8_in hc4) cd_X8_in ml_X8_63 sm_X8_in in_RX8 hd_X8_in (by decide) rfl (Nat.le_of_ble_eq_true rfl) dX8_as_14 rfl ?_
    refine sv_if_ne (tgt := 23) X dX8_as_17 (by decide) (fun h22 => ?_) (fun h22 => ?_)
    · replace hF := fr_neg hF h22
      refine sv_aload_n (i := 0) X dX8_as_23 rfl rfl ?_
      refine sv_getr X ix_X8 rfl 5 (by decide) rfl rfl fl_X8_19 dX8_as_24 ?_
      refine sv_bipush (v := 14) X dX8_as_27 (by decide) ?_
      refine sv_iload_n (i := 1) X dX8_as_29 rfl rfl ?_
      refine sv_iadd X dX8_as_30 ?_
      obtain ⟨hb7, hF⟩ := fr_chk hF
      refine sv_iald (j := (fr_ix ((14 : Int32) + a1))) X rfl hb7 rfl dX8_as_31 ?_
      refine sv_iload_n (i := 2) X dX8_as_32 rfl rfl ?_
      obtain ⟨b10, s9, hc8, hF⟩ := fr_bP_some hF
      refine sv_callSi X (c_X8_isKind hc8) cd_X8_isKind ml_X8_231 sm_X8_isKind in_RX8 hd_X8_isKind (by decide) rfl (Nat.le_of_ble_eq_true rfl) dX8_as_33 rfl ?_
      obtain ⟨v11, s12, hM13, hF⟩ := fr_bP_some hF
      have K14 : fr_V p l e (fr_rm 2) s m args below meth c g Q 3 s12 52 [(0, .ref (g.2.1 59)), (1, .int a1), (2, .int a2)] [.int v11] := by
        exact sv_iret X hr hQ dX8_as_52 hF
      refine sv_if_eq (tgt := 47) X dX8_as_36 (by decide) (fun h21 => ?_) (fun h21 => ?_)
      · replace hM13 := fr_pos hM13 h21
        refine sv_aload_n (i := 0) X dX8_as_47 rfl rfl ?_
        refine sv_iconst (v := 3) X dX8_as_48 (by decide) ?_
        obtain ⟨r17, s16, hc15, hM13⟩ := fr_bP_some hM13
        refine sv_callVi X (c_X8_find hc15) cd_X8_find ml_X8_74 im_X8_find se_X8_find in_RX8 hd_X8_find rfl rfl (by decide) rfl (Nat.le_of_ble_eq_true rfl) dX8_as_49 rfl ?_
        obtain ⟨rfl, rfl⟩ := fr_i2 hM13
        exact K14
      · replace hM13 := fr_neg hM13 h21
        refine sv_aload_n (i := 0) X dX8_as_39 rfl rfl ?_
        refine sv_iload_n (i := 1) X dX8_as_40 rfl rfl ?_
        obtain ⟨r20, s19, hc18, hM13⟩ := fr_bP_some hM13
        refine sv_callVi X (c_X8_well hc18) cd_X8_well ml_X8_78 im_X8_well se_X8_well in_RX8 hd_X8_well rfl rfl (by decide) rfl (Nat.le_of_ble_eq_true rfl) dX8_as_41 rfl ?_
        refine sv_goto (tgt := 52) X dX8_as_44 (by decide) ?_
        obtain ⟨rfl, rfl⟩ := fr_i2 hM13
        exact K14
    · replace hF := fr_pos hF h22
      refine sv_ldc X kn_X8_73 dX8_as_20 ?_
      exact sv_iret X hr hQ dX8_as_22 hF
theorem c_X8_as {l : Launch} {g : fr_G} {a1 : Int32} {a2 : Int32}  {σ τ : fr_St} {r : Int32} (hF : F_X8_as a1 a2 σ = some (r, τ)) : fr_Ci l g yX8_as (fr_ws yX8_as cX8_as 3 (some .int)) 2 [.ref (g.2.1 59), .int a1, .int a2] σ r τ := fr_mi (by decide) (Nat.le_of_ble_eq_true rfl) (fun p e s m below meth c X hr => b_X8_as X hr  rfl hF)
def F_X8_begin (a1 : Int32) (σ : fr_St) : Option fr_St := fr_bS (if (16 : Int32) ≤ (σ 59 25) then (some (σ)) else (if fr_ib (σ 59 25) 16 = true then fr_let (fr_up σ 74 (fr_ix (σ 59 25)) a1) (fun s5 => fr_let (fr_up s5 59 25 ((s5 59 25) + (1 : Int32))) (fun s6 => some (s6))) else none)) (fun s1 => some s1)
set_option maxRecDepth 100000 in
set_option maxHeartbeats 4000000 in
theorem b_X8_begin {p : Program} {l : Launch} {e : Env} {s : State} {m : MethodId} {args : Array Value} {below : List Frame} {meth : Method} {c : Code} {g : fr_G} {Q : State → Prop} (X : fr_X p s m args meth c g cX8_begin RX8 2) (hr : meth.sig.returnType = (Option.none : Option Jvm.ClassFile.FieldType)) {a1 : Int32}  {σ τ : fr_St} (hQ : Q = fr_Qv below args s g τ) (hF : F_X8_begin a1 σ = some τ) : fr_V p l e (fr_rm 0) s m args below meth c g Q 2 σ 0 [(0, .ref (g.2.1 59)), (1, .int a1)] [] := by
  unfold F_X8_begin at hF
  refine sv_aload_n (i := 0) X dX8_begin_0 rfl rfl ?_
  refine sv_geti X ix_X8 rfl 25 (by decide) rfl rfl fl_X8_234 dX8_begin_1 ?_
  refine sv_bipush (v := 16) X dX8_begin_4 (by decide) ?_
  obtain ⟨s1, hM2, hF⟩ := fr_bS_some hF
  have K3 : fr_V p l e (fr_rm 0) s m args below meth c g Q 2 s1 29 [(0, .ref (g.2.1 59)), (1, .int a1)] [] := by
    exact sv_vret X hr hQ dX8_begin_29 hF
  refine sv_icmp_ge (tgt := 29) X dX8_begin_6 (by decide) (fun h7 => ?_) (fun h7 => ?_)
  · replace hM2 := fr_pos hM2 h7
    obtain rfl := fr_i1 hM2
    exact K3
  · replace hM2 := fr_neg hM2 h7
    refine sv_aload_n (i := 0) X dX8_begin_9 rfl rfl ?_
    refine sv_getr X ix_X8 rfl 24 (by decide) rfl rfl fl_X8_53 dX8_begin_10 ?_
    refine sv_aload_n (i := 0) X dX8_begin_13 rfl rfl ?_
    refine sv_geti X ix_X8 rfl 25 (by decide) rfl rfl fl_X8_234 dX8_begin_14 ?_
    refine sv_iload_n (i := 1) X dX8_begin_17 rfl rfl ?_
    obtain ⟨hb4, hM2⟩ := fr_chk hM2
    refine sv_iast (j := (fr_ix (σ 59 25))) X rfl hb4 rfl dX8_begin_18 ?_
    refine sv_sig (fun s5 es5 => ?_)
    replace hM2 := fr_lete hM2 es5
    refine sv_aload_n (i := 0) X dX8_begin_19 rfl rfl ?_
    refine sv_dup X dX8_begin_20 rfl ?_
    refine sv_geti X ix_X8 rfl 25 (by decide) rfl rfl fl_X8_234 dX8_begin_21 ?_
    refine sv_iconst (v := 1) X dX8_begin_24 (by decide) ?_
    refine sv_iadd X dX8_begin_25 ?_
    refine sv_puti (ty := .int) X ix_X8 tyX8_ok nmX8 rfl 25 (by decide) rfl rfl fl_X8_234 rfl rfl rfl rfl dX8_begin_26 ?_
    refine sv_sig (fun s6 es6 => ?_)
    replace hM2 := fr_lete hM2 es6
    obtain rfl := fr_i1 hM2
    exact K3
theorem c_X8_begin {l : Launch} {g : fr_G} {a1 : Int32}  {σ τ : fr_St} (hF : F_X8_begin a1 σ = some τ) : fr_Cv l g yX8_begin (fr_ws yX8_begin cX8_begin 2 (Option.none : Option Jvm.ClassFile.FieldType)) 0 [.ref (g.2.1 59), .int a1] σ τ := fr_mv (by decide) (Nat.le_of_ble_eq_true rfl) (fun p e s m below meth c X hr => b_X8_begin X hr  rfl hF)
def F_X8_lent (a1 : Int32) (a2 : Int32) (σ : fr_St) : Option (Int32 × fr_St) := fr_bS (F_X8_begin a2 σ) (fun s2 => fr_bS (if a2 = (10 : Int32) then (if fr_ib ((41 : Int32) + a1) 122 = true then some ((s2 63 (fr_ix ((41 : Int32) + a1)))) else none) else (some (a1))) (fun v3 => some (v3, s2)))
set_option maxRecDepth 100000 in
set_option maxHeartbeats 4000000 in
theorem b_X8_lent {p : Program} {l : Launch} {e : Env} {s : State} {m : MethodId} {args : Array Value} {below : List Frame} {meth : Method} {c : Code} {g : fr_G} {Q : State → Prop} (X : fr_X p s m args meth c g cX8_lent RX8 3) (hr : meth.sig.returnType = (some .int)) {a1 : Int32} {a2 : Int32}  {σ τ : fr_St} {r : Int32} (hQ : Q = fr_Qi below args s g r τ) (hF : F_X8_lent a1 a2 σ = some (r, τ)) : fr_V p l e (fr_rm 1) s m args below meth c g Q 3 σ 0 [(0, .ref (g.2.1 59)), (1, .int a1), (2, .int a2)] [] := by
  unfold F_X8_lent at hF
  refine sv_aload_n (i := 0) X dX8_lent_0 rfl rfl ?_
  refine sv_iload_n (i := 2) X dX8_lent_1 rfl rfl ?_
  obtain ⟨s2, hc1, hF⟩ := fr_bS_some hF
  refine sv_callVv X (c_X8_begin hc1) cd_X8_begin ml_X8_237 im_X8_begin se_X8_begin in_RX8 hd_X8_begin rfl rfl (by decide) rfl (Nat.le_of_ble_eq_true rfl) dX8_lent_2 rfl ?_
  refine sv_iload_n (i := 2) X dX8_lent_5 rfl rfl ?_
  refine sv_bipush (v := 10) X dX8_lent_6 (by decide) ?_
  obtain ⟨v3, hM4, hF⟩ := fr_bS_some hF
  have K5 : fr_V p l e (fr_rm 1) s m args below meth c g Q 3 s2 24 [(0, .ref (g.2.1 59)), (1, .int a1), (2, .int a2)] [.int v3] := by
    exact sv_iret X hr hQ dX8_lent_24 hF
  refine sv_icmp_ne (tgt := 23) X dX8_lent_8 (by decide) (fun h7 => ?_) (fun h7 => ?_)
  · replace hM4 := fr_neg hM4 h7
    refine sv_iload_n (i := 1) X dX8_lent_23 rfl rfl ?_
    obtain rfl := fr_i1 hM4
    exact K5
  · replace hM4 := fr_pos hM4 h7
    refine sv_aload_n (i := 0) X dX8_lent_11 rfl rfl ?_
    refine sv_getr X ix_X8 rfl 5 (by decide) rfl rfl fl_X8_19 dX8_lent_12 ?_
    refine sv_bipush (v := 41) X dX8_lent_15 (by decide) ?_
    refine sv_iload_n (i := 1) X dX8_lent_17 rfl rfl ?_
    refine sv_iadd X dX8_lent_18 ?_
    obtain ⟨hb6, hM4⟩ := fr_chk hM4
    refine sv_iald (j := (fr_ix ((41 : Int32) + a1))) X rfl hb6 rfl dX8_lent_19 ?_
    refine sv_goto (tgt := 24) X dX8_lent_20 (by decide) ?_
    obtain rfl := fr_i1 hM4
    exact K5
theorem c_X8_lent {l : Launch} {g : fr_G} {a1 : Int32} {a2 : Int32}  {σ τ : fr_St} {r : Int32} (hF : F_X8_lent a1 a2 σ = some (r, τ)) : fr_Ci l g yX8_lent (fr_ws yX8_lent cX8_lent 3 (some .int)) 1 [.ref (g.2.1 59), .int a1, .int a2] σ r τ := fr_mi (by decide) (Nat.le_of_ble_eq_true rfl) (fun p e s m below meth c X hr => b_X8_lent X hr  rfl hF)
def F_X8_laneMark (a1 : Int32) (σ : fr_St) : Option (Int32 × fr_St) := fr_bS (F_X8_begin (21 : Int32) σ) (fun s2 => fr_bP (F_X8_lent a1 (20 : Int32) s2) (fun r5 s4 => fr_bP (F_X8_solesOf a1 s4) (fun r8 s7 => fr_bP (F_X8_ones r8 s7) (fun r11 s10 => some ((r5 + r11), s10)))))
set_option maxRecDepth 100000 in
set_option maxHeartbeats 4000000 in
theorem b_X8_laneMark {p : Program} {l : Launch} {e : Env} {s : State} {m : MethodId} {args : Array Value} {below : List Frame} {meth : Method} {c : Code} {g : fr_G} {Q : State → Prop} (X : fr_X p s m args meth c g cX8_laneMark RX8 2) (hr : meth.sig.returnType = (some .int)) {a1 : Int32}  {σ τ : fr_St} {r : Int32} (hQ : Q = fr_Qi below args s g r τ) (hF : F_X8_laneMark a1 σ = some (r, τ)) : fr_V p l e (fr_rm 4) s m args below meth c g Q 2 σ 0 [(0, .ref (g.2.1 59)), (1, .int a1)] [] := by
  unfold F_X8_laneMark at hF
  refine sv_aload_n (i := 0) X dX8_laneMark_0 rfl rfl ?_
  refine sv_bipush (v := 21) X dX8_laneMark_1 (by decide) ?_
  obtain ⟨s2, hc1, hF⟩ := fr_bS_some hF
  refine sv_callVv X (c_X8_begin hc1) cd_X8_begin ml_X8_237 im_X8_begin se_X8_begin in_RX8 hd_X8_begin rfl rfl (by decide) rfl (Nat.le_of_ble_eq_true rfl) dX8_laneMark_3 rfl ?_
  refine sv_aload_n (i := 0) X dX8_laneMark_6 rfl rfl ?_
  refine sv_iload_n (i := 1) X dX8_laneMark_7 rfl rfl ?_
  refine sv_bipush (v := 20) X dX8_laneMark_8 (by decide) ?_
  obtain ⟨r5, s4, hc3, hF⟩ := fr_bP_some hF
  refine sv_callVi X (c_X8_lent hc3) cd_X8_lent ml_X8_241 im_X8_lent se_X8_lent in_RX8 hd_X8_lent rfl rfl (by decide) rfl (Nat.le_of_ble_eq_true rfl) dX8_laneMark_10 rfl ?_
  refine sv_aload_n (i := 0) X dX8_laneMark_13 rfl rfl ?_
  refine sv_iload_n (i := 1) X dX8_laneMark_14 rfl rfl ?_
  obtain ⟨r8, s7, hc6, hF⟩ := fr_bP_some hF
  refine sv_callVi X (c_X8_solesOf hc6) cd_X8_solesOf ml_X8_198 im_X8_solesOf se_X8_solesOf in_RX8 hd_X8_solesOf rfl rfl (by decide) rfl (Nat.le_of_ble_eq_true rfl) dX8_laneMark_15 rfl ?_
  obtain ⟨r11, s10, hc9, hF⟩ := fr_bP_some hF
  refine sv_callSi X (c_X8_ones hc9) cd_X8_ones ml_X8_217 sm_X8_ones in_RX8 hd_X8_ones (by decide) rfl (Nat.le_of_ble_eq_true rfl) dX8_laneMark_18 rfl ?_
  refine sv_iadd X dX8_laneMark_21 ?_
  exact sv_iret X hr hQ dX8_laneMark_22 hF
theorem c_X8_laneMark {l : Launch} {g : fr_G} {a1 : Int32}  {σ τ : fr_St} {r : Int32} (hF : F_X8_laneMark a1 σ = some (r, τ)) : fr_Ci l g yX8_laneMark (fr_ws yX8_laneMark cX8_laneMark 2 (some .int)) 4 [.ref (g.2.1 59), .int a1] σ r τ := fr_mi (by decide) (Nat.le_of_ble_eq_true rfl) (fun p e s m below meth c X hr => b_X8_laneMark X hr  rfl hF)
def F_X8_highSize (a1 : Int32) (σ : fr_St) : Option (Int32 × fr_St) := fr_bS (F_X8_begin (13 : Int32) σ) (fun s2 => fr_bP (F_X8_lent a1 (10 : Int32) s2) (fun r5 s4 => some ((r5 - (100 : Int32)), s4)))
set_option maxRecDepth 100000 in
set_option maxHeartbeats 4000000 in
theorem b_X8_highSize {p : Program} {l : Launch} {e : Env} {s : State} {m : MethodId} {args : Array Value} {below : List Frame} {meth : Method} {c : Code} {g : fr_G} {Q : State → Prop} (X : fr_X p s m args meth c g cX8_highSize RX8 2) (hr : meth.sig.returnType = (some .int)) {a1 : Int32}  {σ τ : fr_St} {r : Int32} (hQ : Q = fr_Qi below args s g r τ) (hF : F_X8_highSize a1 σ = some (r, τ)) : fr_V p l e (fr_rm 2) s m args below meth c g Q 2 σ 0 [(0, .ref (g.2.1 59)), (1, .int a1)] [] := by
  unfold F_X8_highSize at hF
  refine sv_aload_n (i := 0) X dX8_highSize_0 rfl rfl ?_
  refine sv_bipush (v := 13) X dX8_highSize_1 (by decide) ?_
  obtain ⟨s2, hc1, hF⟩ := fr_bS_some hF
  refine sv_callVv X (c_X8_begin hc1) cd_X8_begin ml_X8_237 im_X8_begin se_X8_begin in_RX8 hd_X8_begin rfl rfl (by decide) rfl (Nat.le_of_ble_eq_true rfl) dX8_highSize_3 rfl ?_
  refine sv_aload_n (i := 0) X dX8_highSize_6 rfl rfl ?_
  refine sv_iload_n (i := 1) X dX8_highSize_7 rfl rfl ?_
  refine sv_bipush (v := 10) X dX8_highSize_8 (by decide) ?_
  obtain ⟨r5, s4, hc3, hF⟩ := fr_bP_some hF
  refine sv_callVi X (c_X8_lent hc3) cd_X8_lent ml_X8_241 im_X8_lent se_X8_lent in_RX8 hd_X8_lent rfl rfl (by decide) rfl (Nat.le_of_ble_eq_true rfl) dX8_highSize_10 rfl ?_
  refine sv_bipush (v := 100) X dX8_highSize_13 (by decide) ?_
  refine sv_isub X dX8_highSize_15 ?_
  exact sv_iret X hr hQ dX8_highSize_16 hF
theorem c_X8_highSize {l : Launch} {g : fr_G} {a1 : Int32}  {σ τ : fr_St} {r : Int32} (hF : F_X8_highSize a1 σ = some (r, τ)) : fr_Ci l g yX8_highSize (fr_ws yX8_highSize cX8_highSize 2 (some .int)) 2 [.ref (g.2.1 59), .int a1] σ r τ := fr_mi (by decide) (Nat.le_of_ble_eq_true rfl) (fun p e s m below meth c X hr => b_X8_highSize X hr  rfl hF)
def F_X8_sizeOfHigh (a1 : Int32) (σ : fr_St) : Option (Int32 × fr_St) := if fr_ib ((14 : Int32) + a1) 122 = true then if (σ 63 (fr_ix ((14 : Int32) + a1))) = (5 : Int32) then (fr_bS (F_X8_begin (14 : Int32) σ) (fun s6 => fr_bP (F_X8_highSize a1 s6) (fun r9 s8 => some (((2 : Int32) * r9), s8)))) else (fr_bP (F_X8_highSize a1 σ) (fun r4 s3 => some (r4, s3))) else none
set_option maxRecDepth 100000 in
set_option maxHeartbeats 4000000 in
theorem b_X8_sizeOfHigh {p : Program} {l : Launch} {e : Env} {s : State} {m : MethodId} {args : Array Value} {below : List Frame} {meth : Method} {c : Code} {g : fr_G} {Q : State → Prop} (X : fr_X p s m args meth c g cX8_sizeOfHigh RX8 2) (hr : meth.sig.returnType = (some .int)) {a1 : Int32}  {σ τ : fr_St} {r : Int32} (hQ : Q = fr_Qi below args s g r τ) (hF : F_X8_sizeOfHigh a1 σ = some (r, τ)) : fr_V p l e (fr_rm 3) s m args below meth c g Q 2 σ 0 [(0, .ref (g.2.1 59)), (1, .int a1)] [] := by
  unfold F_X8_sizeOfHigh at hF
  refine sv_aload_n (i := 0) X dX8_sizeOfHigh_0 rfl rfl ?_
  refine sv_getr X ix_X8 rfl 5 (by decide) rfl rfl fl_X8_19 dX8_sizeOfHigh_1 ?_
  refine sv_bipush (v := 14) X dX8_sizeOfHigh_4 (by decide) ?_
  refine sv_iload_n (i := 1) X dX8_sizeOfHigh_6 rfl rfl ?_
  refine sv_iadd X dX8_sizeOfHigh_7 ?_
  obtain ⟨hb1, hF⟩ := fr_chk hF
  refine sv_iald (j := (fr_ix ((14 : Int32) + a1))) X rfl hb1 rfl dX8_sizeOfHigh_8 ?_
  refine sv_iconst (v := 5) X dX8_sizeOfHigh_9 (by decide) ?_
  refine sv_icmp_ne (tgt := 27) X dX8_sizeOfHigh_10 (by decide) (fun h10 => ?_) (fun h10 => ?_)
  · replace hF := fr_neg hF h10
    refine sv_aload_n (i := 0) X dX8_sizeOfHigh_27 rfl rfl ?_
    refine sv_iload_n (i := 1) X dX8_sizeOfHigh_28 rfl rfl ?_
    obtain ⟨r4, s3, hc2, hF⟩ := fr_bP_some hF
    refine sv_callVi X (c_X8_highSize hc2) cd_X8_highSize ml_X8_244 im_X8_highSize se_X8_highSize in_RX8 hd_X8_highSize rfl rfl (by decide) rfl (Nat.le_of_ble_eq_true rfl) dX8_sizeOfHigh_29 rfl ?_
    exact sv_iret X hr hQ dX8_sizeOfHigh_32 hF
  · replace hF := fr_pos hF h10
    refine sv_aload_n (i := 0) X dX8_sizeOfHigh_13 rfl rfl ?_
    refine sv_bipush (v := 14) X dX8_sizeOfHigh_14 (by decide) ?_
    obtain ⟨s6, hc5, hF⟩ := fr_bS_some hF
    refine sv_callVv X (c_X8_begin hc5) cd_X8_begin ml_X8_237 im_X8_begin se_X8_begin in_RX8 hd_X8_begin rfl rfl (by decide) rfl (Nat.le_of_ble_eq_true rfl) dX8_sizeOfHigh_16 rfl ?_
    refine sv_iconst (v := 2) X dX8_sizeOfHigh_19 (by decide) ?_
    refine sv_aload_n (i := 0) X dX8_sizeOfHigh_20 rfl rfl ?_
    refine sv_iload_n (i := 1) X dX8_sizeOfHigh_21 rfl rfl ?_
    obtain ⟨r9, s8, hc7, hF⟩ := fr_bP_some hF
    refine sv_callVi X (c_X8_highSize hc7) cd_X8_highSize ml_X8_244 im_X8_highSize se_X8_highSize in_RX8 hd_X8_highSize rfl rfl (by decide) rfl (Nat.le_of_ble_eq_true rfl) dX8_sizeOfHigh_22 rfl ?_
    refine sv_imul X dX8_sizeOfHigh_25 ?_
    exact sv_iret X hr hQ dX8_sizeOfHigh_26 hF
theorem c_X8_sizeOfHigh {l : Launch} {g : fr_G} {a1 : Int32}  {σ τ : fr_St} {r : Int32} (hF : F_X8_sizeOfHigh a1 σ = some (r, τ)) : fr_Ci l g yX8_sizeOfHigh (fr_ws yX8_sizeOfHigh cX8_sizeOfHigh 2 (some .int)) 3 [.ref (g.2.1 59), .int a1] σ r τ := fr_mi (by decide) (Nat.le_of_ble_eq_true rfl) (fun p e s m below meth c X hr => b_X8_sizeOfHigh X hr  rfl hF)
def F_X8_markOf (a1 : Int32) (σ : fr_St) : Option (Int32 × fr_St) := if fr_ib ((14 : Int32) + a1) 122 = true then fr_let ((σ 63 (fr_ix ((14 : Int32) + a1)))) (fun v2 => if v2 = (2 : Int32) then (fr_bS (F_X8_begin (24 : Int32) σ) (fun s22 => fr_bP (F_X8_laneMark a1 s22) (fun r25 s24 => some (((2 : Int32) * r25), s24)))) else (if v2 = (3 : Int32) then (fr_bS (F_X8_begin (22 : Int32) σ) (fun s16 => fr_bP (F_X8_laneMark a1 s16) (fun r19 s18 => some ((r19 - (1000 : Int32)), s18)))) else (if v2 = (1 : Int32) then (fr_bP (F_X8_laneMark a1 σ) (fun r13 s12 => some (r13, s12))) else (fr_bS (F_X8_begin (23 : Int32) σ) (fun s4 => fr_bP (F_X8_lent a1 (20 : Int32) s4) (fun r7 s6 => fr_bP (F_X8_sizeOfHigh a1 s6) (fun r10 s9 => some ((r7 - r10), s9)))))))) else none
set_option maxRecDepth 100000 in
set_option maxHeartbeats 4000000 in
theorem b_X8_markOf {p : Program} {l : Launch} {e : Env} {s : State} {m : MethodId} {args : Array Value} {below : List Frame} {meth : Method} {c : Code} {g : fr_G} {Q : State → Prop} (X : fr_X p s m args meth c g cX8_markOf RX8 4) (hr : meth.sig.returnType = (some .int)) {a1 : Int32}  {σ τ : fr_St} {r : Int32} (hQ : Q = fr_Qi below args s g r τ) (hF : F_X8_markOf a1 σ = some (r, τ)) : fr_V p l e (fr_rm 5) s m args below meth c g Q 4 σ 0 [(0, .ref (g.2.1 59)), (1, .int a1)] [] := by
  unfold F_X8_markOf at hF
  refine sv_aload_n (i := 0) X dX8_markOf_0 rfl rfl ?_
  refine sv_getr X ix_X8 rfl 5 (by decide) rfl rfl fl_X8_19 dX8_markOf_1 ?_
  refine sv_bipush (v := 14) X dX8_markOf_4 (by decide) ?_
  refine sv_iload_n (i := 1) X dX8_markOf_6 rfl rfl ?_
  refine sv_iadd X dX8_markOf_7 ?_
  obtain ⟨hb1, hF⟩ := fr_chk hF
  refine sv_iald (j := (fr_ix ((14 : Int32) + a1))) X rfl hb1 rfl dX8_markOf_8 ?_
  refine sv_topi (fun v2 ev2 => ?_)
  replace hF := fr_lete hF ev2
  refine sv_istore_n X dX8_markOf_9 rfl (by decide) rfl ?_
  refine sv_iload_n (i := 0) X dX8_markOf_10 rfl rfl ?_
  refine sv_iconst (v := 2) X dX8_markOf_11 (by decide) ?_
  refine sv_icmp_ne (tgt := 29) X dX8_markOf_12 (by decide) (fun h26 => ?_) (fun h26 => ?_)
  · replace hF := fr_neg hF h26
    refine sv_iload_n (i := 0) X dX8_markOf_29 rfl rfl ?_
    refine sv_iconst (v := 3) X dX8_markOf_30 (by decide) ?_
    refine sv_icmp_ne (tgt := 50) X dX8_markOf_31 (by decide) (fun h20 => ?_) (fun h20 => ?_)
    · replace hF := fr_neg hF h20
      refine sv_iload_n (i := 0) X dX8_markOf_50 rfl rfl ?_
      refine sv_iconst (v := 1) X dX8_markOf_51 (by decide) ?_
      refine sv_icmp_ne (tgt := 61) X dX8_markOf_52 (by decide) (fun h14 => ?_) (fun h14 => ?_)
      · replace hF := fr_neg hF h14
        refine sv_aload_n (i := 1) X dX8_markOf_61 rfl rfl ?_
        refine sv_bipush (v := 23) X dX8_markOf_62 (by decide) ?_
        obtain ⟨s4, hc3, hF⟩ := fr_bS_some hF
        refine sv_callVv X (c_X8_begin hc3) cd_X8_begin ml_X8_237 im_X8_begin se_X8_begin in_RX8 hd_X8_begin rfl rfl (by decide) rfl (Nat.le_of_ble_eq_true rfl) dX8_markOf_64 rfl ?_
        refine sv_aload_n (i := 1) X dX8_markOf_67 rfl rfl ?_
        refine sv_iload_n (i := 2) X dX8_markOf_68 rfl rfl ?_
        refine sv_bipush (v := 20) X dX8_markOf_69 (by decide) ?_
        obtain ⟨r7, s6, hc5, hF⟩ := fr_bP_some hF
        refine sv_callVi X (c_X8_lent hc5) cd_X8_lent ml_X8_241 im_X8_lent se_X8_lent in_RX8 hd_X8_lent rfl rfl (by decide) rfl (Nat.le_of_ble_eq_true rfl) dX8_markOf_71 rfl ?_
        refine sv_istore_n X dX8_markOf_74 rfl (by decide) rfl ?_
        refine sv_iload_n (i := 0) X dX8_markOf_75 rfl rfl ?_
        refine sv_aload_n (i := 2) X dX8_markOf_76 rfl rfl ?_
        refine sv_iload_n (i := 3) X dX8_markOf_77 rfl rfl ?_
        obtain ⟨r10, s9, hc8, hF⟩ := fr_bP_some hF
        refine sv_callVi X (c_X8_sizeOfHigh hc8) cd_X8_sizeOfHigh ml_X8_250 im_X8_sizeOfHigh se_X8_sizeOfHigh in_RX8 hd_X8_sizeOfHigh rfl rfl (by decide) rfl (Nat.le_of_ble_eq_true rfl) dX8_markOf_78 rfl ?_
        refine sv_isub X dX8_markOf_81 ?_
        exact sv_iret X hr hQ dX8_markOf_82 hF
      · replace hF := fr_pos hF h14
        refine sv_aload_n (i := 1) X dX8_markOf_55 rfl rfl ?_
        refine sv_iload_n (i := 2) X dX8_markOf_56 rfl rfl ?_
        obtain ⟨r13, s12, hc11, hF⟩ := fr_bP_some hF
        refine sv_callVi X (c_X8_laneMark hc11) cd_X8_laneMark ml_X8_247 im_X8_laneMark se_X8_laneMark in_RX8 hd_X8_laneMark rfl rfl (by decide) rfl (Nat.le_of_ble_eq_true rfl) dX8_markOf_57 rfl ?_
        exact sv_iret X hr hQ dX8_markOf_60 hF
    · replace hF := fr_pos hF h20
      refine sv_aload_n (i := 1) X dX8_markOf_34 rfl rfl ?_
      refine sv_bipush (v := 22) X dX8_markOf_35 (by decide) ?_
      obtain ⟨s16, hc15, hF⟩ := fr_bS_some hF
      refine sv_callVv X (c_X8_begin hc15) cd_X8_begin ml_X8_237 im_X8_begin se_X8_begin in_RX8 hd_X8_begin rfl rfl (by decide) rfl (Nat.le_of_ble_eq_true rfl) dX8_markOf_37 rfl ?_
      refine sv_aload_n (i := 1) X dX8_markOf_40 rfl rfl ?_
      refine sv_iload_n (i := 2) X dX8_markOf_41 rfl rfl ?_
      obtain ⟨r19, s18, hc17, hF⟩ := fr_bP_some hF
      refine sv_callVi X (c_X8_laneMark hc17) cd_X8_laneMark ml_X8_247 im_X8_laneMark se_X8_laneMark in_RX8 hd_X8_laneMark rfl rfl (by decide) rfl (Nat.le_of_ble_eq_true rfl) dX8_markOf_42 rfl ?_
      refine sv_sipush (v := 1000) X dX8_markOf_45 (by decide) ?_
      refine sv_isub X dX8_markOf_48 ?_
      exact sv_iret X hr hQ dX8_markOf_49 hF
  · replace hF := fr_pos hF h26
    refine sv_aload_n (i := 1) X dX8_markOf_15 rfl rfl ?_
    refine sv_bipush (v := 24) X dX8_markOf_16 (by decide) ?_
    obtain ⟨s22, hc21, hF⟩ := fr_bS_some hF
    refine sv_callVv X (c_X8_begin hc21) cd_X8_begin ml_X8_237 im_X8_begin se_X8_begin in_RX8 hd_X8_begin rfl rfl (by decide) rfl (Nat.le_of_ble_eq_true rfl) dX8_markOf_18 rfl ?_
    refine sv_iconst (v := 2) X dX8_markOf_21 (by decide) ?_
    refine sv_aload_n (i := 1) X dX8_markOf_22 rfl rfl ?_
    refine sv_iload_n (i := 2) X dX8_markOf_23 rfl rfl ?_
    obtain ⟨r25, s24, hc23, hF⟩ := fr_bP_some hF
    refine sv_callVi X (c_X8_laneMark hc23) cd_X8_laneMark ml_X8_247 im_X8_laneMark se_X8_laneMark in_RX8 hd_X8_laneMark rfl rfl (by decide) rfl (Nat.le_of_ble_eq_true rfl) dX8_markOf_24 rfl ?_
    refine sv_imul X dX8_markOf_27 ?_
    exact sv_iret X hr hQ dX8_markOf_28 hF
theorem c_X8_markOf {l : Launch} {g : fr_G} {a1 : Int32}  {σ τ : fr_St} {r : Int32} (hF : F_X8_markOf a1 σ = some (r, τ)) : fr_Ci l g yX8_markOf (fr_ws yX8_markOf cX8_markOf 4 (some .int)) 5 [.ref (g.2.1 59), .int a1] σ r τ := fr_mi (by decide) (Nat.le_of_ble_eq_true rfl) (fun p e s m below meth c X hr => b_X8_markOf X hr  rfl hF)
def F_X8_laneSize (a1 : Int32) (σ : fr_St) : Option (Int32 × fr_St) := fr_bS (F_X8_begin (11 : Int32) σ) (fun s2 => fr_bP (F_X8_lent a1 (10 : Int32) s2) (fun r5 s4 => fr_bP (F_X8_markOf a1 s4) (fun r8 s7 => some ((r5 + r8), s7))))
set_option maxRecDepth 100000 in
set_option maxHeartbeats 4000000 in
theorem b_X8_laneSize {p : Program} {l : Launch} {e : Env} {s : State} {m : MethodId} {args : Array Value} {below : List Frame} {meth : Method} {c : Code} {g : fr_G} {Q : State → Prop} (X : fr_X p s m args meth c g cX8_laneSize RX8 3) (hr : meth.sig.returnType = (some .int)) {a1 : Int32}  {σ τ : fr_St} {r : Int32} (hQ : Q = fr_Qi below args s g r τ) (hF : F_X8_laneSize a1 σ = some (r, τ)) : fr_V p l e (fr_rm 6) s m args below meth c g Q 3 σ 0 [(0, .ref (g.2.1 59)), (1, .int a1)] [] := by
  unfold F_X8_laneSize at hF
  refine sv_aload_n (i := 0) X dX8_laneSize_0 rfl rfl ?_
  refine sv_bipush (v := 11) X dX8_laneSize_1 (by decide) ?_
  obtain ⟨s2, hc1, hF⟩ := fr_bS_some hF
  refine sv_callVv X (c_X8_begin hc1) cd_X8_begin ml_X8_237 im_X8_begin se_X8_begin in_RX8 hd_X8_begin rfl rfl (by decide) rfl (Nat.le_of_ble_eq_true rfl) dX8_laneSize_3 rfl ?_
  refine sv_aload_n (i := 0) X dX8_laneSize_6 rfl rfl ?_
  refine sv_iload_n (i := 1) X dX8_laneSize_7 rfl rfl ?_
  refine sv_bipush (v := 10) X dX8_laneSize_8 (by decide) ?_
  obtain ⟨r5, s4, hc3, hF⟩ := fr_bP_some hF
  refine sv_callVi X (c_X8_lent hc3) cd_X8_lent ml_X8_241 im_X8_lent se_X8_lent in_RX8 hd_X8_lent rfl rfl (by decide) rfl (Nat.le_of_ble_eq_true rfl) dX8_laneSize_10 rfl ?_
  refine sv_istore_n X dX8_laneSize_13 rfl (by decide) rfl ?_
  refine sv_iload_n (i := 0) X dX8_laneSize_14 rfl rfl ?_
  refine sv_aload_n (i := 1) X dX8_laneSize_15 rfl rfl ?_
  refine sv_iload_n (i := 2) X dX8_laneSize_16 rfl rfl ?_
  obtain ⟨r8, s7, hc6, hF⟩ := fr_bP_some hF
  refine sv_callVi X (c_X8_markOf hc6) cd_X8_markOf ml_X8_253 im_X8_markOf se_X8_markOf in_RX8 hd_X8_markOf rfl rfl (by decide) rfl (Nat.le_of_ble_eq_true rfl) dX8_laneSize_17 rfl ?_
  refine sv_iadd X dX8_laneSize_20 ?_
  exact sv_iret X hr hQ dX8_laneSize_21 hF
theorem c_X8_laneSize {l : Launch} {g : fr_G} {a1 : Int32}  {σ τ : fr_St} {r : Int32} (hF : F_X8_laneSize a1 σ = some (r, τ)) : fr_Ci l g yX8_laneSize (fr_ws yX8_laneSize cX8_laneSize 3 (some .int)) 6 [.ref (g.2.1 59), .int a1] σ r τ := fr_mi (by decide) (Nat.le_of_ble_eq_true rfl) (fun p e s m below meth c X hr => b_X8_laneSize X hr  rfl hF)
def F_X8_sizeOf (a1 : Int32) (σ : fr_St) : Option (Int32 × fr_St) := if fr_ib ((14 : Int32) + a1) 122 = true then fr_let ((σ 63 (fr_ix ((14 : Int32) + a1)))) (fun v2 => if v2 = (2 : Int32) then (fr_bS (F_X8_begin (12 : Int32) σ) (fun s15 => fr_bP (F_X8_laneSize a1 s15) (fun r18 s17 => some ((-r18), s17)))) else (fr_bP (if v2 < (4 : Int32) then (fr_bP (F_X8_laneSize a1 σ) (fun r9 s8 => some (r9, s8))) else (fr_bP (F_X8_sizeOfHigh a1 σ) (fun r12 s11 => some (r12, s11)))) (fun v3 s4 => some (v3, s4)))) else none
set_option maxRecDepth 100000 in
set_option maxHeartbeats 4000000 in
theorem b_X8_sizeOf {p : Program} {l : Launch} {e : Env} {s : State} {m : MethodId} {args : Array Value} {below : List Frame} {meth : Method} {c : Code} {g : fr_G} {Q : State → Prop} (X : fr_X p s m args meth c g cX8_sizeOf RX8 3) (hr : meth.sig.returnType = (some .int)) {a1 : Int32}  {σ τ : fr_St} {r : Int32} (hQ : Q = fr_Qi below args s g r τ) (hF : F_X8_sizeOf a1 σ = some (r, τ)) : fr_V p l e (fr_rm 7) s m args below meth c g Q 3 σ 0 [(0, .ref (g.2.1 59)), (1, .int a1)] [] := by
  unfold F_X8_sizeOf at hF
  refine sv_aload_n (i := 0) X dX8_sizeOf_0 rfl rfl ?_
  refine sv_getr X ix_X8 rfl 5 (by decide) rfl rfl fl_X8_19 dX8_sizeOf_1 ?_
  refine sv_bipush (v := 14) X dX8_sizeOf_4 (by decide) ?_
  refine sv_iload_n (i := 1) X dX8_sizeOf_6 rfl rfl ?_
  refine sv_iadd X dX8_sizeOf_7 ?_
  obtain ⟨hb1, hF⟩ := fr_chk hF
  refine sv_iald (j := (fr_ix ((14 : Int32) + a1))) X rfl hb1 rfl dX8_sizeOf_8 ?_
  refine sv_topi (fun v2 ev2 => ?_)
  replace hF := fr_lete hF ev2
  refine sv_istore_n X dX8_sizeOf_9 rfl (by decide) rfl ?_
  refine sv_iload_n (i := 0) X dX8_sizeOf_10 rfl rfl ?_
  refine sv_iconst (v := 2) X dX8_sizeOf_11 (by decide) ?_
  refine sv_icmp_ne (tgt := 28) X dX8_sizeOf_12 (by decide) (fun h19 => ?_) (fun h19 => ?_)
  · replace hF := fr_neg hF h19
    refine sv_iload_n (i := 0) X dX8_sizeOf_28 rfl rfl ?_
    refine sv_iconst (v := 4) X dX8_sizeOf_29 (by decide) ?_
    obtain ⟨v3, s4, hM5, hF⟩ := fr_bP_some hF
    have K6 : fr_V p l e (fr_rm 7) s m args below meth c g Q 3 s4 46 [(0, .ref (g.2.1 59)), (1, .int a1), (2, .int v2)] [.int v3] := by
      exact sv_iret X hr hQ dX8_sizeOf_46 hF
    refine sv_icmp_lt (tgt := 41) X dX8_sizeOf_30 (by decide) (fun h13 => ?_) (fun h13 => ?_)
    · replace hM5 := fr_pos hM5 h13
      refine sv_aload_n (i := 1) X dX8_sizeOf_41 rfl rfl ?_
      refine sv_iload_n (i := 2) X dX8_sizeOf_42 rfl rfl ?_
      obtain ⟨r9, s8, hc7, hM5⟩ := fr_bP_some hM5
      refine sv_callVi X (c_X8_laneSize hc7) cd_X8_laneSize ml_X8_256 im_X8_laneSize se_X8_laneSize in_RX8 hd_X8_laneSize rfl rfl (by decide) rfl (Nat.le_of_ble_eq_true rfl) dX8_sizeOf_43 rfl ?_
      obtain ⟨rfl, rfl⟩ := fr_i2 hM5
      exact sv_perm [1, 2, 0] rfl K6
    · replace hM5 := fr_neg hM5 h13
      refine sv_aload_n (i := 1) X dX8_sizeOf_33 rfl rfl ?_
      refine sv_iload_n (i := 2) X dX8_sizeOf_34 rfl rfl ?_
      obtain ⟨r12, s11, hc10, hM5⟩ := fr_bP_some hM5
      refine sv_callVi X (c_X8_sizeOfHigh hc10) cd_X8_sizeOfHigh ml_X8_250 im_X8_sizeOfHigh se_X8_sizeOfHigh in_RX8 hd_X8_sizeOfHigh rfl rfl (by decide) rfl (Nat.le_of_ble_eq_true rfl) dX8_sizeOf_35 rfl ?_
      refine sv_goto (tgt := 46) X dX8_sizeOf_38 (by decide) ?_
      obtain ⟨rfl, rfl⟩ := fr_i2 hM5
      exact sv_perm [1, 2, 0] rfl K6
  · replace hF := fr_pos hF h19
    refine sv_aload_n (i := 1) X dX8_sizeOf_15 rfl rfl ?_
    refine sv_bipush (v := 12) X dX8_sizeOf_16 (by decide) ?_
    obtain ⟨s15, hc14, hF⟩ := fr_bS_some hF
    refine sv_callVv X (c_X8_begin hc14) cd_X8_begin ml_X8_237 im_X8_begin se_X8_begin in_RX8 hd_X8_begin rfl rfl (by decide) rfl (Nat.le_of_ble_eq_true rfl) dX8_sizeOf_18 rfl ?_
    refine sv_aload_n (i := 1) X dX8_sizeOf_21 rfl rfl ?_
    refine sv_iload_n (i := 2) X dX8_sizeOf_22 rfl rfl ?_
    obtain ⟨r18, s17, hc16, hF⟩ := fr_bP_some hF
    refine sv_callVi X (c_X8_laneSize hc16) cd_X8_laneSize ml_X8_256 im_X8_laneSize se_X8_laneSize in_RX8 hd_X8_laneSize rfl rfl (by decide) rfl (Nat.le_of_ble_eq_true rfl) dX8_sizeOf_23 rfl ?_
    refine sv_ineg X dX8_sizeOf_26 ?_
    exact sv_iret X hr hQ dX8_sizeOf_27 hF
theorem c_X8_sizeOf {l : Launch} {g : fr_G} {a1 : Int32}  {σ τ : fr_St} {r : Int32} (hF : F_X8_sizeOf a1 σ = some (r, τ)) : fr_Ci l g yX8_sizeOf (fr_ws yX8_sizeOf cX8_sizeOf 3 (some .int)) 7 [.ref (g.2.1 59), .int a1] σ r τ := fr_mi (by decide) (Nat.le_of_ble_eq_true rfl) (fun p e s m below meth c X hr => b_X8_sizeOf X hr  rfl hF)
def F_X8_ask (a1 : Int32) (a2 : Int32) (σ : fr_St) : Option (Int32 × fr_St) := fr_bP (F_X8_isRoad a1 σ) (fun b3 s2 => if (fr_bi b3) = 0 then (some ((-1000001 : Int32), s2)) else (fr_bP (F_X8_in (a2.toInt64) (0 : Int64) (1 : Int64) s2) (fun b6 s5 => if (fr_bi b6) = 0 then (some ((-1000001 : Int32), s5)) else (fr_let (fr_up s5 59 25 (0 : Int32)) (fun s7 => fr_bP (if a2 = 0 then (fr_bP (F_X8_sizeOf a1 s7) (fun r17 s16 => some (r17, s16))) else (fr_bP (F_X8_markOf a1 s7) (fun r14 s13 => some (r14, s13)))) (fun v8 s9 => some (v8, s9)))))))
set_option maxRecDepth 100000 in
set_option maxHeartbeats 4000000 in
theorem b_X8_ask {p : Program} {l : Launch} {e : Env} {s : State} {m : MethodId} {args : Array Value} {below : List Frame} {meth : Method} {c : Code} {g : fr_G} {Q : State → Prop} (X : fr_X p s m args meth c g cX8_ask RX8 3) (hr : meth.sig.returnType = (some .int)) {a1 : Int32} {a2 : Int32}  {σ τ : fr_St} {r : Int32} (hQ : Q = fr_Qi below args s g r τ) (hF : F_X8_ask a1 a2 σ = some (r, τ)) : fr_V p l e (fr_rm 8) s m args below meth c g Q 3 σ 0 [(0, .ref (g.2.1 59)), (1, .int a1), (2, .int a2)] [] := by
  unfold F_X8_ask at hF
  refine sv_aload_n (i := 0) X dX8_ask_0 rfl rfl ?_
  refine sv_iload_n (i := 1) X dX8_ask_1 rfl rfl ?_
  obtain ⟨b3, s2, hc1, hF⟩ := fr_bP_some hF
  refine sv_callVi X (c_X8_isRoad hc1) cd_X8_isRoad ml_X8_182 im_X8_isRoad se_X8_isRoad in_RX8 hd_X8_isRoad rfl rfl (by decide) rfl (Nat.le_of_ble_eq_true rfl) dX8_ask_2 rfl ?_
  refine sv_if_eq (tgt := 18) X dX8_ask_5 (by decide) (fun h20 => ?_) (fun h20 => ?_)
  · replace hF := fr_pos hF h20
    refine sv_ldc X kn_X8_73 dX8_ask_18 ?_
    exact sv_iret X hr hQ dX8_ask_20 hF
  · replace hF := fr_neg hF h20
    refine sv_iload_n (i := 2) X dX8_ask_8 rfl rfl ?_
    refine sv_i2l X dX8_ask_9 ?_
    refine sv_lconst (v := 0) X dX8_ask_10 (by decide) ?_
    refine sv_lconst (v := 1) X dX8_ask_11 (by decide) ?_
    obtain ⟨b6, s5, hc4, hF⟩ := fr_bP_some hF
    refine sv_callSi X (c_X8_in hc4) cd_X8_in ml_X8_63 sm_X8_in in_RX8 hd_X8_in (by decide) rfl (Nat.le_of_ble_eq_true rfl) dX8_ask_12 rfl ?_
    refine sv_if_ne (tgt := 21) X dX8_ask_15 (by decide) (fun h19 => ?_) (fun h19 => ?_)
    · replace hF := fr_neg hF h19
      refine sv_aload_n (i := 0) X dX8_ask_21 rfl rfl ?_
      refine sv_iconst (v := 0) X dX8_ask_22 (by decide) ?_
      refine sv_puti (ty := .int) X ix_X8 tyX8_ok nmX8 rfl 25 (by decide) rfl rfl fl_X8_234 rfl rfl rfl rfl dX8_ask_23 ?_
      refine sv_sig (fun s7 es7 => ?_)
      replace hF := fr_lete hF es7
      refine sv_iload_n (i := 2) X dX8_ask_26 rfl rfl ?_
      obtain ⟨v8, s9, hM10, hF⟩ := fr_bP_some hF
      have K11 : fr_V p l e (fr_rm 8) s m args below meth c g Q 3 s9 43 [(0, .ref (g.2.1 59)), (1, .int a1), (2, .int a2)] [.int v8] := by
        exact sv_iret X hr hQ dX8_ask_43 hF
      refine sv_if_ne (tgt := 38) X dX8_ask_27 (by decide) (fun h18 => ?_) (fun h18 => ?_)
      · replace hM10 := fr_neg hM10 h18
        refine sv_aload_n (i := 0) X dX8_ask_38 rfl rfl ?_
        refine sv_iload_n (i := 1) X dX8_ask_39 rfl rfl ?_
        obtain ⟨r14, s13, hc12, hM10⟩ := fr_bP_some hM10
        refine sv_callVi X (c_X8_markOf hc12) cd_X8_markOf ml_X8_253 im_X8_markOf se_X8_markOf in_RX8 hd_X8_markOf rfl rfl (by decide) rfl (Nat.le_of_ble_eq_true rfl) dX8_ask_40 rfl ?_
        obtain ⟨rfl, rfl⟩ := fr_i2 hM10
        exact K11
      · replace hM10 := fr_pos hM10 h18
        refine sv_aload_n (i := 0) X dX8_ask_30 rfl rfl ?_
        refine sv_iload_n (i := 1) X dX8_ask_31 rfl rfl ?_
        obtain ⟨r17, s16, hc15, hM10⟩ := fr_bP_some hM10
        refine sv_callVi X (c_X8_sizeOf hc15) cd_X8_sizeOf ml_X8_259 im_X8_sizeOf se_X8_sizeOf in_RX8 hd_X8_sizeOf rfl rfl (by decide) rfl (Nat.le_of_ble_eq_true rfl) dX8_ask_32 rfl ?_
        refine sv_goto (tgt := 43) X dX8_ask_35 (by decide) ?_
        obtain ⟨rfl, rfl⟩ := fr_i2 hM10
        exact K11
    · replace hF := fr_pos hF h19
      refine sv_ldc X kn_X8_73 dX8_ask_18 ?_
      exact sv_iret X hr hQ dX8_ask_20 hF
theorem c_X8_ask {l : Launch} {g : fr_G} {a1 : Int32} {a2 : Int32}  {σ τ : fr_St} {r : Int32} (hF : F_X8_ask a1 a2 σ = some (r, τ)) : fr_Ci l g yX8_ask (fr_ws yX8_ask cX8_ask 3 (some .int)) 8 [.ref (g.2.1 59), .int a1, .int a2] σ r τ := fr_mi (by decide) (Nat.le_of_ble_eq_true rfl) (fun p e s m below meth c X hr => b_X8_ask X hr  rfl hF)
def F_X8_trace (a1 : Int32) (σ : fr_St) : Option (Int32 × fr_St) := fr_bP (F_X8_in (a1.toInt64) (0 : Int64) (((σ 59 25) - (1 : Int32)).toInt64) σ) (fun b3 s2 => fr_bS (if (fr_bi b3) = 0 then (some ((-1000000 : Int32))) else (if fr_ib a1 16 = true then some ((s2 74 (fr_ix a1))) else none)) (fun v4 => some (v4, s2)))
set_option maxRecDepth 100000 in
set_option maxHeartbeats 4000000 in
theorem b_X8_trace {p : Program} {l : Launch} {e : Env} {s : State} {m : MethodId} {args : Array Value} {below : List Frame} {meth : Method} {c : Code} {g : fr_G} {Q : State → Prop} (X : fr_X p s m args meth c g cX8_trace RX8 2) (hr : meth.sig.returnType = (some .int)) {a1 : Int32}  {σ τ : fr_St} {r : Int32} (hQ : Q = fr_Qi below args s g r τ) (hF : F_X8_trace a1 σ = some (r, τ)) : fr_V p l e (fr_rm 1) s m args below meth c g Q 2 σ 0 [(0, .ref (g.2.1 59)), (1, .int a1)] [] := by
  unfold F_X8_trace at hF
  refine sv_iload_n (i := 1) X dX8_trace_0 rfl rfl ?_
  refine sv_i2l X dX8_trace_1 ?_
  refine sv_lconst (v := 0) X dX8_trace_2 (by decide) ?_
  refine sv_aload_n (i := 0) X dX8_trace_3 rfl rfl ?_
  refine sv_geti X ix_X8 rfl 25 (by decide) rfl rfl fl_X8_234 dX8_trace_4 ?_
  refine sv_iconst (v := 1) X dX8_trace_7 (by decide) ?_
  refine sv_isub X dX8_trace_8 ?_
  refine sv_i2l X dX8_trace_9 ?_
  obtain ⟨b3, s2, hc1, hF⟩ := fr_bP_some hF
  refine sv_callSi X (c_X8_in hc1) cd_X8_in ml_X8_63 sm_X8_in in_RX8 hd_X8_in (by decide) rfl (Nat.le_of_ble_eq_true rfl) dX8_trace_10 rfl ?_
  obtain ⟨v4, hM5, hF⟩ := fr_bS_some hF
  have K6 : fr_V p l e (fr_rm 1) s m args below meth c g Q 2 s2 27 [(0, .ref (g.2.1 59)), (1, .int a1)] [.int v4] := by
    exact sv_iret X hr hQ dX8_trace_27 hF
  refine sv_if_eq (tgt := 25) X dX8_trace_13 (by decide) (fun h8 => ?_) (fun h8 => ?_)
  · replace hM5 := fr_pos hM5 h8
    refine sv_ldc X kn_X8_134 dX8_trace_25 ?_
    obtain rfl := fr_i1 hM5
    exact K6
  · replace hM5 := fr_neg hM5 h8
    refine sv_aload_n (i := 0) X dX8_trace_16 rfl rfl ?_
    refine sv_getr X ix_X8 rfl 24 (by decide) rfl rfl fl_X8_53 dX8_trace_17 ?_
    refine sv_iload_n (i := 1) X dX8_trace_20 rfl rfl ?_
    obtain ⟨hb7, hM5⟩ := fr_chk hM5
    refine sv_iald (j := (fr_ix a1)) X rfl hb7 rfl dX8_trace_21 ?_
    refine sv_goto (tgt := 27) X dX8_trace_22 (by decide) ?_
    obtain rfl := fr_i1 hM5
    exact K6
theorem c_X8_trace {l : Launch} {g : fr_G} {a1 : Int32}  {σ τ : fr_St} {r : Int32} (hF : F_X8_trace a1 σ = some (r, τ)) : fr_Ci l g yX8_trace (fr_ws yX8_trace cX8_trace 2 (some .int)) 1 [.ref (g.2.1 59), .int a1] σ r τ := fr_mi (by decide) (Nat.le_of_ble_eq_true rfl) (fun p e s m below meth c X hr => b_X8_trace X hr  rfl hF)
def L_X8_count_4  : Nat → Int32 → Int32 → fr_St → Option (Int32 × Int32 × fr_St)
  | 0, _, _, _ => none
  | n + 1, x2, x3, σ => if (8 : Int32) ≤ x3 then (some (x2, x3, σ)) else (if fr_ib x3 8 = true then fr_bS (if (σ 61 (fr_ix x3)) < 0 then (some ((0 : Int32))) else (some ((1 : Int32)))) (fun v2 => fr_let ((x2 + v2)) (fun v5 => fr_let (x3 + (1 : Int32)) (fun v6 => L_X8_count_4  n v5 v6 σ))) else none)
set_option maxRecDepth 100000 in
set_option maxHeartbeats 4000000 in
theorem wL_X8_count_4 {p : Program} {l : Launch} {e : Env} {s : State} {m : MethodId} {args : Array Value} {below : List Frame} {meth : Method} {c : Code} {g : fr_G} {Q : State → Prop} (X : fr_X p s m args meth c g cX8_count RX8 4)  (k1 : Int32) {y2 : Int32} {y3 : Int32} {τ : fr_St} (K : fr_V p l e (fr_rm 0) s m args below meth c g Q 4 τ 33 [(0, .ref (g.2.1 59)), (1, .int k1), (2, .int y2), (3, .int y3)] []) : ∀ (n : Nat) (x2 : Int32) (x3 : Int32) (σ : fr_St), L_X8_count_4  n x2 x3 σ = some (y2, y3, τ) → fr_V p l e (fr_rm 0) s m args below meth c g Q 4 σ 4 [(0, .ref (g.2.1 59)), (1, .int k1), (2, .int x2), (3, .int x3)] [] := by
  intro n
  induction n with
  | zero => intro x2 x3 σ hL; cases hL
  | succ n ih =>
    intro x2 x3 σ hL
    rw [L_X8_count_4] at hL
    refine sv_iload_n (i := 3) X dX8_count_4 rfl rfl ?_
    refine sv_bipush (v := 8) X dX8_count_5 (by decide) ?_
    refine sv_icmp_ge (tgt := 33) X dX8_count_7 (by decide) (fun h8 => ?_) (fun h8 => ?_)
    · replace hL := fr_pos hL h8
      obtain ⟨rfl, rfl, rfl⟩ := fr_i3 hL
      exact K
    · replace hL := fr_neg hL h8
      refine sv_iload_n (i := 2) X dX8_count_10 rfl rfl ?_
      refine sv_aload_n (i := 0) X dX8_count_11 rfl rfl ?_
      refine sv_getr X ix_X8 rfl 1 (by decide) rfl rfl fl_X8_13 dX8_count_12 ?_
      refine sv_iload_n (i := 3) X dX8_count_15 rfl rfl ?_
      obtain ⟨hb1, hL⟩ := fr_chk hL
      refine sv_iald (j := (fr_ix x3)) X rfl hb1 rfl dX8_count_16 ?_
      obtain ⟨v2, hM3, hL⟩ := fr_bS_some hL
      have K4 : fr_V p l e (fr_rm 0) s m args below meth c g Q 4 σ 25 [(0, .ref (g.2.1 59)), (1, .int k1), (2, .int x2), (3, .int x3)] [.int v2, .int x2] := by
        refine sv_iadd X dX8_count_25 ?_
        refine sv_topi (fun v5 ev5 => ?_)
        replace hL := fr_lete hL ev5
        refine sv_istore_n X dX8_count_26 rfl (by decide) rfl ?_
        obtain ⟨v6, ev6⟩ : ∃ y : Int32, y = x3 + (1 : Int32) := ⟨_, rfl⟩
        replace hL := fr_lete hL ev6
        refine sv_iinc (i := 3) (v := v6) X dX8_count_27 rfl (by rw [ev6]; rfl) (by decide) rfl ?_
        refine sv_goto (tgt := 4) X dX8_count_30 (by decide) ?_
        exact sv_perm [2, 3, 1, 0] rfl (ih _ _ _ hL)
      refine sv_if_lt (tgt := 24) X dX8_count_17 (by decide) (fun h7 => ?_) (fun h7 => ?_)
      · replace hM3 := fr_pos hM3 h7
        refine sv_iconst (v := 0) X dX8_count_24 (by decide) ?_
        obtain rfl := fr_i1 hM3
        exact K4
      · replace hM3 := fr_neg hM3 h7
        refine sv_iconst (v := 1) X dX8_count_20 (by decide) ?_
        refine sv_goto (tgt := 25) X dX8_count_21 (by decide) ?_
        obtain rfl := fr_i1 hM3
        exact K4
def F_X8_count (a1 : Int32) (σ : fr_St) : Option (Int32 × fr_St) := fr_bP (L_X8_count_4  fr_fu (0 : Int32) (0 : Int32) σ) (fun v1 q14 => fr_pP q14 (fun v2 s3 => if a1 = (0 : Int32) then (some (v1, s3)) else (if a1 = (1 : Int32) then (some ((s3 63 2), s3)) else (if a1 = (2 : Int32) then (some ((s3 63 3), s3)) else (if a1 = (3 : Int32) then (some ((s3 63 1), s3)) else (if a1 = (4 : Int32) then (some ((s3 63 0), s3)) else (if a1 = (5 : Int32) then (some ((s3 63 4), s3)) else (if a1 = (6 : Int32) then (some ((s3 63 5), s3)) else (if a1 = (7 : Int32) then (some ((s3 59 17), s3)) else (if a1 = (8 : Int32) then (some ((s3 59 8), s3)) else (some ((-1000001 : Int32), s3))))))))))))
set_option maxRecDepth 100000 in
set_option maxHeartbeats 4000000 in
theorem b_X8_count {p : Program} {l : Launch} {e : Env} {s : State} {m : MethodId} {args : Array Value} {below : List Frame} {meth : Method} {c : Code} {g : fr_G} {Q : State → Prop} (X : fr_X p s m args meth c g cX8_count RX8 4) (hr : meth.sig.returnType = (some .int)) {a1 : Int32}  {σ τ : fr_St} {r : Int32} (hQ : Q = fr_Qi below args s g r τ) (hF : F_X8_count a1 σ = some (r, τ)) : fr_V p l e (fr_rm 0) s m args below meth c g Q 4 σ 0 [(0, .ref (g.2.1 59)), (1, .int a1)] [] := by
  unfold F_X8_count at hF
  refine sv_iconst (v := 0) X dX8_count_0 (by decide) ?_
  refine sv_istore_n X dX8_count_1 rfl (by decide) rfl ?_
  refine sv_iconst (v := 0) X dX8_count_2 (by decide) ?_
  refine sv_istore_n X dX8_count_3 rfl (by decide) rfl ?_
  refine sv_perm [2, 3, 1, 0] rfl ?_
  obtain ⟨v1, ⟨v2, s3⟩, hl4, hF⟩ := fr_bP_some hF
  dsimp only [fr_pP] at hF
  refine wL_X8_count_4 X  a1 ?_ fr_fu _ _ _ hl4
  refine sv_iload_n (i := 1) X dX8_count_33 rfl rfl ?_
  by_cases h5 : a1 = (0 : Int32)
  · replace hF := fr_pos hF h5
    refine sv_tin (v := (0 : Int32)) (tgt := 84) X h5 (by decide) (by decide) rfl (by decide) dX8_count_34 ?_
    refine sv_iload_n (i := 2) X dX8_count_84 rfl rfl ?_
    exact sv_iret X hr hQ dX8_count_85 hF
  · replace hF := fr_neg hF h5
    by_cases h6 : a1 = (1 : Int32)
    · replace hF := fr_pos hF h6
      refine sv_tin (v := (1 : Int32)) (tgt := 86) X h6 (by decide) (by decide) rfl (by decide) dX8_count_34 ?_
      refine sv_aload_n (i := 0) X dX8_count_86 rfl rfl ?_
      refine sv_getr X ix_X8 rfl 5 (by decide) rfl rfl fl_X8_19 dX8_count_87 ?_
      refine sv_iconst (v := 2) X dX8_count_90 (by decide) ?_
      refine sv_iald (j := 2) X rfl (by decide) (by decide) dX8_count_91 ?_
      exact sv_iret X hr hQ dX8_count_92 hF
    · replace hF := fr_neg hF h6
      by_cases h7 : a1 = (2 : Int32)
      · replace hF := fr_pos hF h7
        refine sv_tin (v := (2 : Int32)) (tgt := 93) X h7 (by decide) (by decide) rfl (by decide) dX8_count_34 ?_
        refine sv_aload_n (i := 0) X dX8_count_93 rfl rfl ?_
        refine sv_getr X ix_X8 rfl 5 (by decide) rfl rfl fl_X8_19 dX8_count_94 ?_
        refine sv_iconst (v := 3) X dX8_count_97 (by decide) ?_
        refine sv_iald (j := 3) X rfl (by decide) (by decide) dX8_count_98 ?_
        exact sv_iret X hr hQ dX8_count_99 hF
      · replace hF := fr_neg hF h7
        by_cases h8 : a1 = (3 : Int32)
        · replace hF := fr_pos hF h8
          refine sv_tin (v := (3 : Int32)) (tgt := 100) X h8 (by decide) (by decide) rfl (by decide) dX8_count_34 ?_
          refine sv_aload_n (i := 0) X dX8_count_100 rfl rfl ?_
          refine sv_getr X ix_X8 rfl 5 (by decide) rfl rfl fl_X8_19 dX8_count_101 ?_
          refine sv_iconst (v := 1) X dX8_count_104 (by decide) ?_
          refine sv_iald (j := 1) X rfl (by decide) (by decide) dX8_count_105 ?_
          exact sv_iret X hr hQ dX8_count_106 hF
        · replace hF := fr_neg hF h8
          by_cases h9 : a1 = (4 : Int32)
          · replace hF := fr_pos hF h9
            refine sv_tin (v := (4 : Int32)) (tgt := 107) X h9 (by decide) (by decide) rfl (by decide) dX8_count_34 ?_
            refine sv_aload_n (i := 0) X dX8_count_107 rfl rfl ?_
            refine sv_getr X ix_X8 rfl 5 (by decide) rfl rfl fl_X8_19 dX8_count_108 ?_
            refine sv_iconst (v := 0) X dX8_count_111 (by decide) ?_
            refine sv_iald (j := 0) X rfl (by decide) (by decide) dX8_count_112 ?_
            exact sv_iret X hr hQ dX8_count_113 hF
          · replace hF := fr_neg hF h9
            by_cases h10 : a1 = (5 : Int32)
            · replace hF := fr_pos hF h10
              refine sv_tin (v := (5 : Int32)) (tgt := 114) X h10 (by decide) (by decide) rfl (by decide) dX8_count_34 ?_
              refine sv_aload_n (i := 0) X dX8_count_114 rfl rfl ?_
              refine sv_getr X ix_X8 rfl 5 (by decide) rfl rfl fl_X8_19 dX8_count_115 ?_
              refine sv_iconst (v := 4) X dX8_count_118 (by decide) ?_
              refine sv_iald (j := 4) X rfl (by decide) (by decide) dX8_count_119 ?_
              exact sv_iret X hr hQ dX8_count_120 hF
            · replace hF := fr_neg hF h10
              by_cases h11 : a1 = (6 : Int32)
              · replace hF := fr_pos hF h11
                refine sv_tin (v := (6 : Int32)) (tgt := 121) X h11 (by decide) (by decide) rfl (by decide) dX8_count_34 ?_
                refine sv_aload_n (i := 0) X dX8_count_121 rfl rfl ?_
                refine sv_getr X ix_X8 rfl 5 (by decide) rfl rfl fl_X8_19 dX8_count_122 ?_
                refine sv_iconst (v := 5) X dX8_count_125 (by decide) ?_
                refine sv_iald (j := 5) X rfl (by decide) (by decide) dX8_count_126 ?_
                exact sv_iret X hr hQ dX8_count_127 hF
              · replace hF := fr_neg hF h11
                by_cases h12 : a1 = (7 : Int32)
                · replace hF := fr_pos hF h12
                  refine sv_tin (v := (7 : Int32)) (tgt := 128) X h12 (by decide) (by decide) rfl (by decide) dX8_count_34 ?_
                  refine sv_aload_n (i := 0) X dX8_count_128 rfl rfl ?_
                  refine sv_geti X ix_X8 rfl 17 (by decide) rfl rfl fl_X8_153 dX8_count_129 ?_
                  exact sv_iret X hr hQ dX8_count_132 hF
                · replace hF := fr_neg hF h12
                  by_cases h13 : a1 = (8 : Int32)
                  · replace hF := fr_pos hF h13
                    refine sv_tin (v := (8 : Int32)) (tgt := 133) X h13 (by decide) (by decide) rfl (by decide) dX8_count_34 ?_
                    refine sv_aload_n (i := 0) X dX8_count_133 rfl rfl ?_
                    refine sv_geti X ix_X8 rfl 8 (by decide) rfl rfl fl_X8_87 dX8_count_134 ?_
                    exact sv_iret X hr hQ dX8_count_137 hF
                  · replace hF := fr_neg hF h13
                    have hz : ¬ (a1).toInt = 0 ∧ ¬ (a1).toInt = 1 ∧ ¬ (a1).toInt = 2 ∧ ¬ (a1).toInt = 3 ∧ ¬ (a1).toInt = 4 ∧ ¬ (a1).toInt = 5 ∧ ¬ (a1).toInt = 6 ∧ ¬ (a1).toInt = 7 ∧ ¬ (a1).toInt = 8 := ⟨lv_neT h5 (k := (0 : Int32)) (a := 0) (by decide), lv_neT h6 (k := (1 : Int32)) (a := 1) (by decide), lv_neT h7 (k := (2 : Int32)) (a := 2) (by decide), lv_neT h8 (k := (3 : Int32)) (a := 3) (by decide), lv_neT h9 (k := (4 : Int32)) (a := 4) (by decide), lv_neT h10 (k := (5 : Int32)) (a := 5) (by decide), lv_neT h11 (k := (6 : Int32)) (a := 6) (by decide), lv_neT h12 (k := (7 : Int32)) (a := 7) (by decide), lv_neT h13 (k := (8 : Int32)) (a := 8) (by decide)⟩
                    refine sv_tout (tgt := 138) X (by omega) (by decide) dX8_count_34 ?_
                    refine sv_ldc X kn_X8_73 dX8_count_138 ?_
                    exact sv_iret X hr hQ dX8_count_140 hF
theorem c_X8_count {l : Launch} {g : fr_G} {a1 : Int32}  {σ τ : fr_St} {r : Int32} (hF : F_X8_count a1 σ = some (r, τ)) : fr_Ci l g yX8_count (fr_ws yX8_count cX8_count 4 (some .int)) 0 [.ref (g.2.1 59), .int a1] σ r τ := fr_mi (by decide) (Nat.le_of_ble_eq_true rfl) (fun p e s m below meth c X hr => b_X8_count X hr  rfl hF)
def F_X8_status  (σ : fr_St) : Option (Int32 × fr_St) := some ((σ 59 3), σ)
set_option maxRecDepth 100000 in
set_option maxHeartbeats 4000000 in
theorem b_X8_status {p : Program} {l : Launch} {e : Env} {s : State} {m : MethodId} {args : Array Value} {below : List Frame} {meth : Method} {c : Code} {g : fr_G} {Q : State → Prop} (X : fr_X p s m args meth c g cX8_status RX8 1) (hr : meth.sig.returnType = (some .int))   {σ τ : fr_St} {r : Int32} (hQ : Q = fr_Qi below args s g r τ) (hF : F_X8_status  σ = some (r, τ)) : fr_V p l e (fr_rm 0) s m args below meth c g Q 1 σ 0 [(0, .ref (g.2.1 59))] [] := by
  unfold F_X8_status at hF
  refine sv_aload_n (i := 0) X dX8_status_0 rfl rfl ?_
  refine sv_geti X ix_X8 rfl 3 (by decide) rfl rfl fl_X8_56 dX8_status_1 ?_
  exact sv_iret X hr hQ dX8_status_4 hF
theorem c_X8_status {l : Launch} {g : fr_G}   {σ τ : fr_St} {r : Int32} (hF : F_X8_status  σ = some (r, τ)) : fr_Ci l g yX8_status (fr_ws yX8_status cX8_status 1 (some .int)) 0 [.ref (g.2.1 59)] σ r τ := fr_mi (by decide) (Nat.le_of_ble_eq_true rfl) (fun p e s m below meth c X hr => b_X8_status X hr  rfl hF)
