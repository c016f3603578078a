def F_X1_clearTrace  (σ : fr_St) : Option fr_St := fr_let (fr_up σ 53 2 (0 : Int32)) (fun s1 => some s1)
set_option maxRecDepth 100000 in
set_option maxHeartbeats 4000000 in
theorem b_X1_clearTrace {p : Program} {l : Launch} {e : Env} {s : State} {m : MethodId} {args : Array Value} {below : List Frame} {meth : Method} {c : Code} {g : fr_G} {Q : State → Prop} (X : fr_X p s m args meth c g cX1_clearTrace RX1 1) (hr : meth.sig.returnType = (Option.none : Option Jvm.ClassFile.FieldType))   {σ τ : fr_St} (hQ : Q = fr_Qv below args s g τ) (hF : F_X1_clearTrace  σ = some τ) : fr_V p l e (fr_rm 0) s m args below meth c g Q 1 σ 0 [(0, .ref (g.2.1 53))] [] := by
  unfold F_X1_clearTrace at hF
  refine sv_aload_n (i := 0) X dX1_clearTrace_0 rfl rfl ?_
  refine sv_iconst (v := 0) X dX1_clearTrace_1 (by decide) ?_
  refine sv_puti (ty := .int) X ix_X1 tyX1_ok nmX1 rfl 2 (by decide) rfl rfl fl_X1_19 rfl rfl rfl rfl dX1_clearTrace_2 ?_
  refine sv_sig (fun s1 es1 => ?_)
  replace hF := fr_lete hF es1
  exact sv_vret X hr hQ dX1_clearTrace_5 hF
theorem c_X1_clearTrace {l : Launch} {g : fr_G}   {σ τ : fr_St} (hF : F_X1_clearTrace  σ = some τ) : fr_Cv l g yX1_clearTrace (fr_ws yX1_clearTrace cX1_clearTrace 1 (Option.none : Option Jvm.ClassFile.FieldType)) 0 [.ref (g.2.1 53)] σ τ := fr_mv (by decide) (Nat.le_of_ble_eq_true rfl) (fun p e s m below meth c X hr => b_X1_clearTrace X hr  rfl hF)
def F_X1_traced (a1 : Int32) (σ : fr_St) : Option (Int32 × fr_St) := fr_bS (if a1 < 0 then (some ((-1000000 : Int32))) else (if (σ 53 2) ≤ a1 then (some ((-1000000 : Int32))) else (if fr_ib a1 16 = true then some ((σ 54 (fr_ix a1))) else none))) (fun v1 => some (v1, σ))
set_option maxRecDepth 100000 in
set_option maxHeartbeats 4000000 in
theorem b_X1_traced {p : Program} {l : Launch} {e : Env} {s : State} {m : MethodId} {args : Array Value} {below : List Frame} {meth : Method} {c : Code} {g : fr_G} {Q : State → Prop} (X : fr_X p s m args meth c g cX1_traced RX1 2) (hr : meth.sig.returnType = (some .int)) {a1 : Int32}  {σ τ : fr_St} {r : Int32} (hQ : Q = fr_Qi below args s g r τ) (hF : F_X1_traced a1 σ = some (r, τ)) : fr_V p l e (fr_rm 0) s m args below meth c g Q 2 σ 0 [(0, .ref (g.2.1 53)), (1, .int a1)] [] := by
  unfold F_X1_traced at hF
  refine sv_iload_n (i := 1) X dX1_traced_0 rfl rfl ?_
  obtain ⟨v1, hM2, hF⟩ := fr_bS_some hF
  have K3 : fr_V p l e (fr_rm 0) s m args below meth c g Q 2 σ 23 [(0, .ref (g.2.1 53)), (1, .int a1)] [.int v1] := by
    exact sv_iret X hr hQ dX1_traced_23 hF
  refine sv_if_lt (tgt := 21) X dX1_traced_1 (by decide) (fun h6 => ?_) (fun h6 => ?_)
  · replace hM2 := fr_pos hM2 h6
    refine sv_ldc X kn_X1_23 dX1_traced_21 ?_
    obtain rfl := fr_i1 hM2
    exact K3
  · replace hM2 := fr_neg hM2 h6
    refine sv_iload_n (i := 1) X dX1_traced_4 rfl rfl ?_
    refine sv_aload_n (i := 0) X dX1_traced_5 rfl rfl ?_
    refine sv_geti X ix_X1 rfl 2 (by decide) rfl rfl fl_X1_19 dX1_traced_6 ?_
    refine sv_icmp_ge (tgt := 21) X dX1_traced_9 (by decide) (fun h5 => ?_) (fun h5 => ?_)
    · replace hM2 := fr_pos hM2 h5
      refine sv_ldc X kn_X1_23 dX1_traced_21 ?_
      obtain rfl := fr_i1 hM2
      exact K3
    · replace hM2 := fr_neg hM2 h5
      refine sv_aload_n (i := 0) X dX1_traced_12 rfl rfl ?_
      refine sv_getr X ix_X1 rfl 1 (by decide) rfl rfl fl_X1_15 dX1_traced_13 ?_
      refine sv_iload_n (i := 1) X dX1_traced_16 rfl rfl ?_
      obtain ⟨hb4, hM2⟩ := fr_chk hM2
      refine sv_iald (j := (fr_ix a1)) X rfl hb4 rfl dX1_traced_17 ?_
      refine sv_goto (tgt := 23) X dX1_traced_18 (by decide) ?_
      obtain rfl := fr_i1 hM2
      exact K3
theorem c_X1_traced {l : Launch} {g : fr_G} {a1 : Int32}  {σ τ : fr_St} {r : Int32} (hF : F_X1_traced a1 σ = some (r, τ)) : fr_Ci l g yX1_traced (fr_ws yX1_traced cX1_traced 2 (some .int)) 0 [.ref (g.2.1 53), .int a1] σ r τ := fr_mi (by decide) (Nat.le_of_ble_eq_true rfl) (fun p e s m below meth c X hr => b_X1_traced X hr  rfl hF)
def L_X1_bodyFor_4 (k1 : Int32) : Nat → Int32 → Int32 → fr_St → Option ((Int32 × fr_St) ⊕ (Int32 × Int32 × fr_St))
  | 0, _, _, _ => none
  | n + 1, x2, x3, σ => if (5 : Int32) < x3 then (some (.inr (x2, x3, σ))) else (fr_bP (F_X2_hasNumber x2 σ) (fun b3 s2 => if (fr_bi b3) = 0 then (some (.inr (x2, x3, s2))) else (fr_bS (if k1 = 0 then (if fr_ib x2 6 = true then some ((fr_cS (fr_ix x2))) else none) else (if fr_ib x2 6 = true then some ((fr_cM (fr_ix x2))) else none)) (fun v4 => if v4 = 0 then (fr_bP (F_X2_above x2 s2) (fun r9 s8 => fr_let (x3 + (1 : Int32)) (fun v10 => L_X1_bodyFor_4 k1 n r9 v10 s8))) else (some (.inl (v4, s2)))))))
set_option maxRecDepth 100000 in
set_option maxHeartbeats 4000000 in
theorem wL_X1_bodyFor_4 {p : Program} {l : Launch} {e : Env} {s : State} {m : MethodId} {args : Array Value} {below : List Frame} {meth : Method} {c : Code} {g : fr_G} {Q : State → Prop} (X : fr_X p s m args meth c g cX1_bodyFor RX1 5)  (hr : meth.sig.returnType = (some .int)) {z : (Int32 × fr_St) ⊕ (Int32 × Int32 × fr_St)} (KR : (∀ (r : Int32) (τ : fr_St), z = .inl (r, τ) → Q = fr_Qi below args s g r τ)) (k0 : Int32) (k1 : Int32) (KE : ∀ (y2 : Int32) (y3 : Int32) (τ : fr_St), z = .inr (y2, y3, τ) → fr_V p l e (fr_rm 2) s m args below meth c g Q 5 τ 54 [(0, .int k0), (1, .int k1), (2, .int y2), (3, .int y3)] []) : ∀ (n : Nat) (x2 : Int32) (x3 : Int32) (σ : fr_St), L_X1_bodyFor_4 k1 n x2 x3 σ = some z → fr_V p l e (fr_rm 2) s m args below meth c g Q 5 σ 4 [(0, .int k0), (1, .int k1), (2, .int x2), (3, .int x3)] [] := by
  intro n
  induction n with
  | zero => intro x2 x3 σ hL; cases hL
  | succ n ih =>
    intro x2 x3 σ hL
    rw [L_X1_bodyFor_4] at hL
    refine sv_iload_n (i := 3) X dX1_bodyFor_4 rfl rfl ?_
    refine sv_iconst (v := 5) X dX1_bodyFor_5 (by decide) ?_
    refine sv_icmp_gt (tgt := 54) X dX1_bodyFor_6 (by decide) (fun h16 => ?_) (fun h16 => ?_)
    · replace hL := fr_pos hL h16
      obtain rfl := Option.some.inj hL
      exact (KE _ _ _ rfl)
    · replace hL := fr_neg hL h16
      refine sv_iload_n (i := 2) X dX1_bodyFor_9 rfl rfl ?_
      obtain ⟨b3, s2, hc1, hL⟩ := fr_bP_some hL
      refine sv_callSi X (c_X2_hasNumber hc1) cd_X2_hasNumber ml_X1_40 sm_X2_hasNumber in_RX2 hd_X2_hasNumber (by decide) rfl (Nat.le_of_ble_eq_true rfl) dX1_bodyFor_10 rfl ?_
      refine sv_if_eq (tgt := 54) X dX1_bodyFor_13 (by decide) (fun h15 => ?_) (fun h15 => ?_)
      · replace hL := fr_pos hL h15
        obtain rfl := Option.some.inj hL
        exact (KE _ _ _ rfl)
      · replace hL := fr_neg hL h15
        refine sv_iload_n (i := 1) X dX1_bodyFor_16 rfl rfl ?_
        obtain ⟨v4, hM5, hL⟩ := fr_bS_some hL
        have K6 : fr_V p l e (fr_rm 2) s m args below meth c g Q 5 s2 33 [(0, .int k0), (1, .int k1), (2, .int x2), (3, .int x3)] [.int v4] := by
          refine sv_istore X dX1_bodyFor_33 (by decide) rfl ?_
          refine sv_iload (i := 0) X dX1_bodyFor_35 rfl ?_
          refine sv_if_eq (tgt := 43) X dX1_bodyFor_37 (by decide) (fun h11 => ?_) (fun h11 => ?_)
          · replace hL := fr_pos hL h11
            refine sv_iload_n (i := 3) X dX1_bodyFor_43 rfl rfl ?_
            obtain ⟨r9, s8, hc7, hL⟩ := fr_bP_some hL
            refine sv_callSi X (c_X2_above hc7) cd_X2_above ml_X1_50 sm_X2_above in_RX2 hd_X2_above (by decide) rfl (Nat.le_of_ble_eq_true rfl) dX1_bodyFor_44 rfl ?_
            refine sv_istore_n X dX1_bodyFor_47 rfl (by decide) rfl ?_
            obtain ⟨v10, ev10⟩ : ∃ y : Int32, y = x3 + (1 : Int32) := ⟨_, rfl⟩
            replace hL := fr_lete hL ev10
            refine sv_iinc (i := 4) (v := v10) X dX1_bodyFor_48 rfl (by rw [ev10]; rfl) (by decide) rfl ?_
            refine sv_goto (tgt := 4) X dX1_bodyFor_51 (by decide) ?_
            exact sv_perm [3, 4, 1, 0] rfl (ih _ _ _ hL)
          · replace hL := fr_neg hL h11
            refine sv_iload (i := 0) X dX1_bodyFor_40 rfl ?_
            obtain rfl := Option.some.inj hL
            exact sv_iret X hr (KR _ _ rfl) dX1_bodyFor_42 rfl
        refine sv_if_ne (tgt := 28) X dX1_bodyFor_17 (by decide) (fun h14 => ?_) (fun h14 => ?_)
        · replace hM5 := fr_neg hM5 h14
          refine sv_getsM X fl_X1_47 dX1_bodyFor_28 ?_
          refine sv_iload_n (i := 2) X dX1_bodyFor_31 rfl rfl ?_
          obtain ⟨hb12, hM5⟩ := fr_chk hM5
          refine sv_tiM X hb12 dX1_bodyFor_32 ?_
          obtain rfl := fr_i1 hM5
          exact K6
        · replace hM5 := fr_pos hM5 h14
          refine sv_getsS X fl_X1_44 dX1_bodyFor_20 ?_
          refine sv_iload_n (i := 2) X dX1_bodyFor_23 rfl rfl ?_
          obtain ⟨hb13, hM5⟩ := fr_chk hM5
          refine sv_tiS X hb13 dX1_bodyFor_24 ?_
          refine sv_goto (tgt := 33) X dX1_bodyFor_25 (by decide) ?_
          obtain rfl := fr_i1 hM5
          exact K6
def F_X1_bodyFor (a1 : Int32) (a2 : Int32) (σ : fr_St) : Option (Int32 × fr_St) := fr_bR (L_X1_bodyFor_4 a2 fr_fu a1 (0 : Int32) σ) (fun q0 => some q0) (fun q10 => fr_pP q10 (fun v1 q11 => fr_pP q11 (fun v2 s3 => fr_bS (if a2 = 0 then (some ((10 : Int32))) else (some ((20 : Int32)))) (fun v5 => some (v5, s3)))))
set_option maxRecDepth 100000 in
set_option maxHeartbeats 4000000 in
theorem b_X1_bodyFor {p : Program} {l : Launch} {e : Env} {s : State} {m : MethodId} {args : Array Value} {below : List Frame} {meth : Method} {c : Code} {g : fr_G} {Q : State → Prop} (X : fr_X p s m args meth c g cX1_bodyFor RX1 5) (hr : meth.sig.returnType = (some .int)) {a1 : Int32} {a2 : Int32}  {σ τ : fr_St} {r : Int32} (hQ : Q = fr_Qi below args s g r τ) (hF : F_X1_bodyFor a1 a2 σ = some (r, τ)) : fr_V p l e (fr_rm 2) s m args below meth c g Q 5 σ 0 [(0, .int a1), (1, .int a2)] [] := by
  unfold F_X1_bodyFor at hF
  refine sv_iload_n (i := 0) X dX1_bodyFor_0 rfl rfl ?_
  refine sv_istore_n X dX1_bodyFor_1 rfl (by decide) rfl ?_
  refine sv_iconst (v := 0) X dX1_bodyFor_2 (by decide) ?_
  refine sv_istore_n X dX1_bodyFor_3 rfl (by decide) rfl ?_
  refine sv_perm [2, 3, 1, 0] rfl ?_
  rcases fr_bR_some hF with ⟨⟨rr, ss⟩, hl4, hF⟩ | ⟨⟨v1, v2, s3⟩, hl4, hF⟩
  · obtain ⟨rfl, rfl⟩ := fr_i2 hF
    exact wL_X1_bodyFor_4 X  hr (fun r τ e => by cases e; exact hQ) a1 a2 (fun _ _ _ e => by cases e) fr_fu _ _ _ hl4
  · dsimp only [fr_pP] at hF
    refine wL_X1_bodyFor_4 X  hr (fun r τ e => by cases e) a1 a2 (fun _ _ _ e => ?_) fr_fu _ _ _ hl4
    cases e
    refine sv_iload_n (i := 1) X dX1_bodyFor_54 rfl rfl ?_
    obtain ⟨v5, hM6, hF⟩ := fr_bS_some hF
    have K7 : fr_V p l e (fr_rm 2) s m args below meth c g Q 5 s3 65 [(0, .int a1), (1, .int a2), (2, .int v1), (3, .int v2)] [.int v5] := by
      exact sv_iret X hr hQ dX1_bodyFor_65 hF
    refine sv_if_ne (tgt := 63) X dX1_bodyFor_55 (by decide) (fun h8 => ?_) (fun h8 => ?_)
    · replace hM6 := fr_neg hM6 h8
      refine sv_bipush (v := 20) X dX1_bodyFor_63 (by decide) ?_
      obtain rfl := fr_i1 hM6
      exact K7
    · replace hM6 := fr_pos hM6 h8
      refine sv_bipush (v := 10) X dX1_bodyFor_58 (by decide) ?_
      refine sv_goto (tgt := 65) X dX1_bodyFor_60 (by decide) ?_
      obtain rfl := fr_i1 hM6
      exact K7
theorem c_X1_bodyFor {l : Launch} {g : fr_G} {a1 : Int32} {a2 : Int32}  {σ τ : fr_St} {r : Int32} (hF : F_X1_bodyFor a1 a2 σ = some (r, τ)) : fr_Ci l g yX1_bodyFor (fr_ws yX1_bodyFor cX1_bodyFor 5 (some .int)) 2 [.int a1, .int a2] σ r τ := fr_mi (by decide) (Nat.le_of_ble_eq_true rfl) (fun p e s m below meth c X hr => b_X1_bodyFor X hr  rfl hF)
def F_X1_leave (a1 : Int32) (σ : fr_St) : Option fr_St := fr_bS (if (16 : Int32) ≤ (σ 53 2) then (some (σ)) else (if fr_ib (σ 53 2) 16 = true then fr_let (fr_up σ 54 (fr_ix (σ 53 2)) a1) (fun s5 => fr_let (fr_up s5 53 2 ((s5 53 2) + (1 : Int32))) (fun s6 => some (s6))) else none)) (fun s1 => some s1)
set_option maxRecDepth 100000 in
set_option maxHeartbeats 4000000 in
theorem b_X1_leave {p : Program} {l : Launch} {e : Env} {s : State} {m : MethodId} {args : Array Value} {below : List Frame} {meth : Method} {c : Code} {g : fr_G} {Q : State → Prop} (X : fr_X p s m args meth c g cX1_leave RX1 2) (hr : meth.sig.returnType = (Option.none : Option Jvm.ClassFile.FieldType)) {a1 : Int32}  {σ τ : fr_St} (hQ : Q = fr_Qv below args s g τ) (hF : F_X1_leave a1 σ = some τ) : fr_V p l e (fr_rm 0) s m args below meth c g Q 2 σ 0 [(0, .ref (g.2.1 53)), (1, .int a1)] [] := by
  unfold F_X1_leave at hF
  refine sv_aload_n (i := 0) X dX1_leave_0 rfl rfl ?_
  refine sv_geti X ix_X1 rfl 2 (by decide) rfl rfl fl_X1_19 dX1_leave_1 ?_
  refine sv_bipush (v := 16) X dX1_leave_4 (by decide) ?_
  obtain ⟨s1, hM2, hF⟩ := fr_bS_some hF
  have K3 : fr_V p l e (fr_rm 0) s m args below meth c g Q 2 s1 29 [(0, .ref (g.2.1 53)), (1, .int a1)] [] := by
    exact sv_vret X hr hQ dX1_leave_29 hF
  refine sv_icmp_ge (tgt := 29) X dX1_leave_6 (by decide) (fun h7 => ?_) (fun h7 => ?_)
  · replace hM2 := fr_pos hM2 h7
    obtain rfl := fr_i1 hM2
    exact K3
  · replace hM2 := fr_neg hM2 h7
    refine sv_aload_n (i := 0) X dX1_leave_9 rfl rfl ?_
    refine sv_getr X ix_X1 rfl 1 (by decide) rfl rfl fl_X1_15 dX1_leave_10 ?_
    refine sv_aload_n (i := 0) X dX1_leave_13 rfl rfl ?_
    refine sv_geti X ix_X1 rfl 2 (by decide) rfl rfl fl_X1_19 dX1_leave_14 ?_
    refine sv_iload_n (i := 1) X dX1_leave_17 rfl rfl ?_
    obtain ⟨hb4, hM2⟩ := fr_chk hM2
    refine sv_iast (j := (fr_ix (σ 53 2))) X rfl hb4 rfl dX1_leave_18 ?_
    refine sv_sig (fun s5 es5 => ?_)
    replace hM2 := fr_lete hM2 es5
    refine sv_aload_n (i := 0) X dX1_leave_19 rfl rfl ?_
    refine sv_dup X dX1_leave_20 rfl ?_
    refine sv_geti X ix_X1 rfl 2 (by decide) rfl rfl fl_X1_19 dX1_leave_21 ?_
    refine sv_iconst (v := 1) X dX1_leave_24 (by decide) ?_
    refine sv_iadd X dX1_leave_25 ?_
    refine sv_puti (ty := .int) X ix_X1 tyX1_ok nmX1 rfl 2 (by decide) rfl rfl fl_X1_19 rfl rfl rfl rfl dX1_leave_26 ?_
    refine sv_sig (fun s6 es6 => ?_)
    replace hM2 := fr_lete hM2 es6
    obtain rfl := fr_i1 hM2
    exact K3
theorem c_X1_leave {l : Launch} {g : fr_G} {a1 : Int32}  {σ τ : fr_St} (hF : F_X1_leave a1 σ = some τ) : fr_Cv l g yX1_leave (fr_ws yX1_leave cX1_leave 2 (Option.none : Option Jvm.ClassFile.FieldType)) 0 [.ref (g.2.1 53), .int a1] σ τ := fr_mv (by decide) (Nat.le_of_ble_eq_true rfl) (fun p e s m below meth c X hr => b_X1_leave X hr  rfl hF)
def L_X5_flood_28 (k2 : Int32) : Nat → Int32 → Int32 → fr_St → Option (Int32 × Int32 × fr_St)
  | 0, _, _, _ => none
  | n + 1, x3, x7, σ => fr_bP (F_X3_roads 15 σ) (fun r3 s2 => if r3 ≤ x7 then (some (x3, x7, s2)) else (fr_bS (if ((k2 >>> (x7 &&& 31)) &&& (1 : Int32)) = (1 : Int32) then (if fr_ib x7 9 = true then if (x3 &&& (s2 46 (fr_ix x7))) = 0 then (some (x3)) else (if fr_ib x7 9 = true then fr_let ((x3 ||| (s2 46 (fr_ix x7)))) (fun v10 => some (v10)) else none) else none) else (some (x3))) (fun v4 => fr_let (x7 + (1 : Int32)) (fun v7 => L_X5_flood_28 k2 n v4 v7 s2))))
set_option maxRecDepth 100000 in
set_option maxHeartbeats 4000000 in
theorem wL_X5_flood_28 {p : Program} {l : Launch} {e : Env} {s : State} {m : MethodId} {args : Array Value} {below : List Frame} {meth : Method} {c : Code} {g : fr_G} {Q : State → Prop} (X : fr_X p s m args meth c g cX5_flood RX5 8)  (k1 : Int32) (k2 : Int32) (k4 : Int32) (k5 : Int32) (k6 : Int32) {y3 : Int32} {y7 : Int32} {τ : fr_St} (K : fr_V p l e (fr_rm 1) s m args below meth c g Q 8 τ 78 [(0, .ref (g.2.1 45)), (1, .int k1), (2, .int k2), (3, .int y3), (4, .int k4), (5, .int k5), (6, .int k6), (7, .int y7)] []) : ∀ (n : Nat) (x3 : Int32) (x7 : Int32) (σ : fr_St), L_X5_flood_28 k2 n x3 x7 σ = some (y3, y7, τ) → fr_V p l e (fr_rm 1) s m args below meth c g Q 8 σ 28 [(0, .ref (g.2.1 45)), (1, .int k1), (2, .int k2), (3, .int x3), (4, .int k4), (5, .int k5), (6, .int k6), (7, .int x7)] [] := by
  intro n
  induction n with
  | zero => intro x3 x7 σ hL; cases hL
  | succ n ih =>
    intro x3 x7 σ hL
    rw [L_X5_flood_28] at hL
    refine sv_iload (i := 7) X dX5_flood_28 rfl ?_
    refine sv_aload_n (i := 0) X dX5_flood_30 rfl rfl ?_
    refine sv_getr X ix_X5 rfl 0 (by decide) rfl rfl fl_X5_11 dX5_flood_31 ?_
    obtain ⟨r3, s2, hc1, hL⟩ := fr_bP_some hL
    refine sv_callVi X (c_X3_roads rfl rfl hc1) cd_X3_roads ml_X5_72 im_X3_roads se_X3_roads in_RX3 hd_X3_roads rfl rfl (by decide) rfl (Nat.le_of_ble_eq_true rfl) dX5_flood_34 rfl ?_
    refine sv_icmp_ge (tgt := 78) X dX5_flood_37 (by decide) (fun h13 => ?_) (fun h13 => ?_)
    · replace hL := fr_pos hL h13
      obtain ⟨rfl, rfl, rfl⟩ := fr_i3 hL
      exact K
    · replace hL := fr_neg hL h13
      refine sv_iload_n (i := 2) X dX5_flood_40 rfl rfl ?_
      refine sv_iload (i := 7) X dX5_flood_41 rfl ?_
      refine sv_ishr X dX5_flood_43 ?_
      refine sv_iconst (v := 1) X dX5_flood_44 (by decide) ?_
      refine sv_iand X dX5_flood_45 ?_
      refine sv_iconst (v := 1) X dX5_flood_46 (by decide) ?_
      obtain ⟨v4, hM5, hL⟩ := fr_bS_some hL
      have K6 : fr_V p l e (fr_rm 1) s m args below meth c g Q 8 s2 72 [(0, .ref (g.2.1 45)), (1, .int k1), (2, .int k2), (3, .int v4), (4, .int k4), (5, .int k5), (6, .int k6), (7, .int x7)] [] := by
        obtain ⟨v7, ev7⟩ : ∃ y : Int32, y = x7 + (1 : Int32) := ⟨_, rfl⟩
        replace hL := fr_lete hL ev7
        refine sv_iinc (i := 7) (v := v7) X dX5_flood_72 rfl (by rw [ev7]; rfl) (by decide) rfl ?_
        refine sv_goto (tgt := 28) X dX5_flood_75 (by decide) ?_
        exact sv_perm [1, 2, 3, 4, 5, 6, 7, 0] rfl (ih _ _ _ hL)
      refine sv_icmp_ne (tgt := 72) X dX5_flood_47 (by decide) (fun h12 => ?_) (fun h12 => ?_)
      · replace hM5 := fr_neg hM5 h12
        obtain rfl := fr_i1 hM5
        exact K6
      · replace hM5 := fr_pos hM5 h12
        refine sv_iload_n (i := 3) X dX5_flood_50 rfl rfl ?_
        refine sv_aload_n (i := 0) X dX5_flood_51 rfl rfl ?_
        refine sv_getr X ix_X5 rfl 1 (by decide) rfl rfl fl_X5_17 dX5_flood_52 ?_
        refine sv_iload (i := 7) X dX5_flood_55 rfl ?_
        obtain ⟨hb8, hM5⟩ := fr_chk hM5
        refine sv_iald (j := (fr_ix x7)) X rfl hb8 rfl dX5_flood_57 ?_
        refine sv_iand X dX5_flood_58 ?_
        refine sv_if_eq (tgt := 72) X dX5_flood_59 (by decide) (fun h11 => ?_) (fun h11 => ?_)
        · replace hM5 := fr_pos hM5 h11
          obtain rfl := fr_i1 hM5
          exact K6
        · replace hM5 := fr_neg hM5 h11
          refine sv_iload_n (i := 3) X dX5_flood_62 rfl rfl ?_
          refine sv_aload_n (i := 0) X dX5_flood_63 rfl rfl ?_
          refine sv_getr X ix_X5 rfl 1 (by decide) rfl rfl fl_X5_17 dX5_flood_64 ?_
          refine sv_iload (i := 7) X dX5_flood_67 rfl ?_
          obtain ⟨hb9, hM5⟩ := fr_chk hM5
          refine sv_iald (j := (fr_ix x7)) X rfl hb9 rfl dX5_flood_69 ?_
          refine sv_ior X dX5_flood_70 ?_
          refine sv_topi (fun v10 ev10 => ?_)
          replace hM5 := fr_lete hM5 ev10
          refine sv_istore_n X dX5_flood_71 rfl (by decide) rfl ?_
          obtain rfl := fr_i1 hM5
          exact sv_perm [1, 2, 3, 0, 4, 5, 6, 7] rfl K6
def L_X5_flood_10 (k2 : Int32) : Nat → Int32 → Int32 → Int32 → fr_St → Option (Int32 × Int32 × Int32 × fr_St)
  | 0, _, _, _, _ => none
  | n + 1, x3, x4, x5, σ => if (8 : Int32) ≤ x5 then (some (x3, x4, x5, σ)) else (if x4 = 0 then (some (x3, x4, x5, σ)) else (fr_bP (L_X5_flood_28 k2 fr_fu x3 (0 : Int32) σ) (fun v1 q10 => fr_pP q10 (fun v2 s3 => fr_bS (if v1 = x3 then (some ((0 : Int32))) else (some ((1 : Int32)))) (fun v5 => fr_let (x5 + (1 : Int32)) (fun v8 => L_X5_flood_10 k2 n v1 v5 v8 s3))))))
set_option maxRecDepth 100000 in
set_option maxHeartbeats 4000000 in
theorem wL_X5_flood_10 {p : Program} {l : Launch} {e : Env} {s : State} {m : MethodId} {args : Array Value} {below : List Frame} {meth : Method} {c : Code} {g : fr_G} {Q : State → Prop} (X : fr_X p s m args meth c g cX5_flood RX5 8)  (k1 : Int32) (k2 : Int32) {y3 : Int32} {y4 : Int32} {y5 : Int32} {τ : fr_St} (K : fr_V p l e (fr_rm 1) s m args below meth c g Q 8 τ 97 [(0, .ref (g.2.1 45)), (1, .int k1), (2, .int k2), (3, .int y3), (4, .int y4), (5, .int y5)] []) : ∀ (n : Nat) (x3 : Int32) (x4 : Int32) (x5 : Int32) (σ : fr_St), L_X5_flood_10 k2 n x3 x4 x5 σ = some (y3, y4, y5, τ) → fr_V p l e (fr_rm 1) s m args below meth c g Q 8 σ 10 [(0, .ref (g.2.1 45)), (1, .int k1), (2, .int k2), (3, .int x3), (4, .int x4), (5, .int x5)] [] := by
  intro n
  induction n with
  | zero => intro x3 x4 x5 σ hL; cases hL
  | succ n ih =>
    intro x3 x4 x5 σ hL
    rw [L_X5_flood_10] at hL
    refine sv_iload (i := 5) X dX5_flood_10 rfl ?_
    refine sv_bipush (v := 8) X dX5_flood_12 (by decide) ?_
    refine sv_icmp_ge (tgt := 97) X dX5_flood_14 (by decide) (fun h12 => ?_) (fun h12 => ?_)
    · replace hL := fr_pos hL h12
      obtain ⟨rfl, rfl, rfl, rfl⟩ := fr_i4 hL
      exact K
    · replace hL := fr_neg hL h12
      refine sv_iload (i := 4) X dX5_flood_17 rfl ?_
      refine sv_if_eq (tgt := 97) X dX5_flood_19 (by decide) (fun h11 => ?_) (fun h11 => ?_)
      · replace hL := fr_pos hL h11
        obtain ⟨rfl, rfl, rfl, rfl⟩ := fr_i4 hL
        exact K
      · replace hL := fr_neg hL h11
        refine sv_iload_n (i := 3) X dX5_flood_22 rfl rfl ?_
        refine sv_istore X dX5_flood_23 (by decide) rfl ?_
        refine sv_iconst (v := 0) X dX5_flood_25 (by decide) ?_
        refine sv_istore X dX5_flood_26 (by decide) rfl ?_
        refine sv_perm [2, 3, 4, 5, 6, 7, 1, 0] rfl ?_
        obtain ⟨v1, ⟨v2, s3⟩, hl4, hL⟩ := fr_bP_some hL
        dsimp only [fr_pP] at hL
        refine wL_X5_flood_28 X  k1 k2 x4 x5 x3 ?_ fr_fu _ _ _ hl4
        refine sv_iload_n (i := 3) X dX5_flood_78 rfl rfl ?_
        refine sv_iload (i := 6) X dX5_flood_79 rfl ?_
        obtain ⟨v5, hM6, hL⟩ := fr_bS_some hL
        have K7 : fr_V p l e (fr_rm 1) s m args below meth c g Q 8 s3 89 [(0, .ref (g.2.1 45)), (1, .int k1), (2, .int k2), (3, .int v1), (4, .int x4), (5, .int x5), (6, .int x3), (7, .int v2)] [.int v5] := by
          refine sv_istore X dX5_flood_89 (by decide) rfl ?_
          obtain ⟨v8, ev8⟩ : ∃ y : Int32, y = x5 + (1 : Int32) := ⟨_, rfl⟩
          replace hL := fr_lete hL ev8
          refine sv_iinc (i := 5) (v := v8) X dX5_flood_91 rfl (by rw [ev8]; rfl) (by decide) rfl ?_
          refine sv_goto (tgt := 10) X dX5_flood_94 (by decide) ?_
          exact sv_perm [2, 3, 4, 5, 1, 0] rfl (ih _ _ _ _ hL)
        refine sv_icmp_eq (tgt := 88) X dX5_flood_81 (by decide) (fun h9 => ?_) (fun h9 => ?_)
        · replace hM6 := fr_pos hM6 h9
          refine sv_iconst (v := 0) X dX5_flood_88 (by decide) ?_
          obtain rfl := fr_i1 hM6
          exact K7
        · replace hM6 := fr_neg hM6 h9
          refine sv_iconst (v := 1) X dX5_flood_84 (by decide) ?_
          refine sv_goto (tgt := 89) X dX5_flood_85 (by decide) ?_
          obtain rfl := fr_i1 hM6
          exact K7
def F_X5_flood (a1 : Int32) (a2 : Int32) (σ : fr_St) : Option (Int32 × fr_St) := fr_let (((1 : Int32) <<< (a1 &&& 31))) (fun v1 => fr_bP (L_X5_flood_10 a2 fr_fu v1 (1 : Int32) (0 : Int32) σ) (fun v2 q7 => fr_pP q7 (fun v3 q8 => fr_pP q8 (fun v4 s5 => some (v2, s5)))))
set_option maxRecDepth 100000 in
set_option maxHeartbeats 4000000 in
theorem b_X5_flood {p : Program} {l : Launch} {e : Env} {s : State} {m : MethodId} {args : Array Value} {below : List Frame} {meth : Method} {c : Code} {g : fr_G} {Q : State → Prop} (X : fr_X p s m args meth c g cX5_flood RX5 8) (hr : meth.sig.returnType = (some .int)) {a1 : Int32} {a2 : Int32}  {σ τ : fr_St} {r : Int32} (hQ : Q = fr_Qi below args s g r τ) (hF : F_X5_flood a1 a2 σ = some (r, τ)) : fr_V p l e (fr_rm 1) s m args below meth c g Q 8 σ 0 [(0, .ref (g.2.1 45)), (1, .int a1), (2, .int a2)] [] := by
  unfold F_X5_flood at hF
  refine sv_iconst (v := 1) X dX5_flood_0 (by decide) ?_
  refine sv_iload_n (i := 1) X dX5_flood_1 rfl rfl ?_
  refine sv_ishl X dX5_flood_2 ?_
  refine sv_topi (fun v1 ev1 => ?_)
  replace hF := fr_lete hF ev1
  refine sv_istore_n X dX5_flood_3 rfl (by decide) rfl ?_
  refine sv_iconst (v := 1) X dX5_flood_4 (by decide) ?_
  refine sv_istore X dX5_flood_5 (by decide) rfl ?_
  refine sv_iconst (v := 0) X dX5_flood_7 (by decide) ?_
  refine sv_istore X dX5_flood_8 (by decide) rfl ?_
  refine sv_perm [3, 4, 5, 2, 1, 0] rfl ?_
  obtain ⟨v2, ⟨v3, v4, s5⟩, hl6, hF⟩ := fr_bP_some hF
  dsimp only [fr_pP] at hF
  refine wL_X5_flood_10 X  a1 a2 ?_ fr_fu _ _ _ _ hl6
  refine sv_iload_n (i := 3) X dX5_flood_97 rfl rfl ?_
  exact sv_iret X hr hQ dX5_flood_98 hF
theorem c_X5_flood {l : Launch} {g : fr_G} {a1 : Int32} {a2 : Int32}  {σ τ : fr_St} {r : Int32} (hF : F_X5_flood a1 a2 σ = some (r, τ)) : fr_Ci l g yX5_flood (fr_ws yX5_flood cX5_flood 8 (some .int)) 1 [.ref (g.2.1 45), .int a1, .int a2] σ r τ := fr_mi (by decide) (Nat.le_of_ble_eq_true rfl) (fun p e s m below meth c X hr => b_X5_flood X hr  rfl hF)
def L_X5_noteEnds_2  : Nat → Int32 → fr_St → Option (Int32 × fr_St)
  | 0, _, _ => none
  | n + 1, x1, σ => fr_bP (F_X3_roads 15 σ) (fun r3 s2 => if r3 ≤ x1 then (some (x1, s2)) else (fr_bP (F_X3_oneEnd 15 x1 s2) (fun r6 s5 => fr_bP (F_X3_otherEnd 15 x1 s5) (fun r9 s8 => if fr_ib x1 9 = true then fr_let (fr_up s8 46 (fr_ix x1) (((1 : Int32) <<< (r6 &&& 31)) ||| ((1 : Int32) <<< (r9 &&& 31)))) (fun s11 => fr_let (x1 + (1 : Int32)) (fun v12 => L_X5_noteEnds_2  n v12 s11)) else none))))
set_option maxRecDepth 100000 in
set_option maxHeartbeats 4000000 in
theorem wL_X5_noteEnds_2 {p : Program} {l : Launch} {e : Env} {s : State} {m : MethodId} {args : Array Value} {below : List Frame} {meth : Method} {c : Code} {g : fr_G} {Q : State → Prop} (X : fr_X p s m args meth c g cX5_noteEnds RX5 2)   {y1 : Int32} {τ : fr_St} (K : fr_V p l e (fr_rm 1) s m args below meth c g Q 2 τ 46 [(0, .ref (g.2.1 45)), (1, .int y1)] []) : ∀ (n : Nat) (x1 : Int32) (σ : fr_St), L_X5_noteEnds_2  n x1 σ = some (y1, τ) → fr_V p l e (fr_rm 1) s m args below meth c g Q 2 σ 2 [(0, .ref (g.2.1 45)), (1, .int x1)] [] := by
  intro n
  induction n with
  | zero => intro x1 σ hL; cases hL
  | succ n ih =>
    intro x1 σ hL
    rw [L_X5_noteEnds_2] at hL
    refine sv_iload_n (i := 1) X dX5_noteEnds_2 rfl rfl ?_
    refine sv_aload_n (i := 0) X dX5_noteEnds_3 rfl rfl ?_
    refine sv_getr X ix_X5 rfl 0 (by decide) rfl rfl fl_X5_11 dX5_noteEnds_4 ?_
    obtain ⟨r3, s2, hc1, hL⟩ := fr_bP_some hL
    refine sv_callVi X (c_X3_roads rfl rfl hc1) cd_X3_roads ml_X5_72 im_X3_roads se_X3_roads in_RX3 hd_X3_roads rfl rfl (by decide) rfl (Nat.le_of_ble_eq_true rfl) dX5_noteEnds_7 rfl ?_
    refine sv_icmp_ge (tgt := 46) X dX5_noteEnds_10 (by decide) (fun h13 => ?_) (fun h13 => ?_)
    · replace hL := fr_pos hL h13
      obtain ⟨rfl, rfl⟩ := fr_i2 hL
      exact K
    · replace hL := fr_neg hL h13
      refine sv_aload_n (i := 0) X dX5_noteEnds_13 rfl rfl ?_
      refine sv_getr X ix_X5 rfl 1 (by decide) rfl rfl fl_X5_17 dX5_noteEnds_14 ?_
      refine sv_iload_n (i := 1) X dX5_noteEnds_17 rfl rfl ?_
      refine sv_iconst (v := 1) X dX5_noteEnds_18 (by decide) ?_
      refine sv_aload_n (i := 0) X dX5_noteEnds_19 rfl rfl ?_
      refine sv_getr X ix_X5 rfl 0 (by decide) rfl rfl fl_X5_11 dX5_noteEnds_20 ?_
      refine sv_iload_n (i := 1) X dX5_noteEnds_23 rfl rfl ?_
      obtain ⟨r6, s5, hc4, hL⟩ := fr_bP_some hL
      refine sv_callVi X (c_X3_oneEnd rfl rfl hc4) cd_X3_oneEnd ml_X5_148 im_X3_oneEnd se_X3_oneEnd in_RX3 hd_X3_oneEnd rfl rfl (by decide) rfl (Nat.le_of_ble_eq_true rfl) dX5_noteEnds_24 rfl ?_
      refine sv_ishl X dX5_noteEnds_27 ?_
      refine sv_iconst (v := 1) X dX5_noteEnds_28 (by decide) ?_
      refine sv_aload_n (i := 0) X dX5_noteEnds_29 rfl rfl ?_
      refine sv_getr X ix_X5 rfl 0 (by decide) rfl rfl fl_X5_11 dX5_noteEnds_30 ?_
      refine sv_iload_n (i := 1) X dX5_noteEnds_33 rfl rfl ?_
      obtain ⟨r9, s8, hc7, hL⟩ := fr_bP_some hL
      refine sv_callVi X (c_X3_otherEnd rfl rfl hc7) cd_X3_otherEnd ml_X5_151 im_X3_otherEnd se_X3_otherEnd in_RX3 hd_X3_otherEnd rfl rfl (by decide) rfl (Nat.le_of_ble_eq_true rfl) dX5_noteEnds_34 rfl ?_
      refine sv_ishl X dX5_noteEnds_37 ?_
      refine sv_ior X dX5_noteEnds_38 ?_
      obtain ⟨hb10, hL⟩ := fr_chk hL
      refine sv_iast (j := (fr_ix x1)) X rfl hb10 rfl dX5_noteEnds_39 ?_
      refine sv_sig (fun s11 es11 => ?_)
      replace hL := fr_lete hL es11
      obtain ⟨v12, ev12⟩ : ∃ y : Int32, y = x1 + (1 : Int32) := ⟨_, rfl⟩
      replace hL := fr_lete hL ev12
      refine sv_iinc (i := 1) (v := v12) X dX5_noteEnds_40 rfl (by rw [ev12]; rfl) (by decide) rfl ?_
      refine sv_goto (tgt := 2) X dX5_noteEnds_43 (by decide) ?_
      exact sv_perm [1, 0] rfl (ih _ _ hL)
def F_X5_noteEnds  (σ : fr_St) : Option fr_St := fr_bP (L_X5_noteEnds_2  fr_fu (0 : Int32) σ) (fun v1 s2 => some s2)
set_option maxRecDepth 100000 in
set_option maxHeartbeats 4000000 in
theorem b_X5_noteEnds {p : Program} {l : Launch} {e : Env} {s : State} {m : MethodId} {args : Array Value} {below : List Frame} {meth : Method} {c : Code} {g : fr_G} {Q : State → Prop} (X : fr_X p s m args meth c g cX5_noteEnds RX5 2) (hr : meth.sig.returnType = (Option.none : Option Jvm.ClassFile.FieldType))   {σ τ : fr_St} (hQ : Q = fr_Qv below args s g τ) (hF : F_X5_noteEnds  σ = some τ) : fr_V p l e (fr_rm 1) s m args below meth c g Q 2 σ 0 [(0, .ref (g.2.1 45))] [] := by
  unfold F_X5_noteEnds at hF
  refine sv_iconst (v := 0) X dX5_noteEnds_0 (by decide) ?_
  refine sv_istore_n X dX5_noteEnds_1 rfl (by decide) rfl ?_
  refine sv_perm [1, 0] rfl ?_
  obtain ⟨v1, s2, hl3, hF⟩ := fr_bP_some hF
  refine wL_X5_noteEnds_2 X   ?_ fr_fu _ _ hl3
  exact sv_vret X hr hQ dX5_noteEnds_46 hF
theorem c_X5_noteEnds {l : Launch} {g : fr_G}   {σ τ : fr_St} (hF : F_X5_noteEnds  σ = some τ) : fr_Cv l g yX5_noteEnds (fr_ws yX5_noteEnds cX5_noteEnds 2 (Option.none : Option Jvm.ClassFile.FieldType)) 1 [.ref (g.2.1 45)] σ τ := fr_mv (by decide) (Nat.le_of_ble_eq_true rfl) (fun p e s m below meth c X hr => b_X5_noteEnds X hr  rfl hF)
def F_X5_reachOf (a1 : Int32) (σ : fr_St) : Option (Int32 × fr_St) := fr_bS (F_X5_noteEnds σ) (fun s2 => fr_bP (F_X3_placeOf 15 a1 s2) (fun r5 s4 => fr_bP (F_X3_roadsOpenTo 15 a1 s4) (fun r8 s7 => fr_bP (F_X5_flood r5 r8 s7) (fun r11 s10 => some (r11, s10)))))
set_option maxRecDepth 100000 in
set_option maxHeartbeats 4000000 in
theorem b_X5_reachOf {p : Program} {l : Launch} {e : Env} {s : State} {m : MethodId} {args : Array Value} {below : List Frame} {meth : Method} {c : Code} {g : fr_G} {Q : State → Prop} (X : fr_X p s m args meth c g cX5_reachOf RX5 2) (hr : meth.sig.returnType = (some .int)) {a1 : Int32}  {σ τ : fr_St} {r : Int32} (hQ : Q = fr_Qi below args s g r τ) (hF : F_X5_reachOf a1 σ = some (r, τ)) : fr_V p l e (fr_rm 4) s m args below meth c g Q 2 σ 0 [(0, .ref (g.2.1 45)), (1, .int a1)] [] := by
  unfold F_X5_reachOf at hF
  refine sv_aload_n (i := 0) X dX5_reachOf_0 rfl rfl ?_
  obtain ⟨s2, hc1, hF⟩ := fr_bS_some hF
  refine sv_callVv X (c_X5_noteEnds hc1) cd_X5_noteEnds ml_X5_39 im_X5_noteEnds se_X5_noteEnds in_RX5 hd_X5_noteEnds rfl rfl (by decide) rfl (Nat.le_of_ble_eq_true rfl) dX5_reachOf_1 rfl ?_
  refine sv_aload_n (i := 0) X dX5_reachOf_4 rfl rfl ?_
  refine sv_aload_n (i := 0) X dX5_reachOf_5 rfl rfl ?_
  refine sv_getr X ix_X5 rfl 0 (by decide) rfl rfl fl_X5_11 dX5_reachOf_6 ?_
  refine sv_iload_n (i := 1) X dX5_reachOf_9 rfl rfl ?_
  obtain ⟨r5, s4, hc3, hF⟩ := fr_bP_some hF
  refine sv_callVi X (c_X3_placeOf rfl rfl hc3) cd_X3_placeOf ml_X5_42 im_X3_placeOf se_X3_placeOf in_RX3 hd_X3_placeOf rfl rfl (by decide) rfl (Nat.le_of_ble_eq_true rfl) dX5_reachOf_10 rfl ?_
  refine sv_aload_n (i := 0) X dX5_reachOf_13 rfl rfl ?_
  refine sv_getr X ix_X5 rfl 0 (by decide) rfl rfl fl_X5_11 dX5_reachOf_14 ?_
  refine sv_iload_n (i := 1) X dX5_reachOf_17 rfl rfl ?_
  obtain ⟨r8, s7, hc6, hF⟩ := fr_bP_some hF
  refine sv_callVi X (c_X3_roadsOpenTo rfl rfl hc6) cd_X3_roadsOpenTo ml_X5_46 im_X3_roadsOpenTo se_X3_roadsOpenTo in_RX3 hd_X3_roadsOpenTo rfl rfl (by decide) rfl (Nat.le_of_ble_eq_true rfl) dX5_reachOf_18 rfl ?_
  obtain ⟨r11, s10, hc9, hF⟩ := fr_bP_some hF
  refine sv_callVi X (c_X5_flood hc9) cd_X5_flood ml_X5_49 im_X5_flood se_X5_flood in_RX5 hd_X5_flood rfl rfl (by decide) rfl (Nat.le_of_ble_eq_true rfl) dX5_reachOf_21 rfl ?_
  exact sv_iret X hr hQ dX5_reachOf_24 hF
theorem c_X5_reachOf {l : Launch} {g : fr_G} {a1 : Int32}  {σ τ : fr_St} {r : Int32} (hF : F_X5_reachOf a1 σ = some (r, τ)) : fr_Ci l g yX5_reachOf (fr_ws yX5_reachOf cX5_reachOf 2 (some .int)) 4 [.ref (g.2.1 45), .int a1] σ r τ := fr_mi (by decide) (Nat.le_of_ble_eq_true rfl) (fun p e s m below meth c X hr => b_X5_reachOf X hr  rfl hF)
def F_X5_relax (a1 : Int32) (ka : Nat) (σ : fr_St) : Option (Bool × fr_St) := fr_bP (F_X3_oneEnd 15 a1 σ) (fun r3 s2 => fr_bP (F_X3_otherEnd 15 a1 s2) (fun r6 s5 => if fr_ib r3 8 = true then if fr_ib a1 9 = true then if fr_ib r6 8 = true then if (s5 ka (fr_ix r6)) ≤ ((s5 ka (fr_ix r3)) + (s5 47 (fr_ix a1))) then (if fr_ib r6 8 = true then if fr_ib a1 9 = true then if fr_ib r3 8 = true then if (s5 ka (fr_ix r3)) ≤ ((s5 ka (fr_ix r6)) + (s5 47 (fr_ix a1))) then (some (false, s5)) else (if fr_ib r6 8 = true then if fr_ib a1 9 = true then if fr_ib r3 8 = true then fr_let (fr_up s5 ka (fr_ix r3) ((s5 ka (fr_ix r6)) + (s5 47 (fr_ix a1)))) (fun s16 => some (true, s16)) else none else none else none) else none else none else none) else (if fr_ib r3 8 = true then if fr_ib a1 9 = true then if fr_ib r6 8 = true then fr_let (fr_up s5 ka (fr_ix r6) ((s5 ka (fr_ix r3)) + (s5 47 (fr_ix a1)))) (fun s21 => some (true, s21)) else none else none else none) else none else none else none))
set_option maxRecDepth 100000 in
set_option maxHeartbeats 4000000 in
theorem b_X5_relax {p : Program} {l : Launch} {e : Env} {s : State} {m : MethodId} {args : Array Value} {below : List Frame} {meth : Method} {c : Code} {g : fr_G} {Q : State → Prop} (X : fr_X p s m args meth c g cX5_relax RX5 5) (hr : meth.sig.returnType = (some .boolean)) {a1 : Int32} {ka : Nat} (hk : fr_tab[ka]? = some (1, 8, [])) {σ τ : fr_St} {r : Bool} (hQ : Q = fr_Qi below args s g (fr_bi r) τ) (hF : F_X5_relax a1 ka σ = some (r, τ)) : fr_V p l e (fr_rm 1) s m args below meth c g Q 5 σ 0 [(0, .ref (g.2.1 45)), (1, .int a1), (2, .ref (g.2.1 ka))] [] := by
  unfold F_X5_relax at hF
  refine sv_aload_n (i := 0) X dX5_relax_0 rfl rfl ?_
  refine sv_getr X ix_X5 rfl 0 (by decide) rfl rfl fl_X5_11 dX5_relax_1 ?_
  refine sv_iload_n (i := 1) X dX5_relax_4 rfl rfl ?_
  obtain ⟨r3, s2, hc1, hF⟩ := fr_bP_some hF
  refine sv_callVi X (c_X3_oneEnd rfl rfl hc1) cd_X3_oneEnd ml_X5_148 im_X3_oneEnd se_X3_oneEnd in_RX3 hd_X3_oneEnd rfl rfl (by decide) rfl (Nat.le_of_ble_eq_true rfl) dX5_relax_5 rfl ?_
  refine sv_istore_n X dX5_relax_8 rfl (by decide) rfl ?_
  refine sv_aload_n (i := 1) X dX5_relax_9 rfl rfl ?_
  refine sv_getr X ix_X5 rfl 0 (by decide) rfl rfl fl_X5_11 dX5_relax_10 ?_
  refine sv_iload_n (i := 2) X dX5_relax_13 rfl rfl ?_
  obtain ⟨r6, s5, hc4, hF⟩ := fr_bP_some hF
  refine sv_callVi X (c_X3_otherEnd rfl rfl hc4) cd_X3_otherEnd ml_X5_151 im_X3_otherEnd se_X3_otherEnd in_RX3 hd_X3_otherEnd rfl rfl (by decide) rfl (Nat.le_of_ble_eq_true rfl) dX5_relax_14 rfl ?_
  refine sv_istore X dX5_relax_17 (by decide) rfl ?_
  refine sv_aload_n (i := 4) X dX5_relax_19 rfl rfl ?_
  refine sv_iload_n (i := 1) X dX5_relax_20 rfl rfl ?_
  obtain ⟨hb7, hF⟩ := fr_chk hF
  refine sv_iald (j := (fr_ix r3)) X hk hb7 rfl dX5_relax_21 ?_
  refine sv_aload_n (i := 2) X dX5_relax_22 rfl rfl ?_
  refine sv_getr X ix_X5 rfl 2 (by decide) rfl rfl fl_X5_21 dX5_relax_23 ?_
  refine sv_iload_n (i := 3) X dX5_relax_26 rfl rfl ?_
  obtain ⟨hb8, hF⟩ := fr_chk hF
  refine sv_iald (j := (fr_ix a1)) X rfl hb8 rfl dX5_relax_27 ?_
  refine sv_iadd X dX5_relax_28 ?_
  refine sv_aload_n (i := 4) X dX5_relax_29 rfl rfl ?_
  refine sv_iload (i := 0) X dX5_relax_30 rfl ?_
  obtain ⟨hb9, hF⟩ := fr_chk hF
  refine sv_iald (j := (fr_ix r6)) X hk hb9 rfl dX5_relax_32 ?_
  refine sv_icmp_ge (tgt := 52) X dX5_relax_33 (by decide) (fun h22 => ?_) (fun h22 => ?_)
  · replace hF := fr_pos hF h22
    refine sv_aload_n (i := 4) X dX5_relax_52 rfl rfl ?_
    refine sv_iload (i := 0) X dX5_relax_53 rfl ?_
    obtain ⟨hb10, hF⟩ := fr_chk hF
    refine sv_iald (j := (fr_ix r6)) X hk hb10 rfl dX5_relax_55 ?_
    refine sv_aload_n (i := 2) X dX5_relax_56 rfl rfl ?_
    refine sv_getr X ix_X5 rfl 2 (by decide) rfl rfl fl_X5_21 dX5_relax_57 ?_
    refine sv_iload_n (i := 3) X dX5_relax_60 rfl rfl ?_
    obtain ⟨hb11, hF⟩ := fr_chk hF
    refine sv_iald (j := (fr_ix a1)) X rfl hb11 rfl dX5_relax_61 ?_
    refine sv_iadd X dX5_relax_62 ?_
    refine sv_aload_n (i := 4) X dX5_relax_63 rfl rfl ?_
    refine sv_iload_n (i := 1) X dX5_relax_64 rfl rfl ?_
    obtain ⟨hb12, hF⟩ := fr_chk hF
    refine sv_iald (j := (fr_ix r3)) X hk hb12 rfl dX5_relax_65 ?_
    refine sv_icmp_ge (tgt := 85) X dX5_relax_66 (by decide) (fun h17 => ?_) (fun h17 => ?_)
    · replace hF := fr_pos hF h17
      refine sv_iconst (v := 0) X dX5_relax_85 (by decide) ?_
      exact sv_zret X (b := false) hr hQ rfl dX5_relax_86 hF
    · replace hF := fr_neg hF h17
      refine sv_aload_n (i := 4) X dX5_relax_69 rfl rfl ?_
      refine sv_iload_n (i := 1) X dX5_relax_70 rfl rfl ?_
      refine sv_aload_n (i := 4) X dX5_relax_71 rfl rfl ?_
      refine sv_iload (i := 0) X dX5_relax_72 rfl ?_
      obtain ⟨hb13, hF⟩ := fr_chk hF
      refine sv_iald (j := (fr_ix r6)) X hk hb13 rfl dX5_relax_74 ?_
      refine sv_aload_n (i := 2) X dX5_relax_75 rfl rfl ?_
      refine sv_getr X ix_X5 rfl 2 (by decide) rfl rfl fl_X5_21 dX5_relax_76 ?_
      refine sv_iload_n (i := 3) X dX5_relax_79 rfl rfl ?_
      obtain ⟨hb14, hF⟩ := fr_chk hF
      refine sv_iald (j := (fr_ix a1)) X rfl hb14 rfl dX5_relax_80 ?_
      refine sv_iadd X dX5_relax_81 ?_
      obtain ⟨hb15, hF⟩ := fr_chk hF
      refine sv_iast (j := (fr_ix r3)) X hk hb15 rfl dX5_relax_82 ?_
      refine sv_sig (fun s16 es16 => ?_)
      replace hF := fr_lete hF es16
      refine sv_iconst (v := 1) X dX5_relax_83 (by decide) ?_
      exact sv_zret X (b := true) hr hQ rfl dX5_relax_84 hF
  · replace hF := fr_neg hF h22
    refine sv_aload_n (i := 4) X dX5_relax_36 rfl rfl ?_
    refine sv_iload (i := 0) X dX5_relax_37 rfl ?_
    refine sv_aload_n (i := 4) X dX5_relax_39 rfl rfl ?_
    refine sv_iload_n (i := 1) X dX5_relax_40 rfl rfl ?_
    obtain ⟨hb18, hF⟩ := fr_chk hF
    refine sv_iald (j := (fr_ix r3)) X hk hb18 rfl dX5_relax_41 ?_
    refine sv_aload_n (i := 2) X dX5_relax_42 rfl rfl ?_
    refine sv_getr X ix_X5 rfl 2 (by decide) rfl rfl fl_X5_21 dX5_relax_43 ?_
    refine sv_iload_n (i := 3) X dX5_relax_46 rfl rfl ?_
    obtain ⟨hb19, hF⟩ := fr_chk hF
    refine sv_iald (j := (fr_ix a1)) X rfl hb19 rfl dX5_relax_47 ?_
    refine sv_iadd X dX5_relax_48 ?_
    obtain ⟨hb20, hF⟩ := fr_chk hF
    refine sv_iast (j := (fr_ix r6)) X hk hb20 rfl dX5_relax_49 ?_
    refine sv_sig (fun s21 es21 => ?_)
    replace hF := fr_lete hF es21
    refine sv_iconst (v := 1) X dX5_relax_50 (by decide) ?_
    exact sv_zret X (b := true) hr hQ rfl dX5_relax_51 hF
theorem c_X5_relax {l : Launch} {g : fr_G} {a1 : Int32} {ka : Nat} (hk : fr_tab[ka]? = some (1, 8, [])) {σ τ : fr_St} {r : Bool} (hF : F_X5_relax a1 ka σ = some (r, τ)) : fr_Ci l g yX5_relax (fr_ws yX5_relax cX5_relax 5 (some .boolean)) 1 [.ref (g.2.1 45), .int a1, .ref (g.2.1 ka)] σ (fr_bi r) τ := fr_mz (by decide) (Nat.le_of_ble_eq_true rfl) (fun p e s m below meth c X hr => b_X5_relax X hr hk rfl hF)
def L_X5_measure_31 (ka : Nat) : Nat → Int32 → Int32 → fr_St → Option (Int32 × Int32 × fr_St)
  | 0, _, _, _ => none
  | n + 1, x3, x5, σ => fr_bP (F_X3_roads 15 σ) (fun r3 s2 => if r3 ≤ x5 then (some (x3, x5, s2)) else (if fr_ib x5 9 = true then fr_bP (if (s2 47 (fr_ix x5)) = (-1 : Int32) then (some (x3, s2)) else (fr_bP (F_X5_relax x5 ka s2) (fun b12 s11 => fr_let ((x3 ||| (fr_bi b12))) (fun v13 => some (v13, s11))))) (fun v5 s6 => fr_let (x5 + (1 : Int32)) (fun v9 => L_X5_measure_31 ka n v5 v9 s6)) else none))
set_option maxRecDepth 100000 in
set_option maxHeartbeats 4000000 in
theorem wL_X5_measure_31 {p : Program} {l : Launch} {e : Env} {s : State} {m : MethodId} {args : Array Value} {below : List Frame} {meth : Method} {c : Code} {g : fr_G} {Q : State → Prop} (X : fr_X p s m args meth c g cX5_measure RX5 6) {ka : Nat} (hk : fr_tab[ka]? = some (1, 8, [])) (k1 : Int32) (k4 : Int32) {y3 : Int32} {y5 : Int32} {τ : fr_St} (K : fr_V p l e (fr_rm 2) s m args below meth c g Q 6 τ 70 [(0, .ref (g.2.1 45)), (1, .int k1), (2, .ref (g.2.1 ka)), (3, .int y3), (4, .int k4), (5, .int y5)] []) : ∀ (n : Nat) (x3 : Int32) (x5 : Int32) (σ : fr_St), L_X5_measure_31 ka n x3 x5 σ = some (y3, y5, τ) → fr_V p l e (fr_rm 2) s m args below meth c g Q 6 σ 31 [(0, .ref (g.2.1 45)), (1, .int k1), (2, .ref (g.2.1 ka)), (3, .int x3), (4, .int k4), (5, .int x5)] [] := by
  intro n
  induction n with
  | zero => intro x3 x5 σ hL; cases hL
  | succ n ih =>
    intro x3 x5 σ hL
    rw [L_X5_measure_31] at hL
    refine sv_iload (i := 5) X dX5_measure_31 rfl ?_
    refine sv_aload_n (i := 0) X dX5_measure_33 rfl rfl ?_
    refine sv_getr X ix_X5 rfl 0 (by decide) rfl rfl fl_X5_11 dX5_measure_34 ?_
    obtain ⟨r3, s2, hc1, hL⟩ := fr_bP_some hL
    refine sv_callVi X (c_X3_roads rfl rfl hc1) cd_X3_roads ml_X5_72 im_X3_roads se_X3_roads in_RX3 hd_X3_roads rfl rfl (by decide) rfl (Nat.le_of_ble_eq_true rfl) dX5_measure_37 rfl ?_
    refine sv_icmp_ge (tgt := 70) X dX5_measure_40 (by decide) (fun h15 => ?_) (fun h15 => ?_)
    · replace hL := fr_pos hL h15
      obtain ⟨rfl, rfl, rfl⟩ := fr_i3 hL
      exact K
    · replace hL := fr_neg hL h15
      refine sv_aload_n (i := 0) X dX5_measure_43 rfl rfl ?_
      refine sv_getr X ix_X5 rfl 2 (by decide) rfl rfl fl_X5_21 dX5_measure_44 ?_
      refine sv_iload (i := 5) X dX5_measure_47 rfl ?_
      obtain ⟨hb4, hL⟩ := fr_chk hL
      refine sv_iald (j := (fr_ix x5)) X rfl hb4 rfl dX5_measure_49 ?_
      refine sv_iconst (v := (-1)) X dX5_measure_50 (by decide) ?_
      obtain ⟨v5, s6, hM7, hL⟩ := fr_bP_some hL
      have K8 : fr_V p l e (fr_rm 2) s m args below meth c g Q 6 s6 64 [(0, .ref (g.2.1 45)), (1, .int k1), (2, .ref (g.2.1 ka)), (3, .int v5), (4, .int k4), (5, .int x5)] [] := by
        obtain ⟨v9, ev9⟩ : ∃ y : Int32, y = x5 + (1 : Int32) := ⟨_, rfl⟩
        replace hL := fr_lete hL ev9
        refine sv_iinc (i := 5) (v := v9) X dX5_measure_64 rfl (by rw [ev9]; rfl) (by decide) rfl ?_
        refine sv_goto (tgt := 31) X dX5_measure_67 (by decide) ?_
        exact sv_perm [1, 2, 3, 4, 5, 0] rfl (ih _ _ _ hL)
      refine sv_icmp_eq (tgt := 64) X dX5_measure_51 (by decide) (fun h14 => ?_) (fun h14 => ?_)
      · replace hM7 := fr_pos hM7 h14
        obtain ⟨rfl, rfl⟩ := fr_i2 hM7
        exact K8
      · replace hM7 := fr_neg hM7 h14
        refine sv_iload_n (i := 3) X dX5_measure_54 rfl rfl ?_
        refine sv_aload_n (i := 0) X dX5_measure_55 rfl rfl ?_
        refine sv_iload (i := 5) X dX5_measure_56 rfl ?_
        refine sv_aload_n (i := 2) X dX5_measure_58 rfl rfl ?_
        obtain ⟨b12, s11, hc10, hM7⟩ := fr_bP_some hM7
        refine sv_callVi X (c_X5_relax hk hc10) cd_X5_relax ml_X5_144 im_X5_relax se_X5_relax in_RX5 hd_X5_relax rfl rfl (by decide) rfl (Nat.le_of_ble_eq_true rfl) dX5_measure_59 rfl ?_
        refine sv_ior X dX5_measure_62 ?_
        refine sv_topi (fun v13 ev13 => ?_)
        replace hM7 := fr_lete hM7 ev13
        refine sv_istore_n X dX5_measure_63 rfl (by decide) rfl ?_
        obtain ⟨rfl, rfl⟩ := fr_i2 hM7
        exact sv_perm [1, 2, 3, 0, 4, 5] rfl K8
def L_X5_measure_15 (ka : Nat) : Nat → Int32 → Int32 → fr_St → Option (Int32 × Int32 × fr_St)
  | 0, _, _, _ => none
  | n + 1, x3, x4, σ => if (8 : Int32) ≤ x4 then (some (x3, x4, σ)) else (if x3 = 0 then (some (x3, x4, σ)) else (fr_bP (L_X5_measure_31 ka fr_fu (0 : Int32) (0 : Int32) σ) (fun v1 q6 => fr_pP q6 (fun v2 s3 => fr_let (x4 + (1 : Int32)) (fun v5 => L_X5_measure_15 ka n v1 v5 s3)))))
set_option maxRecDepth 100000 in
set_option maxHeartbeats 4000000 in
theorem wL_X5_measure_15 {p : Program} {l : Launch} {e : Env} {s : State} {m : MethodId} {args : Array Value} {below : List Frame} {meth : Method} {c : Code} {g : fr_G} {Q : State → Prop} (X : fr_X p s m args meth c g cX5_measure RX5 6) {ka : Nat} (hk : fr_tab[ka]? = some (1, 8, [])) (k1 : Int32) {y3 : Int32} {y4 : Int32} {τ : fr_St} (K : fr_V p l e (fr_rm 2) s m args below meth c g Q 6 τ 76 [(0, .ref (g.2.1 45)), (1, .int k1), (2, .ref (g.2.1 ka)), (3, .int y3), (4, .int y4)] []) : ∀ (n : Nat) (x3 : Int32) (x4 : Int32) (σ : fr_St), L_X5_measure_15 ka n x3 x4 σ = some (y3, y4, τ) → fr_V p l e (fr_rm 2) s m args below meth c g Q 6 σ 15 [(0, .ref (g.2.1 45)), (1, .int k1), (2, .ref (g.2.1 ka)), (3, .int x3), (4, .int x4)] [] := by
  intro n
  induction n with
  | zero => intro x3 x4 σ hL; cases hL
  | succ n ih =>
    intro x3 x4 σ hL
    rw [L_X5_measure_15] at hL
    refine sv_iload (i := 4) X dX5_measure_15 rfl ?_
    refine sv_bipush (v := 8) X dX5_measure_17 (by decide) ?_
    refine sv_icmp_ge (tgt := 76) X dX5_measure_19 (by decide) (fun h8 => ?_) (fun h8 => ?_)
    · replace hL := fr_pos hL h8
      obtain ⟨rfl, rfl, rfl⟩ := fr_i3 hL
      exact K
    · replace hL := fr_neg hL h8
      refine sv_iload_n (i := 3) X dX5_measure_22 rfl rfl ?_
      refine sv_if_eq (tgt := 76) X dX5_measure_23 (by decide) (fun h7 => ?_) (fun h7 => ?_)
      · replace hL := fr_pos hL h7
        obtain ⟨rfl, rfl, rfl⟩ := fr_i3 hL
        exact K
      · replace hL := fr_neg hL h7
        refine sv_iconst (v := 0) X dX5_measure_26 (by decide) ?_
        refine sv_istore_n X dX5_measure_27 rfl (by decide) rfl ?_
        refine sv_iconst (v := 0) X dX5_measure_28 (by decide) ?_
        refine sv_istore X dX5_measure_29 (by decide) rfl ?_
        refine sv_perm [2, 3, 4, 1, 5, 0] rfl ?_
        obtain ⟨v1, ⟨v2, s3⟩, hl4, hL⟩ := fr_bP_some hL
        dsimp only [fr_pP] at hL
        refine wL_X5_measure_31 X hk k1 x4 ?_ fr_fu _ _ _ hl4
        obtain ⟨v5, ev5⟩ : ∃ y : Int32, y = x4 + (1 : Int32) := ⟨_, rfl⟩
        replace hL := fr_lete hL ev5
        refine sv_iinc (i := 4) (v := v5) X dX5_measure_70 rfl (by rw [ev5]; rfl) (by decide) rfl ?_
        refine sv_goto (tgt := 15) X dX5_measure_73 (by decide) ?_
        exact sv_perm [1, 2, 3, 4, 0] rfl (ih _ _ _ hL)
def F_X5_measure (a1 : Int32) (ka : Nat) (σ : fr_St) : Option fr_St := fr_bS (F_J7_fill_53178 ka 8 (1000000 : Int32) σ) (fun s2 => if fr_ib a1 8 = true then fr_let (fr_up s2 ka (fr_ix a1) (0 : Int32)) (fun s4 => fr_bP (L_X5_measure_15 ka fr_fu (1 : Int32) (0 : Int32) s4) (fun v5 q9 => fr_pP q9 (fun v6 s7 => some s7))) else none)
set_option maxRecDepth 100000 in
set_option maxHeartbeats 4000000 in
theorem b_X5_measure {p : Program} {l : Launch} {e : Env} {s : State} {m : MethodId} {args : Array Value} {below : List Frame} {meth : Method} {c : Code} {g : fr_G} {Q : State → Prop} (X : fr_X p s m args meth c g cX5_measure RX5 6) (hr : meth.sig.returnType = (Option.none : Option Jvm.ClassFile.FieldType)) {a1 : Int32} {ka : Nat} (hk : fr_tab[ka]? = some (1, 8, [])) {σ τ : fr_St} (hQ : Q = fr_Qv below args s g τ) (hF : F_X5_measure a1 ka σ = some τ) : fr_V p l e (fr_rm 2) s m args below meth c g Q 6 σ 0 [(0, .ref (g.2.1 45)), (1, .int a1), (2, .ref (g.2.1 ka))] [] := by
  unfold F_X5_measure at hF
  refine sv_aload_n (i := 2) X dX5_measure_0 rfl rfl ?_
  refine sv_ldc X kn_X5_70 dX5_measure_1 ?_
  obtain ⟨s2, hc1, hF⟩ := fr_bS_some hF
  refine sv_callSv X (c_J7_fill_53178 hk hc1) cd_J7_fill_53178 ml_X5_100 sm_J7_fill_53178 in_RJ7 hd_J7_fill_53178 (by decide) rfl (Nat.le_of_ble_eq_true rfl) dX5_measure_3 rfl ?_
  refine sv_aload_n (i := 2) X dX5_measure_6 rfl rfl ?_
  refine sv_iload_n (i := 1) X dX5_measure_7 rfl rfl ?_
  refine sv_iconst (v := 0) X dX5_measure_8 (by decide) ?_
  obtain ⟨hb3, hF⟩ := fr_chk hF
  refine sv_iast (j := (fr_ix a1)) X hk hb3 rfl dX5_measure_9 ?_
  refine sv_sig (fun s4 es4 => ?_)
  replace hF := fr_lete hF es4
  refine sv_iconst (v := 1) X dX5_measure_10 (by decide) ?_
  refine sv_istore_n X dX5_measure_11 rfl (by decide) rfl ?_
  refine sv_iconst (v := 0) X dX5_measure_12 (by decide) ?_
  refine sv_istore X dX5_measure_13 (by decide) rfl ?_
  refine sv_perm [2, 3, 4, 1, 0] rfl ?_
  obtain ⟨v5, ⟨v6, s7⟩, hl8, hF⟩ := fr_bP_some hF
  dsimp only [fr_pP] at hF
  refine wL_X5_measure_15 X hk a1 ?_ fr_fu _ _ _ hl8
  exact sv_vret X hr hQ dX5_measure_76 hF
theorem c_X5_measure {l : Launch} {g : fr_G} {a1 : Int32} {ka : Nat} (hk : fr_tab[ka]? = some (1, 8, [])) {σ τ : fr_St} (hF : F_X5_measure a1 ka σ = some τ) : fr_Cv l g yX5_measure (fr_ws yX5_measure cX5_measure 6 (Option.none : Option Jvm.ClassFile.FieldType)) 2 [.ref (g.2.1 45), .int a1, .ref (g.2.1 ka)] σ τ := fr_mv (by decide) (Nat.le_of_ble_eq_true rfl) (fun p e s m below meth c X hr => b_X5_measure X hr hk rfl hF)
def L_X5_weighOpen_2 (k1 : Int32) : Nat → Int32 → fr_St → Option (Int32 × fr_St)
  | 0, _, _ => none
  | n + 1, x2, σ => fr_bP (F_X3_roads 15 σ) (fun r3 s2 => if r3 ≤ x2 then (some (x2, s2)) else (fr_bP (if ((k1 >>> (x2 &&& 31)) &&& (1 : Int32)) = (1 : Int32) then (fr_bP (F_X3_longOf 15 x2 s2) (fun r13 s12 => some (r13, s12))) else (some ((-1 : Int32), s2))) (fun v4 s5 => if fr_ib x2 9 = true then fr_let (fr_up s5 47 (fr_ix x2) v4) (fun s9 => fr_let (x2 + (1 : Int32)) (fun v10 => L_X5_weighOpen_2 k1 n v10 s9)) else none)))
set_option maxRecDepth 100000 in
set_option maxHeartbeats 4000000 in
theorem wL_X5_weighOpen_2 {p : Program} {l : Launch} {e : Env} {s : State} {m : MethodId} {args : Array Value} {below : List Frame} {meth : Method} {c : Code} {g : fr_G} {Q : State → Prop} (X : fr_X p s m args meth c g cX5_weighOpen RX5 3)  (k1 : Int32) {y2 : Int32} {τ : fr_St} (K : fr_V p l e (fr_rm 1) s m args below meth c g Q 3 τ 46 [(0, .ref (g.2.1 45)), (1, .int k1), (2, .int y2)] []) : ∀ (n : Nat) (x2 : Int32) (σ : fr_St), L_X5_weighOpen_2 k1 n x2 σ = some (y2, τ) → fr_V p l e (fr_rm 1) s m args below meth c g Q 3 σ 2 [(0, .ref (g.2.1 45)), (1, .int k1), (2, .int x2)] [] := by
  intro n
  induction n with
  | zero => intro x2 σ hL; cases hL
  | succ n ih =>
    intro x2 σ hL
    rw [L_X5_weighOpen_2] at hL
    refine sv_iload_n (i := 2) X dX5_weighOpen_2 rfl rfl ?_
    refine sv_aload_n (i := 0) X dX5_weighOpen_3 rfl rfl ?_
    refine sv_getr X ix_X5 rfl 0 (by decide) rfl rfl fl_X5_11 dX5_weighOpen_4 ?_
    obtain ⟨r3, s2, hc1, hL⟩ := fr_bP_some hL
    refine sv_callVi X (c_X3_roads rfl rfl hc1) cd_X3_roads ml_X5_72 im_X3_roads se_X3_roads in_RX3 hd_X3_roads rfl rfl (by decide) rfl (Nat.le_of_ble_eq_true rfl) dX5_weighOpen_7 rfl ?_
    refine sv_icmp_ge (tgt := 46) X dX5_weighOpen_10 (by decide) (fun h15 => ?_) (fun h15 => ?_)
    · replace hL := fr_pos hL h15
      obtain ⟨rfl, rfl⟩ := fr_i2 hL
      exact K
    · replace hL := fr_neg hL h15
      refine sv_aload_n (i := 0) X dX5_weighOpen_13 rfl rfl ?_
      refine sv_getr X ix_X5 rfl 2 (by decide) rfl rfl fl_X5_21 dX5_weighOpen_14 ?_
      refine sv_iload_n (i := 2) X dX5_weighOpen_17 rfl rfl ?_
      refine sv_iload_n (i := 1) X dX5_weighOpen_18 rfl rfl ?_
      refine sv_iload_n (i := 2) X dX5_weighOpen_19 rfl rfl ?_
      refine sv_ishr X dX5_weighOpen_20 ?_
      refine sv_iconst (v := 1) X dX5_weighOpen_21 (by decide) ?_
      refine sv_iand X dX5_weighOpen_22 ?_
      refine sv_iconst (v := 1) X dX5_weighOpen_23 (by decide) ?_
      obtain ⟨v4, s5, hM6, hL⟩ := fr_bP_some hL
      have K7 : fr_V p l e (fr_rm 1) s m args below meth c g Q 3 s5 39 [(0, .ref (g.2.1 45)), (1, .int k1), (2, .int x2)] [.int v4, .int x2, .ref (g.2.1 47)] := by
        obtain ⟨hb8, hL⟩ := fr_chk hL
        refine sv_iast (j := (fr_ix x2)) X rfl hb8 rfl dX5_weighOpen_39 ?_
        refine sv_sig (fun s9 es9 => ?_)
        replace hL := fr_lete hL es9
        obtain ⟨v10, ev10⟩ : ∃ y : Int32, y = x2 + (1 : Int32) := ⟨_, rfl⟩
        replace hL := fr_lete hL ev10
        refine sv_iinc (i := 2) (v := v10) X dX5_weighOpen_40 rfl (by rw [ev10]; rfl) (by decide) rfl ?_
        refine sv_goto (tgt := 2) X dX5_weighOpen_43 (by decide) ?_
        exact sv_perm [1, 2, 0] rfl (ih _ _ hL)
      refine sv_icmp_ne (tgt := 38) X dX5_weighOpen_24 (by decide) (fun h14 => ?_) (fun h14 => ?_)
      · replace hM6 := fr_neg hM6 h14
        refine sv_iconst (v := (-1)) X dX5_weighOpen_38 (by decide) ?_
        obtain ⟨rfl, rfl⟩ := fr_i2 hM6
        exact K7
      · replace hM6 := fr_pos hM6 h14
        refine sv_aload_n (i := 0) X dX5_weighOpen_27 rfl rfl ?_
        refine sv_getr X ix_X5 rfl 0 (by decide) rfl rfl fl_X5_11 dX5_weighOpen_28 ?_
        refine sv_iload_n (i := 2) X dX5_weighOpen_31 rfl rfl ?_
        obtain ⟨r13, s12, hc11, hM6⟩ := fr_bP_some hM6
        refine sv_callVi X (c_X3_longOf rfl rfl hc11) cd_X3_longOf ml_X5_141 im_X3_longOf se_X3_longOf in_RX3 hd_X3_longOf rfl rfl (by decide) rfl (Nat.le_of_ble_eq_true rfl) dX5_weighOpen_32 rfl ?_
        refine sv_goto (tgt := 39) X dX5_weighOpen_35 (by decide) ?_
        obtain ⟨rfl, rfl⟩ := fr_i2 hM6
        exact K7
def F_X5_weighOpen (a1 : Int32) (σ : fr_St) : Option fr_St := fr_bP (L_X5_weighOpen_2 a1 fr_fu (0 : Int32) σ) (fun v1 s2 => some s2)
set_option maxRecDepth 100000 in
set_option maxHeartbeats 4000000 in
theorem b_X5_weighOpen {p : Program} {l : Launch} {e : Env} {s : State} {m : MethodId} {args : Array Value} {below : List Frame} {meth : Method} {c : Code} {g : fr_G} {Q : State → Prop} (X : fr_X p s m args meth c g cX5_weighOpen RX5 3) (hr : meth.sig.returnType = (Option.none : Option Jvm.ClassFile.FieldType)) {a1 : Int32}  {σ τ : fr_St} (hQ : Q = fr_Qv below args s g τ) (hF : F_X5_weighOpen a1 σ = some τ) : fr_V p l e (fr_rm 1) s m args below meth c g Q 3 σ 0 [(0, .ref (g.2.1 45)), (1, .int a1)] [] := by
  unfold F_X5_weighOpen at hF
  refine sv_iconst (v := 0) X dX5_weighOpen_0 (by decide) ?_
  refine sv_istore_n X dX5_weighOpen_1 rfl (by decide) rfl ?_
  refine sv_perm [1, 2, 0] rfl ?_
  obtain ⟨v1, s2, hl3, hF⟩ := fr_bP_some hF
  refine wL_X5_weighOpen_2 X  a1 ?_ fr_fu _ _ hl3
  exact sv_vret X hr hQ dX5_weighOpen_46 hF
theorem c_X5_weighOpen {l : Launch} {g : fr_G} {a1 : Int32}  {σ τ : fr_St} (hF : F_X5_weighOpen a1 σ = some τ) : fr_Cv l g yX5_weighOpen (fr_ws yX5_weighOpen cX5_weighOpen 3 (Option.none : Option Jvm.ClassFile.FieldType)) 1 [.ref (g.2.1 45), .int a1] σ τ := fr_mv (by decide) (Nat.le_of_ble_eq_true rfl) (fun p e s m below meth c X hr => b_X5_weighOpen X hr  rfl hF)
def F_X5_measureWays (a1 : Int32) (ka : Nat) (σ : fr_St) : Option fr_St := fr_bP (F_X3_roadsOpenTo 15 a1 σ) (fun r3 s2 => fr_bS (F_X5_weighOpen r3 s2) (fun s5 => fr_bP (F_X3_placeOf 15 a1 s5) (fun r8 s7 => fr_bS (F_X5_measure r8 ka s7) (fun s10 => some s10))))
set_option maxRecDepth 100000 in
set_option maxHeartbeats 4000000 in
theorem b_X5_measureWays {p : Program} {l : Launch} {e : Env} {s : State} {m : MethodId} {args : Array Value} {below : List Frame} {meth : Method} {c : Code} {g : fr_G} {Q : State → Prop} (X : fr_X p s m args meth c g cX5_measureWays RX5 3) (hr : meth.sig.returnType = (Option.none : Option Jvm.ClassFile.FieldType)) {a1 : Int32} {ka : Nat} (hk : fr_tab[ka]? = some (1, 8, [])) {σ τ : fr_St} (hQ : Q = fr_Qv below args s g τ) (hF : F_X5_measureWays a1 ka σ = some τ) : fr_V p l e (fr_rm 4) s m args below meth c g Q 3 σ 0 [(0, .ref (g.2.1 45)), (1, .int a1), (2, .ref (g.2.1 ka))] [] := by
  unfold F_X5_measureWays at hF
  refine sv_aload_n (i := 0) X dX5_measureWays_0 rfl rfl ?_
  refine sv_aload_n (i := 0) X dX5_measureWays_1 rfl rfl ?_
  refine sv_getr X ix_X5 rfl 0 (by decide) rfl rfl fl_X5_11 dX5_measureWays_2 ?_
  refine sv_iload_n (i := 1) X dX5_measureWays_5 rfl rfl ?_
  obtain ⟨r3, s2, hc1, hF⟩ := fr_bP_some hF
  refine sv_callVi X (c_X3_roadsOpenTo rfl rfl hc1) cd_X3_roadsOpenTo ml_X5_46 im_X3_roadsOpenTo se_X3_roadsOpenTo in_RX3 hd_X3_roadsOpenTo rfl rfl (by decide) rfl (Nat.le_of_ble_eq_true rfl) dX5_measureWays_6 rfl ?_
  obtain ⟨s5, hc4, hF⟩ := fr_bS_some hF
  refine sv_callVv X (c_X5_weighOpen hc4) cd_X5_weighOpen ml_X5_60 im_X5_weighOpen se_X5_weighOpen in_RX5 hd_X5_weighOpen rfl rfl (by decide) rfl (Nat.le_of_ble_eq_true rfl) dX5_measureWays_9 rfl ?_
  refine sv_aload_n (i := 0) X dX5_measureWays_12 rfl rfl ?_
  refine sv_aload_n (i := 0) X dX5_measureWays_13 rfl rfl ?_
  refine sv_getr X ix_X5 rfl 0 (by decide) rfl rfl fl_X5_11 dX5_measureWays_14 ?_
  refine sv_iload_n (i := 1) X dX5_measureWays_17 rfl rfl ?_
  obtain ⟨r8, s7, hc6, hF⟩ := fr_bP_some hF
  refine sv_callVi X (c_X3_placeOf rfl rfl hc6) cd_X3_placeOf ml_X5_42 im_X3_placeOf se_X3_placeOf in_RX3 hd_X3_placeOf rfl rfl (by decide) rfl (Nat.le_of_ble_eq_true rfl) dX5_measureWays_18 rfl ?_
  refine sv_aload_n (i := 2) X dX5_measureWays_21 rfl rfl ?_
  obtain ⟨s10, hc9, hF⟩ := fr_bS_some hF
  refine sv_callVv X (c_X5_measure hk hc9) cd_X5_measure ml_X5_64 im_X5_measure se_X5_measure in_RX5 hd_X5_measure rfl rfl (by decide) rfl (Nat.le_of_ble_eq_true rfl) dX5_measureWays_22 rfl ?_
  exact sv_vret X hr hQ dX5_measureWays_25 hF
theorem c_X5_measureWays {l : Launch} {g : fr_G} {a1 : Int32} {ka : Nat} (hk : fr_tab[ka]? = some (1, 8, [])) {σ τ : fr_St} (hF : F_X5_measureWays a1 ka σ = some τ) : fr_Cv l g yX5_measureWays (fr_ws yX5_measureWays cX5_measureWays 3 (Option.none : Option Jvm.ClassFile.FieldType)) 4 [.ref (g.2.1 45), .int a1, .ref (g.2.1 ka)] σ τ := fr_mv (by decide) (Nat.le_of_ble_eq_true rfl) (fun p e s m below meth c X hr => b_X5_measureWays X hr hk rfl hF)
def F_X5_noneIfFar (a1 : Int32) (σ : fr_St) : Option (Int32 × fr_St) := fr_bS (if a1 < (1000000 : Int32) then (some (a1)) else (some ((-1000000 : Int32)))) (fun v1 => some (v1, σ))
set_option maxRecDepth 100000 in
set_option maxHeartbeats 4000000 in
theorem b_X5_noneIfFar {p : Program} {l : Launch} {e : Env} {s : State} {m : MethodId} {args : Array Value} {below : List Frame} {meth : Method} {c : Code} {g : fr_G} {Q : State → Prop} (X : fr_X p s m args meth c g cX5_noneIfFar RX5 1) (hr : meth.sig.returnType = (some .int)) {a1 : Int32}  {σ τ : fr_St} {r : Int32} (hQ : Q = fr_Qi below args s g r τ) (hF : F_X5_noneIfFar a1 σ = some (r, τ)) : fr_V p l e (fr_rm 0) s m args below meth c g Q 1 σ 0 [(0, .int a1)] [] := by
  unfold F_X5_noneIfFar at hF
  refine sv_iload_n (i := 0) X dX5_noneIfFar_0 rfl rfl ?_
  refine sv_ldc X kn_X5_70 dX5_noneIfFar_1 ?_
  obtain ⟨v1, hM2, hF⟩ := fr_bS_some hF
  have K3 : fr_V p l e (fr_rm 0) s m args below meth c g Q 1 σ 12 [(0, .int a1)] [.int v1] := by
    exact sv_iret X hr hQ dX5_noneIfFar_12 hF
  refine sv_icmp_lt (tgt := 11) X dX5_noneIfFar_3 (by decide) (fun h4 => ?_) (fun h4 => ?_)
  · replace hM2 := fr_pos hM2 h4
    refine sv_iload_n (i := 0) X dX5_noneIfFar_11 rfl rfl ?_
    obtain rfl := fr_i1 hM2
    exact K3
  · replace hM2 := fr_neg hM2 h4
    refine sv_ldc X kn_X5_71 dX5_noneIfFar_6 ?_
    refine sv_goto (tgt := 12) X dX5_noneIfFar_8 (by decide) ?_
    obtain rfl := fr_i1 hM2
    exact K3
theorem c_X5_noneIfFar {l : Launch} {g : fr_G} {a1 : Int32}  {σ τ : fr_St} {r : Int32} (hF : F_X5_noneIfFar a1 σ = some (r, τ)) : fr_Ci l g yX5_noneIfFar (fr_ws yX5_noneIfFar cX5_noneIfFar 1 (some .int)) 0 [.int a1] σ r τ := fr_mi (by decide) (Nat.le_of_ble_eq_true rfl) (fun p e s m below meth c X hr => b_X5_noneIfFar X hr  rfl hF)
def F_X5_wayTo (a1 : Int32) (a2 : Int32) (σ : fr_St) : Option (Int32 × fr_St) := fr_bS (F_X5_measureWays a1 48 σ) (fun s2 => if fr_ib a2 8 = true then fr_bP (F_X5_noneIfFar (s2 48 (fr_ix a2)) s2) (fun r6 s5 => some (r6, s5)) else none)
set_option maxRecDepth 100000 in
set_option maxHeartbeats 4000000 in
theorem b_X5_wayTo {p : Program} {l : Launch} {e : Env} {s : State} {m : MethodId} {args : Array Value} {below : List Frame} {meth : Method} {c : Code} {g : fr_G} {Q : State → Prop} (X : fr_X p s m args meth c g cX5_wayTo RX5 3) (hr : meth.sig.returnType = (some .int)) {a1 : Int32} {a2 : Int32}  {σ τ : fr_St} {r : Int32} (hQ : Q = fr_Qi below args s g r τ) (hF : F_X5_wayTo a1 a2 σ = some (r, τ)) : fr_V p l e (fr_rm 5) s m args below meth c g Q 3 σ 0 [(0, .ref (g.2.1 45)), (1, .int a1), (2, .int a2)] [] := by
  unfold F_X5_wayTo at hF
  refine sv_aload_n (i := 0) X dX5_wayTo_0 rfl rfl ?_
  refine sv_iload_n (i := 1) X dX5_wayTo_1 rfl rfl ?_
  refine sv_aload_n (i := 0) X dX5_wayTo_2 rfl rfl ?_
  refine sv_getr X ix_X5 rfl 3 (by decide) rfl rfl fl_X5_24 dX5_wayTo_3 ?_
  obtain ⟨s2, hc1, hF⟩ := fr_bS_some hF
  refine sv_callVv X (c_X5_measureWays rfl hc1) cd_X5_measureWays ml_X5_53 im_X5_measureWays se_X5_measureWays in_RX5 hd_X5_measureWays rfl rfl (by decide) rfl (Nat.le_of_ble_eq_true rfl) dX5_wayTo_6 rfl ?_
  refine sv_aload_n (i := 0) X dX5_wayTo_9 rfl rfl ?_
  refine sv_getr X ix_X5 rfl 3 (by decide) rfl rfl fl_X5_24 dX5_wayTo_10 ?_
  refine sv_iload_n (i := 2) X dX5_wayTo_13 rfl rfl ?_
  obtain ⟨hb3, hF⟩ := fr_chk hF
  refine sv_iald (j := (fr_ix a2)) X rfl hb3 rfl dX5_wayTo_14 ?_
  obtain ⟨r6, s5, hc4, hF⟩ := fr_bP_some hF
  refine sv_callSi X (c_X5_noneIfFar hc4) cd_X5_noneIfFar ml_X5_57 sm_X5_noneIfFar in_RX5 hd_X5_noneIfFar (by decide) rfl (Nat.le_of_ble_eq_true rfl) dX5_wayTo_15 rfl ?_
  exact sv_iret X hr hQ dX5_wayTo_18 hF
theorem c_X5_wayTo {l : Launch} {g : fr_G} {a1 : Int32} {a2 : Int32}  {σ τ : fr_St} {r : Int32} (hF : F_X5_wayTo a1 a2 σ = some (r, τ)) : fr_Ci l g yX5_wayTo (fr_ws yX5_wayTo cX5_wayTo 3 (some .int)) 5 [.ref (g.2.1 45), .int a1, .int a2] σ r τ := fr_mi (by decide) (Nat.le_of_ble_eq_true rfl) (fun p e s m below meth c X hr => b_X5_wayTo X hr  rfl hF)
def F_X5_ledTo (a1 : Int32) (a2 : Int32) (a3 : Int32) (σ : fr_St) : Option (Int32 × fr_St) := fr_bP (F_X3_roadsOpenTo 15 a1 σ) (fun r3 s2 => fr_bP (F_X3_roadsOpenTo 15 a2 s2) (fun r6 s5 => fr_bS (F_X5_weighOpen (r3 ||| r6) s5) (fun s8 => fr_bP (F_X3_placeOf 15 a1 s8) (fun r11 s10 => fr_bS (F_X5_measure r11 48 s10) (fun s13 => if fr_ib a3 8 = true then fr_bP (F_X5_noneIfFar (s13 48 (fr_ix a3)) s13) (fun r17 s16 => some (r17, s16)) else none)))))
set_option maxRecDepth 100000 in
set_option maxHeartbeats 4000000 in
theorem b_X5_ledTo {p : Program} {l : Launch} {e : Env} {s : State} {m : MethodId} {args : Array Value} {below : List Frame} {meth : Method} {c : Code} {g : fr_G} {Q : State → Prop} (X : fr_X p s m args meth c g cX5_ledTo RX5 4) (hr : meth.sig.returnType = (some .int)) {a1 : Int32} {a2 : Int32} {a3 : Int32}  {σ τ : fr_St} {r : Int32} (hQ : Q = fr_Qi below args s g r τ) (hF : F_X5_ledTo a1 a2 a3 σ = some (r, τ)) : fr_V p l e (fr_rm 4) s m args below meth c g Q 4 σ 0 [(0, .ref (g.2.1 45)), (1, .int a1), (2, .int a2), (3, .int a3)] [] := by
  unfold F_X5_ledTo at hF
  refine sv_aload_n (i := 0) X dX5_ledTo_0 rfl rfl ?_
  refine sv_aload_n (i := 0) X dX5_ledTo_1 rfl rfl ?_
  refine sv_getr X ix_X5 rfl 0 (by decide) rfl rfl fl_X5_11 dX5_ledTo_2 ?_
  refine sv_iload_n (i := 1) X dX5_ledTo_5 rfl rfl ?_
  obtain ⟨r3, s2, hc1, hF⟩ := fr_bP_some hF
  refine sv_callVi X (c_X3_roadsOpenTo rfl rfl hc1) cd_X3_roadsOpenTo ml_X5_46 im_X3_roadsOpenTo se_X3_roadsOpenTo in_RX3 hd_X3_roadsOpenTo rfl rfl (by decide) rfl (Nat.le_of_ble_eq_true rfl) dX5_ledTo_6 rfl ?_
  refine sv_aload_n (i := 0) X dX5_ledTo_9 rfl rfl ?_
  refine sv_getr X ix_X5 rfl 0 (by decide) rfl rfl fl_X5_11 dX5_ledTo_10 ?_
  refine sv_iload_n (i := 2) X dX5_ledTo_13 rfl rfl ?_
  obtain ⟨r6, s5, hc4, hF⟩ := fr_bP_some hF
  refine sv_callVi X (c_X3_roadsOpenTo rfl rfl hc4) cd_X3_roadsOpenTo ml_X5_46 im_X3_roadsOpenTo se_X3_roadsOpenTo in_RX3 hd_X3_roadsOpenTo rfl rfl (by decide) rfl (Nat.le_of_ble_eq_true rfl) dX5_ledTo_14 rfl ?_
  refine sv_ior X dX5_ledTo_17 ?_
  obtain ⟨s8, hc7, hF⟩ := fr_bS_some hF
  refine sv_callVv X (c_X5_weighOpen hc7) cd_X5_weighOpen ml_X5_60 im_X5_weighOpen se_X5_weighOpen in_RX5 hd_X5_weighOpen rfl rfl (by decide) rfl (Nat.le_of_ble_eq_true rfl) dX5_ledTo_18 rfl ?_
  refine sv_aload_n (i := 0) X dX5_ledTo_21 rfl rfl ?_
  refine sv_aload_n (i := 0) X dX5_ledTo_22 rfl rfl ?_
  refine sv_getr X ix_X5 rfl 0 (by decide) rfl rfl fl_X5_11 dX5_ledTo_23 ?_
  refine sv_iload_n (i := 1) X dX5_ledTo_26 rfl rfl ?_
  obtain ⟨r11, s10, hc9, hF⟩ := fr_bP_some hF
  refine sv_callVi X (c_X3_placeOf rfl rfl hc9) cd_X3_placeOf ml_X5_42 im_X3_placeOf se_X3_placeOf in_RX3 hd_X3_placeOf rfl rfl (by decide) rfl (Nat.le_of_ble_eq_true rfl) dX5_ledTo_27 rfl ?_
  refine sv_aload_n (i := 0) X dX5_ledTo_30 rfl rfl ?_
  refine sv_getr X ix_X5 rfl 3 (by decide) rfl rfl fl_X5_24 dX5_ledTo_31 ?_
  obtain ⟨s13, hc12, hF⟩ := fr_bS_some hF
  refine sv_callVv X (c_X5_measure rfl hc12) cd_X5_measure ml_X5_64 im_X5_measure se_X5_measure in_RX5 hd_X5_measure rfl rfl (by decide) rfl (Nat.le_of_ble_eq_true rfl) dX5_ledTo_34 rfl ?_
  refine sv_aload_n (i := 0) X dX5_ledTo_37 rfl rfl ?_
  refine sv_getr X ix_X5 rfl 3 (by decide) rfl rfl fl_X5_24 dX5_ledTo_38 ?_
  refine sv_iload_n (i := 3) X dX5_ledTo_41 rfl rfl ?_
  obtain ⟨hb14, hF⟩ := fr_chk hF
  refine sv_iald (j := (fr_ix a3)) X rfl hb14 rfl dX5_ledTo_42 ?_
  obtain ⟨r17, s16, hc15, hF⟩ := fr_bP_some hF
  refine sv_callSi X (c_X5_noneIfFar hc15) cd_X5_noneIfFar ml_X5_57 sm_X5_noneIfFar in_RX5 hd_X5_noneIfFar (by decide) rfl (Nat.le_of_ble_eq_true rfl) dX5_ledTo_43 rfl ?_
  exact sv_iret X hr hQ dX5_ledTo_46 hF
theorem c_X5_ledTo {l : Launch} {g : fr_G} {a1 : Int32} {a2 : Int32} {a3 : Int32}  {σ τ : fr_St} {r : Int32} (hF : F_X5_ledTo a1 a2 a3 σ = some (r, τ)) : fr_Ci l g yX5_ledTo (fr_ws yX5_ledTo cX5_ledTo 4 (some .int)) 4 [.ref (g.2.1 45), .int a1, .int a2, .int a3] σ r τ := fr_mi (by decide) (Nat.le_of_ble_eq_true rfl) (fun p e s m below meth c X hr => b_X5_ledTo X hr  rfl hF)
def L_X5_weighIntroductions_2 (k1 : Int32) : Nat → Int32 → fr_St → Option (Int32 × fr_St)
  | 0, _, _ => none
  | n + 1, x2, σ => fr_bP (F_X3_roads 15 σ) (fun r3 s2 => if r3 ≤ x2 then (some (x2, s2)) else (fr_bP (F_X3_longOf 15 x2 s2) (fun r6 s5 => fr_bS (if ((k1 >>> (x2 &&& 31)) &&& (1 : Int32)) = (1 : Int32) then (some ((0 : Int32))) else (some ((1000 : Int32)))) (fun v7 => if fr_ib x2 9 = true then fr_let (fr_up s5 47 (fr_ix x2) (r6 + v7)) (fun s11 => fr_let (x2 + (1 : Int32)) (fun v12 => L_X5_weighIntroductions_2 k1 n v12 s11)) else none))))
set_option maxRecDepth 100000 in
set_option maxHeartbeats 4000000 in
theorem wL_X5_weighIntroductions_2 {p : Program} {l : Launch} {e : Env} {s : State} {m : MethodId} {args : Array Value} {below : List Frame} {meth : Method} {c : Code} {g : fr_G} {Q : State → Prop} (X : fr_X p s m args meth c g cX5_weighIntroductions RX5 3)  (k1 : Int32) {y2 : Int32} {τ : fr_St} (K : fr_V p l e (fr_rm 1) s m args below meth c g Q 3 τ 50 [(0, .ref (g.2.1 45)), (1, .int k1), (2, .int y2)] []) : ∀ (n : Nat) (x2 : Int32) (σ : fr_St), L_X5_weighIntroductions_2 k1 n x2 σ = some (y2, τ) → fr_V p l e (fr_rm 1) s m args below meth c g Q 3 σ 2 [(0, .ref (g.2.1 45)), (1, .int k1), (2, .int x2)] [] := by
  intro n
  induction n with
  | zero => intro x2 σ hL; cases hL
  | succ n ih =>
    intro x2 σ hL
    rw [L_X5_weighIntroductions_2] at hL
    refine sv_iload_n (i := 2) X dX5_weighIntroductions_2 rfl rfl ?_
    refine sv_aload_n (i := 0) X dX5_weighIntroductions_3 rfl rfl ?_
    refine sv_getr X ix_X5 rfl 0 (by decide) rfl rfl fl_X5_11 dX5_weighIntroductions_4 ?_
    obtain ⟨r3, s2, hc1, hL⟩ := fr_bP_some hL
    refine sv_callVi X (c_X3_roads rfl rfl hc1) cd_X3_roads ml_X5_72 im_X3_roads se_X3_roads in_RX3 hd_X3_roads rfl rfl (by decide) rfl (Nat.le_of_ble_eq_true rfl) dX5_weighIntroductions_7 rfl ?_
    refine sv_icmp_ge (tgt := 50) X dX5_weighIntroductions_10 (by decide) (fun h14 => ?_) (fun h14 => ?_)
    · replace hL := fr_pos hL h14
      obtain ⟨rfl, rfl⟩ := fr_i2 hL
      exact K
    · replace hL := fr_neg hL h14
      refine sv_aload_n (i := 0) X dX5_weighIntroductions_13 rfl rfl ?_
      refine sv_getr X ix_X5 rfl 2 (by decide) rfl rfl fl_X5_21 dX5_weighIntroductions_14 ?_
      refine sv_iload_n (i := 2) X dX5_weighIntroductions_17 rfl rfl ?_
      refine sv_aload_n (i := 0) X dX5_weighIntroductions_18 rfl rfl ?_
      refine sv_getr X ix_X5 rfl 0 (by decide) rfl rfl fl_X5_11 dX5_weighIntroductions_19 ?_
      refine sv_iload_n (i := 2) X dX5_weighIntroductions_22 rfl rfl ?_
      obtain ⟨r6, s5, hc4, hL⟩ := fr_bP_some hL
      refine sv_callVi X (c_X3_longOf rfl rfl hc4) cd_X3_longOf ml_X5_141 im_X3_longOf se_X3_longOf in_RX3 hd_X3_longOf rfl rfl (by decide) rfl (Nat.le_of_ble_eq_true rfl) dX5_weighIntroductions_23 rfl ?_
      refine sv_iload_n (i := 1) X dX5_weighIntroductions_26 rfl rfl ?_
      refine sv_iload_n (i := 2) X dX5_weighIntroductions_27 rfl rfl ?_
      refine sv_ishr X dX5_weighIntroductions_28 ?_
      refine sv_iconst (v := 1) X dX5_weighIntroductions_29 (by decide) ?_
      refine sv_iand X dX5_weighIntroductions_30 ?_
      refine sv_iconst (v := 1) X dX5_weighIntroductions_31 (by decide) ?_
      obtain ⟨v7, hM8, hL⟩ := fr_bS_some hL
      have K9 : fr_V p l e (fr_rm 1) s m args below meth c g Q 3 s5 42 [(0, .ref (g.2.1 45)), (1, .int k1), (2, .int x2)] [.int v7, .int r6, .int x2, .ref (g.2.1 47)] := by
        refine sv_iadd X dX5_weighIntroductions_42 ?_
        obtain ⟨hb10, hL⟩ := fr_chk hL
        refine sv_iast (j := (fr_ix x2)) X rfl hb10 rfl dX5_weighIntroductions_43 ?_
        refine sv_sig (fun s11 es11 => ?_)
        replace hL := fr_lete hL es11
        obtain ⟨v12, ev12⟩ : ∃ y : Int32, y = x2 + (1 : Int32) := ⟨_, rfl⟩
        replace hL := fr_lete hL ev12
        refine sv_iinc (i := 2) (v := v12) X dX5_weighIntroductions_44 rfl (by rw [ev12]; rfl) (by decide) rfl ?_
        refine sv_goto (tgt := 2) X dX5_weighIntroductions_47 (by decide) ?_
        exact sv_perm [1, 2, 0] rfl (ih _ _ hL)
      refine sv_icmp_ne (tgt := 39) X dX5_weighIntroductions_32 (by decide) (fun h13 => ?_) (fun h13 => ?_)
      · replace hM8 := fr_neg hM8 h13
        refine sv_sipush (v := 1000) X dX5_weighIntroductions_39 (by decide) ?_
        obtain rfl := fr_i1 hM8
        exact K9
      · replace hM8 := fr_pos hM8 h13
        refine sv_iconst (v := 0) X dX5_weighIntroductions_35 (by decide) ?_
        refine sv_goto (tgt := 42) X dX5_weighIntroductions_36 (by decide) ?_
        obtain rfl := fr_i1 hM8
        exact K9
def F_X5_weighIntroductions (a1 : Int32) (σ : fr_St) : Option fr_St := fr_bP (L_X5_weighIntroductions_2 a1 fr_fu (0 : Int32) σ) (fun v1 s2 => some s2)
set_option maxRecDepth 100000 in
set_option maxHeartbeats 4000000 in
theorem b_X5_weighIntroductions {p : Program} {l : Launch} {e : Env} {s : State} {m : MethodId} {args : Array Value} {below : List Frame} {meth : Method} {c : Code} {g : fr_G} {Q : State → Prop} (X : fr_X p s m args meth c g cX5_weighIntroductions RX5 3) (hr : meth.sig.returnType = (Option.none : Option Jvm.ClassFile.FieldType)) {a1 : Int32}  {σ τ : fr_St} (hQ : Q = fr_Qv below args s g τ) (hF : F_X5_weighIntroductions a1 σ = some τ) : fr_V p l e (fr_rm 1) s m args below meth c g Q 3 σ 0 [(0, .ref (g.2.1 45)), (1, .int a1)] [] := by
  unfold F_X5_weighIntroductions at hF
  refine sv_iconst (v := 0) X dX5_weighIntroductions_0 (by decide) ?_
  refine sv_istore_n X dX5_weighIntroductions_1 rfl (by decide) rfl ?_
  refine sv_perm [1, 2, 0] rfl ?_
  obtain ⟨v1, s2, hl3, hF⟩ := fr_bP_some hF
  refine wL_X5_weighIntroductions_2 X  a1 ?_ fr_fu _ _ hl3
  exact sv_vret X hr hQ dX5_weighIntroductions_50 hF
theorem c_X5_weighIntroductions {l : Launch} {g : fr_G} {a1 : Int32}  {σ τ : fr_St} (hF : F_X5_weighIntroductions a1 σ = some τ) : fr_Cv l g yX5_weighIntroductions (fr_ws yX5_weighIntroductions cX5_weighIntroductions 3 (Option.none : Option Jvm.ClassFile.FieldType)) 1 [.ref (g.2.1 45), .int a1] σ τ := fr_mv (by decide) (Nat.le_of_ble_eq_true rfl) (fun p e s m below meth c X hr => b_X5_weighIntroductions X hr  rfl hF)
def F_X5_introducedTo (a1 : Int32) (a2 : Int32) (a3 : Int32) (σ : fr_St) : Option (Int32 × fr_St) := fr_bP (F_X3_roadsOpenTo 15 a1 σ) (fun r3 s2 => fr_bS (F_X5_weighIntroductions r3 s2) (fun s5 => fr_bP (F_X3_placeOf 15 a1 s5) (fun r8 s7 => fr_bS (F_X5_measure r8 48 s7) (fun s10 => if fr_ib a2 8 = true then if (s10 48 (fr_ix a2)) < (1000000 : Int32) then (fr_bS (if a3 = 0 then (if fr_ib a2 8 = true then some (((s10 48 (fr_ix a2)) / (1000 : Int32))) else none) else (if fr_ib a2 8 = true then some (((s10 48 (fr_ix a2)) - (s10 48 (fr_ix a2)) / (1000 : Int32) * (1000 : Int32))) else none)) (fun v12 => some (v12, s10))) else (some ((-1000000 : Int32), s10)) else none))))
set_option maxRecDepth 100000 in
set_option maxHeartbeats 4000000 in
theorem b_X5_introducedTo {p : Program} {l : Launch} {e : Env} {s : State} {m : MethodId} {args : Array Value} {below : List Frame} {meth : Method} {c : Code} {g : fr_G} {Q : State → Prop} (X : fr_X p s m args meth c g cX5_introducedTo RX5 4) (hr : meth.sig.returnType = (some .int)) {a1 : Int32} {a2 : Int32} {a3 : Int32}  {σ τ : fr_St} {r : Int32} (hQ : Q = fr_Qi below args s g r τ) (hF : F_X5_introducedTo a1 a2 a3 σ = some (r, τ)) : fr_V p l e (fr_rm 4) s m args below meth c g Q 4 σ 0 [(0, .ref (g.2.1 45)), (1, .int a1), (2, .int a2), (3, .int a3)] [] := by
  unfold F_X5_introducedTo at hF
  refine sv_aload_n (i := 0) X dX5_introducedTo_0 rfl rfl ?_
  refine sv_aload_n (i := 0) X dX5_introducedTo_1 rfl rfl ?_
  refine sv_getr X ix_X5 rfl 0 (by decide) rfl rfl fl_X5_11 dX5_introducedTo_2 ?_
  refine sv_iload_n (i := 1) X dX5_introducedTo_5 rfl rfl ?_
  obtain ⟨r3, s2, hc1, hF⟩ := fr_bP_some hF
  refine sv_callVi X (c_X3_roadsOpenTo rfl rfl hc1) cd_X3_roadsOpenTo ml_X5_46 im_X3_roadsOpenTo se_X3_roadsOpenTo in_RX3 hd_X3_roadsOpenTo rfl rfl (by decide) rfl (Nat.le_of_ble_eq_true rfl) dX5_introducedTo_6 rfl ?_
  obtain ⟨s5, hc4, hF⟩ := fr_bS_some hF
  refine sv_callVv X (c_X5_weighIntroductions hc4) cd_X5_weighIntroductions ml_X5_67 im_X5_weighIntroductions se_X5_weighIntroductions in_RX5 hd_X5_weighIntroductions rfl rfl (by decide) rfl (Nat.le_of_ble_eq_true rfl) dX5_introducedTo_9 rfl ?_
  refine sv_aload_n (i := 0) X dX5_introducedTo_12 rfl rfl ?_
  refine sv_aload_n (i := 0) X dX5_introducedTo_13 rfl rfl ?_
  refine sv_getr X ix_X5 rfl 0 (by decide) rfl rfl fl_X5_11 dX5_introducedTo_14 ?_
  refine sv_iload_n (i := 1) X dX5_introducedTo_17 rfl rfl ?_
  obtain ⟨r8, s7, hc6, hF⟩ := fr_bP_some hF
  refine sv_callVi X (c_X3_placeOf rfl rfl hc6) cd_X3_placeOf ml_X5_42 im_X3_placeOf se_X3_placeOf in_RX3 hd_X3_placeOf rfl rfl (by decide) rfl (Nat.le_of_ble_eq_true rfl) dX5_introducedTo_18 rfl ?_
  refine sv_aload_n (i := 0) X dX5_introducedTo_21 rfl rfl ?_
  refine sv_getr X ix_X5 rfl 3 (by decide) rfl rfl fl_X5_24 dX5_introducedTo_22 ?_
  obtain ⟨s10, hc9, hF⟩ := fr_bS_some hF
  refine sv_callVv X (c_X5_measure rfl hc9) cd_X5_measure ml_X5_64 im_X5_measure se_X5_measure in_RX5 hd_X5_measure rfl rfl (by decide) rfl (Nat.le_of_ble_eq_true rfl) dX5_introducedTo_25 rfl ?_
  refine sv_aload_n (i := 0) X dX5_introducedTo_28 rfl rfl ?_
  refine sv_getr X ix_X5 rfl 3 (by decide) rfl rfl fl_X5_24 dX5_introducedTo_29 ?_
  refine sv_iload_n (i := 2) X dX5_introducedTo_32 rfl rfl ?_
  obtain ⟨hb11, hF⟩ := fr_chk hF
  refine sv_iald (j := (fr_ix a2)) X rfl hb11 rfl dX5_introducedTo_33 ?_
  refine sv_ldc X kn_X5_70 dX5_introducedTo_34 ?_
  refine sv_icmp_lt (tgt := 42) X dX5_introducedTo_36 (by decide) (fun h18 => ?_) (fun h18 => ?_)
  · replace hF := fr_pos hF h18
    refine sv_iload_n (i := 3) X dX5_introducedTo_42 rfl rfl ?_
    obtain ⟨v12, hM13, hF⟩ := fr_bS_some hF
    have K14 : fr_V p l e (fr_rm 4) s m args below meth c g Q 4 s10 69 [(0, .ref (g.2.1 45)), (1, .int a1), (2, .int a2), (3, .int a3)] [.int v12] := by
      exact sv_iret X hr hQ dX5_introducedTo_69 hF
    refine sv_if_ne (tgt := 59) X dX5_introducedTo_43 (by decide) (fun h17 => ?_) (fun h17 => ?_)
    · replace hM13 := fr_neg hM13 h17
      refine sv_aload_n (i := 0) X dX5_introducedTo_59 rfl rfl ?_
      refine sv_getr X ix_X5 rfl 3 (by decide) rfl rfl fl_X5_24 dX5_introducedTo_60 ?_
      refine sv_iload_n (i := 2) X dX5_introducedTo_63 rfl rfl ?_
      obtain ⟨hb15, hM13⟩ := fr_chk hM13
      refine sv_iald (j := (fr_ix a2)) X rfl hb15 rfl dX5_introducedTo_64 ?_
      refine sv_sipush (v := 1000) X dX5_introducedTo_65 (by decide) ?_
      refine sv_irem X dX5_introducedTo_68 (by decide) ?_
      obtain rfl := fr_i1 hM13
      exact K14
    · replace hM13 := fr_pos hM13 h17
      refine sv_aload_n (i := 0) X dX5_introducedTo_46 rfl rfl ?_
      refine sv_getr X ix_X5 rfl 3 (by decide) rfl rfl fl_X5_24 dX5_introducedTo_47 ?_
      refine sv_iload_n (i := 2) X dX5_introducedTo_50 rfl rfl ?_
      obtain ⟨hb16, hM13⟩ := fr_chk hM13
      refine sv_iald (j := (fr_ix a2)) X rfl hb16 rfl dX5_introducedTo_51 ?_
      refine sv_sipush (v := 1000) X dX5_introducedTo_52 (by decide) ?_
      refine sv_idiv X dX5_introducedTo_55 (by decide) ?_
      refine sv_goto (tgt := 69) X dX5_introducedTo_56 (by decide) ?_
      obtain rfl := fr_i1 hM13
      exact K14
  · replace hF := fr_neg hF h18
    refine sv_ldc X kn_X5_71 dX5_introducedTo_39 ?_
    exact sv_iret X hr hQ dX5_introducedTo_41 hF
theorem c_X5_introducedTo {l : Launch} {g : fr_G} {a1 : Int32} {a2 : Int32} {a3 : Int32}  {σ τ : fr_St} {r : Int32} (hF : F_X5_introducedTo a1 a2 a3 σ = some (r, τ)) : fr_Ci l g yX5_introducedTo (fr_ws yX5_introducedTo cX5_introducedTo 4 (some .int)) 4 [.ref (g.2.1 45), .int a1, .int a2, .int a3] σ r τ := fr_mi (by decide) (Nat.le_of_ble_eq_true rfl) (fun p e s m below meth c X hr => b_X5_introducedTo X hr  rfl hF)
def L_X5_daysUntilRoadForgets_5 (k1 : Int32) : Nat → Int32 → Int32 → fr_St → Option (Int32 × Int32 × fr_St)
  | 0, _, _, _ => none
  | n + 1, x2, x3, σ => fr_bP (F_X3_people 15 σ) (fun r3 s2 => if r3 ≤ x3 then (some (x2, x3, s2)) else (fr_bP (F_X3_today 15 s2) (fun r6 s5 => fr_bP (F_X3_opens 15 k1 x3 r6 s5) (fun b9 s8 => fr_bP (if (fr_bi b9) = 0 then (some (x2, s8)) else (fr_bP (F_X3_lastDayOpen 15 k1 x3 s8) (fun r17 s16 => fr_bP (F_X3_today 15 s16) (fun r20 s19 => fr_let ((if ((r17 + (1 : Int32)) - r20) < x2 then ((r17 + (1 : Int32)) - r20) else x2)) (fun v21 => some (v21, s19)))))) (fun v10 s11 => fr_let (x3 + (1 : Int32)) (fun v14 => L_X5_daysUntilRoadForgets_5 k1 n v10 v14 s11))))))
set_option maxRecDepth 100000 in
set_option maxHeartbeats 4000000 in
theorem wL_X5_daysUntilRoadForgets_5 {p : Program} {l : Launch} {e : Env} {s : State} {m : MethodId} {args : Array Value} {below : List Frame} {meth : Method} {c : Code} {g : fr_G} {Q : State → Prop} (X : fr_X p s m args meth c g cX5_daysUntilRoadForgets RX5 4)  (k1 : Int32) {y2 : Int32} {y3 : Int32} {τ : fr_St} (K : fr_V p l e (fr_rm 3) s m args below meth c g Q 4 τ 65 [(0, .ref (g.2.1 45)), (1, .int k1), (2, .int y2), (3, .int y3)] []) : ∀ (n : Nat) (x2 : Int32) (x3 : Int32) (σ : fr_St), L_X5_daysUntilRoadForgets_5 k1 n x2 x3 σ = some (y2, y3, τ) → fr_V p l e (fr_rm 3) s m args below meth c g Q 4 σ 5 [(0, .ref (g.2.1 45)), (1, .int k1), (2, .int x2), (3, .int x3)] [] := by
  intro n
  induction n with
  | zero => intro x2 x3 σ hL; cases hL
  | succ n ih =>
    intro x2 x3 σ hL
    rw [L_X5_daysUntilRoadForgets_5] at hL
    refine sv_iload_n (i := 3) X dX5_daysUntilRoadForgets_5 rfl rfl ?_
    refine sv_aload_n (i := 0) X dX5_daysUntilRoadForgets_6 rfl rfl ?_
    refine sv_getr X ix_X5 rfl 0 (by decide) rfl rfl fl_X5_11 dX5_daysUntilRoadForgets_7 ?_
    obtain ⟨r3, s2, hc1, hL⟩ := fr_bP_some hL
    refine sv_callVi X (c_X3_people rfl rfl hc1) cd_X3_people ml_X5_132 im_X3_people se_X3_people in_RX3 hd_X3_people rfl rfl (by decide) rfl (Nat.le_of_ble_eq_true rfl) dX5_daysUntilRoadForgets_10 rfl ?_
    refine sv_icmp_ge (tgt := 65) X dX5_daysUntilRoadForgets_13 (by decide) (fun h23 => ?_) (fun h23 => ?_)
    · replace hL := fr_pos hL h23
      obtain ⟨rfl, rfl, rfl⟩ := fr_i3 hL
      exact K
    · replace hL := fr_neg hL h23
      refine sv_aload_n (i := 0) X dX5_daysUntilRoadForgets_16 rfl rfl ?_
      refine sv_getr X ix_X5 rfl 0 (by decide) rfl rfl fl_X5_11 dX5_daysUntilRoadForgets_17 ?_
      refine sv_iload_n (i := 1) X dX5_daysUntilRoadForgets_20 rfl rfl ?_
      refine sv_iload_n (i := 3) X dX5_daysUntilRoadForgets_21 rfl rfl ?_
      refine sv_aload_n (i := 0) X dX5_daysUntilRoadForgets_22 rfl rfl ?_
      refine sv_getr X ix_X5 rfl 0 (by decide) rfl rfl fl_X5_11 dX5_daysUntilRoadForgets_23 ?_
      obtain ⟨r6, s5, hc4, hL⟩ := fr_bP_some hL
      refine sv_callVi X (c_X3_today rfl rfl hc4) cd_X3_today ml_X5_88 im_X3_today se_X3_today in_RX3 hd_X3_today rfl rfl (by decide) rfl (Nat.le_of_ble_eq_true rfl) dX5_daysUntilRoadForgets_26 rfl ?_
      obtain ⟨b9, s8, hc7, hL⟩ := fr_bP_some hL
      refine sv_callVi X (c_X3_opens rfl rfl hc7) cd_X3_opens ml_X5_135 im_X3_opens se_X3_opens in_RX3 hd_X3_opens rfl rfl (by decide) rfl (Nat.le_of_ble_eq_true rfl) dX5_daysUntilRoadForgets_29 rfl ?_
      obtain ⟨v10, s11, hM12, hL⟩ := fr_bP_some hL
      have K13 : fr_V p l e (fr_rm 3) s m args below meth c g Q 4 s11 59 [(0, .ref (g.2.1 45)), (1, .int k1), (2, .int v10), (3, .int x3)] [] := by
        obtain ⟨v14, ev14⟩ : ∃ y : Int32, y = x3 + (1 : Int32) := ⟨_, rfl⟩
        replace hL := fr_lete hL ev14
        refine sv_iinc (i := 3) (v := v14) X dX5_daysUntilRoadForgets_59 rfl (by rw [ev14]; rfl) (by decide) rfl ?_
        refine sv_goto (tgt := 5) X dX5_daysUntilRoadForgets_62 (by decide) ?_
        exact sv_perm [1, 2, 3, 0] rfl (ih _ _ _ hL)
      refine sv_if_eq (tgt := 59) X dX5_daysUntilRoadForgets_32 (by decide) (fun h22 => ?_) (fun h22 => ?_)
      · replace hM12 := fr_pos hM12 h22
        obtain ⟨rfl, rfl⟩ := fr_i2 hM12
        exact K13
      · replace hM12 := fr_neg hM12 h22
        refine sv_iload_n (i := 2) X dX5_daysUntilRoadForgets_35 rfl rfl ?_
        refine sv_aload_n (i := 0) X dX5_daysUntilRoadForgets_36 rfl rfl ?_
        refine sv_getr X ix_X5 rfl 0 (by decide) rfl rfl fl_X5_11 dX5_daysUntilRoadForgets_37 ?_
        refine sv_iload_n (i := 1) X dX5_daysUntilRoadForgets_40 rfl rfl ?_
        refine sv_iload_n (i := 3) X dX5_daysUntilRoadForgets_41 rfl rfl ?_
        obtain ⟨r17, s16, hc15, hM12⟩ := fr_bP_some hM12
        refine sv_callVi X (c_X3_lastDayOpen rfl rfl hc15) cd_X3_lastDayOpen ml_X5_138 im_X3_lastDayOpen se_X3_lastDayOpen in_RX3 hd_X3_lastDayOpen rfl rfl (by decide) rfl (Nat.le_of_ble_eq_true rfl) dX5_daysUntilRoadForgets_42 rfl ?_
        refine sv_iconst (v := 1) X dX5_daysUntilRoadForgets_45 (by decide) ?_
        refine sv_iadd X dX5_daysUntilRoadForgets_46 ?_
        refine sv_aload_n (i := 0) X dX5_daysUntilRoadForgets_47 rfl rfl ?_
        refine sv_getr X ix_X5 rfl 0 (by decide) rfl rfl fl_X5_11 dX5_daysUntilRoadForgets_48 ?_
        obtain ⟨r20, s19, hc18, hM12⟩ := fr_bP_some hM12
        refine sv_callVi X (c_X3_today rfl rfl hc18) cd_X3_today ml_X5_88 im_X3_today se_X3_today in_RX3 hd_X3_today rfl rfl (by decide) rfl (Nat.le_of_ble_eq_true rfl) dX5_daysUntilRoadForgets_51 rfl ?_
        refine sv_isub X dX5_daysUntilRoadForgets_54 ?_
        refine sv_min X ml_X5_83 sm_min in_RJ9 cd_min (by decide) (Nat.le_of_ble_eq_true rfl) dX5_daysUntilRoadForgets_55 ?_
        refine sv_topi (fun v21 ev21 => ?_)
        replace hM12 := fr_lete hM12 ev21
        refine sv_istore_n X dX5_daysUntilRoadForgets_58 rfl (by decide) rfl ?_
        obtain ⟨rfl, rfl⟩ := fr_i2 hM12
        exact sv_perm [1, 2, 0, 3] rfl K13
def F_X5_daysUntilRoadForgets (a1 : Int32) (σ : fr_St) : Option (Int32 × fr_St) := fr_bP (L_X5_daysUntilRoadForgets_5 a1 fr_fu (1000000 : Int32) (0 : Int32) σ) (fun v1 q5 => fr_pP q5 (fun v2 s3 => some (v1, s3)))
set_option maxRecDepth 100000 in
set_option maxHeartbeats 4000000 in
theorem b_X5_daysUntilRoadForgets {p : Program} {l : Launch} {e : Env} {s : State} {m : MethodId} {args : Array Value} {below : List Frame} {meth : Method} {c : Code} {g : fr_G} {Q : State → Prop} (X : fr_X p s m args meth c g cX5_daysUntilRoadForgets RX5 4) (hr : meth.sig.returnType = (some .int)) {a1 : Int32}  {σ τ : fr_St} {r : Int32} (hQ : Q = fr_Qi below args s g r τ) (hF : F_X5_daysUntilRoadForgets a1 σ = some (r, τ)) : fr_V p l e (fr_rm 3) s m args below meth c g Q 4 σ 0 [(0, .ref (g.2.1 45)), (1, .int a1)] [] := by
  unfold F_X5_daysUntilRoadForgets at hF
  refine sv_ldc X kn_X5_70 dX5_daysUntilRoadForgets_0 ?_
  refine sv_istore_n X dX5_daysUntilRoadForgets_2 rfl (by decide) rfl ?_
  refine sv_iconst (v := 0) X dX5_daysUntilRoadForgets_3 (by decide) ?_
  refine sv_istore_n X dX5_daysUntilRoadForgets_4 rfl (by decide) rfl ?_
  refine sv_perm [2, 3, 1, 0] rfl ?_
  obtain ⟨v1, ⟨v2, s3⟩, hl4, hF⟩ := fr_bP_some hF
  dsimp only [fr_pP] at hF
  refine wL_X5_daysUntilRoadForgets_5 X  a1 ?_ fr_fu _ _ _ hl4
  refine sv_iload_n (i := 2) X dX5_daysUntilRoadForgets_65 rfl rfl ?_
  exact sv_iret X hr hQ dX5_daysUntilRoadForgets_66 hF
theorem c_X5_daysUntilRoadForgets {l : Launch} {g : fr_G} {a1 : Int32}  {σ τ : fr_St} {r : Int32} (hF : F_X5_daysUntilRoadForgets a1 σ = some (r, τ)) : fr_Ci l g yX5_daysUntilRoadForgets (fr_ws yX5_daysUntilRoadForgets cX5_daysUntilRoadForgets 4 (some .int)) 3 [.ref (g.2.1 45), .int a1] σ r τ := fr_mi (by decide) (Nat.le_of_ble_eq_true rfl) (fun p e s m below meth c X hr => b_X5_daysUntilRoadForgets X hr  rfl hF)
def L_X5_daysUntilForgotten_5  : Nat → Int32 → Int32 → fr_St → Option (Int32 × Int32 × fr_St)
  | 0, _, _, _ => none
  | n + 1, x1, x2, σ => fr_bP (F_X3_roads 15 σ) (fun r3 s2 => if r3 ≤ x2 then (some (x1, x2, s2)) else (fr_bP (F_X3_opensByMeeting 15 x2 s2) (fun b6 s5 => fr_bP (if (fr_bi b6) = 0 then (some (x1, s5)) else (fr_bP (F_X5_daysUntilRoadForgets x2 s5) (fun r14 s13 => fr_let ((if r14 < x1 then r14 else x1)) (fun v15 => some (v15, s13))))) (fun v7 s8 => fr_let (x2 + (1 : Int32)) (fun v11 => L_X5_daysUntilForgotten_5  n v7 v11 s8)))))
set_option maxRecDepth 100000 in
set_option maxHeartbeats 4000000 in
theorem wL_X5_daysUntilForgotten_5 {p : Program} {l : Launch} {e : Env} {s : State} {m : MethodId} {args : Array Value} {below : List Frame} {meth : Method} {c : Code} {g : fr_G} {Q : State → Prop} (X : fr_X p s m args meth c g cX5_daysUntilForgotten RX5 3)   {y1 : Int32} {y2 : Int32} {τ : fr_St} (K : fr_V p l e (fr_rm 4) s m args below meth c g Q 3 τ 43 [(0, .ref (g.2.1 45)), (1, .int y1), (2, .int y2)] []) : ∀ (n : Nat) (x1 : Int32) (x2 : Int32) (σ : fr_St), L_X5_daysUntilForgotten_5  n x1 x2 σ = some (y1, y2, τ) → fr_V p l e (fr_rm 4) s m args below meth c g Q 3 σ 5 [(0, .ref (g.2.1 45)), (1, .int x1), (2, .int x2)] [] := by
  intro n
  induction n with
  | zero => intro x1 x2 σ hL; cases hL
  | succ n ih =>
    intro x1 x2 σ hL
    rw [L_X5_daysUntilForgotten_5] at hL
    refine sv_iload_n (i := 2) X dX5_daysUntilForgotten_5 rfl rfl ?_
    refine sv_aload_n (i := 0) X dX5_daysUntilForgotten_6 rfl rfl ?_
    refine sv_getr X ix_X5 rfl 0 (by decide) rfl rfl fl_X5_11 dX5_daysUntilForgotten_7 ?_
    obtain ⟨r3, s2, hc1, hL⟩ := fr_bP_some hL
    refine sv_callVi X (c_X3_roads rfl rfl hc1) cd_X3_roads ml_X5_72 im_X3_roads se_X3_roads in_RX3 hd_X3_roads rfl rfl (by decide) rfl (Nat.le_of_ble_eq_true rfl) dX5_daysUntilForgotten_10 rfl ?_
    refine sv_icmp_ge (tgt := 43) X dX5_daysUntilForgotten_13 (by decide) (fun h17 => ?_) (fun h17 => ?_)
    · replace hL := fr_pos hL h17
      obtain ⟨rfl, rfl, rfl⟩ := fr_i3 hL
      exact K
    · replace hL := fr_neg hL h17
      refine sv_aload_n (i := 0) X dX5_daysUntilForgotten_16 rfl rfl ?_
      refine sv_getr X ix_X5 rfl 0 (by decide) rfl rfl fl_X5_11 dX5_daysUntilForgotten_17 ?_
      refine sv_iload_n (i := 2) X dX5_daysUntilForgotten_20 rfl rfl ?_
      obtain ⟨b6, s5, hc4, hL⟩ := fr_bP_some hL
      refine sv_callVi X (c_X3_opensByMeeting rfl rfl hc4) cd_X3_opensByMeeting ml_X5_76 im_X3_opensByMeeting se_X3_opensByMeeting in_RX3 hd_X3_opensByMeeting rfl rfl (by decide) rfl (Nat.le_of_ble_eq_true rfl) dX5_daysUntilForgotten_21 rfl ?_
      obtain ⟨v7, s8, hM9, hL⟩ := fr_bP_some hL
      have K10 : fr_V p l e (fr_rm 4) s m args below meth c g Q 3 s8 37 [(0, .ref (g.2.1 45)), (1, .int v7), (2, .int x2)] [] := by
        obtain ⟨v11, ev11⟩ : ∃ y : Int32, y = x2 + (1 : Int32) := ⟨_, rfl⟩
        replace hL := fr_lete hL ev11
        refine sv_iinc (i := 2) (v := v11) X dX5_daysUntilForgotten_37 rfl (by rw [ev11]; rfl) (by decide) rfl ?_
        refine sv_goto (tgt := 5) X dX5_daysUntilForgotten_40 (by decide) ?_
        exact sv_perm [1, 2, 0] rfl (ih _ _ _ hL)
      refine sv_if_eq (tgt := 37) X dX5_daysUntilForgotten_24 (by decide) (fun h16 => ?_) (fun h16 => ?_)
      · replace hM9 := fr_pos hM9 h16
        obtain ⟨rfl, rfl⟩ := fr_i2 hM9
        exact K10
      · replace hM9 := fr_neg hM9 h16
        refine sv_iload_n (i := 1) X dX5_daysUntilForgotten_27 rfl rfl ?_
        refine sv_aload_n (i := 0) X dX5_daysUntilForgotten_28 rfl rfl ?_
        refine sv_iload_n (i := 2) X dX5_daysUntilForgotten_29 rfl rfl ?_
        obtain ⟨r14, s13, hc12, hM9⟩ := fr_bP_some hM9
        refine sv_callVi X (c_X5_daysUntilRoadForgets hc12) cd_X5_daysUntilRoadForgets ml_X5_80 im_X5_daysUntilRoadForgets se_X5_daysUntilRoadForgets in_RX5 hd_X5_daysUntilRoadForgets rfl rfl (by decide) rfl (Nat.le_of_ble_eq_true rfl) dX5_daysUntilForgotten_30 rfl ?_
        refine sv_min X ml_X5_83 sm_min in_RJ9 cd_min (by decide) (Nat.le_of_ble_eq_true rfl) dX5_daysUntilForgotten_33 ?_
        refine sv_topi (fun v15 ev15 => ?_)
        replace hM9 := fr_lete hM9 ev15
        refine sv_istore_n X dX5_daysUntilForgotten_36 rfl (by decide) rfl ?_
        obtain ⟨rfl, rfl⟩ := fr_i2 hM9
        exact sv_perm [1, 0, 2] rfl K10
def F_X5_daysUntilForgotten  (σ : fr_St) : Option (Int32 × fr_St) := fr_bP (L_X5_daysUntilForgotten_5  fr_fu (1000000 : Int32) (0 : Int32) σ) (fun v1 q8 => fr_pP q8 (fun v2 s3 => fr_bP (F_X5_noneIfFar v1 s3) (fun r7 s6 => some (r7, s6))))
set_option maxRecDepth 100000 in
set_option maxHeartbeats 4000000 in
theorem b_X5_daysUntilForgotten {p : Program} {l : Launch} {e : Env} {s : State} {m : MethodId} {args : Array Value} {below : List Frame} {meth : Method} {c : Code} {g : fr_G} {Q : State → Prop} (X : fr_X p s m args meth c g cX5_daysUntilForgotten RX5 3) (hr : meth.sig.returnType = (some .int))   {σ τ : fr_St} {r : Int32} (hQ : Q = fr_Qi below args s g r τ) (hF : F_X5_daysUntilForgotten  σ = some (r, τ)) : fr_V p l e (fr_rm 4) s m args below meth c g Q 3 σ 0 [(0, .ref (g.2.1 45))] [] := by
  unfold F_X5_daysUntilForgotten at hF
  refine sv_ldc X kn_X5_70 dX5_daysUntilForgotten_0 ?_
  refine sv_istore_n X dX5_daysUntilForgotten_2 rfl (by decide) rfl ?_
  refine sv_iconst (v := 0) X dX5_daysUntilForgotten_3 (by decide) ?_
  refine sv_istore_n X dX5_daysUntilForgotten_4 rfl (by decide) rfl ?_
  refine sv_perm [2, 1, 0] rfl ?_
  obtain ⟨v1, ⟨v2, s3⟩, hl4, hF⟩ := fr_bP_some hF
  dsimp only [fr_pP] at hF
  refine wL_X5_daysUntilForgotten_5 X   ?_ fr_fu _ _ _ hl4
  refine sv_iload_n (i := 1) X dX5_daysUntilForgotten_43 rfl rfl ?_
  obtain ⟨r7, s6, hc5, hF⟩ := fr_bP_some hF
  refine sv_callSi X (c_X5_noneIfFar hc5) cd_X5_noneIfFar ml_X5_57 sm_X5_noneIfFar in_RX5 hd_X5_noneIfFar (by decide) rfl (Nat.le_of_ble_eq_true rfl) dX5_daysUntilForgotten_44 rfl ?_
  exact sv_iret X hr hQ dX5_daysUntilForgotten_47 hF
theorem c_X5_daysUntilForgotten {l : Launch} {g : fr_G}   {σ τ : fr_St} {r : Int32} (hF : F_X5_daysUntilForgotten  σ = some (r, τ)) : fr_Ci l g yX5_daysUntilForgotten (fr_ws yX5_daysUntilForgotten cX5_daysUntilForgotten 3 (some .int)) 4 [.ref (g.2.1 45)] σ r τ := fr_mi (by decide) (Nat.le_of_ble_eq_true rfl) (fun p e s m below meth c X hr => b_X5_daysUntilForgotten X hr  rfl hF)
def L_X5_roadsKnowingNobody_4 (k1 : Int32) : Nat → Int32 → Int32 → fr_St → Option (Int32 × Int32 × fr_St)
  | 0, _, _, _ => none
  | n + 1, x2, x3, σ => fr_bP (F_X3_roads 15 σ) (fun r3 s2 => if r3 ≤ x3 then (some (x2, x3, s2)) else (fr_bP (F_X3_opensByMeeting 15 x3 s2) (fun b6 s5 => fr_bP (if (fr_bi b6) = 0 then (some (x2, s5)) else (fr_bP (F_X3_today 15 s5) (fun r14 s13 => fr_bP (F_X3_solesOf 15 x3 (r14 + k1) s13) (fun r17 s16 => if r17 = 0 then (fr_let ((x2 ||| ((1 : Int32) <<< (x3 &&& 31)))) (fun v18 => some (v18, s16))) else (some (x2, s16)))))) (fun v7 s8 => fr_let (x3 + (1 : Int32)) (fun v11 => L_X5_roadsKnowingNobody_4 k1 n v7 v11 s8)))))
set_option maxRecDepth 100000 in
set_option maxHeartbeats 4000000 in
theorem wL_X5_roadsKnowingNobody_4 {p : Program} {l : Launch} {e : Env} {s : State} {m : MethodId} {args : Array Value} {below : List Frame} {meth : Method} {c : Code} {g : fr_G} {Q : State → Prop} (X : fr_X p s m args meth c g cX5_roadsKnowingNobody RX5 4)  (k1 : Int32) {y2 : Int32} {y3 : Int32} {τ : fr_St} (K : fr_V p l e (fr_rm 4) s m args below meth c g Q 4 τ 58 [(0, .ref (g.2.1 45)), (1, .int k1), (2, .int y2), (3, .int y3)] []) : ∀ (n : Nat) (x2 : Int32) (x3 : Int32) (σ : fr_St), L_X5_roadsKnowingNobody_4 k1 n x2 x3 σ = some (y2, y3, τ) → fr_V p l e (fr_rm 4) s m args below meth c g Q 4 σ 4 [(0, .ref (g.2.1 45)), (1, .int k1), (2, .int x2), (3, .int x3)] [] := by
  intro n
  induction n with
  | zero => intro x2 x3 σ hL; cases hL
  | succ n ih =>
    intro x2 x3 σ hL
    rw [L_X5_roadsKnowingNobody_4] at hL
    refine sv_iload_n (i := 3) X dX5_roadsKnowingNobody_4 rfl rfl ?_
    refine sv_aload_n (i := 0) X dX5_roadsKnowingNobody_5 rfl rfl ?_
    refine sv_getr X ix_X5 rfl 0 (by decide) rfl rfl fl_X5_11 dX5_roadsKnowingNobody_6 ?_
    obtain ⟨r3, s2, hc1, hL⟩ := fr_bP_some hL
    refine sv_callVi X (c_X3_roads rfl rfl hc1) cd_X3_roads ml_X5_72 im_X3_roads se_X3_roads in_RX3 hd_X3_roads rfl rfl (by decide) rfl (Nat.le_of_ble_eq_true rfl) dX5_roadsKnowingNobody_9 rfl ?_
    refine sv_icmp_ge (tgt := 58) X dX5_roadsKnowingNobody_12 (by decide) (fun h21 => ?_) (fun h21 => ?_)
    · replace hL := fr_pos hL h21
      obtain ⟨rfl, rfl, rfl⟩ := fr_i3 hL
      exact K
    · replace hL := fr_neg hL h21
      refine sv_aload_n (i := 0) X dX5_roadsKnowingNobody_15 rfl rfl ?_
      refine sv_getr X ix_X5 rfl 0 (by decide) rfl rfl fl_X5_11 dX5_roadsKnowingNobody_16 ?_
      refine sv_iload_n (i := 3) X dX5_roadsKnowingNobody_19 rfl rfl ?_
      obtain ⟨b6, s5, hc4, hL⟩ := fr_bP_some hL
      refine sv_callVi X (c_X3_opensByMeeting rfl rfl hc4) cd_X3_opensByMeeting ml_X5_76 im_X3_opensByMeeting se_X3_opensByMeeting in_RX3 hd_X3_opensByMeeting rfl rfl (by decide) rfl (Nat.le_of_ble_eq_true rfl) dX5_roadsKnowingNobody_20 rfl ?_
      obtain ⟨v7, s8, hM9, hL⟩ := fr_bP_some hL
      have K10 : fr_V p l e (fr_rm 4) s m args below meth c g Q 4 s8 52 [(0, .ref (g.2.1 45)), (1, .int k1), (2, .int v7), (3, .int x3)] [] := by
        obtain ⟨v11, ev11⟩ : ∃ y : Int32, y = x3 + (1 : Int32) := ⟨_, rfl⟩
        replace hL := fr_lete hL ev11
        refine sv_iinc (i := 3) (v := v11) X dX5_roadsKnowingNobody_52 rfl (by rw [ev11]; rfl) (by decide) rfl ?_
        refine sv_goto (tgt := 4) X dX5_roadsKnowingNobody_55 (by decide) ?_
        exact sv_perm [1, 2, 3, 0] rfl (ih _ _ _ hL)
      refine sv_if_eq (tgt := 52) X dX5_roadsKnowingNobody_23 (by decide) (fun h20 => ?_) (fun h20 => ?_)
      · replace hM9 := fr_pos hM9 h20
        obtain ⟨rfl, rfl⟩ := fr_i2 hM9
        exact K10
      · replace hM9 := fr_neg hM9 h20
        refine sv_aload_n (i := 0) X dX5_roadsKnowingNobody_26 rfl rfl ?_
        refine sv_getr X ix_X5 rfl 0 (by decide) rfl rfl fl_X5_11 dX5_roadsKnowingNobody_27 ?_
        refine sv_iload_n (i := 3) X dX5_roadsKnowingNobody_30 rfl rfl ?_
        refine sv_aload_n (i := 0) X dX5_roadsKnowingNobody_31 rfl rfl ?_
        refine sv_getr X ix_X5 rfl 0 (by decide) rfl rfl fl_X5_11 dX5_roadsKnowingNobody_32 ?_
        obtain ⟨r14, s13, hc12, hM9⟩ := fr_bP_some hM9
        refine sv_callVi X (c_X3_today rfl rfl hc12) cd_X3_today ml_X5_88 im_X3_today se_X3_today in_RX3 hd_X3_today rfl rfl (by decide) rfl (Nat.le_of_ble_eq_true rfl) dX5_roadsKnowingNobody_35 rfl ?_
        refine sv_iload_n (i := 1) X dX5_roadsKnowingNobody_38 rfl rfl ?_
        refine sv_iadd X dX5_roadsKnowingNobody_39 ?_
        obtain ⟨r17, s16, hc15, hM9⟩ := fr_bP_some hM9
        refine sv_callVi X (c_X3_solesOf rfl rfl hc15) cd_X3_solesOf ml_X5_91 im_X3_solesOf se_X3_solesOf in_RX3 hd_X3_solesOf rfl rfl (by decide) rfl (Nat.le_of_ble_eq_true rfl) dX5_roadsKnowingNobody_40 rfl ?_
        refine sv_if_ne (tgt := 52) X dX5_roadsKnowingNobody_43 (by decide) (fun h19 => ?_) (fun h19 => ?_)
        · replace hM9 := fr_neg hM9 h19
          obtain ⟨rfl, rfl⟩ := fr_i2 hM9
          exact K10
        · replace hM9 := fr_pos hM9 h19
          refine sv_iload_n (i := 2) X dX5_roadsKnowingNobody_46 rfl rfl ?_
          refine sv_iconst (v := 1) X dX5_roadsKnowingNobody_47 (by decide) ?_
          refine sv_iload_n (i := 3) X dX5_roadsKnowingNobody_48 rfl rfl ?_
          refine sv_ishl X dX5_roadsKnowingNobody_49 ?_
          refine sv_ior X dX5_roadsKnowingNobody_50 ?_
          refine sv_topi (fun v18 ev18 => ?_)
          replace hM9 := fr_lete hM9 ev18
          refine sv_istore_n X dX5_roadsKnowingNobody_51 rfl (by decide) rfl ?_
          obtain ⟨rfl, rfl⟩ := fr_i2 hM9
          exact sv_perm [1, 2, 0, 3] rfl K10
def F_X5_roadsKnowingNobody (a1 : Int32) (σ : fr_St) : Option (Int32 × fr_St) := fr_bP (L_X5_roadsKnowingNobody_4 a1 fr_fu (0 : Int32) (0 : Int32) σ) (fun v1 q5 => fr_pP q5 (fun v2 s3 => some (v1, s3)))
set_option maxRecDepth 100000 in
set_option maxHeartbeats 4000000 in
theorem b_X5_roadsKnowingNobody {p : Program} {l : Launch} {e : Env} {s : State} {m : MethodId} {args : Array Value} {below : List Frame} {meth : Method} {c : Code} {g : fr_G} {Q : State → Prop} (X : fr_X p s m args meth c g cX5_roadsKnowingNobody RX5 4) (hr : meth.sig.returnType = (some .int)) {a1 : Int32}  {σ τ : fr_St} {r : Int32} (hQ : Q = fr_Qi below args s g r τ) (hF : F_X5_roadsKnowingNobody a1 σ = some (r, τ)) : fr_V p l e (fr_rm 4) s m args below meth c g Q 4 σ 0 [(0, .ref (g.2.1 45)), (1, .int a1)] [] := by
  unfold F_X5_roadsKnowingNobody at hF
  refine sv_iconst (v := 0) X dX5_roadsKnowingNobody_0 (by decide) ?_
  refine sv_istore_n X dX5_roadsKnowingNobody_1 rfl (by decide) rfl ?_
  refine sv_iconst (v := 0) X dX5_roadsKnowingNobody_2 (by decide) ?_
  refine sv_istore_n X dX5_roadsKnowingNobody_3 rfl (by decide) rfl ?_
  refine sv_perm [2, 3, 1, 0] rfl ?_
  obtain ⟨v1, ⟨v2, s3⟩, hl4, hF⟩ := fr_bP_some hF
  dsimp only [fr_pP] at hF
  refine wL_X5_roadsKnowingNobody_4 X  a1 ?_ fr_fu _ _ _ hl4
  refine sv_iload_n (i := 2) X dX5_roadsKnowingNobody_58 rfl rfl ?_
  exact sv_iret X hr hQ dX5_roadsKnowingNobody_59 hF
theorem c_X5_roadsKnowingNobody {l : Launch} {g : fr_G} {a1 : Int32}  {σ τ : fr_St} {r : Int32} (hF : F_X5_roadsKnowingNobody a1 σ = some (r, τ)) : fr_Ci l g yX5_roadsKnowingNobody (fr_ws yX5_roadsKnowingNobody cX5_roadsKnowingNobody 4 (some .int)) 4 [.ref (g.2.1 45), .int a1] σ r τ := fr_mi (by decide) (Nat.le_of_ble_eq_true rfl) (fun p e s m below meth c X hr => b_X5_roadsKnowingNobody X hr  rfl hF)
def L_X5_doWanted_40 (k1 : Int32) (k3 : Int32) (k4 : Int32) (k5 : Int32) (k6 : Int32) : Nat → Int32 → fr_St → Option (Int32 × fr_St)
  | 0, _, _ => none
  | n + 1, x7, σ => fr_bP (F_X3_places 15 σ) (fun r3 s2 => if r3 ≤ x7 then (some (x7, s2)) else (if fr_ib ((k1 * (8 : Int32)) + x7) 4096 = true then fr_bP (F_X3_longOf 15 k3 s2) (fun r7 s6 => fr_let (((s2 52 (fr_ix ((k1 * (8 : Int32)) + x7))) + r7)) (fun v8 => if fr_ib ((x7 * (8 : Int32)) + k5) 64 = true then fr_let ((v8 + (s6 50 (fr_ix ((x7 * (8 : Int32)) + k5))))) (fun v10 => if fr_ib ((x7 * (8 : Int32)) + k6) 64 = true then fr_let ((v8 + (s6 50 (fr_ix ((x7 * (8 : Int32)) + k6))))) (fun v12 => if fr_ib (k4 + k6) 4096 = true then if fr_ib (k4 + k6) 4096 = true then fr_let (fr_up s6 52 (fr_ix (k4 + k6)) (if v10 < (s6 52 (fr_ix (k4 + k6))) then v10 else (s6 52 (fr_ix (k4 + k6))))) (fun s15 => if fr_ib (k4 + k5) 4096 = true then if fr_ib (k4 + k5) 4096 = true then fr_let (fr_up s15 52 (fr_ix (k4 + k5)) (if v12 < (s15 52 (fr_ix (k4 + k5))) then v12 else (s15 52 (fr_ix (k4 + k5))))) (fun s18 => fr_let (x7 + (1 : Int32)) (fun v19 => L_X5_doWanted_40 k1 k3 k4 k5 k6 n v19 s18)) else none else none) else none else none) else none) else none)) else none))
set_option maxRecDepth 100000 in
set_option maxHeartbeats 4000000 in
theorem wL_X5_doWanted_40 {p : Program} {l : Launch} {e : Env} {s : State} {m : MethodId} {args : Array Value} {below : List Frame} {meth : Method} {c : Code} {g : fr_G} {Q : State → Prop} (X : fr_X p s m args meth c g cX5_doWanted RX5 11)  (k1 : Int32) (k2 : Int32) (k3 : Int32) (k4 : Int32) (k5 : Int32) (k6 : Int32) {y7 : Int32} {τ : fr_St} (K : fr_V p l e (fr_rm 1) s m args below meth c g Q 11 τ 167 [(0, .ref (g.2.1 45)), (1, .int k1), (2, .int k2), (3, .int k3), (4, .int k4), (5, .int k5), (6, .int k6), (7, .int y7)] []) : ∀ (n : Nat) (x7 : Int32) (σ : fr_St), L_X5_doWanted_40 k1 k3 k4 k5 k6 n x7 σ = some (y7, τ) → fr_V p l e (fr_rm 1) s m args below meth c g Q 11 σ 40 [(0, .ref (g.2.1 45)), (1, .int k1), (2, .int k2), (3, .int k3), (4, .int k4), (5, .int k5), (6, .int k6), (7, .int x7)] [] := by
  intro n
  induction n with
  | zero => intro x7 σ hL; cases hL
  | succ n ih =>
    intro x7 σ hL
    rw [L_X5_doWanted_40] at hL
    refine sv_iload (i := 7) X dX5_doWanted_40 rfl ?_
    refine sv_aload_n (i := 0) X dX5_doWanted_42 rfl rfl ?_
    refine sv_getr X ix_X5 rfl 0 (by decide) rfl rfl fl_X5_11 dX5_doWanted_43 ?_
    obtain ⟨r3, s2, hc1, hL⟩ := fr_bP_some hL
    refine sv_callVi X (c_X3_places rfl rfl hc1) cd_X3_places ml_X5_110 im_X3_places se_X3_places in_RX3 hd_X3_places rfl rfl (by decide) rfl (Nat.le_of_ble_eq_true rfl) dX5_doWanted_46 rfl ?_
    refine sv_icmp_ge (tgt := 167) X dX5_doWanted_49 (by decide) (fun h20 => ?_) (fun h20 => ?_)
    · replace hL := fr_pos hL h20
      obtain ⟨rfl, rfl⟩ := fr_i2 hL
      exact K
    · replace hL := fr_neg hL h20
      refine sv_aload_n (i := 0) X dX5_doWanted_52 rfl rfl ?_
      refine sv_getr X ix_X5 rfl 7 (by decide) rfl rfl fl_X5_36 dX5_doWanted_53 ?_
      refine sv_iload_n (i := 1) X dX5_doWanted_56 rfl rfl ?_
      refine sv_bipush (v := 8) X dX5_doWanted_57 (by decide) ?_
      refine sv_imul X dX5_doWanted_59 ?_
      refine sv_iload (i := 7) X dX5_doWanted_60 rfl ?_
      refine sv_iadd X dX5_doWanted_62 ?_
      obtain ⟨hb4, hL⟩ := fr_chk hL
      refine sv_iald (j := (fr_ix ((k1 * (8 : Int32)) + x7))) X rfl hb4 rfl dX5_doWanted_63 ?_
      refine sv_aload_n (i := 0) X dX5_doWanted_64 rfl rfl ?_
      refine sv_getr X ix_X5 rfl 0 (by decide) rfl rfl fl_X5_11 dX5_doWanted_65 ?_
      refine sv_iload_n (i := 3) X dX5_doWanted_68 rfl rfl ?_
      obtain ⟨r7, s6, hc5, hL⟩ := fr_bP_some hL
      refine sv_callVi X (c_X3_longOf rfl rfl hc5) cd_X3_longOf ml_X5_141 im_X3_longOf se_X3_longOf in_RX3 hd_X3_longOf rfl rfl (by decide) rfl (Nat.le_of_ble_eq_true rfl) dX5_doWanted_69 rfl ?_
      refine sv_iadd X dX5_doWanted_72 ?_
      refine sv_topi (fun v8 ev8 => ?_)
      replace hL := fr_lete hL ev8
      refine sv_istore X dX5_doWanted_73 (by decide) rfl ?_
      refine sv_iload (i := 0) X dX5_doWanted_75 rfl ?_
      refine sv_aload_n (i := 1) X dX5_doWanted_77 rfl rfl ?_
      refine sv_getr X ix_X5 rfl 5 (by decide) rfl rfl fl_X5_30 dX5_doWanted_78 ?_
      refine sv_iload (i := 8) X dX5_doWanted_81 rfl ?_
      refine sv_bipush (v := 8) X dX5_doWanted_83 (by decide) ?_
      refine sv_imul X dX5_doWanted_85 ?_
      refine sv_iload (i := 6) X dX5_doWanted_86 rfl ?_
      refine sv_iadd X dX5_doWanted_88 ?_
      obtain ⟨hb9, hL⟩ := fr_chk hL
      refine sv_iald (j := (fr_ix ((x7 * (8 : Int32)) + k5))) X rfl hb9 rfl dX5_doWanted_89 ?_
      refine sv_iadd X dX5_doWanted_90 ?_
      refine sv_topi (fun v10 ev10 => ?_)
      replace hL := fr_lete hL ev10
      refine sv_istore X dX5_doWanted_91 (by decide) rfl ?_
      refine sv_iload (i := 1) X dX5_doWanted_93 rfl ?_
      refine sv_aload_n (i := 2) X dX5_doWanted_95 rfl rfl ?_
      refine sv_getr X ix_X5 rfl 5 (by decide) rfl rfl fl_X5_30 dX5_doWanted_96 ?_
      refine sv_iload (i := 9) X dX5_doWanted_99 rfl ?_
      refine sv_bipush (v := 8) X dX5_doWanted_101 (by decide) ?_
      refine sv_imul X dX5_doWanted_103 ?_
      refine sv_iload (i := 8) X dX5_doWanted_104 rfl ?_
      refine sv_iadd X dX5_doWanted_106 ?_
      obtain ⟨hb11, hL⟩ := fr_chk hL
      refine sv_iald (j := (fr_ix ((x7 * (8 : Int32)) + k6))) X rfl hb11 rfl dX5_doWanted_107 ?_
      refine sv_iadd X dX5_doWanted_108 ?_
      refine sv_topi (fun v12 ev12 => ?_)
      replace hL := fr_lete hL ev12
      refine sv_istore X dX5_doWanted_109 (by decide) rfl ?_
      refine sv_aload_n (i := 3) X dX5_doWanted_111 rfl rfl ?_
      refine sv_getr X ix_X5 rfl 7 (by decide) rfl rfl fl_X5_36 dX5_doWanted_112 ?_
      refine sv_iload (i := 7) X dX5_doWanted_115 rfl ?_
      refine sv_iload (i := 9) X dX5_doWanted_117 rfl ?_
      refine sv_iadd X dX5_doWanted_119 ?_
      refine sv_aload_n (i := 3) X dX5_doWanted_120 rfl rfl ?_
      refine sv_getr X ix_X5 rfl 7 (by decide) rfl rfl fl_X5_36 dX5_doWanted_121 ?_
      refine sv_iload (i := 7) X dX5_doWanted_124 rfl ?_
      refine sv_iload (i := 9) X dX5_doWanted_126 rfl ?_
      refine sv_iadd X dX5_doWanted_128 ?_
      obtain ⟨hb13, hL⟩ := fr_chk hL
      refine sv_iald (j := (fr_ix (k4 + k6))) X rfl hb13 rfl dX5_doWanted_129 ?_
      refine sv_iload (i := 1) X dX5_doWanted_130 rfl ?_
      refine sv_min X ml_X5_83 sm_min in_RJ9 cd_min (by decide) (Nat.le_of_ble_eq_true rfl) dX5_doWanted_132 ?_
      obtain ⟨hb14, hL⟩ := fr_chk hL
      refine sv_iast (j := (fr_ix (k4 + k6))) X rfl hb14 rfl dX5_doWanted_135 ?_
      refine sv_sig (fun s15 es15 => ?_)
      replace hL := fr_lete hL es15
      refine sv_aload_n (i := 3) X dX5_doWanted_136 rfl rfl ?_
      refine sv_getr X ix_X5 rfl 7 (by decide) rfl rfl fl_X5_36 dX5_doWanted_137 ?_
      refine sv_iload (i := 7) X dX5_doWanted_140 rfl ?_
      refine sv_iload (i := 8) X dX5_doWanted_142 rfl ?_
      refine sv_iadd X dX5_doWanted_144 ?_
      refine sv_aload_n (i := 3) X dX5_doWanted_145 rfl rfl ?_
      refine sv_getr X ix_X5 rfl 7 (by decide) rfl rfl fl_X5_36 dX5_doWanted_146 ?_
      refine sv_iload (i := 7) X dX5_doWanted_149 rfl ?_
      refine sv_iload (i := 8) X dX5_doWanted_151 rfl ?_
      refine sv_iadd X dX5_doWanted_153 ?_
      obtain ⟨hb16, hL⟩ := fr_chk hL
      refine sv_iald (j := (fr_ix (k4 + k5))) X rfl hb16 rfl dX5_doWanted_154 ?_
      refine sv_iload (i := 0) X dX5_doWanted_155 rfl ?_
      refine sv_min X ml_X5_83 sm_min in_RJ9 cd_min (by decide) (Nat.le_of_ble_eq_true rfl) dX5_doWanted_157 ?_
      obtain ⟨hb17, hL⟩ := fr_chk hL
      refine sv_iast (j := (fr_ix (k4 + k5))) X rfl hb17 rfl dX5_doWanted_160 ?_
      refine sv_sig (fun s18 es18 => ?_)
      replace hL := fr_lete hL es18
      obtain ⟨v19, ev19⟩ : ∃ y : Int32, y = x7 + (1 : Int32) := ⟨_, rfl⟩
      replace hL := fr_lete hL ev19
      refine sv_iinc (i := 10) (v := v19) X dX5_doWanted_161 rfl (by rw [ev19]; rfl) (by decide) rfl ?_
      refine sv_goto (tgt := 40) X dX5_doWanted_164 (by decide) ?_
      exact sv_perm [4, 5, 6, 7, 8, 9, 10, 0] rfl (ih _ _ hL)
def F_X5_doWanted (a1 : Int32) (a2 : Int32) (σ : fr_St) : Option fr_St := if fr_ib a2 9 = true then fr_let ((σ 51 (fr_ix a2))) (fun v2 => fr_let (((a1 ||| ((1 : Int32) <<< (a2 &&& 31))) * (8 : Int32))) (fun v3 => fr_bP (F_X3_oneEnd 15 v2 σ) (fun r6 s5 => fr_bP (F_X3_otherEnd 15 v2 s5) (fun r9 s8 => fr_bP (L_X5_doWanted_40 a1 v2 v3 r6 r9 fr_fu (0 : Int32) s8) (fun v10 s11 => some s11))))) else none
set_option maxRecDepth 100000 in
set_option maxHeartbeats 4000000 in
theorem b_X5_doWanted {p : Program} {l : Launch} {e : Env} {s : State} {m : MethodId} {args : Array Value} {below : List Frame} {meth : Method} {c : Code} {g : fr_G} {Q : State → Prop} (X : fr_X p s m args meth c g cX5_doWanted RX5 11) (hr : meth.sig.returnType = (Option.none : Option Jvm.ClassFile.FieldType)) {a1 : Int32} {a2 : Int32}  {σ τ : fr_St} (hQ : Q = fr_Qv below args s g τ) (hF : F_X5_doWanted a1 a2 σ = some τ) : fr_V p l e (fr_rm 1) s m args below meth c g Q 11 σ 0 [(0, .ref (g.2.1 45)), (1, .int a1), (2, .int a2)] [] := by
  unfold F_X5_doWanted at hF
  refine sv_aload_n (i := 0) X dX5_doWanted_0 rfl rfl ?_
  refine sv_getr X ix_X5 rfl 6 (by decide) rfl rfl fl_X5_33 dX5_doWanted_1 ?_
  refine sv_iload_n (i := 2) X dX5_doWanted_4 rfl rfl ?_
  obtain ⟨hb1, hF⟩ := fr_chk hF
  refine sv_iald (j := (fr_ix a2)) X rfl hb1 rfl dX5_doWanted_5 ?_
  refine sv_topi (fun v2 ev2 => ?_)
  replace hF := fr_lete hF ev2
  refine sv_istore_n X dX5_doWanted_6 rfl (by decide) rfl ?_
  refine sv_iload_n (i := 2) X dX5_doWanted_7 rfl rfl ?_
  refine sv_iconst (v := 1) X dX5_doWanted_8 (by decide) ?_
  refine sv_iload_n (i := 3) X dX5_doWanted_9 rfl rfl ?_
  refine sv_ishl X dX5_doWanted_10 ?_
  refine sv_ior X dX5_doWanted_11 ?_
  refine sv_bipush (v := 8) X dX5_doWanted_12 (by decide) ?_
  refine sv_imul X dX5_doWanted_14 ?_
  refine sv_topi (fun v3 ev3 => ?_)
  replace hF := fr_lete hF ev3
  refine sv_istore X dX5_doWanted_15 (by decide) rfl ?_
  refine sv_aload_n (i := 2) X dX5_doWanted_17 rfl rfl ?_
  refine sv_getr X ix_X5 rfl 0 (by decide) rfl rfl fl_X5_11 dX5_doWanted_18 ?_
  refine sv_iload_n (i := 1) X dX5_doWanted_21 rfl rfl ?_
  obtain ⟨r6, s5, hc4, hF⟩ := fr_bP_some hF
  refine sv_callVi X (c_X3_oneEnd rfl rfl hc4) cd_X3_oneEnd ml_X5_148 im_X3_oneEnd se_X3_oneEnd in_RX3 hd_X3_oneEnd rfl rfl (by decide) rfl (Nat.le_of_ble_eq_true rfl) dX5_doWanted_22 rfl ?_
  refine sv_istore X dX5_doWanted_25 (by decide) rfl ?_
  refine sv_aload_n (i := 3) X dX5_doWanted_27 rfl rfl ?_
  refine sv_getr X ix_X5 rfl 0 (by decide) rfl rfl fl_X5_11 dX5_doWanted_28 ?_
  refine sv_iload_n (i := 2) X dX5_doWanted_31 rfl rfl ?_
  obtain ⟨r9, s8, hc7, hF⟩ := fr_bP_some hF
  refine sv_callVi X (c_X3_otherEnd rfl rfl hc7) cd_X3_otherEnd ml_X5_151 im_X3_otherEnd se_X3_otherEnd in_RX3 hd_X3_otherEnd rfl rfl (by decide) rfl (Nat.le_of_ble_eq_true rfl) dX5_doWanted_32 rfl ?_
  refine sv_istore X dX5_doWanted_35 (by decide) rfl ?_
  refine sv_iconst (v := 0) X dX5_doWanted_37 (by decide) ?_
  refine sv_istore X dX5_doWanted_38 (by decide) rfl ?_
  refine sv_perm [5, 6, 7, 4, 3, 2, 1, 0] rfl ?_
  obtain ⟨v10, s11, hl12, hF⟩ := fr_bP_some hF
  refine wL_X5_doWanted_40 X  a1 a2 v2 v3 r6 r9 ?_ fr_fu _ _ hl12
  exact sv_vret X hr hQ dX5_doWanted_167 hF
theorem c_X5_doWanted {l : Launch} {g : fr_G} {a1 : Int32} {a2 : Int32}  {σ τ : fr_St} (hF : F_X5_doWanted a1 a2 σ = some τ) : fr_Cv l g yX5_doWanted (fr_ws yX5_doWanted cX5_doWanted 11 (Option.none : Option Jvm.ClassFile.FieldType)) 1 [.ref (g.2.1 45), .int a1, .int a2] σ τ := fr_mv (by decide) (Nat.le_of_ble_eq_true rfl) (fun p e s m below meth c X hr => b_X5_doWanted X hr  rfl hF)
def L_X5_listWanted_4 (k1 : Int32) : Nat → Int32 → Int32 → fr_St → Option (Int32 × Int32 × fr_St)
  | 0, _, _, _ => none
  | n + 1, x2, x3, σ => fr_bP (F_X3_roads 15 σ) (fun r3 s2 => if r3 ≤ x3 then (some (x2, x3, s2)) else (fr_bP (if ((k1 >>> (x3 &&& 31)) &&& (1 : Int32)) = (1 : Int32) then (fr_bP (F_X3_opensByMeeting 15 x3 s2) (fun b11 s10 => if (fr_bi b11) = 0 then (some (x2, s10)) else (if fr_ib x2 9 = true then fr_let (fr_up s10 51 (fr_ix x2) x3) (fun s13 => fr_let (x2 + (1 : Int32)) (fun v14 => some (v14, s13))) else none))) else (some (x2, s2))) (fun v4 s5 => fr_let (x3 + (1 : Int32)) (fun v8 => L_X5_listWanted_4 k1 n v4 v8 s5))))
set_option maxRecDepth 100000 in
set_option maxHeartbeats 4000000 in
theorem wL_X5_listWanted_4 {p : Program} {l : Launch} {e : Env} {s : State} {m : MethodId} {args : Array Value} {below : List Frame} {meth : Method} {c : Code} {g : fr_G} {Q : State → Prop} (X : fr_X p s m args meth c g cX5_listWanted RX5 4)  (k1 : Int32) {y2 : Int32} {y3 : Int32} {τ : fr_St} (K : fr_V p l e (fr_rm 2) s m args below meth c g Q 4 τ 51 [(0, .ref (g.2.1 45)), (1, .int k1), (2, .int y2), (3, .int y3)] []) : ∀ (n : Nat) (x2 : Int32) (x3 : Int32) (σ : fr_St), L_X5_listWanted_4 k1 n x2 x3 σ = some (y2, y3, τ) → fr_V p l e (fr_rm 2) s m args below meth c g Q 4 σ 4 [(0, .ref (g.2.1 45)), (1, .int k1), (2, .int x2), (3, .int x3)] [] := by
  intro n
  induction n with
  | zero => intro x2 x3 σ hL; cases hL
  | succ n ih =>
    intro x2 x3 σ hL
    rw [L_X5_listWanted_4] at hL
    refine sv_iload_n (i := 3) X dX5_listWanted_4 rfl rfl ?_
    refine sv_aload_n (i := 0) X dX5_listWanted_5 rfl rfl ?_
    refine sv_getr X ix_X5 rfl 0 (by decide) rfl rfl fl_X5_11 dX5_listWanted_6 ?_
    obtain ⟨r3, s2, hc1, hL⟩ := fr_bP_some hL
    refine sv_callVi X (c_X3_roads rfl rfl hc1) cd_X3_roads ml_X5_72 im_X3_roads se_X3_roads in_RX3 hd_X3_roads rfl rfl (by decide) rfl (Nat.le_of_ble_eq_true rfl) dX5_listWanted_9 rfl ?_
    refine sv_icmp_ge (tgt := 51) X dX5_listWanted_12 (by decide) (fun h17 => ?_) (fun h17 => ?_)
    · replace hL := fr_pos hL h17
      obtain ⟨rfl, rfl, rfl⟩ := fr_i3 hL
      exact K
    · replace hL := fr_neg hL h17
      refine sv_iload_n (i := 1) X dX5_listWanted_15 rfl rfl ?_
      refine sv_iload_n (i := 3) X dX5_listWanted_16 rfl rfl ?_
      refine sv_ishr X dX5_listWanted_17 ?_
      refine sv_iconst (v := 1) X dX5_listWanted_18 (by decide) ?_
      refine sv_iand X dX5_listWanted_19 ?_
      refine sv_iconst (v := 1) X dX5_listWanted_20 (by decide) ?_
      obtain ⟨v4, s5, hM6, hL⟩ := fr_bP_some hL
      have K7 : fr_V p l e (fr_rm 2) s m args below meth c g Q 4 s5 45 [(0, .ref (g.2.1 45)), (1, .int k1), (2, .int v4), (3, .int x3)] [] := by
        obtain ⟨v8, ev8⟩ : ∃ y : Int32, y = x3 + (1 : Int32) := ⟨_, rfl⟩
        replace hL := fr_lete hL ev8
        refine sv_iinc (i := 3) (v := v8) X dX5_listWanted_45 rfl (by rw [ev8]; rfl) (by decide) rfl ?_
        refine sv_goto (tgt := 4) X dX5_listWanted_48 (by decide) ?_
        exact sv_perm [1, 2, 3, 0] rfl (ih _ _ _ hL)
      refine sv_icmp_ne (tgt := 45) X dX5_listWanted_21 (by decide) (fun h16 => ?_) (fun h16 => ?_)
      · replace hM6 := fr_neg hM6 h16
        obtain ⟨rfl, rfl⟩ := fr_i2 hM6
        exact K7
      · replace hM6 := fr_pos hM6 h16
        refine sv_aload_n (i := 0) X dX5_listWanted_24 rfl rfl ?_
        refine sv_getr X ix_X5 rfl 0 (by decide) rfl rfl fl_X5_11 dX5_listWanted_25 ?_
        refine sv_iload_n (i := 3) X dX5_listWanted_28 rfl rfl ?_
        obtain ⟨b11, s10, hc9, hM6⟩ := fr_bP_some hM6
        refine sv_callVi X (c_X3_opensByMeeting rfl rfl hc9) cd_X3_opensByMeeting ml_X5_76 im_X3_opensByMeeting se_X3_opensByMeeting in_RX3 hd_X3_opensByMeeting rfl rfl (by decide) rfl (Nat.le_of_ble_eq_true rfl) dX5_listWanted_29 rfl ?_
        refine sv_if_eq (tgt := 45) X dX5_listWanted_32 (by decide) (fun h15 => ?_) (fun h15 => ?_)
        · replace hM6 := fr_pos hM6 h15
          obtain ⟨rfl, rfl⟩ := fr_i2 hM6
          exact K7
        · replace hM6 := fr_neg hM6 h15
          refine sv_aload_n (i := 0) X dX5_listWanted_35 rfl rfl ?_
          refine sv_getr X ix_X5 rfl 6 (by decide) rfl rfl fl_X5_33 dX5_listWanted_36 ?_
          refine sv_iload_n (i := 2) X dX5_listWanted_39 rfl rfl ?_
          refine sv_iload_n (i := 3) X dX5_listWanted_40 rfl rfl ?_
          obtain ⟨hb12, hM6⟩ := fr_chk hM6
          refine sv_iast (j := (fr_ix x2)) X rfl hb12 rfl dX5_listWanted_41 ?_
          refine sv_sig (fun s13 es13 => ?_)
          replace hM6 := fr_lete hM6 es13
          obtain ⟨v14, ev14⟩ : ∃ y : Int32, y = x2 + (1 : Int32) := ⟨_, rfl⟩
          replace hM6 := fr_lete hM6 ev14
          refine sv_iinc (i := 2) (v := v14) X dX5_listWanted_42 rfl (by rw [ev14]; rfl) (by decide) rfl ?_
          obtain ⟨rfl, rfl⟩ := fr_i2 hM6
          exact sv_perm [1, 2, 0, 3] rfl K7
def F_X5_listWanted (a1 : Int32) (σ : fr_St) : Option (Int32 × fr_St) := fr_bP (L_X5_listWanted_4 a1 fr_fu (0 : Int32) (0 : Int32) σ) (fun v1 q5 => fr_pP q5 (fun v2 s3 => some (v1, s3)))
set_option maxRecDepth 100000 in
set_option maxHeartbeats 4000000 in
theorem b_X5_listWanted {p : Program} {l : Launch} {e : Env} {s : State} {m : MethodId} {args : Array Value} {below : List Frame} {meth : Method} {c : Code} {g : fr_G} {Q : State → Prop} (X : fr_X p s m args meth c g cX5_listWanted RX5 4) (hr : meth.sig.returnType = (some .int)) {a1 : Int32}  {σ τ : fr_St} {r : Int32} (hQ : Q = fr_Qi below args s g r τ) (hF : F_X5_listWanted a1 σ = some (r, τ)) : fr_V p l e (fr_rm 2) s m args below meth c g Q 4 σ 0 [(0, .ref (g.2.1 45)), (1, .int a1)] [] := by
  unfold F_X5_listWanted at hF
  refine sv_iconst (v := 0) X dX5_listWanted_0 (by decide) ?_
  refine sv_istore_n X dX5_listWanted_1 rfl (by decide) rfl ?_
  refine sv_iconst (v := 0) X dX5_listWanted_2 (by decide) ?_
  refine sv_istore_n X dX5_listWanted_3 rfl (by decide) rfl ?_
  refine sv_perm [2, 3, 1, 0] rfl ?_
  obtain ⟨v1, ⟨v2, s3⟩, hl4, hF⟩ := fr_bP_some hF
  dsimp only [fr_pP] at hF
  refine wL_X5_listWanted_4 X  a1 ?_ fr_fu _ _ _ hl4
  refine sv_iload_n (i := 2) X dX5_listWanted_51 rfl rfl ?_
  exact sv_iret X hr hQ dX5_listWanted_52 hF
theorem c_X5_listWanted {l : Launch} {g : fr_G} {a1 : Int32}  {σ τ : fr_St} {r : Int32} (hF : F_X5_listWanted a1 σ = some (r, τ)) : fr_Ci l g yX5_listWanted (fr_ws yX5_listWanted cX5_listWanted 4 (some .int)) 2 [.ref (g.2.1 45), .int a1] σ r τ := fr_mi (by decide) (Nat.le_of_ble_eq_true rfl) (fun p e s m below meth c X hr => b_X5_listWanted X hr  rfl hF)
def L_X5_measureSpans_7  : Nat → Int32 → fr_St → Option (Int32 × fr_St)
  | 0, _, _ => none
  | n + 1, x2, σ => fr_bP (F_X3_places 15 σ) (fun r3 s2 => if r3 ≤ x2 then (some (x2, s2)) else (fr_bS (F_X5_measure x2 48 s2) (fun s5 => if fr_cb (0 : Int32) (x2 * (8 : Int32)) (8 : Int32) 8 64 = true then fr_let (fr_row s5 50 (va_cpy (s5 48) (s5 50) (fr_ix (0 : Int32)) (fr_ix (x2 * (8 : Int32))) (fr_ix (8 : Int32)))) (fun s7 => fr_let (x2 + (1 : Int32)) (fun v8 => L_X5_measureSpans_7  n v8 s7)) else none)))
set_option maxRecDepth 100000 in
set_option maxHeartbeats 4000000 in
theorem wL_X5_measureSpans_7 {p : Program} {l : Launch} {e : Env} {s : State} {m : MethodId} {args : Array Value} {below : List Frame} {meth : Method} {c : Code} {g : fr_G} {Q : State → Prop} (X : fr_X p s m args meth c g cX5_measureSpans RX5 3)  (k1 : Int32) {y2 : Int32} {τ : fr_St} (K : fr_V p l e (fr_rm 3) s m args below meth c g Q 3 τ 51 [(0, .ref (g.2.1 45)), (1, .int k1), (2, .int y2)] []) : ∀ (n : Nat) (x2 : Int32) (σ : fr_St), L_X5_measureSpans_7  n x2 σ = some (y2, τ) → fr_V p l e (fr_rm 3) s m args below meth c g Q 3 σ 7 [(0, .ref (g.2.1 45)), (1, .int k1), (2, .int x2)] [] := by
  intro n
  induction n with
  | zero => intro x2 σ hL; cases hL
  | succ n ih =>
    intro x2 σ hL
    rw [L_X5_measureSpans_7] at hL
    refine sv_iload_n (i := 2) X dX5_measureSpans_7 rfl rfl ?_
    refine sv_aload_n (i := 0) X dX5_measureSpans_8 rfl rfl ?_
    refine sv_getr X ix_X5 rfl 0 (by decide) rfl rfl fl_X5_11 dX5_measureSpans_9 ?_
    obtain ⟨r3, s2, hc1, hL⟩ := fr_bP_some hL
    refine sv_callVi X (c_X3_places rfl rfl hc1) cd_X3_places ml_X5_110 im_X3_places se_X3_places in_RX3 hd_X3_places rfl rfl (by decide) rfl (Nat.le_of_ble_eq_true rfl) dX5_measureSpans_12 rfl ?_
    refine sv_icmp_ge (tgt := 51) X dX5_measureSpans_15 (by decide) (fun h9 => ?_) (fun h9 => ?_)
    · replace hL := fr_pos hL h9
      obtain ⟨rfl, rfl⟩ := fr_i2 hL
      exact K
    · replace hL := fr_neg hL h9
      refine sv_aload_n (i := 0) X dX5_measureSpans_18 rfl rfl ?_
      refine sv_iload_n (i := 2) X dX5_measureSpans_19 rfl rfl ?_
      refine sv_aload_n (i := 0) X dX5_measureSpans_20 rfl rfl ?_
      refine sv_getr X ix_X5 rfl 3 (by decide) rfl rfl fl_X5_24 dX5_measureSpans_21 ?_
      obtain ⟨s5, hc4, hL⟩ := fr_bS_some hL
      refine sv_callVv X (c_X5_measure rfl hc4) cd_X5_measure ml_X5_64 im_X5_measure se_X5_measure in_RX5 hd_X5_measure rfl rfl (by decide) rfl (Nat.le_of_ble_eq_true rfl) dX5_measureSpans_24 rfl ?_
      refine sv_aload_n (i := 0) X dX5_measureSpans_27 rfl rfl ?_
      refine sv_getr X ix_X5 rfl 3 (by decide) rfl rfl fl_X5_24 dX5_measureSpans_28 ?_
      refine sv_iconst (v := 0) X dX5_measureSpans_31 (by decide) ?_
      refine sv_aload_n (i := 0) X dX5_measureSpans_32 rfl rfl ?_
      refine sv_getr X ix_X5 rfl 5 (by decide) rfl rfl fl_X5_30 dX5_measureSpans_33 ?_
      refine sv_iload_n (i := 2) X dX5_measureSpans_36 rfl rfl ?_
      refine sv_bipush (v := 8) X dX5_measureSpans_37 (by decide) ?_
      refine sv_imul X dX5_measureSpans_39 ?_
      refine sv_bipush (v := 8) X dX5_measureSpans_40 (by decide) ?_
      obtain ⟨hb6, hL⟩ := fr_chk hL
      refine sv_copy X ml_X5_154 na_copy sm_copy in_System rfl rfl hb6 (by decide) (Nat.le_of_ble_eq_true rfl) dX5_measureSpans_42 ?_
      refine sv_sig (fun s7 es7 => ?_)
      replace hL := fr_lete hL es7
      obtain ⟨v8, ev8⟩ : ∃ y : Int32, y = x2 + (1 : Int32) := ⟨_, rfl⟩
      replace hL := fr_lete hL ev8
      refine sv_iinc (i := 2) (v := v8) X dX5_measureSpans_45 rfl (by rw [ev8]; rfl) (by decide) rfl ?_
      refine sv_goto (tgt := 7) X dX5_measureSpans_48 (by decide) ?_
      exact sv_perm [1, 2, 0] rfl (ih _ _ hL)
def F_X5_measureSpans (a1 : Int32) (σ : fr_St) : Option fr_St := fr_bS (F_X5_weighOpen a1 σ) (fun s2 => fr_bP (L_X5_measureSpans_7  fr_fu (0 : Int32) s2) (fun v3 s4 => some s4))
set_option maxRecDepth 100000 in
set_option maxHeartbeats 4000000 in
theorem b_X5_measureSpans {p : Program} {l : Launch} {e : Env} {s : State} {m : MethodId} {args : Array Value} {below : List Frame} {meth : Method} {c : Code} {g : fr_G} {Q : State → Prop} (X : fr_X p s m args meth c g cX5_measureSpans RX5 3) (hr : meth.sig.returnType = (Option.none : Option Jvm.ClassFile.FieldType)) {a1 : Int32}  {σ τ : fr_St} (hQ : Q = fr_Qv below args s g τ) (hF : F_X5_measureSpans a1 σ = some τ) : fr_V p l e (fr_rm 3) s m args below meth c g Q 3 σ 0 [(0, .ref (g.2.1 45)), (1, .int a1)] [] := by
  unfold F_X5_measureSpans at hF
  refine sv_aload_n (i := 0) X dX5_measureSpans_0 rfl rfl ?_
  refine sv_iload_n (i := 1) X dX5_measureSpans_1 rfl rfl ?_
  obtain ⟨s2, hc1, hF⟩ := fr_bS_some hF
  refine sv_callVv X (c_X5_weighOpen hc1) cd_X5_weighOpen ml_X5_60 im_X5_weighOpen se_X5_weighOpen in_RX5 hd_X5_weighOpen rfl rfl (by decide) rfl (Nat.le_of_ble_eq_true rfl) dX5_measureSpans_2 rfl ?_
  refine sv_iconst (v := 0) X dX5_measureSpans_5 (by decide) ?_
  refine sv_istore_n X dX5_measureSpans_6 rfl (by decide) rfl ?_
  refine sv_perm [1, 2, 0] rfl ?_
  obtain ⟨v3, s4, hl5, hF⟩ := fr_bP_some hF
  refine wL_X5_measureSpans_7 X  a1 ?_ fr_fu _ _ hl5
  exact sv_vret X hr hQ dX5_measureSpans_51 hF
theorem c_X5_measureSpans {l : Launch} {g : fr_G} {a1 : Int32}  {σ τ : fr_St} (hF : F_X5_measureSpans a1 σ = some τ) : fr_Cv l g yX5_measureSpans (fr_ws yX5_measureSpans cX5_measureSpans 3 (Option.none : Option Jvm.ClassFile.FieldType)) 3 [.ref (g.2.1 45), .int a1] σ τ := fr_mv (by decide) (Nat.le_of_ble_eq_true rfl) (fun p e s m below meth c X hr => b_X5_measureSpans X hr  rfl hF)
def L_X5_roundOf_67 (k4 : Int32) (k6 : Int32) : Nat → Int32 → fr_St → Option (Int32 × fr_St)
  | 0, _, _ => none
  | n + 1, x7, σ => if k4 ≤ x7 then (some (x7, σ)) else (fr_bS (if ((k6 >>> (x7 &&& 31)) &&& (1 : Int32)) = 0 then (fr_bS (F_X5_doWanted k6 x7 σ) (fun s6 => some (s6))) else (some (σ))) (fun s1 => fr_let (x7 + (1 : Int32)) (fun v4 => L_X5_roundOf_67 k4 k6 n v4 s1)))
set_option maxRecDepth 100000 in
set_option maxHeartbeats 4000000 in
theorem wL_X5_roundOf_67 {p : Program} {l : Launch} {e : Env} {s : State} {m : MethodId} {args : Array Value} {below : List Frame} {meth : Method} {c : Code} {g : fr_G} {Q : State → Prop} (X : fr_X p s m args meth c g cX5_roundOf RX5 8)  (k1 : Int32) (k2 : Int32) (k3 : Int32) (k4 : Int32) (k5 : Int32) (k6 : Int32) {y7 : Int32} {τ : fr_St} (K : fr_V p l e (fr_rm 4) s m args below meth c g Q 8 τ 98 [(0, .ref (g.2.1 45)), (1, .int k1), (2, .int k2), (3, .int k3), (4, .int k4), (5, .int k5), (6, .int k6), (7, .int y7)] []) : ∀ (n : Nat) (x7 : Int32) (σ : fr_St), L_X5_roundOf_67 k4 k6 n x7 σ = some (y7, τ) → fr_V p l e (fr_rm 4) s m args below meth c g Q 8 σ 67 [(0, .ref (g.2.1 45)), (1, .int k1), (2, .int k2), (3, .int k3), (4, .int k4), (5, .int k5), (6, .int k6), (7, .int x7)] [] := by
  intro n
  induction n with
  | zero => intro x7 σ hL; cases hL
  | succ n ih =>
    intro x7 σ hL
    rw [L_X5_roundOf_67] at hL
    refine sv_iload (i := 7) X dX5_roundOf_67 rfl ?_
    refine sv_iload (i := 4) X dX5_roundOf_69 rfl ?_
    refine sv_icmp_ge (tgt := 98) X dX5_roundOf_71 (by decide) (fun h8 => ?_) (fun h8 => ?_)
    · replace hL := fr_pos hL h8
      obtain ⟨rfl, rfl⟩ := fr_i2 hL
      exact K
    · replace hL := fr_neg hL h8
      refine sv_iload (i := 6) X dX5_roundOf_74 rfl ?_
      refine sv_iload (i := 7) X dX5_roundOf_76 rfl ?_
      refine sv_ishr X dX5_roundOf_78 ?_
      refine sv_iconst (v := 1) X dX5_roundOf_79 (by decide) ?_
      refine sv_iand X dX5_roundOf_80 ?_
      obtain ⟨s1, hM2, hL⟩ := fr_bS_some hL
      have K3 : fr_V p l e (fr_rm 4) s m args below meth c g Q 8 s1 92 [(0, .ref (g.2.1 45)), (1, .int k1), (2, .int k2), (3, .int k3), (4, .int k4), (5, .int k5), (6, .int k6), (7, .int x7)] [] := by
        obtain ⟨v4, ev4⟩ : ∃ y : Int32, y = x7 + (1 : Int32) := ⟨_, rfl⟩
        replace hL := fr_lete hL ev4
        refine sv_iinc (i := 7) (v := v4) X dX5_roundOf_92 rfl (by rw [ev4]; rfl) (by decide) rfl ?_
        refine sv_goto (tgt := 67) X dX5_roundOf_95 (by decide) ?_
        exact sv_perm [1, 2, 3, 4, 5, 6, 7, 0] rfl (ih _ _ hL)
      refine sv_if_ne (tgt := 92) X dX5_roundOf_81 (by decide) (fun h7 => ?_) (fun h7 => ?_)
      · replace hM2 := fr_neg hM2 h7
        obtain rfl := fr_i1 hM2
        exact K3
      · replace hM2 := fr_pos hM2 h7
        refine sv_aload_n (i := 0) X dX5_roundOf_84 rfl rfl ?_
        refine sv_iload (i := 6) X dX5_roundOf_85 rfl ?_
        refine sv_iload (i := 7) X dX5_roundOf_87 rfl ?_
        obtain ⟨s6, hc5, hM2⟩ := fr_bS_some hM2
        refine sv_callVv X (c_X5_doWanted hc5) cd_X5_doWanted ml_X5_106 im_X5_doWanted se_X5_doWanted in_RX5 hd_X5_doWanted rfl rfl (by decide) rfl (Nat.le_of_ble_eq_true rfl) dX5_roundOf_89 rfl ?_
        obtain rfl := fr_i1 hM2
        exact K3
def L_X5_roundOf_57 (k4 : Int32) (k5 : Int32) : Nat → Int32 → fr_St → Option (Int32 × fr_St)
  | 0, _, _ => none
  | n + 1, x6, σ => if k5 ≤ x6 then (some (x6, σ)) else (fr_bP (L_X5_roundOf_67 k4 x6 fr_fu (0 : Int32) σ) (fun v1 s2 => fr_let (x6 + (1 : Int32)) (fun v4 => L_X5_roundOf_57 k4 k5 n v4 s2)))
set_option maxRecDepth 100000 in
set_option maxHeartbeats 4000000 in
theorem wL_X5_roundOf_57 {p : Program} {l : Launch} {e : Env} {s : State} {m : MethodId} {args : Array Value} {below : List Frame} {meth : Method} {c : Code} {g : fr_G} {Q : State → Prop} (X : fr_X p s m args meth c g cX5_roundOf RX5 8)  (k1 : Int32) (k2 : Int32) (k3 : Int32) (k4 : Int32) (k5 : Int32) {y6 : Int32} {τ : fr_St} (K : fr_V p l e (fr_rm 4) s m args below meth c g Q 8 τ 104 [(0, .ref (g.2.1 45)), (1, .int k1), (2, .int k2), (3, .int k3), (4, .int k4), (5, .int k5), (6, .int y6)] []) : ∀ (n : Nat) (x6 : Int32) (σ : fr_St), L_X5_roundOf_57 k4 k5 n x6 σ = some (y6, τ) → fr_V p l e (fr_rm 4) s m args below meth c g Q 8 σ 57 [(0, .ref (g.2.1 45)), (1, .int k1), (2, .int k2), (3, .int k3), (4, .int k4), (5, .int k5), (6, .int x6)] [] := by
  intro n
  induction n with
  | zero => intro x6 σ hL; cases hL
  | succ n ih =>
    intro x6 σ hL
    rw [L_X5_roundOf_57] at hL
    refine sv_iload (i := 6) X dX5_roundOf_57 rfl ?_
    refine sv_iload (i := 5) X dX5_roundOf_59 rfl ?_
    refine sv_icmp_ge (tgt := 104) X dX5_roundOf_61 (by decide) (fun h5 => ?_) (fun h5 => ?_)
    · replace hL := fr_pos hL h5
      obtain ⟨rfl, rfl⟩ := fr_i2 hL
      exact K
    · replace hL := fr_neg hL h5
      refine sv_iconst (v := 0) X dX5_roundOf_64 (by decide) ?_
      refine sv_istore X dX5_roundOf_65 (by decide) rfl ?_
      refine sv_perm [1, 2, 3, 4, 5, 6, 7, 0] rfl ?_
      obtain ⟨v1, s2, hl3, hL⟩ := fr_bP_some hL
      refine wL_X5_roundOf_67 X  k1 k2 k3 k4 k5 x6 ?_ fr_fu _ _ hl3
      obtain ⟨v4, ev4⟩ : ∃ y : Int32, y = x6 + (1 : Int32) := ⟨_, rfl⟩
      replace hL := fr_lete hL ev4
      refine sv_iinc (i := 6) (v := v4) X dX5_roundOf_98 rfl (by rw [ev4]; rfl) (by decide) rfl ?_
      refine sv_goto (tgt := 57) X dX5_roundOf_101 (by decide) ?_
      exact sv_perm [1, 2, 3, 4, 5, 6, 0] rfl (ih _ _ hL)
def L_X5_roundOf_111 (k2 : Int32) (k5 : Int32) : Nat → Int32 → Int32 → fr_St → Option (Int32 × Int32 × fr_St)
  | 0, _, _, _ => none
  | n + 1, x6, x7, σ => fr_bP (F_X3_places 15 σ) (fun r3 s2 => if r3 ≤ x7 then (some (x6, x7, s2)) else (if fr_ib ((k5 * (8 : Int32)) + x7) 4096 = true then if fr_ib ((x7 * (8 : Int32)) + k2) 64 = true then fr_let ((if ((s2 52 (fr_ix ((k5 * (8 : Int32)) + x7))) + (s2 50 (fr_ix ((x7 * (8 : Int32)) + k2)))) < x6 then ((s2 52 (fr_ix ((k5 * (8 : Int32)) + x7))) + (s2 50 (fr_ix ((x7 * (8 : Int32)) + k2)))) else x6)) (fun v6 => fr_let (x7 + (1 : Int32)) (fun v7 => L_X5_roundOf_111 k2 k5 n v6 v7 s2)) else none else none))
set_option maxRecDepth 100000 in
set_option maxHeartbeats 4000000 in
theorem wL_X5_roundOf_111 {p : Program} {l : Launch} {e : Env} {s : State} {m : MethodId} {args : Array Value} {below : List Frame} {meth : Method} {c : Code} {g : fr_G} {Q : State → Prop} (X : fr_X p s m args meth c g cX5_roundOf RX5 8)  (k1 : Int32) (k2 : Int32) (k3 : Int32) (k4 : Int32) (k5 : Int32) {y6 : Int32} {y7 : Int32} {τ : fr_St} (K : fr_V p l e (fr_rm 4) s m args below meth c g Q 8 τ 162 [(0, .ref (g.2.1 45)), (1, .int k1), (2, .int k2), (3, .int k3), (4, .int k4), (5, .int k5), (6, .int y6), (7, .int y7)] []) : ∀ (n : Nat) (x6 : Int32) (x7 : Int32) (σ : fr_St), L_X5_roundOf_111 k2 k5 n x6 x7 σ = some (y6, y7, τ) → fr_V p l e (fr_rm 4) s m args below meth c g Q 8 σ 111 [(0, .ref (g.2.1 45)), (1, .int k1), (2, .int k2), (3, .int k3), (4, .int k4), (5, .int k5), (6, .int x6), (7, .int x7)] [] := by
  intro n
  induction n with
  | zero => intro x6 x7 σ hL; cases hL
  | succ n ih =>
    intro x6 x7 σ hL
    rw [L_X5_roundOf_111] at hL
    refine sv_iload (i := 7) X dX5_roundOf_111 rfl ?_
    refine sv_aload_n (i := 0) X dX5_roundOf_113 rfl rfl ?_
    refine sv_getr X ix_X5 rfl 0 (by decide) rfl rfl fl_X5_11 dX5_roundOf_114 ?_
    obtain ⟨r3, s2, hc1, hL⟩ := fr_bP_some hL
    refine sv_callVi X (c_X3_places rfl rfl hc1) cd_X3_places ml_X5_110 im_X3_places se_X3_places in_RX3 hd_X3_places rfl rfl (by decide) rfl (Nat.le_of_ble_eq_true rfl) dX5_roundOf_117 rfl ?_
    refine sv_icmp_ge (tgt := 162) X dX5_roundOf_120 (by decide) (fun h8 => ?_) (fun h8 => ?_)
    · replace hL := fr_pos hL h8
      obtain ⟨rfl, rfl, rfl⟩ := fr_i3 hL
      exact K
    · replace hL := fr_neg hL h8
      refine sv_iload (i := 6) X dX5_roundOf_123 rfl ?_
      refine sv_aload_n (i := 0) X dX5_roundOf_125 rfl rfl ?_
      refine sv_getr X ix_X5 rfl 7 (by decide) rfl rfl fl_X5_36 dX5_roundOf_126 ?_
      refine sv_iload (i := 5) X dX5_roundOf_129 rfl ?_
      refine sv_bipush (v := 8) X dX5_roundOf_131 (by decide) ?_
      refine sv_imul X dX5_roundOf_133 ?_
      refine sv_iload (i := 7) X dX5_roundOf_134 rfl ?_
      refine sv_iadd X dX5_roundOf_136 ?_
      obtain ⟨hb4, hL⟩ := fr_chk hL
      refine sv_iald (j := (fr_ix ((k5 * (8 : Int32)) + x7))) X rfl hb4 rfl dX5_roundOf_137 ?_
      refine sv_aload_n (i := 0) X dX5_roundOf_138 rfl rfl ?_
      refine sv_getr X ix_X5 rfl 5 (by decide) rfl rfl fl_X5_30 dX5_roundOf_139 ?_
      refine sv_iload (i := 7) X dX5_roundOf_142 rfl ?_
      refine sv_bipush (v := 8) X dX5_roundOf_144 (by decide) ?_
      refine sv_imul X dX5_roundOf_146 ?_
      refine sv_iload_n (i := 2) X dX5_roundOf_147 rfl rfl ?_
      refine sv_iadd X dX5_roundOf_148 ?_
      obtain ⟨hb5, hL⟩ := fr_chk hL
      refine sv_iald (j := (fr_ix ((x7 * (8 : Int32)) + k2))) X rfl hb5 rfl dX5_roundOf_149 ?_
      refine sv_iadd X dX5_roundOf_150 ?_
      refine sv_min X ml_X5_83 sm_min in_RJ9 cd_min (by decide) (Nat.le_of_ble_eq_true rfl) dX5_roundOf_151 ?_
      refine sv_topi (fun v6 ev6 => ?_)
      replace hL := fr_lete hL ev6
      refine sv_istore X dX5_roundOf_154 (by decide) rfl ?_
      obtain ⟨v7, ev7⟩ : ∃ y : Int32, y = x7 + (1 : Int32) := ⟨_, rfl⟩
      replace hL := fr_lete hL ev7
      refine sv_iinc (i := 7) (v := v7) X dX5_roundOf_156 rfl (by rw [ev7]; rfl) (by decide) rfl ?_
      refine sv_goto (tgt := 111) X dX5_roundOf_159 (by decide) ?_
      exact sv_perm [2, 3, 4, 5, 6, 7, 1, 0] rfl (ih _ _ _ hL)
def F_X5_roundOf (a1 : Int32) (σ : fr_St) : Option (Int32 × fr_St) := fr_bP (F_X3_placeOf 15 a1 σ) (fun r3 s2 => fr_bP (F_X3_roadsOpenTo 15 a1 s2) (fun r6 s5 => fr_bS (F_X5_measureSpans r6 s5) (fun s8 => fr_bP (F_X5_listWanted r6 s8) (fun r11 s10 => fr_let ((((1 : Int32) <<< (r11 &&& 31)) - (1 : Int32))) (fun v12 => fr_bS (F_J7_fill_53178 52 4096 (1000000 : Int32) s10) (fun s14 => if fr_ib r3 4096 = true then fr_let (fr_up s14 52 (fr_ix r3) (0 : Int32)) (fun s16 => fr_bP (L_X5_roundOf_57 r11 v12 fr_fu (0 : Int32) s16) (fun v17 s18 => fr_bP (L_X5_roundOf_111 r3 v12 fr_fu (1000000 : Int32) (0 : Int32) s18) (fun v20 q27 => fr_pP q27 (fun v21 s22 => fr_bP (F_X5_noneIfFar v20 s22) (fun r26 s25 => some (r26, s25)))))) else none))))))
set_option maxRecDepth 100000 in
set_option maxHeartbeats 4000000 in
theorem b_X5_roundOf {p : Program} {l : Launch} {e : Env} {s : State} {m : MethodId} {args : Array Value} {below : List Frame} {meth : Method} {c : Code} {g : fr_G} {Q : State → Prop} (X : fr_X p s m args meth c g cX5_roundOf RX5 8) (hr : meth.sig.returnType = (some .int)) {a1 : Int32}  {σ τ : fr_St} {r : Int32} (hQ : Q = fr_Qi below args s g r τ) (hF : F_X5_roundOf a1 σ = some (r, τ)) : fr_V p l e (fr_rm 4) s m args below meth c g Q 8 σ 0 [(0, .ref (g.2.1 45)), (1, .int a1)] [] := by
  unfold F_X5_roundOf at hF
  refine sv_aload_n (i := 0) X dX5_roundOf_0 rfl rfl ?_
  refine sv_getr X ix_X5 rfl 0 (by decide) rfl rfl fl_X5_11 dX5_roundOf_1 ?_
  refine sv_iload_n (i := 1) X dX5_roundOf_4 rfl rfl ?_
  obtain ⟨r3, s2, hc1, hF⟩ := fr_bP_some hF
  refine sv_callVi X (c_X3_placeOf rfl rfl hc1) cd_X3_placeOf ml_X5_42 im_X3_placeOf se_X3_placeOf in_RX3 hd_X3_placeOf rfl rfl (by decide) rfl (Nat.le_of_ble_eq_true rfl) dX5_roundOf_5 rfl ?_
  refine sv_istore_n X dX5_roundOf_8 rfl (by decide) rfl ?_
  refine sv_aload_n (i := 1) X dX5_roundOf_9 rfl rfl ?_
  refine sv_getr X ix_X5 rfl 0 (by decide) rfl rfl fl_X5_11 dX5_roundOf_10 ?_
  refine sv_iload_n (i := 2) X dX5_roundOf_13 rfl rfl ?_
  obtain ⟨r6, s5, hc4, hF⟩ := fr_bP_some hF
  refine sv_callVi X (c_X3_roadsOpenTo rfl rfl hc4) cd_X3_roadsOpenTo ml_X5_46 im_X3_roadsOpenTo se_X3_roadsOpenTo in_RX3 hd_X3_roadsOpenTo rfl rfl (by decide) rfl (Nat.le_of_ble_eq_true rfl) dX5_roundOf_14 rfl ?_
  refine sv_istore_n X dX5_roundOf_17 rfl (by decide) rfl ?_
  refine sv_aload_n (i := 2) X dX5_roundOf_18 rfl rfl ?_
  refine sv_iload_n (i := 0) X dX5_roundOf_19 rfl rfl ?_
  obtain ⟨s8, hc7, hF⟩ := fr_bS_some hF
  refine sv_callVv X (c_X5_measureSpans hc7) cd_X5_measureSpans ml_X5_94 im_X5_measureSpans se_X5_measureSpans in_RX5 hd_X5_measureSpans rfl rfl (by decide) rfl (Nat.le_of_ble_eq_true rfl) dX5_roundOf_20 rfl ?_
  refine sv_aload_n (i := 2) X dX5_roundOf_23 rfl rfl ?_
  refine sv_iload_n (i := 0) X dX5_roundOf_24 rfl rfl ?_
  obtain ⟨r11, s10, hc9, hF⟩ := fr_bP_some hF
  refine sv_callVi X (c_X5_listWanted hc9) cd_X5_listWanted ml_X5_97 im_X5_listWanted se_X5_listWanted in_RX5 hd_X5_listWanted rfl rfl (by decide) rfl (Nat.le_of_ble_eq_true rfl) dX5_roundOf_25 rfl ?_
  refine sv_istore X dX5_roundOf_28 (by decide) rfl ?_
  refine sv_iconst (v := 1) X dX5_roundOf_30 (by decide) ?_
  refine sv_iload (i := 0) X dX5_roundOf_31 rfl ?_
  refine sv_ishl X dX5_roundOf_33 ?_
  refine sv_iconst (v := 1) X dX5_roundOf_34 (by decide) ?_
  refine sv_isub X dX5_roundOf_35 ?_
  refine sv_topi (fun v12 ev12 => ?_)
  replace hF := fr_lete hF ev12
  refine sv_istore X dX5_roundOf_36 (by decide) rfl ?_
  refine sv_aload_n (i := 4) X dX5_roundOf_38 rfl rfl ?_
  refine sv_getr X ix_X5 rfl 7 (by decide) rfl rfl fl_X5_36 dX5_roundOf_39 ?_
  refine sv_ldc X kn_X5_70 dX5_roundOf_42 ?_
  obtain ⟨s14, hc13, hF⟩ := fr_bS_some hF
  refine sv_callSv X (c_J7_fill_53178 rfl hc13) cd_J7_fill_53178 ml_X5_100 sm_J7_fill_53178 in_RJ7 hd_J7_fill_53178 (by decide) rfl (Nat.le_of_ble_eq_true rfl) dX5_roundOf_44 rfl ?_
  refine sv_aload_n (i := 4) X dX5_roundOf_47 rfl rfl ?_
  refine sv_getr X ix_X5 rfl 7 (by decide) rfl rfl fl_X5_36 dX5_roundOf_48 ?_
  refine sv_iload_n (i := 3) X dX5_roundOf_51 rfl rfl ?_
  refine sv_iconst (v := 0) X dX5_roundOf_52 (by decide) ?_
  obtain ⟨hb15, hF⟩ := fr_chk hF
  refine sv_iast (j := (fr_ix r3)) X rfl hb15 rfl dX5_roundOf_53 ?_
  refine sv_sig (fun s16 es16 => ?_)
  replace hF := fr_lete hF es16
  refine sv_iconst (v := 0) X dX5_roundOf_54 (by decide) ?_
  refine sv_istore X dX5_roundOf_55 (by decide) rfl ?_
  refine sv_perm [5, 6, 4, 3, 2, 1, 0] rfl ?_
  obtain ⟨v17, s18, hl19, hF⟩ := fr_bP_some hF
  refine wL_X5_roundOf_57 X  a1 r3 r6 r11 v12 ?_ fr_fu _ _ hl19
  refine sv_ldc X kn_X5_70 dX5_roundOf_104 ?_
  refine sv_istore X dX5_roundOf_106 (by decide) rfl ?_
  refine sv_iconst (v := 0) X dX5_roundOf_108 (by decide) ?_
  refine sv_istore X dX5_roundOf_109 (by decide) rfl ?_
  refine sv_perm [2, 3, 4, 5, 6, 7, 1, 0] rfl ?_
  obtain ⟨v20, ⟨v21, s22⟩, hl23, hF⟩ := fr_bP_some hF
  dsimp only [fr_pP] at hF
  refine wL_X5_roundOf_111 X  a1 r3 r6 r11 v12 ?_ fr_fu _ _ _ hl23
  refine sv_iload (i := 6) X dX5_roundOf_162 rfl ?_
  obtain ⟨r26, s25, hc24, hF⟩ := fr_bP_some hF
  refine sv_callSi X (c_X5_noneIfFar hc24) cd_X5_noneIfFar ml_X5_57 sm_X5_noneIfFar in_RX5 hd_X5_noneIfFar (by decide) rfl (Nat.le_of_ble_eq_true rfl) dX5_roundOf_164 rfl ?_
  exact sv_iret X hr hQ dX5_roundOf_167 hF
theorem c_X5_roundOf {l : Launch} {g : fr_G} {a1 : Int32}  {σ τ : fr_St} {r : Int32} (hF : F_X5_roundOf a1 σ = some (r, τ)) : fr_Ci l g yX5_roundOf (fr_ws yX5_roundOf cX5_roundOf 8 (some .int)) 4 [.ref (g.2.1 45), .int a1] σ r τ := fr_mi (by decide) (Nat.le_of_ble_eq_true rfl) (fun p e s m below meth c X hr => b_X5_roundOf X hr  rfl hF)
def F_X5_reaches (a1 : Int32) (a2 : Int32) (a3 : Int32) (σ : fr_St) : Option (Bool × fr_St) := fr_bP (F_X5_flood a1 a2 σ) (fun r3 s2 => fr_bS (if ((r3 >>> (a3 &&& 31)) &&& (1 : Int32)) = (1 : Int32) then (some ((1 : Int32))) else (some ((0 : Int32)))) (fun v4 => if v4 = 0 then some (false, s2) else if v4 = 1 then some (true, s2) else none))
set_option maxRecDepth 100000 in
set_option maxHeartbeats 4000000 in
theorem b_X5_reaches {p : Program} {l : Launch} {e : Env} {s : State} {m : MethodId} {args : Array Value} {below : List Frame} {meth : Method} {c : Code} {g : fr_G} {Q : State → Prop} (X : fr_X p s m args meth c g cX5_reaches RX5 4) (hr : meth.sig.returnType = (some .boolean)) {a1 : Int32} {a2 : Int32} {a3 : Int32}  {σ τ : fr_St} {r : Bool} (hQ : Q = fr_Qi below args s g (fr_bi r) τ) (hF : F_X5_reaches a1 a2 a3 σ = some (r, τ)) : fr_V p l e (fr_rm 2) s m args below meth c g Q 4 σ 0 [(0, .ref (g.2.1 45)), (1, .int a1), (2, .int a2), (3, .int a3)] [] := by
  unfold F_X5_reaches at hF
  refine sv_aload_n (i := 0) X dX5_reaches_0 rfl rfl ?_
  refine sv_iload_n (i := 1) X dX5_reaches_1 rfl rfl ?_
  refine sv_iload_n (i := 2) X dX5_reaches_2 rfl rfl ?_
  obtain ⟨r3, s2, hc1, hF⟩ := fr_bP_some hF
  refine sv_callVi X (c_X5_flood hc1) cd_X5_flood ml_X5_49 im_X5_flood se_X5_flood in_RX5 hd_X5_flood rfl rfl (by decide) rfl (Nat.le_of_ble_eq_true rfl) dX5_reaches_3 rfl ?_
  refine sv_iload_n (i := 3) X dX5_reaches_6 rfl rfl ?_
  refine sv_ishr X dX5_reaches_7 ?_
  refine sv_iconst (v := 1) X dX5_reaches_8 (by decide) ?_
  refine sv_iand X dX5_reaches_9 ?_
  refine sv_iconst (v := 1) X dX5_reaches_10 (by decide) ?_
  obtain ⟨v4, hM5, hF⟩ := fr_bS_some hF
  have K6 : fr_V p l e (fr_rm 2) s m args below meth c g Q 4 s2 19 [(0, .ref (g.2.1 45)), (1, .int a1), (2, .int a2), (3, .int a3)] [.int v4] := by
    exact sv_zretv X hr hQ dX5_reaches_19 hF
  refine sv_icmp_ne (tgt := 18) X dX5_reaches_11 (by decide) (fun h7 => ?_) (fun h7 => ?_)
  · replace hM5 := fr_neg hM5 h7
    refine sv_iconst (v := 0) X dX5_reaches_18 (by decide) ?_
    obtain rfl := fr_i1 hM5
    exact K6
  · replace hM5 := fr_pos hM5 h7
    refine sv_iconst (v := 1) X dX5_reaches_14 (by decide) ?_
    refine sv_goto (tgt := 19) X dX5_reaches_15 (by decide) ?_
    obtain rfl := fr_i1 hM5
    exact K6
theorem c_X5_reaches {l : Launch} {g : fr_G} {a1 : Int32} {a2 : Int32} {a3 : Int32}  {σ τ : fr_St} {r : Bool} (hF : F_X5_reaches a1 a2 a3 σ = some (r, τ)) : fr_Ci l g yX5_reaches (fr_ws yX5_reaches cX5_reaches 4 (some .boolean)) 2 [.ref (g.2.1 45), .int a1, .int a2, .int a3] σ (fr_bi r) τ := fr_mz (by decide) (Nat.le_of_ble_eq_true rfl) (fun p e s m below meth c X hr => b_X5_reaches X hr  rfl hF)
def L_X5_barsAgainst_34 (k2 : Int32) (k3 : Int32) (k4 : Int32) : Nat → Int32 → Int32 → Int32 → fr_St → Option (Int32 × Int32 × Int32 × fr_St)
  | 0, _, _, _, _ => none
  | n + 1, x5, x6, x7, σ => fr_bP (F_X3_roads 15 σ) (fun r3 s2 => if ((1 : Int32) <<< (r3 &&& 31)) ≤ x7 then (some (x5, x6, x7, s2)) else (fr_bP (if (x7 &&& (k4 ^^^ (-1 : Int32))) = 0 then (fr_bP (F_J6_bitCount_0f7a4 x7 s2) (fun r25 s24 => if x6 ≤ r25 then (some ((0 : Int32), s24)) else (some ((1 : Int32), s24)))) else (some ((0 : Int32), s2))) (fun v4 s5 => fr_bP (if v4 = 0 then (some (x5, x6, s5)) else (fr_bP (F_X5_reaches k3 (k4 &&& (x7 ^^^ (-1 : Int32))) k2 s5) (fun b16 s15 => if (fr_bi b16) = 0 then (fr_bP (F_J6_bitCount_0f7a4 x7 s15) (fun r19 s18 => some (x7, r19, s18))) else (some (x5, x6, s15))))) (fun v8 q21 => fr_pP q21 (fun v9 s10 => fr_let (x7 + (1 : Int32)) (fun v13 => L_X5_barsAgainst_34 k2 k3 k4 n v8 v9 v13 s10))))))
set_option maxRecDepth 100000 in
set_option maxHeartbeats 4000000 in
theorem wL_X5_barsAgainst_34 {p : Program} {l : Launch} {e : Env} {s : State} {m : MethodId} {args : Array Value} {below : List Frame} {meth : Method} {c : Code} {g : fr_G} {Q : State → Prop} (X : fr_X p s m args meth c g cX5_barsAgainst RX5 9)  (k1 : Int32) (k2 : Int32) (k3 : Int32) (k4 : Int32) {y5 : Int32} {y6 : Int32} {y7 : Int32} {τ : fr_St} (K : fr_V p l e (fr_rm 4) s m args below meth c g Q 9 τ 113 [(0, .ref (g.2.1 45)), (1, .int k1), (2, .int k2), (3, .int k3), (4, .int k4), (5, .int y5), (6, .int y6), (7, .int y7)] []) : ∀ (n : Nat) (x5 : Int32) (x6 : Int32) (x7 : Int32) (σ : fr_St), L_X5_barsAgainst_34 k2 k3 k4 n x5 x6 x7 σ = some (y5, y6, y7, τ) → fr_V p l e (fr_rm 4) s m args below meth c g Q 9 σ 34 [(0, .ref (g.2.1 45)), (1, .int k1), (2, .int k2), (3, .int k3), (4, .int k4), (5, .int x5), (6, .int x6), (7, .int x7)] [] := by
  intro n
  induction n with
  | zero => intro x5 x6 x7 σ hL; cases hL
  | succ n ih =>
    intro x5 x6 x7 σ hL
    rw [L_X5_barsAgainst_34] at hL
    refine sv_iload (i := 7) X dX5_barsAgainst_34 rfl ?_
    refine sv_iconst (v := 1) X dX5_barsAgainst_36 (by decide) ?_
    refine sv_aload_n (i := 0) X dX5_barsAgainst_37 rfl rfl ?_
    refine sv_getr X ix_X5 rfl 0 (by decide) rfl rfl fl_X5_11 dX5_barsAgainst_38 ?_
    obtain ⟨r3, s2, hc1, hL⟩ := fr_bP_some hL
    refine sv_callVi X (c_X3_roads rfl rfl hc1) cd_X3_roads ml_X5_72 im_X3_roads se_X3_roads in_RX3 hd_X3_roads rfl rfl (by decide) rfl (Nat.le_of_ble_eq_true rfl) dX5_barsAgainst_41 rfl ?_
    refine sv_ishl X dX5_barsAgainst_44 ?_
    refine sv_icmp_ge (tgt := 113) X dX5_barsAgainst_45 (by decide) (fun h28 => ?_) (fun h28 => ?_)
    · replace hL := fr_pos hL h28
      obtain ⟨rfl, rfl, rfl, rfl⟩ := fr_i4 hL
      exact K
    · replace hL := fr_neg hL h28
      refine sv_iload (i := 7) X dX5_barsAgainst_48 rfl ?_
      refine sv_iload (i := 4) X dX5_barsAgainst_50 rfl ?_
      refine sv_iconst (v := (-1)) X dX5_barsAgainst_52 (by decide) ?_
      refine sv_ixor X dX5_barsAgainst_53 ?_
      refine sv_iand X dX5_barsAgainst_54 ?_
      obtain ⟨v4, s5, hM6, hL⟩ := fr_bP_some hL
      have K7 : fr_V p l e (fr_rm 4) s m args below meth c g Q 9 s5 73 [(0, .ref (g.2.1 45)), (1, .int k1), (2, .int k2), (3, .int k3), (4, .int k4), (5, .int x5), (6, .int x6), (7, .int x7)] [.int v4] := by
        refine sv_istore X dX5_barsAgainst_73 (by decide) rfl ?_
        refine sv_iload (i := 0) X dX5_barsAgainst_75 rfl ?_
        obtain ⟨v8, ⟨v9, s10⟩, hM11, hL⟩ := fr_bP_some hL
        dsimp only [fr_pP] at hL
        have K12 : fr_V p l e (fr_rm 4) s m args below meth c g Q 9 s10 107 [(0, .ref (g.2.1 45)), (1, .int k1), (2, .int k2), (3, .int k3), (4, .int k4), (5, .int v8), (6, .int v9), (7, .int x7), (8, .int v4)] [] := by
          obtain ⟨v13, ev13⟩ : ∃ y : Int32, y = x7 + (1 : Int32) := ⟨_, rfl⟩
          replace hL := fr_lete hL ev13
          refine sv_iinc (i := 7) (v := v13) X dX5_barsAgainst_107 rfl (by rw [ev13]; rfl) (by decide) rfl ?_
          refine sv_goto (tgt := 34) X dX5_barsAgainst_110 (by decide) ?_
          exact sv_perm [1, 2, 3, 4, 5, 6, 7, 0] rfl (ih _ _ _ _ hL)
        refine sv_if_eq (tgt := 107) X dX5_barsAgainst_77 (by decide) (fun h22 => ?_) (fun h22 => ?_)
        · replace hM11 := fr_pos hM11 h22
          obtain ⟨rfl, rfl, rfl⟩ := fr_i3 hM11
          exact sv_perm [1, 2, 3, 4, 5, 6, 7, 8, 0] rfl K12
        · replace hM11 := fr_neg hM11 h22
          refine sv_aload_n (i := 1) X dX5_barsAgainst_80 rfl rfl ?_
          refine sv_iload_n (i := 4) X dX5_barsAgainst_81 rfl rfl ?_
          refine sv_iload (i := 5) X dX5_barsAgainst_82 rfl ?_
          refine sv_iload (i := 8) X dX5_barsAgainst_84 rfl ?_
          refine sv_iconst (v := (-1)) X dX5_barsAgainst_86 (by decide) ?_
          refine sv_ixor X dX5_barsAgainst_87 ?_
          refine sv_iand X dX5_barsAgainst_88 ?_
          refine sv_iload_n (i := 3) X dX5_barsAgainst_89 rfl rfl ?_
          obtain ⟨b16, s15, hc14, hM11⟩ := fr_bP_some hM11
          refine sv_callVi X (c_X5_reaches hc14) cd_X5_reaches ml_X5_118 im_X5_reaches se_X5_reaches in_RX5 hd_X5_reaches rfl rfl (by decide) rfl (Nat.le_of_ble_eq_true rfl) dX5_barsAgainst_90 rfl ?_
          refine sv_if_ne (tgt := 107) X dX5_barsAgainst_93 (by decide) (fun h20 => ?_) (fun h20 => ?_)
          · replace hM11 := fr_neg hM11 h20
            obtain ⟨rfl, rfl, rfl⟩ := fr_i3 hM11
            exact sv_perm [1, 2, 3, 4, 5, 6, 7, 8, 0] rfl K12
          · replace hM11 := fr_pos hM11 h20
            refine sv_iload (i := 8) X dX5_barsAgainst_96 rfl ?_
            refine sv_istore X dX5_barsAgainst_98 (by decide) rfl ?_
            refine sv_iload (i := 8) X dX5_barsAgainst_100 rfl ?_
            obtain ⟨r19, s18, hc17, hM11⟩ := fr_bP_some hM11
            refine sv_callSi X (c_J6_bitCount_0f7a4 hc17) cd_J6_bitCount_0f7a4 ml_X5_113 sm_J6_bitCount_0f7a4 in_RJ6 hd_J6_bitCount_0f7a4 (by decide) rfl (Nat.le_of_ble_eq_true rfl) dX5_barsAgainst_102 rfl ?_
            refine sv_istore X dX5_barsAgainst_105 (by decide) rfl ?_
            obtain ⟨rfl, rfl, rfl⟩ := fr_i3 hM11
            exact sv_perm [3, 4, 5, 6, 7, 1, 0, 8, 2] rfl K12
      refine sv_if_ne (tgt := 72) X dX5_barsAgainst_55 (by decide) (fun h27 => ?_) (fun h27 => ?_)
      · replace hM6 := fr_neg hM6 h27
        refine sv_iconst (v := 0) X dX5_barsAgainst_72 (by decide) ?_
        obtain ⟨rfl, rfl⟩ := fr_i2 hM6
        exact K7
      · replace hM6 := fr_pos hM6 h27
        refine sv_iload (i := 7) X dX5_barsAgainst_58 rfl ?_
        obtain ⟨r25, s24, hc23, hM6⟩ := fr_bP_some hM6
        refine sv_callSi X (c_J6_bitCount_0f7a4 hc23) cd_J6_bitCount_0f7a4 ml_X5_113 sm_J6_bitCount_0f7a4 in_RJ6 hd_J6_bitCount_0f7a4 (by decide) rfl (Nat.le_of_ble_eq_true rfl) dX5_barsAgainst_60 rfl ?_
        refine sv_iload (i := 6) X dX5_barsAgainst_63 rfl ?_
        refine sv_icmp_ge (tgt := 72) X dX5_barsAgainst_65 (by decide) (fun h26 => ?_) (fun h26 => ?_)
        · replace hM6 := fr_pos hM6 h26
          refine sv_iconst (v := 0) X dX5_barsAgainst_72 (by decide) ?_
          obtain ⟨rfl, rfl⟩ := fr_i2 hM6
          exact K7
        · replace hM6 := fr_neg hM6 h26
          refine sv_iconst (v := 1) X dX5_barsAgainst_68 (by decide) ?_
          refine sv_goto (tgt := 73) X dX5_barsAgainst_69 (by decide) ?_
          obtain ⟨rfl, rfl⟩ := fr_i2 hM6
          exact K7
def F_X5_barsAgainst (a1 : Int32) (a2 : Int32) (σ : fr_St) : Option (Int32 × fr_St) := fr_bP (F_X3_placeOf 15 a1 σ) (fun r3 s2 => fr_bP (F_X3_roadsOpenTo 15 a1 s2) (fun r6 s5 => fr_bS (F_X5_noteEnds s5) (fun s8 => fr_bP (L_X5_barsAgainst_34 a2 r3 r6 fr_fu r6 (10 : Int32) (0 : Int32) s8) (fun v9 q14 => fr_pP q14 (fun v10 q15 => fr_pP q15 (fun v11 s12 => some (v9, s12)))))))
set_option maxRecDepth 100000 in
set_option maxHeartbeats 4000000 in
theorem b_X5_barsAgainst {p : Program} {l : Launch} {e : Env} {s : State} {m : MethodId} {args : Array Value} {below : List Frame} {meth : Method} {c : Code} {g : fr_G} {Q : State → Prop} (X : fr_X p s m args meth c g cX5_barsAgainst RX5 9) (hr : meth.sig.returnType = (some .int)) {a1 : Int32} {a2 : Int32}  {σ τ : fr_St} {r : Int32} (hQ : Q = fr_Qi below args s g r τ) (hF : F_X5_barsAgainst a1 a2 σ = some (r, τ)) : fr_V p l e (fr_rm 4) s m args below meth c g Q 9 σ 0 [(0, .ref (g.2.1 45)), (1, .int a1), (2, .int a2)] [] := by
  unfold F_X5_barsAgainst at hF
  refine sv_aload_n (i := 0) X dX5_barsAgainst_0 rfl rfl ?_
  refine sv_getr X ix_X5 rfl 0 (by decide) rfl rfl fl_X5_11 dX5_barsAgainst_1 ?_
  refine sv_iload_n (i := 1) X dX5_barsAgainst_4 rfl rfl ?_
  obtain ⟨r3, s2, hc1, hF⟩ := fr_bP_some hF
  refine sv_callVi X (c_X3_placeOf rfl rfl hc1) cd_X3_placeOf ml_X5_42 im_X3_placeOf se_X3_placeOf in_RX3 hd_X3_placeOf rfl rfl (by decide) rfl (Nat.le_of_ble_eq_true rfl) dX5_barsAgainst_5 rfl ?_
  refine sv_istore_n X dX5_barsAgainst_8 rfl (by decide) rfl ?_
  refine sv_aload_n (i := 1) X dX5_barsAgainst_9 rfl rfl ?_
  refine sv_getr X ix_X5 rfl 0 (by decide) rfl rfl fl_X5_11 dX5_barsAgainst_10 ?_
  refine sv_iload_n (i := 2) X dX5_barsAgainst_13 rfl rfl ?_
  obtain ⟨r6, s5, hc4, hF⟩ := fr_bP_some hF
  refine sv_callVi X (c_X3_roadsOpenTo rfl rfl hc4) cd_X3_roadsOpenTo ml_X5_46 im_X3_roadsOpenTo se_X3_roadsOpenTo in_RX3 hd_X3_roadsOpenTo rfl rfl (by decide) rfl (Nat.le_of_ble_eq_true rfl) dX5_barsAgainst_14 rfl ?_
  refine sv_istore X dX5_barsAgainst_17 (by decide) rfl ?_
  refine sv_iload (i := 0) X dX5_barsAgainst_19 rfl ?_
  refine sv_istore X dX5_barsAgainst_21 (by decide) rfl ?_
  refine sv_bipush (v := 10) X dX5_barsAgainst_23 (by decide) ?_
  refine sv_istore X dX5_barsAgainst_25 (by decide) rfl ?_
  refine sv_aload_n (i := 4) X dX5_barsAgainst_27 rfl rfl ?_
  obtain ⟨s8, hc7, hF⟩ := fr_bS_some hF
  refine sv_callVv X (c_X5_noteEnds hc7) cd_X5_noteEnds ml_X5_39 im_X5_noteEnds se_X5_noteEnds in_RX5 hd_X5_noteEnds rfl rfl (by decide) rfl (Nat.le_of_ble_eq_true rfl) dX5_barsAgainst_28 rfl ?_
  refine sv_iconst (v := 0) X dX5_barsAgainst_31 (by decide) ?_
  refine sv_istore X dX5_barsAgainst_32 (by decide) rfl ?_
  refine sv_perm [5, 6, 7, 4, 3, 2, 1, 0] rfl ?_
  obtain ⟨v9, ⟨v10, v11, s12⟩, hl13, hF⟩ := fr_bP_some hF
  dsimp only [fr_pP] at hF
  refine wL_X5_barsAgainst_34 X  a1 a2 r3 r6 ?_ fr_fu _ _ _ _ hl13
  refine sv_iload (i := 5) X dX5_barsAgainst_113 rfl ?_
  exact sv_iret X hr hQ dX5_barsAgainst_115 hF
theorem c_X5_barsAgainst {l : Launch} {g : fr_G} {a1 : Int32} {a2 : Int32}  {σ τ : fr_St} {r : Int32} (hF : F_X5_barsAgainst a1 a2 σ = some (r, τ)) : fr_Ci l g yX5_barsAgainst (fr_ws yX5_barsAgainst cX5_barsAgainst 9 (some .int)) 4 [.ref (g.2.1 45), .int a1, .int a2] σ r τ := fr_mi (by decide) (Nat.le_of_ble_eq_true rfl) (fun p e s m below meth c X hr => b_X5_barsAgainst X hr  rfl hF)
def L_X5_meetingOf_24  : Nat → Int32 → Int32 → fr_St → Option (Int32 × Int32 × fr_St)
  | 0, _, _, _ => none
  | n + 1, x4, x5, σ => fr_bP (F_X3_places 15 σ) (fun r3 s2 => if r3 ≤ x5 then (some (x4, x5, s2)) else (if fr_ib x5 8 = true then if fr_ib x5 8 = true then if fr_ib x4 8 = true then if fr_ib x4 8 = true then fr_bS (if ((s2 48 (fr_ix x4)) + (s2 49 (fr_ix x4))) ≤ ((s2 48 (fr_ix x5)) + (s2 49 (fr_ix x5))) then (some (x4)) else (some (x5))) (fun v8 => fr_let (x5 + (1 : Int32)) (fun v11 => L_X5_meetingOf_24  n v8 v11 s2)) else none else none else none else none))
set_option maxRecDepth 100000 in
set_option maxHeartbeats 4000000 in
theorem wL_X5_meetingOf_24 {p : Program} {l : Launch} {e : Env} {s : State} {m : MethodId} {args : Array Value} {below : List Frame} {meth : Method} {c : Code} {g : fr_G} {Q : State → Prop} (X : fr_X p s m args meth c g cX5_meetingOf RX5 6)  (k1 : Int32) (k2 : Int32) (k3 : Int32) {y4 : Int32} {y5 : Int32} {τ : fr_St} (K : fr_V p l e (fr_rm 5) s m args below meth c g Q 6 τ 79 [(0, .ref (g.2.1 45)), (1, .int k1), (2, .int k2), (3, .int k3), (4, .int y4), (5, .int y5)] []) : ∀ (n : Nat) (x4 : Int32) (x5 : Int32) (σ : fr_St), L_X5_meetingOf_24  n x4 x5 σ = some (y4, y5, τ) → fr_V p l e (fr_rm 5) s m args below meth c g Q 6 σ 24 [(0, .ref (g.2.1 45)), (1, .int k1), (2, .int k2), (3, .int k3), (4, .int x4), (5, .int x5)] [] := by
  intro n
  induction n with
  | zero => intro x4 x5 σ hL; cases hL
  | succ n ih =>
    intro x4 x5 σ hL
    rw [L_X5_meetingOf_24] at hL
    refine sv_iload (i := 5) X dX5_meetingOf_24 rfl ?_
    refine sv_aload_n (i := 0) X dX5_meetingOf_26 rfl rfl ?_
    refine sv_getr X ix_X5 rfl 0 (by decide) rfl rfl fl_X5_11 dX5_meetingOf_27 ?_
    obtain ⟨r3, s2, hc1, hL⟩ := fr_bP_some hL
    refine sv_callVi X (c_X3_places rfl rfl hc1) cd_X3_places ml_X5_110 im_X3_places se_X3_places in_RX3 hd_X3_places rfl rfl (by decide) rfl (Nat.le_of_ble_eq_true rfl) dX5_meetingOf_30 rfl ?_
    refine sv_icmp_ge (tgt := 79) X dX5_meetingOf_33 (by decide) (fun h13 => ?_) (fun h13 => ?_)
    · replace hL := fr_pos hL h13
      obtain ⟨rfl, rfl, rfl⟩ := fr_i3 hL
      exact K
    · replace hL := fr_neg hL h13
      refine sv_aload_n (i := 0) X dX5_meetingOf_36 rfl rfl ?_
      refine sv_getr X ix_X5 rfl 3 (by decide) rfl rfl fl_X5_24 dX5_meetingOf_37 ?_
      refine sv_iload (i := 5) X dX5_meetingOf_40 rfl ?_
      obtain ⟨hb4, hL⟩ := fr_chk hL
      refine sv_iald (j := (fr_ix x5)) X rfl hb4 rfl dX5_meetingOf_42 ?_
      refine sv_aload_n (i := 0) X dX5_meetingOf_43 rfl rfl ?_
      refine sv_getr X ix_X5 rfl 4 (by decide) rfl rfl fl_X5_27 dX5_meetingOf_44 ?_
      refine sv_iload (i := 5) X dX5_meetingOf_47 rfl ?_
      obtain ⟨hb5, hL⟩ := fr_chk hL
      refine sv_iald (j := (fr_ix x5)) X rfl hb5 rfl dX5_meetingOf_49 ?_
      refine sv_iadd X dX5_meetingOf_50 ?_
      refine sv_aload_n (i := 0) X dX5_meetingOf_51 rfl rfl ?_
      refine sv_getr X ix_X5 rfl 3 (by decide) rfl rfl fl_X5_24 dX5_meetingOf_52 ?_
      refine sv_iload (i := 4) X dX5_meetingOf_55 rfl ?_
      obtain ⟨hb6, hL⟩ := fr_chk hL
      refine sv_iald (j := (fr_ix x4)) X rfl hb6 rfl dX5_meetingOf_57 ?_
      refine sv_aload_n (i := 0) X dX5_meetingOf_58 rfl rfl ?_
      refine sv_getr X ix_X5 rfl 4 (by decide) rfl rfl fl_X5_27 dX5_meetingOf_59 ?_
      refine sv_iload (i := 4) X dX5_meetingOf_62 rfl ?_
      obtain ⟨hb7, hL⟩ := fr_chk hL
      refine sv_iald (j := (fr_ix x4)) X rfl hb7 rfl dX5_meetingOf_64 ?_
      refine sv_iadd X dX5_meetingOf_65 ?_
      obtain ⟨v8, hM9, hL⟩ := fr_bS_some hL
      have K10 : fr_V p l e (fr_rm 5) s m args below meth c g Q 6 s2 73 [(0, .ref (g.2.1 45)), (1, .int k1), (2, .int k2), (3, .int k3), (4, .int v8), (5, .int x5)] [] := by
        obtain ⟨v11, ev11⟩ : ∃ y : Int32, y = x5 + (1 : Int32) := ⟨_, rfl⟩
        replace hL := fr_lete hL ev11
        refine sv_iinc (i := 5) (v := v11) X dX5_meetingOf_73 rfl (by rw [ev11]; rfl) (by decide) rfl ?_
        refine sv_goto (tgt := 24) X dX5_meetingOf_76 (by decide) ?_
        exact sv_perm [1, 2, 3, 4, 5, 0] rfl (ih _ _ _ hL)
      refine sv_icmp_ge (tgt := 73) X dX5_meetingOf_66 (by decide) (fun h12 => ?_) (fun h12 => ?_)
      · replace hM9 := fr_pos hM9 h12
        obtain rfl := fr_i1 hM9
        exact K10
      · replace hM9 := fr_neg hM9 h12
        refine sv_iload (i := 5) X dX5_meetingOf_69 rfl ?_
        refine sv_istore X dX5_meetingOf_71 (by decide) rfl ?_
        obtain rfl := fr_i1 hM9
        exact sv_perm [1, 2, 3, 4, 0, 5] rfl K10
def F_X5_meetingOf (a1 : Int32) (a2 : Int32) (a3 : Int32) (σ : fr_St) : Option (Int32 × fr_St) := fr_bS (F_X5_measureWays a1 48 σ) (fun s2 => fr_bS (F_X5_measureWays a2 49 s2) (fun s4 => fr_bP (L_X5_meetingOf_24  fr_fu (0 : Int32) (1 : Int32) s4) (fun v5 q17 => fr_pP q17 (fun v6 s7 => if fr_ib v5 8 = true then if fr_ib v5 8 = true then fr_let (((s7 48 (fr_ix v5)) + (s7 49 (fr_ix v5)))) (fun v11 => if v11 < (1000000 : Int32) then (fr_bS (if a3 = 0 then (some (v5)) else (some (v11))) (fun v12 => some (v12, s7))) else (some ((-1000000 : Int32), s7))) else none else none))))
set_option maxRecDepth 100000 in
set_option maxHeartbeats 4000000 in
theorem b_X5_meetingOf {p : Program} {l : Launch} {e : Env} {s : State} {m : MethodId} {args : Array Value} {below : List Frame} {meth : Method} {c : Code} {g : fr_G} {Q : State → Prop} (X : fr_X p s m args meth c g cX5_meetingOf RX5 6) (hr : meth.sig.returnType = (some .int)) {a1 : Int32} {a2 : Int32} {a3 : Int32}  {σ τ : fr_St} {r : Int32} (hQ : Q = fr_Qi below args s g r τ) (hF : F_X5_meetingOf a1 a2 a3 σ = some (r, τ)) : fr_V p l e (fr_rm 5) s m args below meth c g Q 6 σ 0 [(0, .ref (g.2.1 45)), (1, .int a1), (2, .int a2), (3, .int a3)] [] := by
  unfold F_X5_meetingOf at hF
  refine sv_aload_n (i := 0) X dX5_meetingOf_0 rfl rfl ?_
  refine sv_iload_n (i := 1) X dX5_meetingOf_1 rfl rfl ?_
  refine sv_aload_n (i := 0) X dX5_meetingOf_2 rfl rfl ?_
  refine sv_getr X ix_X5 rfl 3 (by decide) rfl rfl fl_X5_24 dX5_meetingOf_3 ?_
  obtain ⟨s2, hc1, hF⟩ := fr_bS_some hF
  refine sv_callVv X (c_X5_measureWays rfl hc1) cd_X5_measureWays ml_X5_53 im_X5_measureWays se_X5_measureWays in_RX5 hd_X5_measureWays rfl rfl (by decide) rfl (Nat.le_of_ble_eq_true rfl) dX5_meetingOf_6 rfl ?_
  refine sv_aload_n (i := 0) X dX5_meetingOf_9 rfl rfl ?_
  refine sv_iload_n (i := 2) X dX5_meetingOf_10 rfl rfl ?_
  refine sv_aload_n (i := 0) X dX5_meetingOf_11 rfl rfl ?_
  refine sv_getr X ix_X5 rfl 4 (by decide) rfl rfl fl_X5_27 dX5_meetingOf_12 ?_
  obtain ⟨s4, hc3, hF⟩ := fr_bS_some hF
  refine sv_callVv X (c_X5_measureWays rfl hc3) cd_X5_measureWays ml_X5_53 im_X5_measureWays se_X5_measureWays in_RX5 hd_X5_measureWays rfl rfl (by decide) rfl (Nat.le_of_ble_eq_true rfl) dX5_meetingOf_15 rfl ?_
  refine sv_iconst (v := 0) X dX5_meetingOf_18 (by decide) ?_
  refine sv_istore X dX5_meetingOf_19 (by decide) rfl ?_
  refine sv_iconst (v := 1) X dX5_meetingOf_21 (by decide) ?_
  refine sv_istore X dX5_meetingOf_22 (by decide) rfl ?_
  refine sv_perm [2, 3, 4, 5, 1, 0] rfl ?_
  obtain ⟨v5, ⟨v6, s7⟩, hl8, hF⟩ := fr_bP_some hF
  dsimp only [fr_pP] at hF
  refine wL_X5_meetingOf_24 X  a1 a2 a3 ?_ fr_fu _ _ _ hl8
  refine sv_aload_n (i := 0) X dX5_meetingOf_79 rfl rfl ?_
  refine sv_getr X ix_X5 rfl 3 (by decide) rfl rfl fl_X5_24 dX5_meetingOf_80 ?_
  refine sv_iload (i := 4) X dX5_meetingOf_83 rfl ?_
  obtain ⟨hb9, hF⟩ := fr_chk hF
  refine sv_iald (j := (fr_ix v5)) X rfl hb9 rfl dX5_meetingOf_85 ?_
  refine sv_aload_n (i := 0) X dX5_meetingOf_86 rfl rfl ?_
  refine sv_getr X ix_X5 rfl 4 (by decide) rfl rfl fl_X5_27 dX5_meetingOf_87 ?_
  refine sv_iload (i := 4) X dX5_meetingOf_90 rfl ?_
  obtain ⟨hb10, hF⟩ := fr_chk hF
  refine sv_iald (j := (fr_ix v5)) X rfl hb10 rfl dX5_meetingOf_92 ?_
  refine sv_iadd X dX5_meetingOf_93 ?_
  refine sv_topi (fun v11 ev11 => ?_)
  replace hF := fr_lete hF ev11
  refine sv_istore X dX5_meetingOf_94 (by decide) rfl ?_
  refine sv_iload (i := 0) X dX5_meetingOf_96 rfl ?_
  refine sv_ldc X kn_X5_70 dX5_meetingOf_98 ?_
  refine sv_icmp_lt (tgt := 106) X dX5_meetingOf_100 (by decide) (fun h16 => ?_) (fun h16 => ?_)
  · replace hF := fr_pos hF h16
    refine sv_iload_n (i := 4) X dX5_meetingOf_106 rfl rfl ?_
    obtain ⟨v12, hM13, hF⟩ := fr_bS_some hF
    have K14 : fr_V p l e (fr_rm 5) s m args below meth c g Q 6 s7 117 [(0, .ref (g.2.1 45)), (1, .int a1), (2, .int a2), (3, .int a3), (4, .int v5), (5, .int v11)] [.int v12] := by
      exact sv_iret X hr hQ dX5_meetingOf_117 hF
    refine sv_if_ne (tgt := 115) X dX5_meetingOf_107 (by decide) (fun h15 => ?_) (fun h15 => ?_)
    · replace hM13 := fr_neg hM13 h15
      refine sv_iload (i := 0) X dX5_meetingOf_115 rfl ?_
      obtain rfl := fr_i1 hM13
      exact sv_perm [1, 2, 3, 4, 5, 0] rfl K14
    · replace hM13 := fr_pos hM13 h15
      refine sv_iload (i := 5) X dX5_meetingOf_110 rfl ?_
      refine sv_goto (tgt := 117) X dX5_meetingOf_112 (by decide) ?_
      obtain rfl := fr_i1 hM13
      exact sv_perm [1, 2, 3, 4, 5, 0] rfl K14
  · replace hF := fr_neg hF h16
    refine sv_ldc X kn_X5_71 dX5_meetingOf_103 ?_
    exact sv_iret X hr hQ dX5_meetingOf_105 hF
theorem c_X5_meetingOf {l : Launch} {g : fr_G} {a1 : Int32} {a2 : Int32} {a3 : Int32}  {σ τ : fr_St} {r : Int32} (hF : F_X5_meetingOf a1 a2 a3 σ = some (r, τ)) : fr_Ci l g yX5_meetingOf (fr_ws yX5_meetingOf cX5_meetingOf 6 (some .int)) 5 [.ref (g.2.1 45), .int a1, .int a2, .int a3] σ r τ := fr_mi (by decide) (Nat.le_of_ble_eq_true rfl) (fun p e s m below meth c X hr => b_X5_meetingOf X hr  rfl hF)
def L_X5_commonDivisor_9  : Nat → Int64 → Int64 → Int32 → fr_St → Option (Int64 × Int64 × Int32 × fr_St)
  | 0, _, _, _, _ => none
  | n + 1, x4, x6, x8, σ => if (100 : Int32) ≤ x8 then (some (x4, x6, x8, σ)) else (if (lg_cmp x6 (0 : Int64)) = 0 then (some (x4, x6, x8, σ)) else (if x6 = 0 then none else fr_let ((x4 - x4 / x6 * x6)) (fun w2 => fr_let (x8 + (1 : Int32)) (fun v3 => L_X5_commonDivisor_9  n x6 w2 v3 σ))))
set_option maxRecDepth 100000 in
set_option maxHeartbeats 4000000 in
theorem wL_X5_commonDivisor_9 {p : Program} {l : Launch} {e : Env} {s : State} {m : MethodId} {args : Array Value} {below : List Frame} {meth : Method} {c : Code} {g : fr_G} {Q : State → Prop} (X : fr_X p s m args meth c g cX5_commonDivisor RX5 11)  (k0 : Int64) (k2 : Int64) {y4 : Int64} {y6 : Int64} {y8 : Int32} {τ : fr_St} (K : fr_V p l e (fr_rm 0) s m args below meth c g Q 11 τ 44 [(0, .long k0), (2, .long k2), (4, .long y4), (6, .long y6), (8, .int y8)] []) : ∀ (n : Nat) (x4 : Int64) (x6 : Int64) (x8 : Int32) (σ : fr_St), L_X5_commonDivisor_9  n x4 x6 x8 σ = some (y4, y6, y8, τ) → fr_V p l e (fr_rm 0) s m args below meth c g Q 11 σ 9 [(0, .long k0), (2, .long k2), (4, .long x4), (6, .long x6), (8, .int x8)] [] := by
  intro n
  induction n with
  | zero => intro x4 x6 x8 σ hL; cases hL
  | succ n ih =>
    intro x4 x6 x8 σ hL
    rw [L_X5_commonDivisor_9] at hL
    refine sv_iload (i := 4) X dX5_commonDivisor_9 rfl ?_
    refine sv_bipush (v := 100) X dX5_commonDivisor_11 (by decide) ?_
    refine sv_icmp_ge (tgt := 44) X dX5_commonDivisor_13 (by decide) (fun h5 => ?_) (fun h5 => ?_)
    · replace hL := fr_pos hL h5
      obtain ⟨rfl, rfl, rfl, rfl⟩ := fr_i4 hL
      exact K
    · replace hL := fr_neg hL h5
      refine sv_lload (i := 3) X dX5_commonDivisor_16 rfl ?_
      refine sv_lconst (v := 0) X dX5_commonDivisor_18 (by decide) ?_
      refine sv_lcmp X dX5_commonDivisor_19 ?_
      refine sv_if_eq (tgt := 44) X dX5_commonDivisor_20 (by decide) (fun h4 => ?_) (fun h4 => ?_)
      · replace hL := fr_pos hL h4
        obtain ⟨rfl, rfl, rfl, rfl⟩ := fr_i4 hL
        exact K
      · replace hL := fr_neg hL h4
        refine sv_lload (i := 2) X dX5_commonDivisor_23 rfl ?_
        refine sv_lload (i := 3) X dX5_commonDivisor_25 rfl ?_
        obtain ⟨hn1, hL⟩ := fr_chn hL
        refine sv_lrem X dX5_commonDivisor_27 hn1 ?_
        refine sv_topl (fun w2 ew2 => ?_)
        replace hL := fr_lete hL ew2
        refine sv_lstore X dX5_commonDivisor_28 (by decide) rfl ?_
        refine sv_lload (i := 4) X dX5_commonDivisor_30 rfl ?_
        refine sv_lstore X dX5_commonDivisor_32 (by decide) rfl ?_
        refine sv_lload (i := 1) X dX5_commonDivisor_34 rfl ?_
        refine sv_lstore X dX5_commonDivisor_36 (by decide) rfl ?_
        obtain ⟨v3, ev3⟩ : ∃ y : Int32, y = x8 + (1 : Int32) := ⟨_, rfl⟩
        replace hL := fr_lete hL ev3
        refine sv_iinc (i := 5) (v := v3) X dX5_commonDivisor_38 rfl (by rw [ev3]; rfl) (by decide) rfl ?_
        refine sv_goto (tgt := 9) X dX5_commonDivisor_41 (by decide) ?_
        exact sv_perm [4, 5, 2, 1, 0] rfl (ih _ _ _ _ hL)
def F_X5_commonDivisor (a1 : Int64) (a2 : Int64) (σ : fr_St) : Option (Int64 × fr_St) := fr_bP (L_X5_commonDivisor_9  fr_fu a1 a2 (0 : Int32) σ) (fun w1 q6 => fr_pP q6 (fun w2 q7 => fr_pP q7 (fun v3 s4 => some (w1, s4))))
set_option maxRecDepth 100000 in
set_option maxHeartbeats 4000000 in
theorem b_X5_commonDivisor {p : Program} {l : Launch} {e : Env} {s : State} {m : MethodId} {args : Array Value} {below : List Frame} {meth : Method} {c : Code} {g : fr_G} {Q : State → Prop} (X : fr_X p s m args meth c g cX5_commonDivisor RX5 11) (hr : meth.sig.returnType = (some .long)) {a1 : Int64} {a2 : Int64}  {σ τ : fr_St} {r : Int64} (hQ : Q = fr_Ql below args s g r τ) (hF : F_X5_commonDivisor a1 a2 σ = some (r, τ)) : fr_V p l e (fr_rm 0) s m args below meth c g Q 11 σ 0 [(0, .long a1), (2, .long a2)] [] := by
  unfold F_X5_commonDivisor at hF
  refine sv_lload_n (i := 0) X dX5_commonDivisor_0 rfl rfl ?_
  refine sv_lstore X dX5_commonDivisor_1 (by decide) rfl ?_
  refine sv_lload_n (i := 2) X dX5_commonDivisor_3 rfl rfl ?_
  refine sv_lstore X dX5_commonDivisor_4 (by decide) rfl ?_
  refine sv_iconst (v := 0) X dX5_commonDivisor_6 (by decide) ?_
  refine sv_istore X dX5_commonDivisor_7 (by decide) rfl ?_
  refine sv_perm [3, 4, 2, 1, 0] rfl ?_
  obtain ⟨w1, ⟨w2, v3, s4⟩, hl5, hF⟩ := fr_bP_some hF
  dsimp only [fr_pP] at hF
  refine wL_X5_commonDivisor_9 X  a1 a2 ?_ fr_fu _ _ _ _ hl5
  refine sv_lload (i := 2) X dX5_commonDivisor_44 rfl ?_
  exact sv_lret X hr hQ dX5_commonDivisor_46 hF
theorem c_X5_commonDivisor {l : Launch} {g : fr_G} {a1 : Int64} {a2 : Int64}  {σ τ : fr_St} {r : Int64} (hF : F_X5_commonDivisor a1 a2 σ = some (r, τ)) : fr_Cl l g yX5_commonDivisor (fr_ws yX5_commonDivisor cX5_commonDivisor 11 (some .long)) 0 [.long a1, .long a2] σ r τ := fr_ml (by decide) (Nat.le_of_ble_eq_true rfl) (fun p e s m below meth c X hr => b_X5_commonDivisor X hr  rfl hF)
def L_X5_power_5 (k0 : Int32) (k1 : Int32) : Nat → Int64 → Int32 → fr_St → Option (Int64 × Int32 × fr_St)
  | 0, _, _, _ => none
  | n + 1, x2, x4, σ => if k1 ≤ x4 then (some (x2, x4, σ)) else (fr_let ((x2 * (k0.toInt64))) (fun w1 => fr_let (x4 + (1 : Int32)) (fun v2 => L_X5_power_5 k0 k1 n w1 v2 σ)))
set_option maxRecDepth 100000 in
set_option maxHeartbeats 4000000 in
theorem wL_X5_power_5 {p : Program} {l : Launch} {e : Env} {s : State} {m : MethodId} {args : Array Value} {below : List Frame} {meth : Method} {c : Code} {g : fr_G} {Q : State → Prop} (X : fr_X p s m args meth c g cX5_power RX5 5)  (k0 : Int32) (k1 : Int32) {y2 : Int64} {y4 : Int32} {τ : fr_St} (K : fr_V p l e (fr_rm 0) s m args below meth c g Q 5 τ 22 [(0, .int k0), (1, .int k1), (2, .long y2), (4, .int y4)] []) : ∀ (n : Nat) (x2 : Int64) (x4 : Int32) (σ : fr_St), L_X5_power_5 k0 k1 n x2 x4 σ = some (y2, y4, τ) → fr_V p l e (fr_rm 0) s m args below meth c g Q 5 σ 5 [(0, .int k0), (1, .int k1), (2, .long x2), (4, .int x4)] [] := by
  intro n
  induction n with
  | zero => intro x2 x4 σ hL; cases hL
  | succ n ih =>
    intro x2 x4 σ hL
    rw [L_X5_power_5] at hL
    refine sv_iload (i := 3) X dX5_power_5 rfl ?_
    refine sv_iload_n (i := 1) X dX5_power_7 rfl rfl ?_
    refine sv_icmp_ge (tgt := 22) X dX5_power_8 (by decide) (fun h3 => ?_) (fun h3 => ?_)
    · replace hL := fr_pos hL h3
      obtain ⟨rfl, rfl, rfl⟩ := fr_i3 hL
      exact K
    · replace hL := fr_neg hL h3
      refine sv_lload_n (i := 2) X dX5_power_11 rfl rfl ?_
      refine sv_iload_n (i := 0) X dX5_power_12 rfl rfl ?_
      refine sv_i2l X dX5_power_13 ?_
      refine sv_lmul X dX5_power_14 ?_
      refine sv_topl (fun w1 ew1 => ?_)
      replace hL := fr_lete hL ew1
      refine sv_lstore_n X dX5_power_15 rfl (by decide) rfl ?_
      obtain ⟨v2, ev2⟩ : ∃ y : Int32, y = x4 + (1 : Int32) := ⟨_, rfl⟩
      replace hL := fr_lete hL ev2
      refine sv_iinc (i := 3) (v := v2) X dX5_power_16 rfl (by rw [ev2]; rfl) (by decide) rfl ?_
      refine sv_goto (tgt := 5) X dX5_power_19 (by decide) ?_
      exact sv_perm [2, 3, 1, 0] rfl (ih _ _ _ hL)
def F_X5_power (a1 : Int32) (a2 : Int32) (σ : fr_St) : Option (Int64 × fr_St) := fr_bP (L_X5_power_5 a1 a2 fr_fu (1 : Int64) (0 : Int32) σ) (fun w1 q5 => fr_pP q5 (fun v2 s3 => some (w1, s3)))
set_option maxRecDepth 100000 in
set_option maxHeartbeats 4000000 in
theorem b_X5_power {p : Program} {l : Launch} {e : Env} {s : State} {m : MethodId} {args : Array Value} {below : List Frame} {meth : Method} {c : Code} {g : fr_G} {Q : State → Prop} (X : fr_X p s m args meth c g cX5_power RX5 5) (hr : meth.sig.returnType = (some .long)) {a1 : Int32} {a2 : Int32}  {σ τ : fr_St} {r : Int64} (hQ : Q = fr_Ql below args s g r τ) (hF : F_X5_power a1 a2 σ = some (r, τ)) : fr_V p l e (fr_rm 0) s m args below meth c g Q 5 σ 0 [(0, .int a1), (1, .int a2)] [] := by
  unfold F_X5_power at hF
  refine sv_lconst (v := 1) X dX5_power_0 (by decide) ?_
  refine sv_lstore_n X dX5_power_1 rfl (by decide) rfl ?_
  refine sv_iconst (v := 0) X dX5_power_2 (by decide) ?_
  refine sv_istore X dX5_power_3 (by decide) rfl ?_
  refine sv_perm [2, 3, 1, 0] rfl ?_
  obtain ⟨w1, ⟨v2, s3⟩, hl4, hF⟩ := fr_bP_some hF
  dsimp only [fr_pP] at hF
  refine wL_X5_power_5 X  a1 a2 ?_ fr_fu _ _ _ hl4
  refine sv_lload_n (i := 2) X dX5_power_22 rfl rfl ?_
  exact sv_lret X hr hQ dX5_power_23 hF
theorem c_X5_power {l : Launch} {g : fr_G} {a1 : Int32} {a2 : Int32}  {σ τ : fr_St} {r : Int64} (hF : F_X5_power a1 a2 σ = some (r, τ)) : fr_Cl l g yX5_power (fr_ws yX5_power cX5_power 5 (some .long)) 0 [.int a1, .int a2] σ r τ := fr_ml (by decide) (Nat.le_of_ble_eq_true rfl) (fun p e s m below meth c X hr => b_X5_power X hr  rfl hF)
def L_X5_snowOdds_37 (k2 : Int32) (k3 : Int32) (k5 : Int32) (k6 : Int32) (k7 : Int32) : Nat → Int64 → Int32 → fr_St → Option (Int64 × Int32 × fr_St)
  | 0, _, _, _ => none
  | n + 1, x8, x10, σ => fr_bP (F_X3_roads 15 σ) (fun r3 s2 => if ((1 : Int32) <<< (r3 &&& 31)) ≤ x10 then (some (x8, x10, s2)) else (fr_bP (if (x10 &&& (k6 ^^^ (-1 : Int32))) = 0 then (fr_bP (F_X5_reaches k5 x10 k2 s2) (fun b11 s10 => if (fr_bi b11) = 0 then (some (x8, s10)) else (fr_bP (F_J6_bitCount_0f7a4 x10 s10) (fun r14 s13 => fr_bP (F_X5_power ((10 : Int32) - k3) r14 s13) (fun w17 s16 => fr_bP (F_X5_power k3 (k7 - r14) s16) (fun w20 s19 => fr_let ((x8 + (w17 * w20))) (fun w21 => some (w21, s19)))))))) else (some (x8, s2))) (fun w4 s5 => fr_let (x10 + (1 : Int32)) (fun v8 => L_X5_snowOdds_37 k2 k3 k5 k6 k7 n w4 v8 s5))))
set_option maxRecDepth 100000 in
set_option maxHeartbeats 4000000 in
theorem wL_X5_snowOdds_37 {p : Program} {l : Launch} {e : Env} {s : State} {m : MethodId} {args : Array Value} {below : List Frame} {meth : Method} {c : Code} {g : fr_G} {Q : State → Prop} (X : fr_X p s m args meth c g cX5_snowOdds RX5 14)  (k1 : Int32) (k2 : Int32) (k3 : Int32) (k4 : Int32) (k5 : Int32) (k6 : Int32) (k7 : Int32) {y8 : Int64} {y10 : Int32} {τ : fr_St} (K : fr_V p l e (fr_rm 4) s m args below meth c g Q 14 τ 110 [(0, .ref (g.2.1 45)), (1, .int k1), (2, .int k2), (3, .int k3), (4, .int k4), (5, .int k5), (6, .int k6), (7, .int k7), (8, .long y8), (10, .int y10)] []) : ∀ (n : Nat) (x8 : Int64) (x10 : Int32) (σ : fr_St), L_X5_snowOdds_37 k2 k3 k5 k6 k7 n x8 x10 σ = some (y8, y10, τ) → fr_V p l e (fr_rm 4) s m args below meth c g Q 14 σ 37 [(0, .ref (g.2.1 45)), (1, .int k1), (2, .int k2), (3, .int k3), (4, .int k4), (5, .int k5), (6, .int k6), (7, .int k7), (8, .long x8), (10, .int x10)] [] := by
  intro n
  induction n with
  | zero => intro x8 x10 σ hL; cases hL
  | succ n ih =>
    intro x8 x10 σ hL
    rw [L_X5_snowOdds_37] at hL
    refine sv_iload (i := 9) X dX5_snowOdds_37 rfl ?_
    refine sv_iconst (v := 1) X dX5_snowOdds_39 (by decide) ?_
    refine sv_aload_n (i := 0) X dX5_snowOdds_40 rfl rfl ?_
    refine sv_getr X ix_X5 rfl 0 (by decide) rfl rfl fl_X5_11 dX5_snowOdds_41 ?_
    obtain ⟨r3, s2, hc1, hL⟩ := fr_bP_some hL
    refine sv_callVi X (c_X3_roads rfl rfl hc1) cd_X3_roads ml_X5_72 im_X3_roads se_X3_roads in_RX3 hd_X3_roads rfl rfl (by decide) rfl (Nat.le_of_ble_eq_true rfl) dX5_snowOdds_44 rfl ?_
    refine sv_ishl X dX5_snowOdds_47 ?_
    refine sv_icmp_ge (tgt := 110) X dX5_snowOdds_48 (by decide) (fun h24 => ?_) (fun h24 => ?_)
    · replace hL := fr_pos hL h24
      obtain ⟨rfl, rfl, rfl⟩ := fr_i3 hL
      exact K
    · replace hL := fr_neg hL h24
      refine sv_iload (i := 9) X dX5_snowOdds_51 rfl ?_
      refine sv_iload (i := 6) X dX5_snowOdds_53 rfl ?_
      refine sv_iconst (v := (-1)) X dX5_snowOdds_55 (by decide) ?_
      refine sv_ixor X dX5_snowOdds_56 ?_
      refine sv_iand X dX5_snowOdds_57 ?_
      obtain ⟨w4, s5, hM6, hL⟩ := fr_bP_some hL
      have K7 : fr_V p l e (fr_rm 4) s m args below meth c g Q 14 s5 104 [(0, .ref (g.2.1 45)), (1, .int k1), (2, .int k2), (3, .int k3), (4, .int k4), (5, .int k5), (6, .int k6), (7, .int k7), (8, .long w4), (10, .int x10)] [] := by
        obtain ⟨v8, ev8⟩ : ∃ y : Int32, y = x10 + (1 : Int32) := ⟨_, rfl⟩
        replace hL := fr_lete hL ev8
        refine sv_iinc (i := 9) (v := v8) X dX5_snowOdds_104 rfl (by rw [ev8]; rfl) (by decide) rfl ?_
        refine sv_goto (tgt := 37) X dX5_snowOdds_107 (by decide) ?_
        exact sv_perm [1, 2, 3, 4, 5, 6, 7, 8, 9, 0] rfl (ih _ _ _ hL)
      refine sv_if_ne (tgt := 104) X dX5_snowOdds_58 (by decide) (fun h23 => ?_) (fun h23 => ?_)
      · replace hM6 := fr_neg hM6 h23
        obtain ⟨rfl, rfl⟩ := fr_i2 hM6
        exact K7
      · replace hM6 := fr_pos hM6 h23
        refine sv_aload_n (i := 0) X dX5_snowOdds_61 rfl rfl ?_
        refine sv_iload (i := 5) X dX5_snowOdds_62 rfl ?_
        refine sv_iload (i := 9) X dX5_snowOdds_64 rfl ?_
        refine sv_iload_n (i := 2) X dX5_snowOdds_66 rfl rfl ?_
        obtain ⟨b11, s10, hc9, hM6⟩ := fr_bP_some hM6
        refine sv_callVi X (c_X5_reaches hc9) cd_X5_reaches ml_X5_118 im_X5_reaches se_X5_reaches in_RX5 hd_X5_reaches rfl rfl (by decide) rfl (Nat.le_of_ble_eq_true rfl) dX5_snowOdds_67 rfl ?_
        refine sv_if_eq (tgt := 104) X dX5_snowOdds_70 (by decide) (fun h22 => ?_) (fun h22 => ?_)
        · replace hM6 := fr_pos hM6 h22
          obtain ⟨rfl, rfl⟩ := fr_i2 hM6
          exact K7
        · replace hM6 := fr_neg hM6 h22
          refine sv_iload (i := 9) X dX5_snowOdds_73 rfl ?_
          obtain ⟨r14, s13, hc12, hM6⟩ := fr_bP_some hM6
          refine sv_callSi X (c_J6_bitCount_0f7a4 hc12) cd_J6_bitCount_0f7a4 ml_X5_113 sm_J6_bitCount_0f7a4 in_RJ6 hd_J6_bitCount_0f7a4 (by decide) rfl (Nat.le_of_ble_eq_true rfl) dX5_snowOdds_75 rfl ?_
          refine sv_istore X dX5_snowOdds_78 (by decide) rfl ?_
          refine sv_lload (i := 9) X dX5_snowOdds_80 rfl ?_
          refine sv_bipush (v := 10) X dX5_snowOdds_82 (by decide) ?_
          refine sv_iload_n (i := 4) X dX5_snowOdds_84 rfl rfl ?_
          refine sv_isub X dX5_snowOdds_85 ?_
          refine sv_iload (i := 0) X dX5_snowOdds_86 rfl ?_
          obtain ⟨w17, s16, hc15, hM6⟩ := fr_bP_some hM6
          refine sv_callSl X (c_X5_power hc15) cd_X5_power ml_X5_122 sm_X5_power in_RX5 hd_X5_power (by decide) rfl (Nat.le_of_ble_eq_true rfl) dX5_snowOdds_88 rfl ?_
          refine sv_iload_n (i := 4) X dX5_snowOdds_91 rfl rfl ?_
          refine sv_iload (i := 8) X dX5_snowOdds_92 rfl ?_
          refine sv_iload (i := 0) X dX5_snowOdds_94 rfl ?_
          refine sv_isub X dX5_snowOdds_96 ?_
          obtain ⟨w20, s19, hc18, hM6⟩ := fr_bP_some hM6
          refine sv_callSl X (c_X5_power hc18) cd_X5_power ml_X5_122 sm_X5_power in_RX5 hd_X5_power (by decide) rfl (Nat.le_of_ble_eq_true rfl) dX5_snowOdds_97 rfl ?_
          refine sv_lmul X dX5_snowOdds_100 ?_
          refine sv_ladd X dX5_snowOdds_101 ?_
          refine sv_topl (fun w21 ew21 => ?_)
          replace hM6 := fr_lete hM6 ew21
          refine sv_lstore X dX5_snowOdds_102 (by decide) rfl ?_
          obtain ⟨rfl, rfl⟩ := fr_i2 hM6
          exact sv_perm [2, 3, 4, 5, 6, 7, 8, 9, 0, 10] rfl K7
def F_X5_snowOdds (a1 : Int32) (a2 : Int32) (a3 : Int32) (a4 : Int32) (σ : fr_St) : Option (Int64 × fr_St) := fr_bP (F_X3_placeOf 15 a1 σ) (fun r3 s2 => fr_bP (F_X3_roadsOpenTo 15 a1 s2) (fun r6 s5 => fr_bP (F_J6_bitCount_0f7a4 r6 s5) (fun r9 s8 => fr_bS (F_X5_noteEnds s8) (fun s11 => fr_bP (L_X5_snowOdds_37 a2 a3 r3 r6 r9 fr_fu (0 : Int64) (0 : Int32) s11) (fun w12 q29 => fr_pP q29 (fun v13 s14 => fr_bP (F_X5_power (10 : Int32) r9 s14) (fun w18 s17 => fr_bP (F_X5_commonDivisor w12 w18 s17) (fun w21 s20 => if 0 < (lg_cmp w21 (0 : Int64)) then (fr_bS (if a4 = 0 then (if w21 = 0 then none else some ((w12 / w21))) else (if w21 = 0 then none else some ((w18 / w21)))) (fun w22 => some (w22, s20))) else (some ((-1000000 : Int64), s20))))))))))
set_option maxRecDepth 100000 in
set_option maxHeartbeats 4000000 in
theorem b_X5_snowOdds {p : Program} {l : Launch} {e : Env} {s : State} {m : MethodId} {args : Array Value} {below : List Frame} {meth : Method} {c : Code} {g : fr_G} {Q : State → Prop} (X : fr_X p s m args meth c g cX5_snowOdds RX5 14) (hr : meth.sig.returnType = (some .long)) {a1 : Int32} {a2 : Int32} {a3 : Int32} {a4 : Int32}  {σ τ : fr_St} {r : Int64} (hQ : Q = fr_Ql below args s g r τ) (hF : F_X5_snowOdds a1 a2 a3 a4 σ = some (r, τ)) : fr_V p l e (fr_rm 4) s m args below meth c g Q 14 σ 0 [(0, .ref (g.2.1 45)), (1, .int a1), (2, .int a2), (3, .int a3), (4, .int a4)] [] := by
  unfold F_X5_snowOdds at hF
  refine sv_aload_n (i := 0) X dX5_snowOdds_0 rfl rfl ?_
  refine sv_getr X ix_X5 rfl 0 (by decide) rfl rfl fl_X5_11 dX5_snowOdds_1 ?_
  refine sv_iload_n (i := 1) X dX5_snowOdds_4 rfl rfl ?_
  obtain ⟨r3, s2, hc1, hF⟩ := fr_bP_some hF
  refine sv_callVi X (c_X3_placeOf rfl rfl hc1) cd_X3_placeOf ml_X5_42 im_X3_placeOf se_X3_placeOf in_RX3 hd_X3_placeOf rfl rfl (by decide) rfl (Nat.le_of_ble_eq_true rfl) dX5_snowOdds_5 rfl ?_
  refine sv_istore X dX5_snowOdds_8 (by decide) rfl ?_
  refine sv_aload_n (i := 1) X dX5_snowOdds_10 rfl rfl ?_
  refine sv_getr X ix_X5 rfl 0 (by decide) rfl rfl fl_X5_11 dX5_snowOdds_11 ?_
  refine sv_iload_n (i := 2) X dX5_snowOdds_14 rfl rfl ?_
  obtain ⟨r6, s5, hc4, hF⟩ := fr_bP_some hF
  refine sv_callVi X (c_X3_roadsOpenTo rfl rfl hc4) cd_X3_roadsOpenTo ml_X5_46 im_X3_roadsOpenTo se_X3_roadsOpenTo in_RX3 hd_X3_roadsOpenTo rfl rfl (by decide) rfl (Nat.le_of_ble_eq_true rfl) dX5_snowOdds_15 rfl ?_
  refine sv_istore X dX5_snowOdds_18 (by decide) rfl ?_
  refine sv_iload (i := 0) X dX5_snowOdds_20 rfl ?_
  obtain ⟨r9, s8, hc7, hF⟩ := fr_bP_some hF
  refine sv_callSi X (c_J6_bitCount_0f7a4 hc7) cd_J6_bitCount_0f7a4 ml_X5_113 sm_J6_bitCount_0f7a4 in_RJ6 hd_J6_bitCount_0f7a4 (by decide) rfl (Nat.le_of_ble_eq_true rfl) dX5_snowOdds_22 rfl ?_
  refine sv_istore X dX5_snowOdds_25 (by decide) rfl ?_
  refine sv_lconst (v := 0) X dX5_snowOdds_27 (by decide) ?_
  refine sv_lstore X dX5_snowOdds_28 (by decide) rfl ?_
  refine sv_aload_n (i := 4) X dX5_snowOdds_30 rfl rfl ?_
  obtain ⟨s11, hc10, hF⟩ := fr_bS_some hF
  refine sv_callVv X (c_X5_noteEnds hc10) cd_X5_noteEnds ml_X5_39 im_X5_noteEnds se_X5_noteEnds in_RX5 hd_X5_noteEnds rfl rfl (by decide) rfl (Nat.le_of_ble_eq_true rfl) dX5_snowOdds_31 rfl ?_
  refine sv_iconst (v := 0) X dX5_snowOdds_34 (by decide) ?_
  refine sv_istore X dX5_snowOdds_35 (by decide) rfl ?_
  refine sv_perm [5, 6, 7, 8, 9, 4, 3, 2, 1, 0] rfl ?_
  obtain ⟨w12, ⟨v13, s14⟩, hl15, hF⟩ := fr_bP_some hF
  dsimp only [fr_pP] at hF
  refine wL_X5_snowOdds_37 X  a1 a2 a3 a4 r3 r6 r9 ?_ fr_fu _ _ _ hl15
  refine sv_bipush (v := 10) X dX5_snowOdds_110 (by decide) ?_
  refine sv_iload (i := 7) X dX5_snowOdds_112 rfl ?_
  obtain ⟨w18, s17, hc16, hF⟩ := fr_bP_some hF
  refine sv_callSl X (c_X5_power hc16) cd_X5_power ml_X5_122 sm_X5_power in_RX5 hd_X5_power (by decide) rfl (Nat.le_of_ble_eq_true rfl) dX5_snowOdds_114 rfl ?_
  refine sv_lstore X dX5_snowOdds_117 (by decide) rfl ?_
  refine sv_lload (i := 9) X dX5_snowOdds_119 rfl ?_
  refine sv_lload (i := 0) X dX5_snowOdds_121 rfl ?_
  obtain ⟨w21, s20, hc19, hF⟩ := fr_bP_some hF
  refine sv_callSl X (c_X5_commonDivisor hc19) cd_X5_commonDivisor ml_X5_126 sm_X5_commonDivisor in_RX5 hd_X5_commonDivisor (by decide) rfl (Nat.le_of_ble_eq_true rfl) dX5_snowOdds_123 rfl ?_
  refine sv_lstore X dX5_snowOdds_126 (by decide) rfl ?_
  refine sv_lload (i := 0) X dX5_snowOdds_128 rfl ?_
  refine sv_lconst (v := 0) X dX5_snowOdds_130 (by decide) ?_
  refine sv_lcmp X dX5_snowOdds_131 ?_
  refine sv_if_gt (tgt := 139) X dX5_snowOdds_132 (by decide) (fun h28 => ?_) (fun h28 => ?_)
  · replace hF := fr_pos hF h28
    refine sv_iload (i := 6) X dX5_snowOdds_139 rfl ?_
    obtain ⟨w22, hM23, hF⟩ := fr_bS_some hF
    have K24 : fr_V p l e (fr_rm 4) s m args below meth c g Q 14 s20 157 [(0, .ref (g.2.1 45)), (1, .int a1), (2, .int a2), (3, .int a3), (4, .int a4), (5, .int r3), (6, .int r6), (7, .int r9), (8, .long w12), (10, .long w18), (12, .long w21)] [.long w22] := by
      exact sv_lret X hr hQ dX5_snowOdds_157 hF
    refine sv_if_ne (tgt := 152) X dX5_snowOdds_141 (by decide) (fun h27 => ?_) (fun h27 => ?_)
    · replace hM23 := fr_neg hM23 h27
      refine sv_lload (i := 1) X dX5_snowOdds_152 rfl ?_
      refine sv_lload (i := 0) X dX5_snowOdds_154 rfl ?_
      obtain ⟨hn25, hM23⟩ := fr_chn hM23
      refine sv_ldiv X dX5_snowOdds_156 hn25 ?_
      obtain rfl := fr_i1 hM23
      exact sv_perm [2, 3, 4, 5, 6, 7, 8, 9, 10, 1, 0] rfl K24
    · replace hM23 := fr_pos hM23 h27
      refine sv_lload (i := 10) X dX5_snowOdds_144 rfl ?_
      refine sv_lload (i := 0) X dX5_snowOdds_146 rfl ?_
      obtain ⟨hn26, hM23⟩ := fr_chn hM23
      refine sv_ldiv X dX5_snowOdds_148 hn26 ?_
      refine sv_goto (tgt := 157) X dX5_snowOdds_149 (by decide) ?_
      obtain rfl := fr_i1 hM23
      exact sv_perm [2, 3, 4, 5, 6, 7, 8, 9, 10, 1, 0] rfl K24
  · replace hF := fr_neg hF h28
    refine sv_ldc2_w X kl_X5_130 dX5_snowOdds_135 ?_
    exact sv_lret X hr hQ dX5_snowOdds_138 hF
theorem c_X5_snowOdds {l : Launch} {g : fr_G} {a1 : Int32} {a2 : Int32} {a3 : Int32} {a4 : Int32}  {σ τ : fr_St} {r : Int64} (hF : F_X5_snowOdds a1 a2 a3 a4 σ = some (r, τ)) : fr_Cl l g yX5_snowOdds (fr_ws yX5_snowOdds cX5_snowOdds 14 (some .long)) 4 [.ref (g.2.1 45), .int a1, .int a2, .int a3, .int a4] σ r τ := fr_ml (by decide) (Nat.le_of_ble_eq_true rfl) (fun p e s m below meth c X hr => b_X5_snowOdds X hr  rfl hF)
