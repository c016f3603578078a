def F_X3_keepIn (o : Nat) (ka : Nat) (σ : fr_St) : Option fr_St := fr_let (fr_row σ ka (va_cpy (σ (o + 1)) (σ ka) (fr_ix (0 : Int32)) (fr_ix (0 : Int32)) (fr_ix (122 : Int32)))) (fun s1 => some s1)
set_option maxRecDepth 100000 in
set_option maxHeartbeats 4000000 in
theorem b_X3_keepIn {p : Program} {l : Launch} {e : Env} {s : State} {m : MethodId} {args : Array Value} {below : List Frame} {meth : Method} {c : Code} {g : fr_G} {Q : State → Prop} (X : fr_X p s m args meth c g cX3_keepIn RX3 2) (hr : meth.sig.returnType = (Option.none : Option Jvm.ClassFile.FieldType)) {o : Nat} {ka : Nat} (ho : fr_tab[o]? = some (0, 2, [o + 1 + 1])) (ha : fr_tab[o + 1]? = some (1, 122, [])) (hk : fr_tab[ka]? = some (1, 122, [])) {σ τ : fr_St} (hQ : Q = fr_Qv below args s g τ) (hF : F_X3_keepIn o ka σ = some τ) : fr_V p l e (fr_rm 1) s m args below meth c g Q 2 σ 0 [(0, .ref (g.2.1 o)), (1, .ref (g.2.1 ka))] [] := by
  unfold F_X3_keepIn at hF
  refine sv_aload_n (i := 0) X dX3_keepIn_0 rfl rfl ?_
  refine sv_getr X ix_X3 rfl 0 (by decide) ho rfl fl_X3_9 dX3_keepIn_1 ?_
  refine sv_iconst (v := 0) X dX3_keepIn_4 (by decide) ?_
  refine sv_aload_n (i := 1) X dX3_keepIn_5 rfl rfl ?_
  refine sv_iconst (v := 0) X dX3_keepIn_6 (by decide) ?_
  refine sv_bipush (v := 122) X dX3_keepIn_7 (by decide) ?_
  refine sv_copy X ml_X3_19 na_copy sm_copy in_System ha hk (by decide) (by decide) (Nat.le_of_ble_eq_true rfl) dX3_keepIn_9 ?_
  refine sv_sig (fun s1 es1 => ?_)
  replace hF := fr_lete hF es1
  exact sv_vret X hr hQ dX3_keepIn_12 hF
theorem c_X3_keepIn {l : Launch} {g : fr_G} {o : Nat} {ka : Nat} (ho : fr_tab[o]? = some (0, 2, [o + 1 + 1])) (ha : fr_tab[o + 1]? = some (1, 122, [])) (hk : fr_tab[ka]? = some (1, 122, [])) {σ τ : fr_St} (hF : F_X3_keepIn o ka σ = some τ) : fr_Cv l g yX3_keepIn (fr_ws yX3_keepIn cX3_keepIn 2 (Option.none : Option Jvm.ClassFile.FieldType)) 1 [.ref (g.2.1 o), .ref (g.2.1 ka)] σ τ := fr_mv (by decide) (Nat.le_of_ble_eq_true rfl) (fun p e s m below meth c X hr => b_X3_keepIn X hr ho ha hk rfl hF)
def F_X3_takeFrom (o : Nat) (ka : Nat) (σ : fr_St) : Option fr_St := fr_let (fr_row σ (o + 1) (va_cpy (σ ka) (σ (o + 1)) (fr_ix (0 : Int32)) (fr_ix (0 : Int32)) (fr_ix (122 : Int32)))) (fun s1 => some s1)
set_option maxRecDepth 100000 in
set_option maxHeartbeats 4000000 in
theorem b_X3_takeFrom {p : Program} {l : Launch} {e : Env} {s : State} {m : MethodId} {args : Array Value} {below : List Frame} {meth : Method} {c : Code} {g : fr_G} {Q : State → Prop} (X : fr_X p s m args meth c g cX3_takeFrom RX3 2) (hr : meth.sig.returnType = (Option.none : Option Jvm.ClassFile.FieldType)) {o : Nat} {ka : Nat} (ho : fr_tab[o]? = some (0, 2, [o + 1 + 1])) (ha : fr_tab[o + 1]? = some (1, 122, [])) (hk : fr_tab[ka]? = some (1, 122, [])) {σ τ : fr_St} (hQ : Q = fr_Qv below args s g τ) (hF : F_X3_takeFrom o ka σ = some τ) : fr_V p l e (fr_rm 1) s m args below meth c g Q 2 σ 0 [(0, .ref (g.2.1 o)), (1, .ref (g.2.1 ka))] [] := by
  unfold F_X3_takeFrom at hF
  refine sv_aload_n (i := 1) X dX3_takeFrom_0 rfl rfl ?_
  refine sv_iconst (v := 0) X dX3_takeFrom_1 (by decide) ?_
  refine sv_aload_n (i := 0) X dX3_takeFrom_2 rfl rfl ?_
  refine sv_getr X ix_X3 rfl 0 (by decide) ho rfl fl_X3_9 dX3_takeFrom_3 ?_
  refine sv_iconst (v := 0) X dX3_takeFrom_6 (by decide) ?_
  refine sv_bipush (v := 122) X dX3_takeFrom_7 (by decide) ?_
  refine sv_copy X ml_X3_19 na_copy sm_copy in_System hk ha (by decide) (by decide) (Nat.le_of_ble_eq_true rfl) dX3_takeFrom_9 ?_
  refine sv_sig (fun s1 es1 => ?_)
  replace hF := fr_lete hF es1
  exact sv_vret X hr hQ dX3_takeFrom_12 hF
theorem c_X3_takeFrom {l : Launch} {g : fr_G} {o : Nat} {ka : Nat} (ho : fr_tab[o]? = some (0, 2, [o + 1 + 1])) (ha : fr_tab[o + 1]? = some (1, 122, [])) (hk : fr_tab[ka]? = some (1, 122, [])) {σ τ : fr_St} (hF : F_X3_takeFrom o ka σ = some τ) : fr_Cv l g yX3_takeFrom (fr_ws yX3_takeFrom cX3_takeFrom 2 (Option.none : Option Jvm.ClassFile.FieldType)) 1 [.ref (g.2.1 o), .ref (g.2.1 ka)] σ τ := fr_mv (by decide) (Nat.le_of_ble_eq_true rfl) (fun p e s m below meth c X hr => b_X3_takeFrom X hr ho ha hk rfl hF)
def F_X2_hasNumber (a1 : Int32) (σ : fr_St) : Option (Bool × fr_St) := fr_bS (if a1 < 0 then (some ((0 : Int32))) else (if (5 : Int32) < a1 then (some ((0 : Int32))) else (some ((1 : Int32))))) (fun v1 => if v1 = 0 then some (false, σ) else if v1 = 1 then some (true, σ) else none)
set_option maxRecDepth 100000 in
set_option maxHeartbeats 4000000 in
theorem b_X2_hasNumber {p : Program} {l : Launch} {e : Env} {s : State} {m : MethodId} {args : Array Value} {below : List Frame} {meth : Method} {c : Code} {g : fr_G} {Q : State → Prop} (X : fr_X p s m args meth c g cX2_hasNumber RX2 1) (hr : meth.sig.returnType = (some .boolean)) {a1 : Int32}  {σ τ : fr_St} {r : Bool} (hQ : Q = fr_Qi below args s g (fr_bi r) τ) (hF : F_X2_hasNumber a1 σ = some (r, τ)) : fr_V p l e (fr_rm 0) s m args below meth c g Q 1 σ 0 [(0, .int a1)] [] := by
  unfold F_X2_hasNumber at hF
  refine sv_iload_n (i := 0) X dX2_hasNumber_0 rfl rfl ?_
  obtain ⟨v1, hM2, hF⟩ := fr_bS_some hF
  have K3 : fr_V p l e (fr_rm 0) s m args below meth c g Q 1 σ 14 [(0, .int a1)] [.int v1] := by
    exact sv_zretv X hr hQ dX2_hasNumber_14 hF
  refine sv_if_lt (tgt := 13) X dX2_hasNumber_1 (by decide) (fun h5 => ?_) (fun h5 => ?_)
  · replace hM2 := fr_pos hM2 h5
    refine sv_iconst (v := 0) X dX2_hasNumber_13 (by decide) ?_
    obtain rfl := fr_i1 hM2
    exact K3
  · replace hM2 := fr_neg hM2 h5
    refine sv_iload_n (i := 0) X dX2_hasNumber_4 rfl rfl ?_
    refine sv_iconst (v := 5) X dX2_hasNumber_5 (by decide) ?_
    refine sv_icmp_gt (tgt := 13) X dX2_hasNumber_6 (by decide) (fun h4 => ?_) (fun h4 => ?_)
    · replace hM2 := fr_pos hM2 h4
      refine sv_iconst (v := 0) X dX2_hasNumber_13 (by decide) ?_
      obtain rfl := fr_i1 hM2
      exact K3
    · replace hM2 := fr_neg hM2 h4
      refine sv_iconst (v := 1) X dX2_hasNumber_9 (by decide) ?_
      refine sv_goto (tgt := 14) X dX2_hasNumber_10 (by decide) ?_
      obtain rfl := fr_i1 hM2
      exact K3
theorem c_X2_hasNumber {l : Launch} {g : fr_G} {a1 : Int32}  {σ τ : fr_St} {r : Bool} (hF : F_X2_hasNumber a1 σ = some (r, τ)) : fr_Ci l g yX2_hasNumber (fr_ws yX2_hasNumber cX2_hasNumber 1 (some .boolean)) 0 [.int a1] σ (fr_bi r) τ := fr_mz (by decide) (Nat.le_of_ble_eq_true rfl) (fun p e s m below meth c X hr => b_X2_hasNumber X hr  rfl hF)
def F_X2_above (a1 : Int32) (σ : fr_St) : Option (Int32 × fr_St) := fr_bP (F_X2_hasNumber a1 σ) (fun b3 s2 => fr_bS (if (fr_bi b3) = 0 then (some ((-1 : Int32))) else (if fr_ib a1 6 = true then some ((fr_cA (fr_ix a1))) else none)) (fun v4 => some (v4, s2)))
set_option maxRecDepth 100000 in
set_option maxHeartbeats 4000000 in
theorem b_X2_above {p : Program} {l : Launch} {e : Env} {s : State} {m : MethodId} {args : Array Value} {below : List Frame} {meth : Method} {c : Code} {g : fr_G} {Q : State → Prop} (X : fr_X p s m args meth c g cX2_above RX2 1) (hr : meth.sig.returnType = (some .int)) {a1 : Int32}  {σ τ : fr_St} {r : Int32} (hQ : Q = fr_Qi below args s g r τ) (hF : F_X2_above a1 σ = some (r, τ)) : fr_V p l e (fr_rm 1) s m args below meth c g Q 1 σ 0 [(0, .int a1)] [] := by
  unfold F_X2_above at hF
  refine sv_iload_n (i := 0) X dX2_above_0 rfl rfl ?_
  obtain ⟨b3, s2, hc1, hF⟩ := fr_bP_some hF
  refine sv_callSi X (c_X2_hasNumber hc1) cd_X2_hasNumber ml_X2_9 sm_X2_hasNumber in_RX2 hd_X2_hasNumber (by decide) rfl (Nat.le_of_ble_eq_true rfl) dX2_above_1 rfl ?_
  obtain ⟨v4, hM5, hF⟩ := fr_bS_some hF
  have K6 : fr_V p l e (fr_rm 1) s m args below meth c g Q 1 s2 16 [(0, .int a1)] [.int v4] := by
    exact sv_iret X hr hQ dX2_above_16 hF
  refine sv_if_eq (tgt := 15) X dX2_above_4 (by decide) (fun h8 => ?_) (fun h8 => ?_)
  · replace hM5 := fr_pos hM5 h8
    refine sv_iconst (v := (-1)) X dX2_above_15 (by decide) ?_
    obtain rfl := fr_i1 hM5
    exact K6
  · replace hM5 := fr_neg hM5 h8
    refine sv_getsA X fl_X2_13 dX2_above_7 ?_
    refine sv_iload_n (i := 0) X dX2_above_10 rfl rfl ?_
    obtain ⟨hb7, hM5⟩ := fr_chk hM5
    refine sv_tiA X hb7 dX2_above_11 ?_
    refine sv_goto (tgt := 16) X dX2_above_12 (by decide) ?_
    obtain rfl := fr_i1 hM5
    exact K6
theorem c_X2_above {l : Launch} {g : fr_G} {a1 : Int32}  {σ τ : fr_St} {r : Int32} (hF : F_X2_above a1 σ = some (r, τ)) : fr_Ci l g yX2_above (fr_ws yX2_above cX2_above 1 (some .int)) 1 [.int a1] σ r τ := fr_mi (by decide) (Nat.le_of_ble_eq_true rfl) (fun p e s m below meth c X hr => b_X2_above X hr  rfl hF)
def L_X2_isA_4 (k1 : Int32) : Nat → Int32 → Int32 → fr_St → Option ((Bool × fr_St) ⊕ (Int32 × Int32 × fr_St))
  | 0, _, _, _ => none
  | n + 1, x2, x3, σ => if (5 : Int32) < x3 then (some (.inr (x2, x3, σ))) else (fr_bP (F_X2_hasNumber x2 σ) (fun b3 s2 => if (fr_bi b3) = 0 then (some (.inr (x2, x3, s2))) else (if x2 = k1 then (some (.inl (true, s2))) else (fr_bP (F_X2_above x2 s2) (fun r6 s5 => fr_let (x3 + (1 : Int32)) (fun v7 => L_X2_isA_4 k1 n r6 v7 s5))))))
set_option maxRecDepth 100000 in
set_option maxHeartbeats 4000000 in
theorem wL_X2_isA_4 {p : Program} {l : Launch} {e : Env} {s : State} {m : MethodId} {args : Array Value} {below : List Frame} {meth : Method} {c : Code} {g : fr_G} {Q : State → Prop} (X : fr_X p s m args meth c g cX2_isA RX2 4)  (hr : meth.sig.returnType = (some .boolean)) {z : (Bool × fr_St) ⊕ (Int32 × Int32 × fr_St)} (KR : (∀ (r : Bool) (τ : fr_St), z = .inl (r, τ) → Q = fr_Qi below args s g (fr_bi r) τ)) (k0 : Int32) (k1 : Int32) (KE : ∀ (y2 : Int32) (y3 : Int32) (τ : fr_St), z = .inr (y2, y3, τ) → fr_V p l e (fr_rm 2) s m args below meth c g Q 4 τ 34 [(0, .int k0), (1, .int k1), (2, .int y2), (3, .int y3)] []) : ∀ (n : Nat) (x2 : Int32) (x3 : Int32) (σ : fr_St), L_X2_isA_4 k1 n x2 x3 σ = some z → fr_V p l e (fr_rm 2) s m args below meth c g Q 4 σ 4 [(0, .int k0), (1, .int k1), (2, .int x2), (3, .int x3)] [] := by
  intro n
  induction n with
  | zero => intro x2 x3 σ hL; cases hL
  | succ n ih =>
    intro x2 x3 σ hL
    rw [L_X2_isA_4] at hL
    refine sv_iload_n (i := 3) X dX2_isA_4 rfl rfl ?_
    refine sv_iconst (v := 5) X dX2_isA_5 (by decide) ?_
    refine sv_icmp_gt (tgt := 34) X dX2_isA_6 (by decide) (fun h10 => ?_) (fun h10 => ?_)
    · replace hL := fr_pos hL h10
      obtain rfl := Option.some.inj hL
      exact (KE _ _ _ rfl)
    · replace hL := fr_neg hL h10
      refine sv_iload_n (i := 2) X dX2_isA_9 rfl rfl ?_
      obtain ⟨b3, s2, hc1, hL⟩ := fr_bP_some hL
      refine sv_callSi X (c_X2_hasNumber hc1) cd_X2_hasNumber ml_X2_9 sm_X2_hasNumber in_RX2 hd_X2_hasNumber (by decide) rfl (Nat.le_of_ble_eq_true rfl) dX2_isA_10 rfl ?_
      refine sv_if_eq (tgt := 34) X dX2_isA_13 (by decide) (fun h9 => ?_) (fun h9 => ?_)
      · replace hL := fr_pos hL h9
        obtain rfl := Option.some.inj hL
        exact (KE _ _ _ rfl)
      · replace hL := fr_neg hL h9
        refine sv_iload_n (i := 2) X dX2_isA_16 rfl rfl ?_
        refine sv_iload_n (i := 1) X dX2_isA_17 rfl rfl ?_
        refine sv_icmp_ne (tgt := 23) X dX2_isA_18 (by decide) (fun h8 => ?_) (fun h8 => ?_)
        · replace hL := fr_neg hL h8
          refine sv_iload_n (i := 2) X dX2_isA_23 rfl rfl ?_
          obtain ⟨r6, s5, hc4, hL⟩ := fr_bP_some hL
          refine sv_callSi X (c_X2_above hc4) cd_X2_above ml_X2_17 sm_X2_above in_RX2 hd_X2_above (by decide) rfl (Nat.le_of_ble_eq_true rfl) dX2_isA_24 rfl ?_
          refine sv_istore_n X dX2_isA_27 rfl (by decide) rfl ?_
          obtain ⟨v7, ev7⟩ : ∃ y : Int32, y = x3 + (1 : Int32) := ⟨_, rfl⟩
          replace hL := fr_lete hL ev7
          refine sv_iinc (i := 3) (v := v7) X dX2_isA_28 rfl (by rw [ev7]; rfl) (by decide) rfl ?_
          refine sv_goto (tgt := 4) X dX2_isA_31 (by decide) ?_
          exact sv_perm [2, 3, 1, 0] rfl (ih _ _ _ hL)
        · replace hL := fr_pos hL h8
          refine sv_iconst (v := 1) X dX2_isA_21 (by decide) ?_
          obtain rfl := Option.some.inj hL
          exact sv_zret X (b := true) hr (KR _ _ rfl) rfl dX2_isA_22 rfl
def F_X2_isA (a1 : Int32) (a2 : Int32) (σ : fr_St) : Option (Bool × fr_St) := fr_bR (L_X2_isA_4 a2 fr_fu a1 (0 : Int32) σ) (fun q0 => some q0) (fun q6 => fr_pP q6 (fun v1 q7 => fr_pP q7 (fun v2 s3 => some (false, s3))))
set_option maxRecDepth 100000 in
set_option maxHeartbeats 4000000 in
theorem b_X2_isA {p : Program} {l : Launch} {e : Env} {s : State} {m : MethodId} {args : Array Value} {below : List Frame} {meth : Method} {c : Code} {g : fr_G} {Q : State → Prop} (X : fr_X p s m args meth c g cX2_isA RX2 4) (hr : meth.sig.returnType = (some .boolean)) {a1 : Int32} {a2 : Int32}  {σ τ : fr_St} {r : Bool} (hQ : Q = fr_Qi below args s g (fr_bi r) τ) (hF : F_X2_isA a1 a2 σ = some (r, τ)) : fr_V p l e (fr_rm 2) s m args below meth c g Q 4 σ 0 [(0, .int a1), (1, .int a2)] [] := by
  unfold F_X2_isA at hF
  refine sv_iload_n (i := 0) X dX2_isA_0 rfl rfl ?_
  refine sv_istore_n X dX2_isA_1 rfl (by decide) rfl ?_
  refine sv_iconst (v := 0) X dX2_isA_2 (by decide) ?_
  refine sv_istore_n X dX2_isA_3 rfl (by decide) rfl ?_
  refine sv_perm [2, 3, 1, 0] rfl ?_
  rcases fr_bR_some hF with ⟨⟨rr, ss⟩, hl4, hF⟩ | ⟨⟨v1, v2, s3⟩, hl4, hF⟩
  · obtain ⟨rfl, rfl⟩ := fr_i2 hF
    exact wL_X2_isA_4 X  hr (fun r τ e => by cases e; exact hQ) a1 a2 (fun _ _ _ e => by cases e) fr_fu _ _ _ hl4
  · dsimp only [fr_pP] at hF
    refine wL_X2_isA_4 X  hr (fun r τ e => by cases e) a1 a2 (fun _ _ _ e => ?_) fr_fu _ _ _ hl4
    cases e
    refine sv_iconst (v := 0) X dX2_isA_34 (by decide) ?_
    exact sv_zret X (b := false) hr hQ rfl dX2_isA_35 hF
theorem c_X2_isA {l : Launch} {g : fr_G} {a1 : Int32} {a2 : Int32}  {σ τ : fr_St} {r : Bool} (hF : F_X2_isA a1 a2 σ = some (r, τ)) : fr_Ci l g yX2_isA (fr_ws yX2_isA cX2_isA 4 (some .boolean)) 2 [.int a1, .int a2] σ (fr_bi r) τ := fr_mz (by decide) (Nat.le_of_ble_eq_true rfl) (fun p e s m below meth c X hr => b_X2_isA X hr  rfl hF)
def F_X2_ofLetter (a1 : Int32) (σ : fr_St) : Option (Int32 × fr_St) := if a1 = (104 : Int32) then (some ((4 : Int32), σ)) else (if a1 = (105 : Int32) then (some ((-1 : Int32), σ)) else (if a1 = (106 : Int32) then (some ((-1 : Int32), σ)) else (if a1 = (107 : Int32) then (some ((-1 : Int32), σ)) else (if a1 = (108 : Int32) then (some ((1 : Int32), σ)) else (if a1 = (109 : Int32) then (some ((-1 : Int32), σ)) else (if a1 = (110 : Int32) then (some ((2 : Int32), σ)) else (if a1 = (111 : Int32) then (some ((3 : Int32), σ)) else (if a1 = (112 : Int32) then (some ((-1 : Int32), σ)) else (if a1 = (113 : Int32) then (some ((-1 : Int32), σ)) else (if a1 = (114 : Int32) then (some ((5 : Int32), σ)) else (some ((-1 : Int32), σ))))))))))))
set_option maxRecDepth 100000 in
set_option maxHeartbeats 4000000 in
theorem b_X2_ofLetter {p : Program} {l : Launch} {e : Env} {s : State} {m : MethodId} {args : Array Value} {below : List Frame} {meth : Method} {c : Code} {g : fr_G} {Q : State → Prop} (X : fr_X p s m args meth c g cX2_ofLetter RX2 1) (hr : meth.sig.returnType = (some .int)) {a1 : Int32}  {σ τ : fr_St} {r : Int32} (hQ : Q = fr_Qi below args s g r τ) (hF : F_X2_ofLetter a1 σ = some (r, τ)) : fr_V p l e (fr_rm 0) s m args below meth c g Q 1 σ 0 [(0, .int a1)] [] := by
  unfold F_X2_ofLetter at hF
  refine sv_iload_n (i := 0) X dX2_ofLetter_0 rfl rfl ?_
  by_cases h1 : a1 = (104 : Int32)
  · replace hF := fr_pos hF h1
    refine sv_tin (v := (104 : Int32)) (tgt := 66) X h1 (by decide) (by decide) rfl (by decide) dX2_ofLetter_1 ?_
    refine sv_iconst (v := 4) X dX2_ofLetter_66 (by decide) ?_
    exact sv_iret X hr hQ dX2_ofLetter_67 hF
  · replace hF := fr_neg hF h1
    by_cases h2 : a1 = (105 : Int32)
    · replace hF := fr_pos hF h2
      refine sv_tin (v := (105 : Int32)) (tgt := 70) X h2 (by decide) (by decide) rfl (by decide) dX2_ofLetter_1 ?_
      refine sv_iconst (v := (-1)) X dX2_ofLetter_70 (by decide) ?_
      exact sv_iret X hr hQ dX2_ofLetter_71 hF
    · replace hF := fr_neg hF h2
      by_cases h3 : a1 = (106 : Int32)
      · replace hF := fr_pos hF h3
        refine sv_tin (v := (106 : Int32)) (tgt := 70) X h3 (by decide) (by decide) rfl (by decide) dX2_ofLetter_1 ?_
        refine sv_iconst (v := (-1)) X dX2_ofLetter_70 (by decide) ?_
        exact sv_iret X hr hQ dX2_ofLetter_71 hF
      · replace hF := fr_neg hF h3
        by_cases h4 : a1 = (107 : Int32)
        · replace hF := fr_pos hF h4
          refine sv_tin (v := (107 : Int32)) (tgt := 70) X h4 (by decide) (by decide) rfl (by decide) dX2_ofLetter_1 ?_
          refine sv_iconst (v := (-1)) X dX2_ofLetter_70 (by decide) ?_
          exact sv_iret X hr hQ dX2_ofLetter_71 hF
        · replace hF := fr_neg hF h4
          by_cases h5 : a1 = (108 : Int32)
          · replace hF := fr_pos hF h5
            refine sv_tin (v := (108 : Int32)) (tgt := 60) X h5 (by decide) (by decide) rfl (by decide) dX2_ofLetter_1 ?_
            refine sv_iconst (v := 1) X dX2_ofLetter_60 (by decide) ?_
            exact sv_iret X hr hQ dX2_ofLetter_61 hF
          · replace hF := fr_neg hF h5
            by_cases h6 : a1 = (109 : Int32)
            · replace hF := fr_pos hF h6
              refine sv_tin (v := (109 : Int32)) (tgt := 70) X h6 (by decide) (by decide) rfl (by decide) dX2_ofLetter_1 ?_
              refine sv_iconst (v := (-1)) X dX2_ofLetter_70 (by decide) ?_
              exact sv_iret X hr hQ dX2_ofLetter_71 hF
            · replace hF := fr_neg hF h6
              by_cases h7 : a1 = (110 : Int32)
              · replace hF := fr_pos hF h7
                refine sv_tin (v := (110 : Int32)) (tgt := 62) X h7 (by decide) (by decide) rfl (by decide) dX2_ofLetter_1 ?_
                refine sv_iconst (v := 2) X dX2_ofLetter_62 (by decide) ?_
                exact sv_iret X hr hQ dX2_ofLetter_63 hF
              · replace hF := fr_neg hF h7
                by_cases h8 : a1 = (111 : Int32)
                · replace hF := fr_pos hF h8
                  refine sv_tin (v := (111 : Int32)) (tgt := 64) X h8 (by decide) (by decide) rfl (by decide) dX2_ofLetter_1 ?_
                  refine sv_iconst (v := 3) X dX2_ofLetter_64 (by decide) ?_
                  exact sv_iret X hr hQ dX2_ofLetter_65 hF
                · replace hF := fr_neg hF h8
                  by_cases h9 : a1 = (112 : Int32)
                  · replace hF := fr_pos hF h9
                    refine sv_tin (v := (112 : Int32)) (tgt := 70) X h9 (by decide) (by decide) rfl (by decide) dX2_ofLetter_1 ?_
                    refine sv_iconst (v := (-1)) X dX2_ofLetter_70 (by decide) ?_
                    exact sv_iret X hr hQ dX2_ofLetter_71 hF
                  · replace hF := fr_neg hF h9
                    by_cases h10 : a1 = (113 : Int32)
                    · replace hF := fr_pos hF h10
                      refine sv_tin (v := (113 : Int32)) (tgt := 70) X h10 (by decide) (by decide) rfl (by decide) dX2_ofLetter_1 ?_
                      refine sv_iconst (v := (-1)) X dX2_ofLetter_70 (by decide) ?_
                      exact sv_iret X hr hQ dX2_ofLetter_71 hF
                    · replace hF := fr_neg hF h10
                      by_cases h11 : a1 = (114 : Int32)
                      · replace hF := fr_pos hF h11
                        refine sv_tin (v := (114 : Int32)) (tgt := 68) X h11 (by decide) (by decide) rfl (by decide) dX2_ofLetter_1 ?_
                        refine sv_iconst (v := 5) X dX2_ofLetter_68 (by decide) ?_
                        exact sv_iret X hr hQ dX2_ofLetter_69 hF
                      · replace hF := fr_neg hF h11
                        have hz : ¬ (a1).toInt = 104 ∧ ¬ (a1).toInt = 105 ∧ ¬ (a1).toInt = 106 ∧ ¬ (a1).toInt = 107 ∧ ¬ (a1).toInt = 108 ∧ ¬ (a1).toInt = 109 ∧ ¬ (a1).toInt = 110 ∧ ¬ (a1).toInt = 111 ∧ ¬ (a1).toInt = 112 ∧ ¬ (a1).toInt = 113 ∧ ¬ (a1).toInt = 114 := ⟨lv_neT h1 (k := (104 : Int32)) (a := 104) (by decide), lv_neT h2 (k := (105 : Int32)) (a := 105) (by decide), lv_neT h3 (k := (106 : Int32)) (a := 106) (by decide), lv_neT h4 (k := (107 : Int32)) (a := 107) (by decide), lv_neT h5 (k := (108 : Int32)) (a := 108) (by decide), lv_neT h6 (k := (109 : Int32)) (a := 109) (by decide), lv_neT h7 (k := (110 : Int32)) (a := 110) (by decide), lv_neT h8 (k := (111 : Int32)) (a := 111) (by decide), lv_neT h9 (k := (112 : Int32)) (a := 112) (by decide), lv_neT h10 (k := (113 : Int32)) (a := 113) (by decide), lv_neT h11 (k := (114 : Int32)) (a := 114) (by decide)⟩
                        refine sv_tout (tgt := 70) X (by omega) (by decide) dX2_ofLetter_1 ?_
                        refine sv_iconst (v := (-1)) X dX2_ofLetter_70 (by decide) ?_
                        exact sv_iret X hr hQ dX2_ofLetter_71 hF
theorem c_X2_ofLetter {l : Launch} {g : fr_G} {a1 : Int32}  {σ τ : fr_St} {r : Int32} (hF : F_X2_ofLetter a1 σ = some (r, τ)) : fr_Ci l g yX2_ofLetter (fr_ws yX2_ofLetter cX2_ofLetter 1 (some .int)) 0 [.int a1] σ r τ := fr_mi (by decide) (Nat.le_of_ble_eq_true rfl) (fun p e s m below meth c X hr => b_X2_ofLetter X hr  rfl hF)
def L_J7_fill_53178_5 (ka : Nat) (kN : Nat) (k1 : Int32) (k3 : Int32) : Nat → Int32 → fr_St → Option (Int32 × fr_St)
  | 0, _, _ => none
  | n + 1, x2, σ => if k3 ≤ x2 then (some (x2, σ)) else (if fr_ib x2 kN = true then fr_let (fr_up σ ka (fr_ix x2) k1) (fun s2 => fr_let (x2 + (1 : Int32)) (fun v3 => L_J7_fill_53178_5 ka kN k1 k3 n v3 s2)) else none)
set_option maxRecDepth 100000 in
set_option maxHeartbeats 4000000 in
theorem wL_J7_fill_53178_5 {p : Program} {l : Launch} {e : Env} {s : State} {m : MethodId} {args : Array Value} {below : List Frame} {meth : Method} {c : Code} {g : fr_G} {Q : State → Prop} (X : fr_X p s m args meth c g cJ7_fill_53178 RJ7 4) {ka : Nat} {kN : Nat} (hk : fr_tab[ka]? = some (1, kN, [])) (k1 : Int32) (k3 : Int32) {y2 : Int32} {τ : fr_St} (K : fr_V p l e (fr_rm 0) s m args below meth c g Q 4 τ 20 [(0, .ref (g.2.1 ka)), (1, .int k1), (2, .int y2), (3, .int k3)] []) : ∀ (n : Nat) (x2 : Int32) (σ : fr_St), L_J7_fill_53178_5 ka kN k1 k3 n x2 σ = some (y2, τ) → fr_V p l e (fr_rm 0) s m args below meth c g Q 4 σ 5 [(0, .ref (g.2.1 ka)), (1, .int k1), (2, .int x2), (3, .int k3)] [] := by
  intro n
  induction n with
  | zero => intro x2 σ hL; cases hL
  | succ n ih =>
    intro x2 σ hL
    rw [L_J7_fill_53178_5] at hL
    refine sv_iload_n (i := 2) X dJ7_fill_53178_5 rfl rfl ?_
    refine sv_iload_n (i := 3) X dJ7_fill_53178_6 rfl rfl ?_
    refine sv_icmp_ge (tgt := 20) X dJ7_fill_53178_7 (by decide) (fun h4 => ?_) (fun h4 => ?_)
    · replace hL := fr_pos hL h4
      obtain ⟨rfl, rfl⟩ := fr_i2 hL
      exact K
    · replace hL := fr_neg hL h4
      refine sv_aload_n (i := 0) X dJ7_fill_53178_10 rfl rfl ?_
      refine sv_iload_n (i := 2) X dJ7_fill_53178_11 rfl rfl ?_
      refine sv_iload_n (i := 1) X dJ7_fill_53178_12 rfl rfl ?_
      obtain ⟨hb1, hL⟩ := fr_chk hL
      refine sv_iast (j := (fr_ix x2)) X hk hb1 rfl dJ7_fill_53178_13 ?_
      refine sv_sig (fun s2 es2 => ?_)
      replace hL := fr_lete hL es2
      obtain ⟨v3, ev3⟩ : ∃ y : Int32, y = x2 + (1 : Int32) := ⟨_, rfl⟩
      replace hL := fr_lete hL ev3
      refine sv_iinc (i := 2) (v := v3) X dJ7_fill_53178_14 rfl (by rw [ev3]; rfl) (by decide) rfl ?_
      refine sv_goto (tgt := 5) X dJ7_fill_53178_17 (by decide) ?_
      exact sv_perm [1, 2, 0, 3] rfl (ih _ _ hL)
def F_J7_fill_53178 (ka : Nat) (kN : Nat) (a2 : Int32) (σ : fr_St) : Option fr_St := fr_let ((Int32.ofNat kN)) (fun v1 => fr_bP (L_J7_fill_53178_5 ka kN a2 v1 fr_fu (0 : Int32) σ) (fun v2 s3 => some s3))
set_option maxRecDepth 100000 in
set_option maxHeartbeats 4000000 in
theorem b_J7_fill_53178 {p : Program} {l : Launch} {e : Env} {s : State} {m : MethodId} {args : Array Value} {below : List Frame} {meth : Method} {c : Code} {g : fr_G} {Q : State → Prop} (X : fr_X p s m args meth c g cJ7_fill_53178 RJ7 4) (hr : meth.sig.returnType = (Option.none : Option Jvm.ClassFile.FieldType)) {ka : Nat} {kN : Nat} {a2 : Int32} (hk : fr_tab[ka]? = some (1, kN, [])) {σ τ : fr_St} (hQ : Q = fr_Qv below args s g τ) (hF : F_J7_fill_53178 ka kN a2 σ = some τ) : fr_V p l e (fr_rm 0) s m args below meth c g Q 4 σ 0 [(0, .ref (g.2.1 ka)), (1, .int a2)] [] := by
  unfold F_J7_fill_53178 at hF
  refine sv_iconst (v := 0) X dJ7_fill_53178_0 (by decide) ?_
  refine sv_istore_n X dJ7_fill_53178_1 rfl (by decide) rfl ?_
  refine sv_aload_n (i := 1) X dJ7_fill_53178_2 rfl rfl ?_
  refine sv_alen X hk dJ7_fill_53178_3 ?_
  refine sv_topi (fun v1 ev1 => ?_)
  replace hF := fr_lete hF ev1
  refine sv_istore_n X dJ7_fill_53178_4 rfl (by decide) rfl ?_
  refine sv_perm [2, 3, 1, 0] rfl ?_
  obtain ⟨v2, s3, hl4, hF⟩ := fr_bP_some hF
  refine wL_J7_fill_53178_5 X hk a2 v1 ?_ fr_fu _ _ hl4
  exact sv_vret X hr hQ dJ7_fill_53178_20 hF
theorem c_J7_fill_53178 {l : Launch} {g : fr_G} {ka : Nat} {kN : Nat} {a2 : Int32} (hk : fr_tab[ka]? = some (1, kN, [])) {σ τ : fr_St} (hF : F_J7_fill_53178 ka kN a2 σ = some τ) : fr_Cv l g yJ7_fill_53178 (fr_ws yJ7_fill_53178 cJ7_fill_53178 4 (Option.none : Option Jvm.ClassFile.FieldType)) 0 [.ref (g.2.1 ka), .int a2] σ τ := fr_mv (by decide) (Nat.le_of_ble_eq_true rfl) (fun p e s m below meth c X hr => b_J7_fill_53178 X hr hk rfl hF)
def F_X3_clear (o : Nat) (σ : fr_St) : Option fr_St := fr_bS (F_J7_fill_53178 (o + 1) 122 (0 : Int32) σ) (fun s2 => some s2)
set_option maxRecDepth 100000 in
set_option maxHeartbeats 4000000 in
theorem b_X3_clear {p : Program} {l : Launch} {e : Env} {s : State} {m : MethodId} {args : Array Value} {below : List Frame} {meth : Method} {c : Code} {g : fr_G} {Q : State → Prop} (X : fr_X p s m args meth c g cX3_clear RX3 1) (hr : meth.sig.returnType = (Option.none : Option Jvm.ClassFile.FieldType)) {o : Nat} (ho : fr_tab[o]? = some (0, 2, [o + 1 + 1])) (ha : fr_tab[o + 1]? = some (1, 122, [])) {σ τ : fr_St} (hQ : Q = fr_Qv below args s g τ) (hF : F_X3_clear o σ = some τ) : fr_V p l e (fr_rm 1) s m args below meth c g Q 1 σ 0 [(0, .ref (g.2.1 o))] [] := by
  unfold F_X3_clear at hF
  refine sv_aload_n (i := 0) X dX3_clear_0 rfl rfl ?_
  refine sv_getr X ix_X3 rfl 0 (by decide) ho rfl fl_X3_9 dX3_clear_1 ?_
  refine sv_iconst (v := 0) X dX3_clear_4 (by decide) ?_
  obtain ⟨s2, hc1, hF⟩ := fr_bS_some hF
  refine sv_callSv X (c_J7_fill_53178 ha hc1) cd_J7_fill_53178 ml_X3_13 sm_J7_fill_53178 in_RJ7 hd_J7_fill_53178 (by decide) rfl (Nat.le_of_ble_eq_true rfl) dX3_clear_5 rfl ?_
  exact sv_vret X hr hQ dX3_clear_8 hF
theorem c_X3_clear {l : Launch} {g : fr_G} {o : Nat} (ho : fr_tab[o]? = some (0, 2, [o + 1 + 1])) (ha : fr_tab[o + 1]? = some (1, 122, [])) {σ τ : fr_St} (hF : F_X3_clear o σ = some τ) : fr_Cv l g yX3_clear (fr_ws yX3_clear cX3_clear 1 (Option.none : Option Jvm.ClassFile.FieldType)) 1 [.ref (g.2.1 o)] σ τ := fr_mv (by decide) (Nat.le_of_ble_eq_true rfl) (fun p e s m below meth c X hr => b_X3_clear X hr ho ha rfl hF)
def F_X3_stands (o : Nat) (σ : fr_St) : Option (Bool × fr_St) := fr_bS (if (σ (o + 1) 0) ≤ 0 then (some ((0 : Int32))) else (some ((1 : Int32)))) (fun v1 => if v1 = 0 then some (false, σ) else if v1 = 1 then some (true, σ) else none)
set_option maxRecDepth 100000 in
set_option maxHeartbeats 4000000 in
theorem b_X3_stands {p : Program} {l : Launch} {e : Env} {s : State} {m : MethodId} {args : Array Value} {below : List Frame} {meth : Method} {c : Code} {g : fr_G} {Q : State → Prop} (X : fr_X p s m args meth c g cX3_stands RX3 1) (hr : meth.sig.returnType = (some .boolean)) {o : Nat} (ho : fr_tab[o]? = some (0, 2, [o + 1 + 1])) (ha : fr_tab[o + 1]? = some (1, 122, [])) {σ τ : fr_St} {r : Bool} (hQ : Q = fr_Qi below args s g (fr_bi r) τ) (hF : F_X3_stands o σ = some (r, τ)) : fr_V p l e (fr_rm 0) s m args below meth c g Q 1 σ 0 [(0, .ref (g.2.1 o))] [] := by
  unfold F_X3_stands at hF
  refine sv_aload_n (i := 0) X dX3_stands_0 rfl rfl ?_
  refine sv_getr X ix_X3 rfl 0 (by decide) ho rfl fl_X3_9 dX3_stands_1 ?_
  refine sv_iconst (v := 0) X dX3_stands_4 (by decide) ?_
  refine sv_iald (j := 0) X ha (by decide) (by decide) dX3_stands_5 ?_
  obtain ⟨v1, hM2, hF⟩ := fr_bS_some hF
  have K3 : fr_V p l e (fr_rm 0) s m args below meth c g Q 1 σ 14 [(0, .ref (g.2.1 o))] [.int v1] := by
    exact sv_zretv X hr hQ dX3_stands_14 hF
  refine sv_if_le (tgt := 13) X dX3_stands_6 (by decide) (fun h4 => ?_) (fun h4 => ?_)
  · replace hM2 := fr_pos hM2 h4
    refine sv_iconst (v := 0) X dX3_stands_13 (by decide) ?_
    obtain rfl := fr_i1 hM2
    exact K3
  · replace hM2 := fr_neg hM2 h4
    refine sv_iconst (v := 1) X dX3_stands_9 (by decide) ?_
    refine sv_goto (tgt := 14) X dX3_stands_10 (by decide) ?_
    obtain rfl := fr_i1 hM2
    exact K3
theorem c_X3_stands {l : Launch} {g : fr_G} {o : Nat} (ho : fr_tab[o]? = some (0, 2, [o + 1 + 1])) (ha : fr_tab[o + 1]? = some (1, 122, [])) {σ τ : fr_St} {r : Bool} (hF : F_X3_stands o σ = some (r, τ)) : fr_Ci l g yX3_stands (fr_ws yX3_stands cX3_stands 1 (some .boolean)) 0 [.ref (g.2.1 o)] σ (fr_bi r) τ := fr_mz (by decide) (Nat.le_of_ble_eq_true rfl) (fun p e s m below meth c X hr => b_X3_stands X hr ho ha rfl hF)
def F_X3_fade (o : Nat) (σ : fr_St) : Option (Int32 × fr_St) := some ((σ (o + 1) 0), σ)
set_option maxRecDepth 100000 in
set_option maxHeartbeats 4000000 in
theorem b_X3_fade {p : Program} {l : Launch} {e : Env} {s : State} {m : MethodId} {args : Array Value} {below : List Frame} {meth : Method} {c : Code} {g : fr_G} {Q : State → Prop} (X : fr_X p s m args meth c g cX3_fade RX3 1) (hr : meth.sig.returnType = (some .int)) {o : Nat} (ho : fr_tab[o]? = some (0, 2, [o + 1 + 1])) (ha : fr_tab[o + 1]? = some (1, 122, [])) {σ τ : fr_St} {r : Int32} (hQ : Q = fr_Qi below args s g r τ) (hF : F_X3_fade o σ = some (r, τ)) : fr_V p l e (fr_rm 0) s m args below meth c g Q 1 σ 0 [(0, .ref (g.2.1 o))] [] := by
  unfold F_X3_fade at hF
  refine sv_aload_n (i := 0) X dX3_fade_0 rfl rfl ?_
  refine sv_getr X ix_X3 rfl 0 (by decide) ho rfl fl_X3_9 dX3_fade_1 ?_
  refine sv_iconst (v := 0) X dX3_fade_4 (by decide) ?_
  refine sv_iald (j := 0) X ha (by decide) (by decide) dX3_fade_5 ?_
  exact sv_iret X hr hQ dX3_fade_6 hF
theorem c_X3_fade {l : Launch} {g : fr_G} {o : Nat} (ho : fr_tab[o]? = some (0, 2, [o + 1 + 1])) (ha : fr_tab[o + 1]? = some (1, 122, [])) {σ τ : fr_St} {r : Int32} (hF : F_X3_fade o σ = some (r, τ)) : fr_Ci l g yX3_fade (fr_ws yX3_fade cX3_fade 1 (some .int)) 0 [.ref (g.2.1 o)] σ r τ := fr_mi (by decide) (Nat.le_of_ble_eq_true rfl) (fun p e s m below meth c X hr => b_X3_fade X hr ho ha rfl hF)
def F_X3_places (o : Nat) (σ : fr_St) : Option (Int32 × fr_St) := some ((σ (o + 1) 1), σ)
set_option maxRecDepth 100000 in
set_option maxHeartbeats 4000000 in
theorem b_X3_places {p : Program} {l : Launch} {e : Env} {s : State} {m : MethodId} {args : Array Value} {below : List Frame} {meth : Method} {c : Code} {g : fr_G} {Q : State → Prop} (X : fr_X p s m args meth c g cX3_places RX3 1) (hr : meth.sig.returnType = (some .int)) {o : Nat} (ho : fr_tab[o]? = some (0, 2, [o + 1 + 1])) (ha : fr_tab[o + 1]? = some (1, 122, [])) {σ τ : fr_St} {r : Int32} (hQ : Q = fr_Qi below args s g r τ) (hF : F_X3_places o σ = some (r, τ)) : fr_V p l e (fr_rm 0) s m args below meth c g Q 1 σ 0 [(0, .ref (g.2.1 o))] [] := by
  unfold F_X3_places at hF
  refine sv_aload_n (i := 0) X dX3_places_0 rfl rfl ?_
  refine sv_getr X ix_X3 rfl 0 (by decide) ho rfl fl_X3_9 dX3_places_1 ?_
  refine sv_iconst (v := 1) X dX3_places_4 (by decide) ?_
  refine sv_iald (j := 1) X ha (by decide) (by decide) dX3_places_5 ?_
  exact sv_iret X hr hQ dX3_places_6 hF
theorem c_X3_places {l : Launch} {g : fr_G} {o : Nat} (ho : fr_tab[o]? = some (0, 2, [o + 1 + 1])) (ha : fr_tab[o + 1]? = some (1, 122, [])) {σ τ : fr_St} {r : Int32} (hF : F_X3_places o σ = some (r, τ)) : fr_Ci l g yX3_places (fr_ws yX3_places cX3_places 1 (some .int)) 0 [.ref (g.2.1 o)] σ r τ := fr_mi (by decide) (Nat.le_of_ble_eq_true rfl) (fun p e s m below meth c X hr => b_X3_places X hr ho ha rfl hF)
def F_X3_roads (o : Nat) (σ : fr_St) : Option (Int32 × fr_St) := some ((σ (o + 1) 2), σ)
set_option maxRecDepth 100000 in
set_option maxHeartbeats 4000000 in
theorem b_X3_roads {p : Program} {l : Launch} {e : Env} {s : State} {m : MethodId} {args : Array Value} {below : List Frame} {meth : Method} {c : Code} {g : fr_G} {Q : State → Prop} (X : fr_X p s m args meth c g cX3_roads RX3 1) (hr : meth.sig.returnType = (some .int)) {o : Nat} (ho : fr_tab[o]? = some (0, 2, [o + 1 + 1])) (ha : fr_tab[o + 1]? = some (1, 122, [])) {σ τ : fr_St} {r : Int32} (hQ : Q = fr_Qi below args s g r τ) (hF : F_X3_roads o σ = some (r, τ)) : fr_V p l e (fr_rm 0) s m args below meth c g Q 1 σ 0 [(0, .ref (g.2.1 o))] [] := by
  unfold F_X3_roads at hF
  refine sv_aload_n (i := 0) X dX3_roads_0 rfl rfl ?_
  refine sv_getr X ix_X3 rfl 0 (by decide) ho rfl fl_X3_9 dX3_roads_1 ?_
  refine sv_iconst (v := 2) X dX3_roads_4 (by decide) ?_
  refine sv_iald (j := 2) X ha (by decide) (by decide) dX3_roads_5 ?_
  exact sv_iret X hr hQ dX3_roads_6 hF
theorem c_X3_roads {l : Launch} {g : fr_G} {o : Nat} (ho : fr_tab[o]? = some (0, 2, [o + 1 + 1])) (ha : fr_tab[o + 1]? = some (1, 122, [])) {σ τ : fr_St} {r : Int32} (hF : F_X3_roads o σ = some (r, τ)) : fr_Ci l g yX3_roads (fr_ws yX3_roads cX3_roads 1 (some .int)) 0 [.ref (g.2.1 o)] σ r τ := fr_mi (by decide) (Nat.le_of_ble_eq_true rfl) (fun p e s m below meth c X hr => b_X3_roads X hr ho ha rfl hF)
def F_X3_people (o : Nat) (σ : fr_St) : Option (Int32 × fr_St) := some ((σ (o + 1) 3), σ)
set_option maxRecDepth 100000 in
set_option maxHeartbeats 4000000 in
theorem b_X3_people {p : Program} {l : Launch} {e : Env} {s : State} {m : MethodId} {args : Array Value} {below : List Frame} {meth : Method} {c : Code} {g : fr_G} {Q : State → Prop} (X : fr_X p s m args meth c g cX3_people RX3 1) (hr : meth.sig.returnType = (some .int)) {o : Nat} (ho : fr_tab[o]? = some (0, 2, [o + 1 + 1])) (ha : fr_tab[o + 1]? = some (1, 122, [])) {σ τ : fr_St} {r : Int32} (hQ : Q = fr_Qi below args s g r τ) (hF : F_X3_people o σ = some (r, τ)) : fr_V p l e (fr_rm 0) s m args below meth c g Q 1 σ 0 [(0, .ref (g.2.1 o))] [] := by
  unfold F_X3_people at hF
  refine sv_aload_n (i := 0) X dX3_people_0 rfl rfl ?_
  refine sv_getr X ix_X3 rfl 0 (by decide) ho rfl fl_X3_9 dX3_people_1 ?_
  refine sv_iconst (v := 3) X dX3_people_4 (by decide) ?_
  refine sv_iald (j := 3) X ha (by decide) (by decide) dX3_people_5 ?_
  exact sv_iret X hr hQ dX3_people_6 hF
theorem c_X3_people {l : Launch} {g : fr_G} {o : Nat} (ho : fr_tab[o]? = some (0, 2, [o + 1 + 1])) (ha : fr_tab[o + 1]? = some (1, 122, [])) {σ τ : fr_St} {r : Int32} (hF : F_X3_people o σ = some (r, τ)) : fr_Ci l g yX3_people (fr_ws yX3_people cX3_people 1 (some .int)) 0 [.ref (g.2.1 o)] σ r τ := fr_mi (by decide) (Nat.le_of_ble_eq_true rfl) (fun p e s m below meth c X hr => b_X3_people X hr ho ha rfl hF)
def F_X3_today (o : Nat) (σ : fr_St) : Option (Int32 × fr_St) := some ((σ (o + 1) 4), σ)
set_option maxRecDepth 100000 in
set_option maxHeartbeats 4000000 in
theorem b_X3_today {p : Program} {l : Launch} {e : Env} {s : State} {m : MethodId} {args : Array Value} {below : List Frame} {meth : Method} {c : Code} {g : fr_G} {Q : State → Prop} (X : fr_X p s m args meth c g cX3_today RX3 1) (hr : meth.sig.returnType = (some .int)) {o : Nat} (ho : fr_tab[o]? = some (0, 2, [o + 1 + 1])) (ha : fr_tab[o + 1]? = some (1, 122, [])) {σ τ : fr_St} {r : Int32} (hQ : Q = fr_Qi below args s g r τ) (hF : F_X3_today o σ = some (r, τ)) : fr_V p l e (fr_rm 0) s m args below meth c g Q 1 σ 0 [(0, .ref (g.2.1 o))] [] := by
  unfold F_X3_today at hF
  refine sv_aload_n (i := 0) X dX3_today_0 rfl rfl ?_
  refine sv_getr X ix_X3 rfl 0 (by decide) ho rfl fl_X3_9 dX3_today_1 ?_
  refine sv_iconst (v := 4) X dX3_today_4 (by decide) ?_
  refine sv_iald (j := 4) X ha (by decide) (by decide) dX3_today_5 ?_
  exact sv_iret X hr hQ dX3_today_6 hF
theorem c_X3_today {l : Launch} {g : fr_G} {o : Nat} (ho : fr_tab[o]? = some (0, 2, [o + 1 + 1])) (ha : fr_tab[o + 1]? = some (1, 122, [])) {σ τ : fr_St} {r : Int32} (hF : F_X3_today o σ = some (r, τ)) : fr_Ci l g yX3_today (fr_ws yX3_today cX3_today 1 (some .int)) 0 [.ref (g.2.1 o)] σ r τ := fr_mi (by decide) (Nat.le_of_ble_eq_true rfl) (fun p e s m below meth c X hr => b_X3_today X hr ho ha rfl hF)
def F_X3_spent (o : Nat) (σ : fr_St) : Option (Int32 × fr_St) := some ((σ (o + 1) 5), σ)
set_option maxRecDepth 100000 in
set_option maxHeartbeats 4000000 in
theorem b_X3_spent {p : Program} {l : Launch} {e : Env} {s : State} {m : MethodId} {args : Array Value} {below : List Frame} {meth : Method} {c : Code} {g : fr_G} {Q : State → Prop} (X : fr_X p s m args meth c g cX3_spent RX3 1) (hr : meth.sig.returnType = (some .int)) {o : Nat} (ho : fr_tab[o]? = some (0, 2, [o + 1 + 1])) (ha : fr_tab[o + 1]? = some (1, 122, [])) {σ τ : fr_St} {r : Int32} (hQ : Q = fr_Qi below args s g r τ) (hF : F_X3_spent o σ = some (r, τ)) : fr_V p l e (fr_rm 0) s m args below meth c g Q 1 σ 0 [(0, .ref (g.2.1 o))] [] := by
  unfold F_X3_spent at hF
  refine sv_aload_n (i := 0) X dX3_spent_0 rfl rfl ?_
  refine sv_getr X ix_X3 rfl 0 (by decide) ho rfl fl_X3_9 dX3_spent_1 ?_
  refine sv_iconst (v := 5) X dX3_spent_4 (by decide) ?_
  refine sv_iald (j := 5) X ha (by decide) (by decide) dX3_spent_5 ?_
  exact sv_iret X hr hQ dX3_spent_6 hF
theorem c_X3_spent {l : Launch} {g : fr_G} {o : Nat} (ho : fr_tab[o]? = some (0, 2, [o + 1 + 1])) (ha : fr_tab[o + 1]? = some (1, 122, [])) {σ τ : fr_St} {r : Int32} (hF : F_X3_spent o σ = some (r, τ)) : fr_Ci l g yX3_spent (fr_ws yX3_spent cX3_spent 1 (some .int)) 0 [.ref (g.2.1 o)] σ r τ := fr_mi (by decide) (Nat.le_of_ble_eq_true rfl) (fun p e s m below meth c X hr => b_X3_spent X hr ho ha rfl hF)
def F_X3_hasPlace (o : Nat) (a1 : Int32) (σ : fr_St) : Option (Bool × fr_St) := fr_bP (if a1 < 0 then (some ((0 : Int32), σ)) else (fr_bP (F_X3_places o σ) (fun r7 s6 => if r7 ≤ a1 then (some ((0 : Int32), s6)) else (some ((1 : Int32), s6))))) (fun v1 s2 => if v1 = 0 then some (false, s2) else if v1 = 1 then some (true, s2) else none)
set_option maxRecDepth 100000 in
set_option maxHeartbeats 4000000 in
theorem b_X3_hasPlace {p : Program} {l : Launch} {e : Env} {s : State} {m : MethodId} {args : Array Value} {below : List Frame} {meth : Method} {c : Code} {g : fr_G} {Q : State → Prop} (X : fr_X p s m args meth c g cX3_hasPlace RX3 2) (hr : meth.sig.returnType = (some .boolean)) {o : Nat} {a1 : Int32} (ho : fr_tab[o]? = some (0, 2, [o + 1 + 1])) (ha : fr_tab[o + 1]? = some (1, 122, [])) {σ τ : fr_St} {r : Bool} (hQ : Q = fr_Qi below args s g (fr_bi r) τ) (hF : F_X3_hasPlace o a1 σ = some (r, τ)) : fr_V p l e (fr_rm 1) s m args below meth c g Q 2 σ 0 [(0, .ref (g.2.1 o)), (1, .int a1)] [] := by
  unfold F_X3_hasPlace at hF
  refine sv_iload_n (i := 1) X dX3_hasPlace_0 rfl rfl ?_
  obtain ⟨v1, s2, hM3, hF⟩ := fr_bP_some hF
  have K4 : fr_V p l e (fr_rm 1) s m args below meth c g Q 2 s2 17 [(0, .ref (g.2.1 o)), (1, .int a1)] [.int v1] := by
    exact sv_zretv X hr hQ dX3_hasPlace_17 hF
  refine sv_if_lt (tgt := 16) X dX3_hasPlace_1 (by decide) (fun h9 => ?_) (fun h9 => ?_)
  · replace hM3 := fr_pos hM3 h9
    refine sv_iconst (v := 0) X dX3_hasPlace_16 (by decide) ?_
    obtain ⟨rfl, rfl⟩ := fr_i2 hM3
    exact K4
  · replace hM3 := fr_neg hM3 h9
    refine sv_iload_n (i := 1) X dX3_hasPlace_4 rfl rfl ?_
    refine sv_aload_n (i := 0) X dX3_hasPlace_5 rfl rfl ?_
    obtain ⟨r7, s6, hc5, hM3⟩ := fr_bP_some hM3
    refine sv_callVi X (c_X3_places ho ha hc5) cd_X3_places ml_X3_25 im_X3_places se_X3_places in_RX3 hd_X3_places ho rfl (by decide) rfl (Nat.le_of_ble_eq_true rfl) dX3_hasPlace_6 rfl ?_
    refine sv_icmp_ge (tgt := 16) X dX3_hasPlace_9 (by decide) (fun h8 => ?_) (fun h8 => ?_)
    · replace hM3 := fr_pos hM3 h8
      refine sv_iconst (v := 0) X dX3_hasPlace_16 (by decide) ?_
      obtain ⟨rfl, rfl⟩ := fr_i2 hM3
      exact K4
    · replace hM3 := fr_neg hM3 h8
      refine sv_iconst (v := 1) X dX3_hasPlace_12 (by decide) ?_
      refine sv_goto (tgt := 17) X dX3_hasPlace_13 (by decide) ?_
      obtain ⟨rfl, rfl⟩ := fr_i2 hM3
      exact K4
theorem c_X3_hasPlace {l : Launch} {g : fr_G} {o : Nat} {a1 : Int32} (ho : fr_tab[o]? = some (0, 2, [o + 1 + 1])) (ha : fr_tab[o + 1]? = some (1, 122, [])) {σ τ : fr_St} {r : Bool} (hF : F_X3_hasPlace o a1 σ = some (r, τ)) : fr_Ci l g yX3_hasPlace (fr_ws yX3_hasPlace cX3_hasPlace 2 (some .boolean)) 1 [.ref (g.2.1 o), .int a1] σ (fr_bi r) τ := fr_mz (by decide) (Nat.le_of_ble_eq_true rfl) (fun p e s m below meth c X hr => b_X3_hasPlace X hr ho ha rfl hF)
def F_X3_hasRoad (o : Nat) (a1 : Int32) (σ : fr_St) : Option (Bool × fr_St) := fr_bP (if a1 < 0 then (some ((0 : Int32), σ)) else (fr_bP (F_X3_roads o σ) (fun r7 s6 => if r7 ≤ a1 then (some ((0 : Int32), s6)) else (some ((1 : Int32), s6))))) (fun v1 s2 => if v1 = 0 then some (false, s2) else if v1 = 1 then some (true, s2) else none)
set_option maxRecDepth 100000 in
set_option maxHeartbeats 4000000 in
theorem b_X3_hasRoad {p : Program} {l : Launch} {e : Env} {s : State} {m : MethodId} {args : Array Value} {below : List Frame} {meth : Method} {c : Code} {g : fr_G} {Q : State → Prop} (X : fr_X p s m args meth c g cX3_hasRoad RX3 2) (hr : meth.sig.returnType = (some .boolean)) {o : Nat} {a1 : Int32} (ho : fr_tab[o]? = some (0, 2, [o + 1 + 1])) (ha : fr_tab[o + 1]? = some (1, 122, [])) {σ τ : fr_St} {r : Bool} (hQ : Q = fr_Qi below args s g (fr_bi r) τ) (hF : F_X3_hasRoad o a1 σ = some (r, τ)) : fr_V p l e (fr_rm 1) s m args below meth c g Q 2 σ 0 [(0, .ref (g.2.1 o)), (1, .int a1)] [] := by
  unfold F_X3_hasRoad at hF
  refine sv_iload_n (i := 1) X dX3_hasRoad_0 rfl rfl ?_
  obtain ⟨v1, s2, hM3, hF⟩ := fr_bP_some hF
  have K4 : fr_V p l e (fr_rm 1) s m args below meth c g Q 2 s2 17 [(0, .ref (g.2.1 o)), (1, .int a1)] [.int v1] := by
    exact sv_zretv X hr hQ dX3_hasRoad_17 hF
  refine sv_if_lt (tgt := 16) X dX3_hasRoad_1 (by decide) (fun h9 => ?_) (fun h9 => ?_)
  · replace hM3 := fr_pos hM3 h9
    refine sv_iconst (v := 0) X dX3_hasRoad_16 (by decide) ?_
    obtain ⟨rfl, rfl⟩ := fr_i2 hM3
    exact K4
  · replace hM3 := fr_neg hM3 h9
    refine sv_iload_n (i := 1) X dX3_hasRoad_4 rfl rfl ?_
    refine sv_aload_n (i := 0) X dX3_hasRoad_5 rfl rfl ?_
    obtain ⟨r7, s6, hc5, hM3⟩ := fr_bP_some hM3
    refine sv_callVi X (c_X3_roads ho ha hc5) cd_X3_roads ml_X3_29 im_X3_roads se_X3_roads in_RX3 hd_X3_roads ho rfl (by decide) rfl (Nat.le_of_ble_eq_true rfl) dX3_hasRoad_6 rfl ?_
    refine sv_icmp_ge (tgt := 16) X dX3_hasRoad_9 (by decide) (fun h8 => ?_) (fun h8 => ?_)
    · replace hM3 := fr_pos hM3 h8
      refine sv_iconst (v := 0) X dX3_hasRoad_16 (by decide) ?_
      obtain ⟨rfl, rfl⟩ := fr_i2 hM3
      exact K4
    · replace hM3 := fr_neg hM3 h8
      refine sv_iconst (v := 1) X dX3_hasRoad_12 (by decide) ?_
      refine sv_goto (tgt := 17) X dX3_hasRoad_13 (by decide) ?_
      obtain ⟨rfl, rfl⟩ := fr_i2 hM3
      exact K4
theorem c_X3_hasRoad {l : Launch} {g : fr_G} {o : Nat} {a1 : Int32} (ho : fr_tab[o]? = some (0, 2, [o + 1 + 1])) (ha : fr_tab[o + 1]? = some (1, 122, [])) {σ τ : fr_St} {r : Bool} (hF : F_X3_hasRoad o a1 σ = some (r, τ)) : fr_Ci l g yX3_hasRoad (fr_ws yX3_hasRoad cX3_hasRoad 2 (some .boolean)) 1 [.ref (g.2.1 o), .int a1] σ (fr_bi r) τ := fr_mz (by decide) (Nat.le_of_ble_eq_true rfl) (fun p e s m below meth c X hr => b_X3_hasRoad X hr ho ha rfl hF)
def F_X3_hasPerson (o : Nat) (a1 : Int32) (σ : fr_St) : Option (Bool × fr_St) := fr_bP (if a1 < 0 then (some ((0 : Int32), σ)) else (fr_bP (F_X3_people o σ) (fun r7 s6 => if r7 ≤ a1 then (some ((0 : Int32), s6)) else (some ((1 : Int32), s6))))) (fun v1 s2 => if v1 = 0 then some (false, s2) else if v1 = 1 then some (true, s2) else none)
set_option maxRecDepth 100000 in
set_option maxHeartbeats 4000000 in
theorem b_X3_hasPerson {p : Program} {l : Launch} {e : Env} {s : State} {m : MethodId} {args : Array Value} {below : List Frame} {meth : Method} {c : Code} {g : fr_G} {Q : State → Prop} (X : fr_X p s m args meth c g cX3_hasPerson RX3 2) (hr : meth.sig.returnType = (some .boolean)) {o : Nat} {a1 : Int32} (ho : fr_tab[o]? = some (0, 2, [o + 1 + 1])) (ha : fr_tab[o + 1]? = some (1, 122, [])) {σ τ : fr_St} {r : Bool} (hQ : Q = fr_Qi below args s g (fr_bi r) τ) (hF : F_X3_hasPerson o a1 σ = some (r, τ)) : fr_V p l e (fr_rm 1) s m args below meth c g Q 2 σ 0 [(0, .ref (g.2.1 o)), (1, .int a1)] [] := by
  unfold F_X3_hasPerson at hF
  refine sv_iload_n (i := 1) X dX3_hasPerson_0 rfl rfl ?_
  obtain ⟨v1, s2, hM3, hF⟩ := fr_bP_some hF
  have K4 : fr_V p l e (fr_rm 1) s m args below meth c g Q 2 s2 17 [(0, .ref (g.2.1 o)), (1, .int a1)] [.int v1] := by
    exact sv_zretv X hr hQ dX3_hasPerson_17 hF
  refine sv_if_lt (tgt := 16) X dX3_hasPerson_1 (by decide) (fun h9 => ?_) (fun h9 => ?_)
  · replace hM3 := fr_pos hM3 h9
    refine sv_iconst (v := 0) X dX3_hasPerson_16 (by decide) ?_
    obtain ⟨rfl, rfl⟩ := fr_i2 hM3
    exact K4
  · replace hM3 := fr_neg hM3 h9
    refine sv_iload_n (i := 1) X dX3_hasPerson_4 rfl rfl ?_
    refine sv_aload_n (i := 0) X dX3_hasPerson_5 rfl rfl ?_
    obtain ⟨r7, s6, hc5, hM3⟩ := fr_bP_some hM3
    refine sv_callVi X (c_X3_people ho ha hc5) cd_X3_people ml_X3_32 im_X3_people se_X3_people in_RX3 hd_X3_people ho rfl (by decide) rfl (Nat.le_of_ble_eq_true rfl) dX3_hasPerson_6 rfl ?_
    refine sv_icmp_ge (tgt := 16) X dX3_hasPerson_9 (by decide) (fun h8 => ?_) (fun h8 => ?_)
    · replace hM3 := fr_pos hM3 h8
      refine sv_iconst (v := 0) X dX3_hasPerson_16 (by decide) ?_
      obtain ⟨rfl, rfl⟩ := fr_i2 hM3
      exact K4
    · replace hM3 := fr_neg hM3 h8
      refine sv_iconst (v := 1) X dX3_hasPerson_12 (by decide) ?_
      refine sv_goto (tgt := 17) X dX3_hasPerson_13 (by decide) ?_
      obtain ⟨rfl, rfl⟩ := fr_i2 hM3
      exact K4
theorem c_X3_hasPerson {l : Launch} {g : fr_G} {o : Nat} {a1 : Int32} (ho : fr_tab[o]? = some (0, 2, [o + 1 + 1])) (ha : fr_tab[o + 1]? = some (1, 122, [])) {σ τ : fr_St} {r : Bool} (hF : F_X3_hasPerson o a1 σ = some (r, τ)) : fr_Ci l g yX3_hasPerson (fr_ws yX3_hasPerson cX3_hasPerson 2 (some .boolean)) 1 [.ref (g.2.1 o), .int a1] σ (fr_bi r) τ := fr_mz (by decide) (Nat.le_of_ble_eq_true rfl) (fun p e s m below meth c X hr => b_X3_hasPerson X hr ho ha rfl hF)
def F_X3_hasSole (o : Nat) (a1 : Int32) (σ : fr_St) : Option (Bool × fr_St) := fr_bP (F_X3_hasPerson o a1 σ) (fun b3 s2 => some (b3, s2))
set_option maxRecDepth 100000 in
set_option maxHeartbeats 4000000 in
theorem b_X3_hasSole {p : Program} {l : Launch} {e : Env} {s : State} {m : MethodId} {args : Array Value} {below : List Frame} {meth : Method} {c : Code} {g : fr_G} {Q : State → Prop} (X : fr_X p s m args meth c g cX3_hasSole RX3 2) (hr : meth.sig.returnType = (some .boolean)) {o : Nat} {a1 : Int32} (ho : fr_tab[o]? = some (0, 2, [o + 1 + 1])) (ha : fr_tab[o + 1]? = some (1, 122, [])) {σ τ : fr_St} {r : Bool} (hQ : Q = fr_Qi below args s g (fr_bi r) τ) (hF : F_X3_hasSole o a1 σ = some (r, τ)) : fr_V p l e (fr_rm 2) s m args below meth c g Q 2 σ 0 [(0, .ref (g.2.1 o)), (1, .int a1)] [] := by
  unfold F_X3_hasSole at hF
  refine sv_aload_n (i := 0) X dX3_hasSole_0 rfl rfl ?_
  refine sv_iload_n (i := 1) X dX3_hasSole_1 rfl rfl ?_
  obtain ⟨b3, s2, hc1, hF⟩ := fr_bP_some hF
  refine sv_callVi X (c_X3_hasPerson ho ha hc1) cd_X3_hasPerson ml_X3_35 im_X3_hasPerson se_X3_hasPerson in_RX3 hd_X3_hasPerson ho rfl (by decide) rfl (Nat.le_of_ble_eq_true rfl) dX3_hasSole_2 rfl ?_
  exact sv_zret X (b := b3) hr hQ rfl dX3_hasSole_5 hF
theorem c_X3_hasSole {l : Launch} {g : fr_G} {o : Nat} {a1 : Int32} (ho : fr_tab[o]? = some (0, 2, [o + 1 + 1])) (ha : fr_tab[o + 1]? = some (1, 122, [])) {σ τ : fr_St} {r : Bool} (hF : F_X3_hasSole o a1 σ = some (r, τ)) : fr_Ci l g yX3_hasSole (fr_ws yX3_hasSole cX3_hasSole 2 (some .boolean)) 2 [.ref (g.2.1 o), .int a1] σ (fr_bi r) τ := fr_mz (by decide) (Nat.le_of_ble_eq_true rfl) (fun p e s m below meth c X hr => b_X3_hasSole X hr ho ha rfl hF)
def F_X3_areTwo (o : Nat) (a1 : Int32) (a2 : Int32) (σ : fr_St) : Option (Bool × fr_St) := fr_bP (F_X3_hasPerson o a1 σ) (fun b3 s2 => fr_bP (if (fr_bi b3) = 0 then (some ((0 : Int32), s2)) else (fr_bP (F_X3_hasPerson o a2 s2) (fun b10 s9 => if (fr_bi b10) = 0 then (some ((0 : Int32), s9)) else (if a1 = a2 then (some ((0 : Int32), s9)) else (some ((1 : Int32), s9)))))) (fun v4 s5 => if v4 = 0 then some (false, s5) else if v4 = 1 then some (true, s5) else none))
set_option maxRecDepth 100000 in
set_option maxHeartbeats 4000000 in
theorem b_X3_areTwo {p : Program} {l : Launch} {e : Env} {s : State} {m : MethodId} {args : Array Value} {below : List Frame} {meth : Method} {c : Code} {g : fr_G} {Q : State → Prop} (X : fr_X p s m args meth c g cX3_areTwo RX3 3) (hr : meth.sig.returnType = (some .boolean)) {o : Nat} {a1 : Int32} {a2 : Int32} (ho : fr_tab[o]? = some (0, 2, [o + 1 + 1])) (ha : fr_tab[o + 1]? = some (1, 122, [])) {σ τ : fr_St} {r : Bool} (hQ : Q = fr_Qi below args s g (fr_bi r) τ) (hF : F_X3_areTwo o a1 a2 σ = some (r, τ)) : fr_V p l e (fr_rm 2) s m args below meth c g Q 3 σ 0 [(0, .ref (g.2.1 o)), (1, .int a1), (2, .int a2)] [] := by
  unfold F_X3_areTwo at hF
  refine sv_aload_n (i := 0) X dX3_areTwo_0 rfl rfl ?_
  refine sv_iload_n (i := 1) X dX3_areTwo_1 rfl rfl ?_
  obtain ⟨b3, s2, hc1, hF⟩ := fr_bP_some hF
  refine sv_callVi X (c_X3_hasPerson ho ha hc1) cd_X3_hasPerson ml_X3_35 im_X3_hasPerson se_X3_hasPerson in_RX3 hd_X3_hasPerson ho rfl (by decide) rfl (Nat.le_of_ble_eq_true rfl) dX3_areTwo_2 rfl ?_
  obtain ⟨v4, s5, hM6, hF⟩ := fr_bP_some hF
  have K7 : fr_V p l e (fr_rm 2) s m args below meth c g Q 3 s5 26 [(0, .ref (g.2.1 o)), (1, .int a1), (2, .int a2)] [.int v4] := by
    exact sv_zretv X hr hQ dX3_areTwo_26 hF
  refine sv_if_eq (tgt := 25) X dX3_areTwo_5 (by decide) (fun h13 => ?_) (fun h13 => ?_)
  · replace hM6 := fr_pos hM6 h13
    refine sv_iconst (v := 0) X dX3_areTwo_25 (by decide) ?_
    obtain ⟨rfl, rfl⟩ := fr_i2 hM6
    exact K7
  · replace hM6 := fr_neg hM6 h13
    refine sv_aload_n (i := 0) X dX3_areTwo_8 rfl rfl ?_
    refine sv_iload_n (i := 2) X dX3_areTwo_9 rfl rfl ?_
    obtain ⟨b10, s9, hc8, hM6⟩ := fr_bP_some hM6
    refine sv_callVi X (c_X3_hasPerson ho ha hc8) cd_X3_hasPerson ml_X3_35 im_X3_hasPerson se_X3_hasPerson in_RX3 hd_X3_hasPerson ho rfl (by decide) rfl (Nat.le_of_ble_eq_true rfl) dX3_areTwo_10 rfl ?_
    refine sv_if_eq (tgt := 25) X dX3_areTwo_13 (by decide) (fun h12 => ?_) (fun h12 => ?_)
    · replace hM6 := fr_pos hM6 h12
      refine sv_iconst (v := 0) X dX3_areTwo_25 (by decide) ?_
      obtain ⟨rfl, rfl⟩ := fr_i2 hM6
      exact K7
    · replace hM6 := fr_neg hM6 h12
      refine sv_iload_n (i := 1) X dX3_areTwo_16 rfl rfl ?_
      refine sv_iload_n (i := 2) X dX3_areTwo_17 rfl rfl ?_
      refine sv_icmp_eq (tgt := 25) X dX3_areTwo_18 (by decide) (fun h11 => ?_) (fun h11 => ?_)
      · replace hM6 := fr_pos hM6 h11
        refine sv_iconst (v := 0) X dX3_areTwo_25 (by decide) ?_
        obtain ⟨rfl, rfl⟩ := fr_i2 hM6
        exact K7
      · replace hM6 := fr_neg hM6 h11
        refine sv_iconst (v := 1) X dX3_areTwo_21 (by decide) ?_
        refine sv_goto (tgt := 26) X dX3_areTwo_22 (by decide) ?_
        obtain ⟨rfl, rfl⟩ := fr_i2 hM6
        exact K7
theorem c_X3_areTwo {l : Launch} {g : fr_G} {o : Nat} {a1 : Int32} {a2 : Int32} (ho : fr_tab[o]? = some (0, 2, [o + 1 + 1])) (ha : fr_tab[o + 1]? = some (1, 122, [])) {σ τ : fr_St} {r : Bool} (hF : F_X3_areTwo o a1 a2 σ = some (r, τ)) : fr_Ci l g yX3_areTwo (fr_ws yX3_areTwo cX3_areTwo 3 (some .boolean)) 2 [.ref (g.2.1 o), .int a1, .int a2] σ (fr_bi r) τ := fr_mz (by decide) (Nat.le_of_ble_eq_true rfl) (fun p e s m below meth c X hr => b_X3_areTwo X hr ho ha rfl hF)
def F_X3_allSoles (o : Nat) (σ : fr_St) : Option (Int32 × fr_St) := fr_bP (F_X3_people o σ) (fun r3 s2 => some ((((1 : Int32) <<< (r3 &&& 31)) - (1 : Int32)), s2))
set_option maxRecDepth 100000 in
set_option maxHeartbeats 4000000 in
theorem b_X3_allSoles {p : Program} {l : Launch} {e : Env} {s : State} {m : MethodId} {args : Array Value} {below : List Frame} {meth : Method} {c : Code} {g : fr_G} {Q : State → Prop} (X : fr_X p s m args meth c g cX3_allSoles RX3 1) (hr : meth.sig.returnType = (some .int)) {o : Nat} (ho : fr_tab[o]? = some (0, 2, [o + 1 + 1])) (ha : fr_tab[o + 1]? = some (1, 122, [])) {σ τ : fr_St} {r : Int32} (hQ : Q = fr_Qi below args s g r τ) (hF : F_X3_allSoles o σ = some (r, τ)) : fr_V p l e (fr_rm 1) s m args below meth c g Q 1 σ 0 [(0, .ref (g.2.1 o))] [] := by
  unfold F_X3_allSoles at hF
  refine sv_iconst (v := 1) X dX3_allSoles_0 (by decide) ?_
  refine sv_aload_n (i := 0) X dX3_allSoles_1 rfl rfl ?_
  obtain ⟨r3, s2, hc1, hF⟩ := fr_bP_some hF
  refine sv_callVi X (c_X3_people ho ha hc1) cd_X3_people ml_X3_32 im_X3_people se_X3_people in_RX3 hd_X3_people ho rfl (by decide) rfl (Nat.le_of_ble_eq_true rfl) dX3_allSoles_2 rfl ?_
  refine sv_ishl X dX3_allSoles_5 ?_
  refine sv_iconst (v := 1) X dX3_allSoles_6 (by decide) ?_
  refine sv_isub X dX3_allSoles_7 ?_
  exact sv_iret X hr hQ dX3_allSoles_8 hF
theorem c_X3_allSoles {l : Launch} {g : fr_G} {o : Nat} (ho : fr_tab[o]? = some (0, 2, [o + 1 + 1])) (ha : fr_tab[o + 1]? = some (1, 122, [])) {σ τ : fr_St} {r : Int32} (hF : F_X3_allSoles o σ = some (r, τ)) : fr_Ci l g yX3_allSoles (fr_ws yX3_allSoles cX3_allSoles 1 (some .int)) 1 [.ref (g.2.1 o)] σ r τ := fr_mi (by decide) (Nat.le_of_ble_eq_true rfl) (fun p e s m below meth c X hr => b_X3_allSoles X hr ho ha rfl hF)
def F_X3_kindOf (o : Nat) (a1 : Int32) (σ : fr_St) : Option (Int32 × fr_St) := if fr_ib ((6 : Int32) + a1) 122 = true then some ((σ (o + 1) (fr_ix ((6 : Int32) + a1))), σ) else none
set_option maxRecDepth 100000 in
set_option maxHeartbeats 4000000 in
theorem b_X3_kindOf {p : Program} {l : Launch} {e : Env} {s : State} {m : MethodId} {args : Array Value} {below : List Frame} {meth : Method} {c : Code} {g : fr_G} {Q : State → Prop} (X : fr_X p s m args meth c g cX3_kindOf RX3 2) (hr : meth.sig.returnType = (some .int)) {o : Nat} {a1 : Int32} (ho : fr_tab[o]? = some (0, 2, [o + 1 + 1])) (ha : fr_tab[o + 1]? = some (1, 122, [])) {σ τ : fr_St} {r : Int32} (hQ : Q = fr_Qi below args s g r τ) (hF : F_X3_kindOf o a1 σ = some (r, τ)) : fr_V p l e (fr_rm 0) s m args below meth c g Q 2 σ 0 [(0, .ref (g.2.1 o)), (1, .int a1)] [] := by
  unfold F_X3_kindOf at hF
  refine sv_aload_n (i := 0) X dX3_kindOf_0 rfl rfl ?_
  refine sv_getr X ix_X3 rfl 0 (by decide) ho rfl fl_X3_9 dX3_kindOf_1 ?_
  refine sv_bipush (v := 6) X dX3_kindOf_4 (by decide) ?_
  refine sv_iload_n (i := 1) X dX3_kindOf_6 rfl rfl ?_
  refine sv_iadd X dX3_kindOf_7 ?_
  obtain ⟨hb1, hF⟩ := fr_chk hF
  refine sv_iald (j := (fr_ix ((6 : Int32) + a1))) X ha hb1 rfl dX3_kindOf_8 ?_
  exact sv_iret X hr hQ dX3_kindOf_9 hF
theorem c_X3_kindOf {l : Launch} {g : fr_G} {o : Nat} {a1 : Int32} (ho : fr_tab[o]? = some (0, 2, [o + 1 + 1])) (ha : fr_tab[o + 1]? = some (1, 122, [])) {σ τ : fr_St} {r : Int32} (hF : F_X3_kindOf o a1 σ = some (r, τ)) : fr_Ci l g yX3_kindOf (fr_ws yX3_kindOf cX3_kindOf 2 (some .int)) 0 [.ref (g.2.1 o), .int a1] σ r τ := fr_mi (by decide) (Nat.le_of_ble_eq_true rfl) (fun p e s m below meth c X hr => b_X3_kindOf X hr ho ha rfl hF)
def F_X3_oneEnd (o : Nat) (a1 : Int32) (σ : fr_St) : Option (Int32 × fr_St) := if fr_ib ((15 : Int32) + a1) 122 = true then some ((σ (o + 1) (fr_ix ((15 : Int32) + a1))), σ) else none
set_option maxRecDepth 100000 in
set_option maxHeartbeats 4000000 in
theorem b_X3_oneEnd {p : Program} {l : Launch} {e : Env} {s : State} {m : MethodId} {args : Array Value} {below : List Frame} {meth : Method} {c : Code} {g : fr_G} {Q : State → Prop} (X : fr_X p s m args meth c g cX3_oneEnd RX3 2) (hr : meth.sig.returnType = (some .int)) {o : Nat} {a1 : Int32} (ho : fr_tab[o]? = some (0, 2, [o + 1 + 1])) (ha : fr_tab[o + 1]? = some (1, 122, [])) {σ τ : fr_St} {r : Int32} (hQ : Q = fr_Qi below args s g r τ) (hF : F_X3_oneEnd o a1 σ = some (r, τ)) : fr_V p l e (fr_rm 0) s m args below meth c g Q 2 σ 0 [(0, .ref (g.2.1 o)), (1, .int a1)] [] := by
  unfold F_X3_oneEnd at hF
  refine sv_aload_n (i := 0) X dX3_oneEnd_0 rfl rfl ?_
  refine sv_getr X ix_X3 rfl 0 (by decide) ho rfl fl_X3_9 dX3_oneEnd_1 ?_
  refine sv_bipush (v := 15) X dX3_oneEnd_4 (by decide) ?_
  refine sv_iload_n (i := 1) X dX3_oneEnd_6 rfl rfl ?_
  refine sv_iadd X dX3_oneEnd_7 ?_
  obtain ⟨hb1, hF⟩ := fr_chk hF
  refine sv_iald (j := (fr_ix ((15 : Int32) + a1))) X ha hb1 rfl dX3_oneEnd_8 ?_
  exact sv_iret X hr hQ dX3_oneEnd_9 hF
theorem c_X3_oneEnd {l : Launch} {g : fr_G} {o : Nat} {a1 : Int32} (ho : fr_tab[o]? = some (0, 2, [o + 1 + 1])) (ha : fr_tab[o + 1]? = some (1, 122, [])) {σ τ : fr_St} {r : Int32} (hF : F_X3_oneEnd o a1 σ = some (r, τ)) : fr_Ci l g yX3_oneEnd (fr_ws yX3_oneEnd cX3_oneEnd 2 (some .int)) 0 [.ref (g.2.1 o), .int a1] σ r τ := fr_mi (by decide) (Nat.le_of_ble_eq_true rfl) (fun p e s m below meth c X hr => b_X3_oneEnd X hr ho ha rfl hF)
def F_X3_otherEnd (o : Nat) (a1 : Int32) (σ : fr_St) : Option (Int32 × fr_St) := if fr_ib ((24 : Int32) + a1) 122 = true then some ((σ (o + 1) (fr_ix ((24 : Int32) + a1))), σ) else none
set_option maxRecDepth 100000 in
set_option maxHeartbeats 4000000 in
theorem b_X3_otherEnd {p : Program} {l : Launch} {e : Env} {s : State} {m : MethodId} {args : Array Value} {below : List Frame} {meth : Method} {c : Code} {g : fr_G} {Q : State → Prop} (X : fr_X p s m args meth c g cX3_otherEnd RX3 2) (hr : meth.sig.returnType = (some .int)) {o : Nat} {a1 : Int32} (ho : fr_tab[o]? = some (0, 2, [o + 1 + 1])) (ha : fr_tab[o + 1]? = some (1, 122, [])) {σ τ : fr_St} {r : Int32} (hQ : Q = fr_Qi below args s g r τ) (hF : F_X3_otherEnd o a1 σ = some (r, τ)) : fr_V p l e (fr_rm 0) s m args below meth c g Q 2 σ 0 [(0, .ref (g.2.1 o)), (1, .int a1)] [] := by
  unfold F_X3_otherEnd at hF
  refine sv_aload_n (i := 0) X dX3_otherEnd_0 rfl rfl ?_
  refine sv_getr X ix_X3 rfl 0 (by decide) ho rfl fl_X3_9 dX3_otherEnd_1 ?_
  refine sv_bipush (v := 24) X dX3_otherEnd_4 (by decide) ?_
  refine sv_iload_n (i := 1) X dX3_otherEnd_6 rfl rfl ?_
  refine sv_iadd X dX3_otherEnd_7 ?_
  obtain ⟨hb1, hF⟩ := fr_chk hF
  refine sv_iald (j := (fr_ix ((24 : Int32) + a1))) X ha hb1 rfl dX3_otherEnd_8 ?_
  exact sv_iret X hr hQ dX3_otherEnd_9 hF
theorem c_X3_otherEnd {l : Launch} {g : fr_G} {o : Nat} {a1 : Int32} (ho : fr_tab[o]? = some (0, 2, [o + 1 + 1])) (ha : fr_tab[o + 1]? = some (1, 122, [])) {σ τ : fr_St} {r : Int32} (hF : F_X3_otherEnd o a1 σ = some (r, τ)) : fr_Ci l g yX3_otherEnd (fr_ws yX3_otherEnd cX3_otherEnd 2 (some .int)) 0 [.ref (g.2.1 o), .int a1] σ r τ := fr_mi (by decide) (Nat.le_of_ble_eq_true rfl) (fun p e s m below meth c X hr => b_X3_otherEnd X hr ho ha rfl hF)
def F_X3_longOf (o : Nat) (a1 : Int32) (σ : fr_St) : Option (Int32 × fr_St) := if fr_ib ((33 : Int32) + a1) 122 = true then some ((σ (o + 1) (fr_ix ((33 : Int32) + a1))), σ) else none
set_option maxRecDepth 100000 in
set_option maxHeartbeats 4000000 in
theorem b_X3_longOf {p : Program} {l : Launch} {e : Env} {s : State} {m : MethodId} {args : Array Value} {below : List Frame} {meth : Method} {c : Code} {g : fr_G} {Q : State → Prop} (X : fr_X p s m args meth c g cX3_longOf RX3 2) (hr : meth.sig.returnType = (some .int)) {o : Nat} {a1 : Int32} (ho : fr_tab[o]? = some (0, 2, [o + 1 + 1])) (ha : fr_tab[o + 1]? = some (1, 122, [])) {σ τ : fr_St} {r : Int32} (hQ : Q = fr_Qi below args s g r τ) (hF : F_X3_longOf o a1 σ = some (r, τ)) : fr_V p l e (fr_rm 0) s m args below meth c g Q 2 σ 0 [(0, .ref (g.2.1 o)), (1, .int a1)] [] := by
  unfold F_X3_longOf at hF
  refine sv_aload_n (i := 0) X dX3_longOf_0 rfl rfl ?_
  refine sv_getr X ix_X3 rfl 0 (by decide) ho rfl fl_X3_9 dX3_longOf_1 ?_
  refine sv_bipush (v := 33) X dX3_longOf_4 (by decide) ?_
  refine sv_iload_n (i := 1) X dX3_longOf_6 rfl rfl ?_
  refine sv_iadd X dX3_longOf_7 ?_
  obtain ⟨hb1, hF⟩ := fr_chk hF
  refine sv_iald (j := (fr_ix ((33 : Int32) + a1))) X ha hb1 rfl dX3_longOf_8 ?_
  exact sv_iret X hr hQ dX3_longOf_9 hF
theorem c_X3_longOf {l : Launch} {g : fr_G} {o : Nat} {a1 : Int32} (ho : fr_tab[o]? = some (0, 2, [o + 1 + 1])) (ha : fr_tab[o + 1]? = some (1, 122, [])) {σ τ : fr_St} {r : Int32} (hF : F_X3_longOf o a1 σ = some (r, τ)) : fr_Ci l g yX3_longOf (fr_ws yX3_longOf cX3_longOf 2 (some .int)) 0 [.ref (g.2.1 o), .int a1] σ r τ := fr_mi (by decide) (Nat.le_of_ble_eq_true rfl) (fun p e s m below meth c X hr => b_X3_longOf X hr ho ha rfl hF)
def F_X3_isEnd (o : Nat) (a1 : Int32) (a2 : Int32) (σ : fr_St) : Option (Bool × fr_St) := fr_bP (F_X3_oneEnd o a1 σ) (fun r3 s2 => fr_bP (if r3 = a2 then (some ((1 : Int32), s2)) else (fr_bP (F_X3_otherEnd o a1 s2) (fun r10 s9 => if r10 = a2 then (some ((1 : Int32), s9)) else (some ((0 : Int32), s9))))) (fun v4 s5 => if v4 = 0 then some (false, s5) else if v4 = 1 then some (true, s5) else none))
set_option maxRecDepth 100000 in
set_option maxHeartbeats 4000000 in
theorem b_X3_isEnd {p : Program} {l : Launch} {e : Env} {s : State} {m : MethodId} {args : Array Value} {below : List Frame} {meth : Method} {c : Code} {g : fr_G} {Q : State → Prop} (X : fr_X p s m args meth c g cX3_isEnd RX3 3) (hr : meth.sig.returnType = (some .boolean)) {o : Nat} {a1 : Int32} {a2 : Int32} (ho : fr_tab[o]? = some (0, 2, [o + 1 + 1])) (ha : fr_tab[o + 1]? = some (1, 122, [])) {σ τ : fr_St} {r : Bool} (hQ : Q = fr_Qi below args s g (fr_bi r) τ) (hF : F_X3_isEnd o a1 a2 σ = some (r, τ)) : fr_V p l e (fr_rm 1) s m args below meth c g Q 3 σ 0 [(0, .ref (g.2.1 o)), (1, .int a1), (2, .int a2)] [] := by
  unfold F_X3_isEnd at hF
  refine sv_aload_n (i := 0) X dX3_isEnd_0 rfl rfl ?_
  refine sv_iload_n (i := 1) X dX3_isEnd_1 rfl rfl ?_
  obtain ⟨r3, s2, hc1, hF⟩ := fr_bP_some hF
  refine sv_callVi X (c_X3_oneEnd ho ha hc1) cd_X3_oneEnd ml_X3_39 im_X3_oneEnd se_X3_oneEnd in_RX3 hd_X3_oneEnd ho rfl (by decide) rfl (Nat.le_of_ble_eq_true rfl) dX3_isEnd_2 rfl ?_
  refine sv_iload_n (i := 2) X dX3_isEnd_5 rfl rfl ?_
  obtain ⟨v4, s5, hM6, hF⟩ := fr_bP_some hF
  have K7 : fr_V p l e (fr_rm 1) s m args below meth c g Q 3 s5 23 [(0, .ref (g.2.1 o)), (1, .int a1), (2, .int a2)] [.int v4] := by
    exact sv_zretv X hr hQ dX3_isEnd_23 hF
  refine sv_icmp_eq (tgt := 18) X dX3_isEnd_6 (by decide) (fun h12 => ?_) (fun h12 => ?_)
  · replace hM6 := fr_pos hM6 h12
    refine sv_iconst (v := 1) X dX3_isEnd_18 (by decide) ?_
    refine sv_goto (tgt := 23) X dX3_isEnd_19 (by decide) ?_
    obtain ⟨rfl, rfl⟩ := fr_i2 hM6
    exact K7
  · replace hM6 := fr_neg hM6 h12
    refine sv_aload_n (i := 0) X dX3_isEnd_9 rfl rfl ?_
    refine sv_iload_n (i := 1) X dX3_isEnd_10 rfl rfl ?_
    obtain ⟨r10, s9, hc8, hM6⟩ := fr_bP_some hM6
    refine sv_callVi X (c_X3_otherEnd ho ha hc8) cd_X3_otherEnd ml_X3_43 im_X3_otherEnd se_X3_otherEnd in_RX3 hd_X3_otherEnd ho rfl (by decide) rfl (Nat.le_of_ble_eq_true rfl) dX3_isEnd_11 rfl ?_
    refine sv_iload_n (i := 2) X dX3_isEnd_14 rfl rfl ?_
    refine sv_icmp_ne (tgt := 22) X dX3_isEnd_15 (by decide) (fun h11 => ?_) (fun h11 => ?_)
    · replace hM6 := fr_neg hM6 h11
      refine sv_iconst (v := 0) X dX3_isEnd_22 (by decide) ?_
      obtain ⟨rfl, rfl⟩ := fr_i2 hM6
      exact K7
    · replace hM6 := fr_pos hM6 h11
      refine sv_iconst (v := 1) X dX3_isEnd_18 (by decide) ?_
      refine sv_goto (tgt := 23) X dX3_isEnd_19 (by decide) ?_
      obtain ⟨rfl, rfl⟩ := fr_i2 hM6
      exact K7
theorem c_X3_isEnd {l : Launch} {g : fr_G} {o : Nat} {a1 : Int32} {a2 : Int32} (ho : fr_tab[o]? = some (0, 2, [o + 1 + 1])) (ha : fr_tab[o + 1]? = some (1, 122, [])) {σ τ : fr_St} {r : Bool} (hF : F_X3_isEnd o a1 a2 σ = some (r, τ)) : fr_Ci l g yX3_isEnd (fr_ws yX3_isEnd cX3_isEnd 3 (some .boolean)) 1 [.ref (g.2.1 o), .int a1, .int a2] σ (fr_bi r) τ := fr_mz (by decide) (Nat.le_of_ble_eq_true rfl) (fun p e s m below meth c X hr => b_X3_isEnd X hr ho ha rfl hF)
def F_X3_across (o : Nat) (a1 : Int32) (a2 : Int32) (σ : fr_St) : Option (Int32 × fr_St) := fr_bP (F_X3_oneEnd o a1 σ) (fun r3 s2 => fr_bP (if r3 = a2 then (fr_bP (F_X3_otherEnd o a1 s2) (fun r13 s12 => some (r13, s12))) else (fr_bP (F_X3_oneEnd o a1 s2) (fun r10 s9 => some (r10, s9)))) (fun v4 s5 => some (v4, s5)))
set_option maxRecDepth 100000 in
set_option maxHeartbeats 4000000 in
theorem b_X3_across {p : Program} {l : Launch} {e : Env} {s : State} {m : MethodId} {args : Array Value} {below : List Frame} {meth : Method} {c : Code} {g : fr_G} {Q : State → Prop} (X : fr_X p s m args meth c g cX3_across RX3 3) (hr : meth.sig.returnType = (some .int)) {o : Nat} {a1 : Int32} {a2 : Int32} (ho : fr_tab[o]? = some (0, 2, [o + 1 + 1])) (ha : fr_tab[o + 1]? = some (1, 122, [])) {σ τ : fr_St} {r : Int32} (hQ : Q = fr_Qi below args s g r τ) (hF : F_X3_across o a1 a2 σ = some (r, τ)) : fr_V p l e (fr_rm 1) s m args below meth c g Q 3 σ 0 [(0, .ref (g.2.1 o)), (1, .int a1), (2, .int a2)] [] := by
  unfold F_X3_across at hF
  refine sv_aload_n (i := 0) X dX3_across_0 rfl rfl ?_
  refine sv_iload_n (i := 1) X dX3_across_1 rfl rfl ?_
  obtain ⟨r3, s2, hc1, hF⟩ := fr_bP_some hF
  refine sv_callVi X (c_X3_oneEnd ho ha hc1) cd_X3_oneEnd ml_X3_39 im_X3_oneEnd se_X3_oneEnd in_RX3 hd_X3_oneEnd ho rfl (by decide) rfl (Nat.le_of_ble_eq_true rfl) dX3_across_2 rfl ?_
  refine sv_iload_n (i := 2) X dX3_across_5 rfl rfl ?_
  obtain ⟨v4, s5, hM6, hF⟩ := fr_bP_some hF
  have K7 : fr_V p l e (fr_rm 1) s m args below meth c g Q 3 s5 22 [(0, .ref (g.2.1 o)), (1, .int a1), (2, .int a2)] [.int v4] := by
    exact sv_iret X hr hQ dX3_across_22 hF
  refine sv_icmp_ne (tgt := 17) X dX3_across_6 (by decide) (fun h14 => ?_) (fun h14 => ?_)
  · replace hM6 := fr_neg hM6 h14
    refine sv_aload_n (i := 0) X dX3_across_17 rfl rfl ?_
    refine sv_iload_n (i := 1) X dX3_across_18 rfl rfl ?_
    obtain ⟨r10, s9, hc8, hM6⟩ := fr_bP_some hM6
    refine sv_callVi X (c_X3_oneEnd ho ha hc8) cd_X3_oneEnd ml_X3_39 im_X3_oneEnd se_X3_oneEnd in_RX3 hd_X3_oneEnd ho rfl (by decide) rfl (Nat.le_of_ble_eq_true rfl) dX3_across_19 rfl ?_
    obtain ⟨rfl, rfl⟩ := fr_i2 hM6
    exact K7
  · replace hM6 := fr_pos hM6 h14
    refine sv_aload_n (i := 0) X dX3_across_9 rfl rfl ?_
    refine sv_iload_n (i := 1) X dX3_across_10 rfl rfl ?_
    obtain ⟨r13, s12, hc11, hM6⟩ := fr_bP_some hM6
    refine sv_callVi X (c_X3_otherEnd ho ha hc11) cd_X3_otherEnd ml_X3_43 im_X3_otherEnd se_X3_otherEnd in_RX3 hd_X3_otherEnd ho rfl (by decide) rfl (Nat.le_of_ble_eq_true rfl) dX3_across_11 rfl ?_
    refine sv_goto (tgt := 22) X dX3_across_14 (by decide) ?_
    obtain ⟨rfl, rfl⟩ := fr_i2 hM6
    exact K7
theorem c_X3_across {l : Launch} {g : fr_G} {o : Nat} {a1 : Int32} {a2 : Int32} (ho : fr_tab[o]? = some (0, 2, [o + 1 + 1])) (ha : fr_tab[o + 1]? = some (1, 122, [])) {σ τ : fr_St} {r : Int32} (hF : F_X3_across o a1 a2 σ = some (r, τ)) : fr_Ci l g yX3_across (fr_ws yX3_across cX3_across 3 (some .int)) 1 [.ref (g.2.1 o), .int a1, .int a2] σ r τ := fr_mi (by decide) (Nat.le_of_ble_eq_true rfl) (fun p e s m below meth c X hr => b_X3_across X hr ho ha rfl hF)
def F_X3_placeOf (o : Nat) (a1 : Int32) (σ : fr_St) : Option (Int32 × fr_St) := if fr_ib ((42 : Int32) + a1) 122 = true then some ((σ (o + 1) (fr_ix ((42 : Int32) + a1))), σ) else none
set_option maxRecDepth 100000 in
set_option maxHeartbeats 4000000 in
theorem b_X3_placeOf {p : Program} {l : Launch} {e : Env} {s : State} {m : MethodId} {args : Array Value} {below : List Frame} {meth : Method} {c : Code} {g : fr_G} {Q : State → Prop} (X : fr_X p s m args meth c g cX3_placeOf RX3 2) (hr : meth.sig.returnType = (some .int)) {o : Nat} {a1 : Int32} (ho : fr_tab[o]? = some (0, 2, [o + 1 + 1])) (ha : fr_tab[o + 1]? = some (1, 122, [])) {σ τ : fr_St} {r : Int32} (hQ : Q = fr_Qi below args s g r τ) (hF : F_X3_placeOf o a1 σ = some (r, τ)) : fr_V p l e (fr_rm 0) s m args below meth c g Q 2 σ 0 [(0, .ref (g.2.1 o)), (1, .int a1)] [] := by
  unfold F_X3_placeOf at hF
  refine sv_aload_n (i := 0) X dX3_placeOf_0 rfl rfl ?_
  refine sv_getr X ix_X3 rfl 0 (by decide) ho rfl fl_X3_9 dX3_placeOf_1 ?_
  refine sv_bipush (v := 42) X dX3_placeOf_4 (by decide) ?_
  refine sv_iload_n (i := 1) X dX3_placeOf_6 rfl rfl ?_
  refine sv_iadd X dX3_placeOf_7 ?_
  obtain ⟨hb1, hF⟩ := fr_chk hF
  refine sv_iald (j := (fr_ix ((42 : Int32) + a1))) X ha hb1 rfl dX3_placeOf_8 ?_
  exact sv_iret X hr hQ dX3_placeOf_9 hF
theorem c_X3_placeOf {l : Launch} {g : fr_G} {o : Nat} {a1 : Int32} (ho : fr_tab[o]? = some (0, 2, [o + 1 + 1])) (ha : fr_tab[o + 1]? = some (1, 122, [])) {σ τ : fr_St} {r : Int32} (hF : F_X3_placeOf o a1 σ = some (r, τ)) : fr_Ci l g yX3_placeOf (fr_ws yX3_placeOf cX3_placeOf 2 (some .int)) 0 [.ref (g.2.1 o), .int a1] σ r τ := fr_mi (by decide) (Nat.le_of_ble_eq_true rfl) (fun p e s m below meth c X hr => b_X3_placeOf X hr ho ha rfl hF)
def F_X3_soleOf (o : Nat) (a1 : Int32) (σ : fr_St) : Option (Int32 × fr_St) := if fr_ib ((46 : Int32) + a1) 122 = true then some ((σ (o + 1) (fr_ix ((46 : Int32) + a1))), σ) else none
set_option maxRecDepth 100000 in
set_option maxHeartbeats 4000000 in
theorem b_X3_soleOf {p : Program} {l : Launch} {e : Env} {s : State} {m : MethodId} {args : Array Value} {below : List Frame} {meth : Method} {c : Code} {g : fr_G} {Q : State → Prop} (X : fr_X p s m args meth c g cX3_soleOf RX3 2) (hr : meth.sig.returnType = (some .int)) {o : Nat} {a1 : Int32} (ho : fr_tab[o]? = some (0, 2, [o + 1 + 1])) (ha : fr_tab[o + 1]? = some (1, 122, [])) {σ τ : fr_St} {r : Int32} (hQ : Q = fr_Qi below args s g r τ) (hF : F_X3_soleOf o a1 σ = some (r, τ)) : fr_V p l e (fr_rm 0) s m args below meth c g Q 2 σ 0 [(0, .ref (g.2.1 o)), (1, .int a1)] [] := by
  unfold F_X3_soleOf at hF
  refine sv_aload_n (i := 0) X dX3_soleOf_0 rfl rfl ?_
  refine sv_getr X ix_X3 rfl 0 (by decide) ho rfl fl_X3_9 dX3_soleOf_1 ?_
  refine sv_bipush (v := 46) X dX3_soleOf_4 (by decide) ?_
  refine sv_iload_n (i := 1) X dX3_soleOf_6 rfl rfl ?_
  refine sv_iadd X dX3_soleOf_7 ?_
  obtain ⟨hb1, hF⟩ := fr_chk hF
  refine sv_iald (j := (fr_ix ((46 : Int32) + a1))) X ha hb1 rfl dX3_soleOf_8 ?_
  exact sv_iret X hr hQ dX3_soleOf_9 hF
theorem c_X3_soleOf {l : Launch} {g : fr_G} {o : Nat} {a1 : Int32} (ho : fr_tab[o]? = some (0, 2, [o + 1 + 1])) (ha : fr_tab[o + 1]? = some (1, 122, [])) {σ τ : fr_St} {r : Int32} (hF : F_X3_soleOf o a1 σ = some (r, τ)) : fr_Ci l g yX3_soleOf (fr_ws yX3_soleOf cX3_soleOf 2 (some .int)) 0 [.ref (g.2.1 o), .int a1] σ r τ := fr_mi (by decide) (Nat.le_of_ble_eq_true rfl) (fun p e s m below meth c X hr => b_X3_soleOf X hr ho ha rfl hF)
def F_X3_meeting (a1 : Int32) (a2 : Int32) (σ : fr_St) : Option (Int32 × fr_St) := some (((a1 * (4 : Int32)) + a2), σ)
set_option maxRecDepth 100000 in
set_option maxHeartbeats 4000000 in
theorem b_X3_meeting {p : Program} {l : Launch} {e : Env} {s : State} {m : MethodId} {args : Array Value} {below : List Frame} {meth : Method} {c : Code} {g : fr_G} {Q : State → Prop} (X : fr_X p s m args meth c g cX3_meeting RX3 2) (hr : meth.sig.returnType = (some .int)) {a1 : Int32} {a2 : Int32}  {σ τ : fr_St} {r : Int32} (hQ : Q = fr_Qi below args s g r τ) (hF : F_X3_meeting a1 a2 σ = some (r, τ)) : fr_V p l e (fr_rm 0) s m args below meth c g Q 2 σ 0 [(0, .int a1), (1, .int a2)] [] := by
  unfold F_X3_meeting at hF
  refine sv_iload_n (i := 0) X dX3_meeting_0 rfl rfl ?_
  refine sv_iconst (v := 4) X dX3_meeting_1 (by decide) ?_
  refine sv_imul X dX3_meeting_2 ?_
  refine sv_iload_n (i := 1) X dX3_meeting_3 rfl rfl ?_
  refine sv_iadd X dX3_meeting_4 ?_
  exact sv_iret X hr hQ dX3_meeting_5 hF
theorem c_X3_meeting {l : Launch} {g : fr_G} {a1 : Int32} {a2 : Int32}  {σ τ : fr_St} {r : Int32} (hF : F_X3_meeting a1 a2 σ = some (r, τ)) : fr_Ci l g yX3_meeting (fr_ws yX3_meeting cX3_meeting 2 (some .int)) 0 [.int a1, .int a2] σ r τ := fr_mi (by decide) (Nat.le_of_ble_eq_true rfl) (fun p e s m below meth c X hr => b_X3_meeting X hr  rfl hF)
def F_X3_timesMet (o : Nat) (a1 : Int32) (a2 : Int32) (σ : fr_St) : Option (Int32 × fr_St) := fr_bP (F_X3_meeting a1 a2 σ) (fun r3 s2 => if fr_ib ((50 : Int32) + r3) 122 = true then some ((s2 (o + 1) (fr_ix ((50 : Int32) + r3))), s2) else none)
set_option maxRecDepth 100000 in
set_option maxHeartbeats 4000000 in
theorem b_X3_timesMet {p : Program} {l : Launch} {e : Env} {s : State} {m : MethodId} {args : Array Value} {below : List Frame} {meth : Method} {c : Code} {g : fr_G} {Q : State → Prop} (X : fr_X p s m args meth c g cX3_timesMet RX3 3) (hr : meth.sig.returnType = (some .int)) {o : Nat} {a1 : Int32} {a2 : Int32} (ho : fr_tab[o]? = some (0, 2, [o + 1 + 1])) (ha : fr_tab[o + 1]? = some (1, 122, [])) {σ τ : fr_St} {r : Int32} (hQ : Q = fr_Qi below args s g r τ) (hF : F_X3_timesMet o a1 a2 σ = some (r, τ)) : fr_V p l e (fr_rm 1) s m args below meth c g Q 3 σ 0 [(0, .ref (g.2.1 o)), (1, .int a1), (2, .int a2)] [] := by
  unfold F_X3_timesMet at hF
  refine sv_aload_n (i := 0) X dX3_timesMet_0 rfl rfl ?_
  refine sv_getr X ix_X3 rfl 0 (by decide) ho rfl fl_X3_9 dX3_timesMet_1 ?_
  refine sv_bipush (v := 50) X dX3_timesMet_4 (by decide) ?_
  refine sv_iload_n (i := 1) X dX3_timesMet_6 rfl rfl ?_
  refine sv_iload_n (i := 2) X dX3_timesMet_7 rfl rfl ?_
  obtain ⟨r3, s2, hc1, hF⟩ := fr_bP_some hF
  refine sv_callSi X (c_X3_meeting hc1) cd_X3_meeting ml_X3_46 sm_X3_meeting in_RX3 hd_X3_meeting (by decide) rfl (Nat.le_of_ble_eq_true rfl) dX3_timesMet_8 rfl ?_
  refine sv_iadd X dX3_timesMet_11 ?_
  obtain ⟨hb4, hF⟩ := fr_chk hF
  refine sv_iald (j := (fr_ix ((50 : Int32) + r3))) X ha hb4 rfl dX3_timesMet_12 ?_
  exact sv_iret X hr hQ dX3_timesMet_13 hF
theorem c_X3_timesMet {l : Launch} {g : fr_G} {o : Nat} {a1 : Int32} {a2 : Int32} (ho : fr_tab[o]? = some (0, 2, [o + 1 + 1])) (ha : fr_tab[o + 1]? = some (1, 122, [])) {σ τ : fr_St} {r : Int32} (hF : F_X3_timesMet o a1 a2 σ = some (r, τ)) : fr_Ci l g yX3_timesMet (fr_ws yX3_timesMet cX3_timesMet 3 (some .int)) 1 [.ref (g.2.1 o), .int a1, .int a2] σ r τ := fr_mi (by decide) (Nat.le_of_ble_eq_true rfl) (fun p e s m below meth c X hr => b_X3_timesMet X hr ho ha rfl hF)
def F_X3_lastMet (o : Nat) (a1 : Int32) (a2 : Int32) (σ : fr_St) : Option (Int32 × fr_St) := fr_bP (F_X3_meeting a1 a2 σ) (fun r3 s2 => if fr_ib ((86 : Int32) + r3) 122 = true then some ((s2 (o + 1) (fr_ix ((86 : Int32) + r3))), s2) else none)
set_option maxRecDepth 100000 in
set_option maxHeartbeats 4000000 in
theorem b_X3_lastMet {p : Program} {l : Launch} {e : Env} {s : State} {m : MethodId} {args : Array Value} {below : List Frame} {meth : Method} {c : Code} {g : fr_G} {Q : State → Prop} (X : fr_X p s m args meth c g cX3_lastMet RX3 3) (hr : meth.sig.returnType = (some .int)) {o : Nat} {a1 : Int32} {a2 : Int32} (ho : fr_tab[o]? = some (0, 2, [o + 1 + 1])) (ha : fr_tab[o + 1]? = some (1, 122, [])) {σ τ : fr_St} {r : Int32} (hQ : Q = fr_Qi below args s g r τ) (hF : F_X3_lastMet o a1 a2 σ = some (r, τ)) : fr_V p l e (fr_rm 1) s m args below meth c g Q 3 σ 0 [(0, .ref (g.2.1 o)), (1, .int a1), (2, .int a2)] [] := by
  unfold F_X3_lastMet at hF
  refine sv_aload_n (i := 0) X dX3_lastMet_0 rfl rfl ?_
  refine sv_getr X ix_X3 rfl 0 (by decide) ho rfl fl_X3_9 dX3_lastMet_1 ?_
  refine sv_bipush (v := 86) X dX3_lastMet_4 (by decide) ?_
  refine sv_iload_n (i := 1) X dX3_lastMet_6 rfl rfl ?_
  refine sv_iload_n (i := 2) X dX3_lastMet_7 rfl rfl ?_
  obtain ⟨r3, s2, hc1, hF⟩ := fr_bP_some hF
  refine sv_callSi X (c_X3_meeting hc1) cd_X3_meeting ml_X3_46 sm_X3_meeting in_RX3 hd_X3_meeting (by decide) rfl (Nat.le_of_ble_eq_true rfl) dX3_lastMet_8 rfl ?_
  refine sv_iadd X dX3_lastMet_11 ?_
  obtain ⟨hb4, hF⟩ := fr_chk hF
  refine sv_iald (j := (fr_ix ((86 : Int32) + r3))) X ha hb4 rfl dX3_lastMet_12 ?_
  exact sv_iret X hr hQ dX3_lastMet_13 hF
theorem c_X3_lastMet {l : Launch} {g : fr_G} {o : Nat} {a1 : Int32} {a2 : Int32} (ho : fr_tab[o]? = some (0, 2, [o + 1 + 1])) (ha : fr_tab[o + 1]? = some (1, 122, [])) {σ τ : fr_St} {r : Int32} (hF : F_X3_lastMet o a1 a2 σ = some (r, τ)) : fr_Ci l g yX3_lastMet (fr_ws yX3_lastMet cX3_lastMet 3 (some .int)) 1 [.ref (g.2.1 o), .int a1, .int a2] σ r τ := fr_mi (by decide) (Nat.le_of_ble_eq_true rfl) (fun p e s m below meth c X hr => b_X3_lastMet X hr ho ha rfl hF)
def F_X3_opensByMeeting (o : Nat) (a1 : Int32) (σ : fr_St) : Option (Bool × fr_St) := fr_bP (F_X3_kindOf o a1 σ) (fun r3 s2 => fr_bS (if (4 : Int32) ≤ r3 then (some ((0 : Int32))) else (some ((1 : Int32)))) (fun v4 => if v4 = 0 then some (false, s2) else if v4 = 1 then some (true, s2) else none))
set_option maxRecDepth 100000 in
set_option maxHeartbeats 4000000 in
theorem b_X3_opensByMeeting {p : Program} {l : Launch} {e : Env} {s : State} {m : MethodId} {args : Array Value} {below : List Frame} {meth : Method} {c : Code} {g : fr_G} {Q : State → Prop} (X : fr_X p s m args meth c g cX3_opensByMeeting RX3 2) (hr : meth.sig.returnType = (some .boolean)) {o : Nat} {a1 : Int32} (ho : fr_tab[o]? = some (0, 2, [o + 1 + 1])) (ha : fr_tab[o + 1]? = some (1, 122, [])) {σ τ : fr_St} {r : Bool} (hQ : Q = fr_Qi below args s g (fr_bi r) τ) (hF : F_X3_opensByMeeting o a1 σ = some (r, τ)) : fr_V p l e (fr_rm 1) s m args below meth c g Q 2 σ 0 [(0, .ref (g.2.1 o)), (1, .int a1)] [] := by
  unfold F_X3_opensByMeeting at hF
  refine sv_aload_n (i := 0) X dX3_opensByMeeting_0 rfl rfl ?_
  refine sv_iload_n (i := 1) X dX3_opensByMeeting_1 rfl rfl ?_
  obtain ⟨r3, s2, hc1, hF⟩ := fr_bP_some hF
  refine sv_callVi X (c_X3_kindOf ho ha hc1) cd_X3_kindOf ml_X3_50 im_X3_kindOf se_X3_kindOf in_RX3 hd_X3_kindOf ho rfl (by decide) rfl (Nat.le_of_ble_eq_true rfl) dX3_opensByMeeting_2 rfl ?_
  refine sv_iconst (v := 4) X dX3_opensByMeeting_5 (by decide) ?_
  obtain ⟨v4, hM5, hF⟩ := fr_bS_some hF
  have K6 : fr_V p l e (fr_rm 1) s m args below meth c g Q 2 s2 14 [(0, .ref (g.2.1 o)), (1, .int a1)] [.int v4] := by
    exact sv_zretv X hr hQ dX3_opensByMeeting_14 hF
  refine sv_icmp_ge (tgt := 13) X dX3_opensByMeeting_6 (by decide) (fun h7 => ?_) (fun h7 => ?_)
  · replace hM5 := fr_pos hM5 h7
    refine sv_iconst (v := 0) X dX3_opensByMeeting_13 (by decide) ?_
    obtain rfl := fr_i1 hM5
    exact K6
  · replace hM5 := fr_neg hM5 h7
    refine sv_iconst (v := 1) X dX3_opensByMeeting_9 (by decide) ?_
    refine sv_goto (tgt := 14) X dX3_opensByMeeting_10 (by decide) ?_
    obtain rfl := fr_i1 hM5
    exact K6
theorem c_X3_opensByMeeting {l : Launch} {g : fr_G} {o : Nat} {a1 : Int32} (ho : fr_tab[o]? = some (0, 2, [o + 1 + 1])) (ha : fr_tab[o + 1]? = some (1, 122, [])) {σ τ : fr_St} {r : Bool} (hF : F_X3_opensByMeeting o a1 σ = some (r, τ)) : fr_Ci l g yX3_opensByMeeting (fr_ws yX3_opensByMeeting cX3_opensByMeeting 2 (some .boolean)) 1 [.ref (g.2.1 o), .int a1] σ (fr_bi r) τ := fr_mz (by decide) (Nat.le_of_ble_eq_true rfl) (fun p e s m below meth c X hr => b_X3_opensByMeeting X hr ho ha rfl hF)
def F_X3_lastDayOpen (o : Nat) (a1 : Int32) (a2 : Int32) (σ : fr_St) : Option (Int32 × fr_St) := fr_bP (F_X3_kindOf o a1 σ) (fun r3 s2 => fr_bP (if r3 = (3 : Int32) then (fr_bP (F_X3_fade o s2) (fun r17 s16 => some (((2 : Int32) * r17), s16))) else (fr_bP (F_X3_fade o s2) (fun r14 s13 => some (r14, s13)))) (fun v4 s5 => fr_bP (F_X3_meeting a1 a2 s5) (fun r10 s9 => if fr_ib ((86 : Int32) + r10) 122 = true then some (((s9 (o + 1) (fr_ix ((86 : Int32) + r10))) + v4), s9) else none)))
set_option maxRecDepth 100000 in
set_option maxHeartbeats 4000000 in
theorem b_X3_lastDayOpen {p : Program} {l : Launch} {e : Env} {s : State} {m : MethodId} {args : Array Value} {below : List Frame} {meth : Method} {c : Code} {g : fr_G} {Q : State → Prop} (X : fr_X p s m args meth c g cX3_lastDayOpen RX3 4) (hr : meth.sig.returnType = (some .int)) {o : Nat} {a1 : Int32} {a2 : Int32} (ho : fr_tab[o]? = some (0, 2, [o + 1 + 1])) (ha : fr_tab[o + 1]? = some (1, 122, [])) {σ τ : fr_St} {r : Int32} (hQ : Q = fr_Qi below args s g r τ) (hF : F_X3_lastDayOpen o a1 a2 σ = some (r, τ)) : fr_V p l e (fr_rm 1) s m args below meth c g Q 4 σ 0 [(0, .ref (g.2.1 o)), (1, .int a1), (2, .int a2)] [] := by
  unfold F_X3_lastDayOpen at hF
  refine sv_aload_n (i := 0) X dX3_lastDayOpen_0 rfl rfl ?_
  refine sv_iload_n (i := 1) X dX3_lastDayOpen_1 rfl rfl ?_
  obtain ⟨r3, s2, hc1, hF⟩ := fr_bP_some hF
  refine sv_callVi X (c_X3_kindOf ho ha hc1) cd_X3_kindOf ml_X3_50 im_X3_kindOf se_X3_kindOf in_RX3 hd_X3_kindOf ho rfl (by decide) rfl (Nat.le_of_ble_eq_true rfl) dX3_lastDayOpen_2 rfl ?_
  refine sv_iconst (v := 3) X dX3_lastDayOpen_5 (by decide) ?_
  obtain ⟨v4, s5, hM6, hF⟩ := fr_bP_some hF
  have K7 : fr_V p l e (fr_rm 1) s m args below meth c g Q 4 s5 22 [(0, .ref (g.2.1 o)), (1, .int a1), (2, .int a2)] [.int v4] := by
    refine sv_istore_n X dX3_lastDayOpen_22 rfl (by decide) rfl ?_
    refine sv_aload_n (i := 1) X dX3_lastDayOpen_23 rfl rfl ?_
    refine sv_getr X ix_X3 rfl 0 (by decide) ho rfl fl_X3_9 dX3_lastDayOpen_24 ?_
    refine sv_bipush (v := 86) X dX3_lastDayOpen_27 (by decide) ?_
    refine sv_iload_n (i := 2) X dX3_lastDayOpen_29 rfl rfl ?_
    refine sv_iload_n (i := 3) X dX3_lastDayOpen_30 rfl rfl ?_
    obtain ⟨r10, s9, hc8, hF⟩ := fr_bP_some hF
    refine sv_callSi X (c_X3_meeting hc8) cd_X3_meeting ml_X3_46 sm_X3_meeting in_RX3 hd_X3_meeting (by decide) rfl (Nat.le_of_ble_eq_true rfl) dX3_lastDayOpen_31 rfl ?_
    refine sv_iadd X dX3_lastDayOpen_34 ?_
    obtain ⟨hb11, hF⟩ := fr_chk hF
    refine sv_iald (j := (fr_ix ((86 : Int32) + r10))) X ha hb11 rfl dX3_lastDayOpen_35 ?_
    refine sv_iload_n (i := 0) X dX3_lastDayOpen_36 rfl rfl ?_
    refine sv_iadd X dX3_lastDayOpen_37 ?_
    exact sv_iret X hr hQ dX3_lastDayOpen_38 hF
  refine sv_icmp_ne (tgt := 18) X dX3_lastDayOpen_6 (by decide) (fun h18 => ?_) (fun h18 => ?_)
  · replace hM6 := fr_neg hM6 h18
    refine sv_aload_n (i := 0) X dX3_lastDayOpen_18 rfl rfl ?_
    obtain ⟨r14, s13, hc12, hM6⟩ := fr_bP_some hM6
    refine sv_callVi X (c_X3_fade ho ha hc12) cd_X3_fade ml_X3_55 im_X3_fade se_X3_fade in_RX3 hd_X3_fade ho rfl (by decide) rfl (Nat.le_of_ble_eq_true rfl) dX3_lastDayOpen_19 rfl ?_
    obtain ⟨rfl, rfl⟩ := fr_i2 hM6
    exact K7
  · replace hM6 := fr_pos hM6 h18
    refine sv_iconst (v := 2) X dX3_lastDayOpen_9 (by decide) ?_
    refine sv_aload_n (i := 0) X dX3_lastDayOpen_10 rfl rfl ?_
    obtain ⟨r17, s16, hc15, hM6⟩ := fr_bP_some hM6
    refine sv_callVi X (c_X3_fade ho ha hc15) cd_X3_fade ml_X3_55 im_X3_fade se_X3_fade in_RX3 hd_X3_fade ho rfl (by decide) rfl (Nat.le_of_ble_eq_true rfl) dX3_lastDayOpen_11 rfl ?_
    refine sv_imul X dX3_lastDayOpen_14 ?_
    refine sv_goto (tgt := 22) X dX3_lastDayOpen_15 (by decide) ?_
    obtain ⟨rfl, rfl⟩ := fr_i2 hM6
    exact K7
theorem c_X3_lastDayOpen {l : Launch} {g : fr_G} {o : Nat} {a1 : Int32} {a2 : Int32} (ho : fr_tab[o]? = some (0, 2, [o + 1 + 1])) (ha : fr_tab[o + 1]? = some (1, 122, [])) {σ τ : fr_St} {r : Int32} (hF : F_X3_lastDayOpen o a1 a2 σ = some (r, τ)) : fr_Ci l g yX3_lastDayOpen (fr_ws yX3_lastDayOpen cX3_lastDayOpen 4 (some .int)) 1 [.ref (g.2.1 o), .int a1, .int a2] σ r τ := fr_mi (by decide) (Nat.le_of_ble_eq_true rfl) (fun p e s m below meth c X hr => b_X3_lastDayOpen X hr ho ha rfl hF)
def F_X3_opens (o : Nat) (a1 : Int32) (a2 : Int32) (a3 : Int32) (σ : fr_St) : Option (Bool × fr_St) := fr_bP (F_X3_opensByMeeting o a1 σ) (fun b3 s2 => if (fr_bi b3) = 0 then (some (true, s2)) else (fr_bP (F_X3_kindOf o a1 s2) (fun r6 s5 => fr_bS (if r6 = (2 : Int32) then (some ((2 : Int32))) else (some ((1 : Int32)))) (fun v7 => fr_bP (F_X3_timesMet o a1 a2 s5) (fun r12 s11 => fr_bP (if r12 < v7 then (some ((0 : Int32), s11)) else (fr_bP (F_X3_lastDayOpen o a1 a2 s11) (fun r19 s18 => if r19 < a3 then (some ((0 : Int32), s18)) else (some ((1 : Int32), s18))))) (fun v13 s14 => if v13 = 0 then some (false, s14) else if v13 = 1 then some (true, s14) else none))))))
set_option maxRecDepth 100000 in
set_option maxHeartbeats 4000000 in
theorem b_X3_opens {p : Program} {l : Launch} {e : Env} {s : State} {m : MethodId} {args : Array Value} {below : List Frame} {meth : Method} {c : Code} {g : fr_G} {Q : State → Prop} (X : fr_X p s m args meth c g cX3_opens RX3 5) (hr : meth.sig.returnType = (some .boolean)) {o : Nat} {a1 : Int32} {a2 : Int32} {a3 : Int32} (ho : fr_tab[o]? = some (0, 2, [o + 1 + 1])) (ha : fr_tab[o + 1]? = some (1, 122, [])) {σ τ : fr_St} {r : Bool} (hQ : Q = fr_Qi below args s g (fr_bi r) τ) (hF : F_X3_opens o a1 a2 a3 σ = some (r, τ)) : fr_V p l e (fr_rm 2) s m args below meth c g Q 5 σ 0 [(0, .ref (g.2.1 o)), (1, .int a1), (2, .int a2), (3, .int a3)] [] := by
  unfold F_X3_opens at hF
  refine sv_aload_n (i := 0) X dX3_opens_0 rfl rfl ?_
  refine sv_iload_n (i := 1) X dX3_opens_1 rfl rfl ?_
  obtain ⟨b3, s2, hc1, hF⟩ := fr_bP_some hF
  refine sv_callVi X (c_X3_opensByMeeting ho ha hc1) cd_X3_opensByMeeting ml_X3_58 im_X3_opensByMeeting se_X3_opensByMeeting in_RX3 hd_X3_opensByMeeting ho rfl (by decide) rfl (Nat.le_of_ble_eq_true rfl) dX3_opens_2 rfl ?_
  refine sv_if_ne (tgt := 10) X dX3_opens_5 (by decide) (fun h23 => ?_) (fun h23 => ?_)
  · replace hF := fr_neg hF h23
    refine sv_aload_n (i := 0) X dX3_opens_10 rfl rfl ?_
    refine sv_iload_n (i := 1) X dX3_opens_11 rfl rfl ?_
    obtain ⟨r6, s5, hc4, hF⟩ := fr_bP_some hF
    refine sv_callVi X (c_X3_kindOf ho ha hc4) cd_X3_kindOf ml_X3_50 im_X3_kindOf se_X3_kindOf in_RX3 hd_X3_kindOf ho rfl (by decide) rfl (Nat.le_of_ble_eq_true rfl) dX3_opens_12 rfl ?_
    refine sv_iconst (v := 2) X dX3_opens_15 (by decide) ?_
    obtain ⟨v7, hM8, hF⟩ := fr_bS_some hF
    have K9 : fr_V p l e (fr_rm 2) s m args below meth c g Q 5 s5 24 [(0, .ref (g.2.1 o)), (1, .int a1), (2, .int a2), (3, .int a3)] [.int v7] := by
      refine sv_istore X dX3_opens_24 (by decide) rfl ?_
      refine sv_aload_n (i := 1) X dX3_opens_26 rfl rfl ?_
      refine sv_iload_n (i := 2) X dX3_opens_27 rfl rfl ?_
      refine sv_iload_n (i := 3) X dX3_opens_28 rfl rfl ?_
      obtain ⟨r12, s11, hc10, hF⟩ := fr_bP_some hF
      refine sv_callVi X (c_X3_timesMet ho ha hc10) cd_X3_timesMet ml_X3_61 im_X3_timesMet se_X3_timesMet in_RX3 hd_X3_timesMet ho rfl (by decide) rfl (Nat.le_of_ble_eq_true rfl) dX3_opens_29 rfl ?_
      refine sv_iload (i := 0) X dX3_opens_32 rfl ?_
      obtain ⟨v13, s14, hM15, hF⟩ := fr_bP_some hF
      have K16 : fr_V p l e (fr_rm 2) s m args below meth c g Q 5 s14 52 [(0, .ref (g.2.1 o)), (1, .int a1), (2, .int a2), (3, .int a3), (4, .int v7)] [.int v13] := by
        exact sv_zretv X hr hQ dX3_opens_52 hF
      refine sv_icmp_lt (tgt := 51) X dX3_opens_34 (by decide) (fun h21 => ?_) (fun h21 => ?_)
      · replace hM15 := fr_pos hM15 h21
        refine sv_iconst (v := 0) X dX3_opens_51 (by decide) ?_
        obtain ⟨rfl, rfl⟩ := fr_i2 hM15
        exact sv_perm [1, 2, 3, 4, 0] rfl K16
      · replace hM15 := fr_neg hM15 h21
        refine sv_iload_n (i := 4) X dX3_opens_37 rfl rfl ?_
        refine sv_aload_n (i := 1) X dX3_opens_38 rfl rfl ?_
        refine sv_iload_n (i := 2) X dX3_opens_39 rfl rfl ?_
        refine sv_iload_n (i := 3) X dX3_opens_40 rfl rfl ?_
        obtain ⟨r19, s18, hc17, hM15⟩ := fr_bP_some hM15
        refine sv_callVi X (c_X3_lastDayOpen ho ha hc17) cd_X3_lastDayOpen ml_X3_64 im_X3_lastDayOpen se_X3_lastDayOpen in_RX3 hd_X3_lastDayOpen ho rfl (by decide) rfl (Nat.le_of_ble_eq_true rfl) dX3_opens_41 rfl ?_
        refine sv_icmp_gt (tgt := 51) X dX3_opens_44 (by decide) (fun h20 => ?_) (fun h20 => ?_)
        · replace hM15 := fr_pos hM15 h20
          refine sv_iconst (v := 0) X dX3_opens_51 (by decide) ?_
          obtain ⟨rfl, rfl⟩ := fr_i2 hM15
          exact sv_perm [1, 2, 3, 4, 0] rfl K16
        · replace hM15 := fr_neg hM15 h20
          refine sv_iconst (v := 1) X dX3_opens_47 (by decide) ?_
          refine sv_goto (tgt := 52) X dX3_opens_48 (by decide) ?_
          obtain ⟨rfl, rfl⟩ := fr_i2 hM15
          exact sv_perm [1, 2, 3, 4, 0] rfl K16
    refine sv_icmp_ne (tgt := 23) X dX3_opens_16 (by decide) (fun h22 => ?_) (fun h22 => ?_)
    · replace hM8 := fr_neg hM8 h22
      refine sv_iconst (v := 1) X dX3_opens_23 (by decide) ?_
      obtain rfl := fr_i1 hM8
      exact K9
    · replace hM8 := fr_pos hM8 h22
      refine sv_iconst (v := 2) X dX3_opens_19 (by decide) ?_
      refine sv_goto (tgt := 24) X dX3_opens_20 (by decide) ?_
      obtain rfl := fr_i1 hM8
      exact K9
  · replace hF := fr_pos hF h23
    refine sv_iconst (v := 1) X dX3_opens_8 (by decide) ?_
    exact sv_zret X (b := true) hr hQ rfl dX3_opens_9 hF
theorem c_X3_opens {l : Launch} {g : fr_G} {o : Nat} {a1 : Int32} {a2 : Int32} {a3 : Int32} (ho : fr_tab[o]? = some (0, 2, [o + 1 + 1])) (ha : fr_tab[o + 1]? = some (1, 122, [])) {σ τ : fr_St} {r : Bool} (hF : F_X3_opens o a1 a2 a3 σ = some (r, τ)) : fr_Ci l g yX3_opens (fr_ws yX3_opens cX3_opens 5 (some .boolean)) 2 [.ref (g.2.1 o), .int a1, .int a2, .int a3] σ (fr_bi r) τ := fr_mz (by decide) (Nat.le_of_ble_eq_true rfl) (fun p e s m below meth c X hr => b_X3_opens X hr ho ha rfl hF)
def L_X3_solesOf_5 (o : Nat) (k1 : Int32) (k2 : Int32) : Nat → Int32 → Int32 → fr_St → Option (Int32 × Int32 × fr_St)
  | 0, _, _, _ => none
  | n + 1, x3, x4, σ => fr_bP (F_X3_people o σ) (fun r3 s2 => if r3 ≤ x4 then (some (x3, x4, s2)) else (fr_bP (F_X3_opens o k1 x4 k2 s2) (fun b6 s5 => fr_bS (if (fr_bi b6) = 0 then (some (x3)) else (fr_let ((x3 ||| ((1 : Int32) <<< (x4 &&& 31)))) (fun v11 => some (v11)))) (fun v7 => fr_let (x4 + (1 : Int32)) (fun v10 => L_X3_solesOf_5 o k1 k2 n v7 v10 s5)))))
set_option maxRecDepth 100000 in
set_option maxHeartbeats 4000000 in
theorem wL_X3_solesOf_5 {p : Program} {l : Launch} {e : Env} {s : State} {m : MethodId} {args : Array Value} {below : List Frame} {meth : Method} {c : Code} {g : fr_G} {Q : State → Prop} (X : fr_X p s m args meth c g cX3_solesOf RX3 5) {o : Nat} (ho : fr_tab[o]? = some (0, 2, [o + 1 + 1])) (ha : fr_tab[o + 1]? = some (1, 122, [])) (k1 : Int32) (k2 : Int32) {y3 : Int32} {y4 : Int32} {τ : fr_St} (K : fr_V p l e (fr_rm 3) s m args below meth c g Q 5 τ 38 [(0, .ref (g.2.1 o)), (1, .int k1), (2, .int k2), (3, .int y3), (4, .int y4)] []) : ∀ (n : Nat) (x3 : Int32) (x4 : Int32) (σ : fr_St), L_X3_solesOf_5 o k1 k2 n x3 x4 σ = some (y3, y4, τ) → fr_V p l e (fr_rm 3) s m args below meth c g Q 5 σ 5 [(0, .ref (g.2.1 o)), (1, .int k1), (2, .int k2), (3, .int x3), (4, .int x4)] [] := by
  intro n
  induction n with
  | zero => intro x3 x4 σ hL; cases hL
  | succ n ih =>
    intro x3 x4 σ hL
    rw [L_X3_solesOf_5] at hL
    refine sv_iload (i := 4) X dX3_solesOf_5 rfl ?_
    refine sv_aload_n (i := 0) X dX3_solesOf_7 rfl rfl ?_
    obtain ⟨r3, s2, hc1, hL⟩ := fr_bP_some hL
    refine sv_callVi X (c_X3_people ho ha hc1) cd_X3_people ml_X3_32 im_X3_people se_X3_people in_RX3 hd_X3_people ho rfl (by decide) rfl (Nat.le_of_ble_eq_true rfl) dX3_solesOf_8 rfl ?_
    refine sv_icmp_ge (tgt := 38) X dX3_solesOf_11 (by decide) (fun h13 => ?_) (fun h13 => ?_)
    · replace hL := fr_pos hL h13
      obtain ⟨rfl, rfl, rfl⟩ := fr_i3 hL
      exact K
    · replace hL := fr_neg hL h13
      refine sv_aload_n (i := 0) X dX3_solesOf_14 rfl rfl ?_
      refine sv_iload_n (i := 1) X dX3_solesOf_15 rfl rfl ?_
      refine sv_iload (i := 4) X dX3_solesOf_16 rfl ?_
      refine sv_iload_n (i := 2) X dX3_solesOf_18 rfl rfl ?_
      obtain ⟨b6, s5, hc4, hL⟩ := fr_bP_some hL
      refine sv_callVi X (c_X3_opens ho ha hc4) cd_X3_opens ml_X3_67 im_X3_opens se_X3_opens in_RX3 hd_X3_opens ho rfl (by decide) rfl (Nat.le_of_ble_eq_true rfl) dX3_solesOf_19 rfl ?_
      obtain ⟨v7, hM8, hL⟩ := fr_bS_some hL
      have K9 : fr_V p l e (fr_rm 3) s m args below meth c g Q 5 s5 32 [(0, .ref (g.2.1 o)), (1, .int k1), (2, .int k2), (3, .int v7), (4, .int x4)] [] := by
        obtain ⟨v10, ev10⟩ : ∃ y : Int32, y = x4 + (1 : Int32) := ⟨_, rfl⟩
        replace hL := fr_lete hL ev10
        refine sv_iinc (i := 4) (v := v10) X dX3_solesOf_32 rfl (by rw [ev10]; rfl) (by decide) rfl ?_
        refine sv_goto (tgt := 5) X dX3_solesOf_35 (by decide) ?_
        exact sv_perm [1, 2, 3, 4, 0] rfl (ih _ _ _ hL)
      refine sv_if_eq (tgt := 32) X dX3_solesOf_22 (by decide) (fun h12 => ?_) (fun h12 => ?_)
      · replace hM8 := fr_pos hM8 h12
        obtain rfl := fr_i1 hM8
        exact K9
      · replace hM8 := fr_neg hM8 h12
        refine sv_iload_n (i := 3) X dX3_solesOf_25 rfl rfl ?_
        refine sv_iconst (v := 1) X dX3_solesOf_26 (by decide) ?_
        refine sv_iload (i := 4) X dX3_solesOf_27 rfl ?_
        refine sv_ishl X dX3_solesOf_29 ?_
        refine sv_ior X dX3_solesOf_30 ?_
        refine sv_topi (fun v11 ev11 => ?_)
        replace hM8 := fr_lete hM8 ev11
        refine sv_istore_n X dX3_solesOf_31 rfl (by decide) rfl ?_
        obtain rfl := fr_i1 hM8
        exact sv_perm [1, 2, 3, 0, 4] rfl K9
def F_X3_solesOf (o : Nat) (a1 : Int32) (a2 : Int32) (σ : fr_St) : Option (Int32 × fr_St) := fr_bP (L_X3_solesOf_5 o a1 a2 fr_fu (0 : Int32) (0 : Int32) σ) (fun v1 q5 => fr_pP q5 (fun v2 s3 => some (v1, s3)))
set_option maxRecDepth 100000 in
set_option maxHeartbeats 4000000 in
theorem b_X3_solesOf {p : Program} {l : Launch} {e : Env} {s : State} {m : MethodId} {args : Array Value} {below : List Frame} {meth : Method} {c : Code} {g : fr_G} {Q : State → Prop} (X : fr_X p s m args meth c g cX3_solesOf RX3 5) (hr : meth.sig.returnType = (some .int)) {o : Nat} {a1 : Int32} {a2 : Int32} (ho : fr_tab[o]? = some (0, 2, [o + 1 + 1])) (ha : fr_tab[o + 1]? = some (1, 122, [])) {σ τ : fr_St} {r : Int32} (hQ : Q = fr_Qi below args s g r τ) (hF : F_X3_solesOf o a1 a2 σ = some (r, τ)) : fr_V p l e (fr_rm 3) s m args below meth c g Q 5 σ 0 [(0, .ref (g.2.1 o)), (1, .int a1), (2, .int a2)] [] := by
  unfold F_X3_solesOf at hF
  refine sv_iconst (v := 0) X dX3_solesOf_0 (by decide) ?_
  refine sv_istore_n X dX3_solesOf_1 rfl (by decide) rfl ?_
  refine sv_iconst (v := 0) X dX3_solesOf_2 (by decide) ?_
  refine sv_istore X dX3_solesOf_3 (by decide) rfl ?_
  refine sv_perm [2, 3, 4, 1, 0] rfl ?_
  obtain ⟨v1, ⟨v2, s3⟩, hl4, hF⟩ := fr_bP_some hF
  dsimp only [fr_pP] at hF
  refine wL_X3_solesOf_5 X ho ha a1 a2 ?_ fr_fu _ _ _ hl4
  refine sv_iload_n (i := 3) X dX3_solesOf_38 rfl rfl ?_
  exact sv_iret X hr hQ dX3_solesOf_39 hF
theorem c_X3_solesOf {l : Launch} {g : fr_G} {o : Nat} {a1 : Int32} {a2 : Int32} (ho : fr_tab[o]? = some (0, 2, [o + 1 + 1])) (ha : fr_tab[o + 1]? = some (1, 122, [])) {σ τ : fr_St} {r : Int32} (hF : F_X3_solesOf o a1 a2 σ = some (r, τ)) : fr_Ci l g yX3_solesOf (fr_ws yX3_solesOf cX3_solesOf 5 (some .int)) 3 [.ref (g.2.1 o), .int a1, .int a2] σ r τ := fr_mi (by decide) (Nat.le_of_ble_eq_true rfl) (fun p e s m below meth c X hr => b_X3_solesOf X hr ho ha rfl hF)
def L_X3_roadsOpenTo_4 (o : Nat) (k1 : Int32) : Nat → Int32 → Int32 → fr_St → Option (Int32 × Int32 × fr_St)
  | 0, _, _, _ => none
  | n + 1, x2, x3, σ => fr_bP (F_X3_roads o σ) (fun r3 s2 => if r3 ≤ x3 then (some (x2, x3, s2)) else (fr_bP (F_X3_soleOf o k1 s2) (fun r6 s5 => fr_bP (F_X3_today o s5) (fun r9 s8 => fr_bP (F_X3_opens o x3 r6 r9 s8) (fun b12 s11 => fr_bS (if (fr_bi b12) = 0 then (some (x2)) else (fr_let ((x2 ||| ((1 : Int32) <<< (x3 &&& 31)))) (fun v17 => some (v17)))) (fun v13 => fr_let (x3 + (1 : Int32)) (fun v16 => L_X3_roadsOpenTo_4 o k1 n v13 v16 s11)))))))
set_option maxRecDepth 100000 in
set_option maxHeartbeats 4000000 in
theorem wL_X3_roadsOpenTo_4 {p : Program} {l : Launch} {e : Env} {s : State} {m : MethodId} {args : Array Value} {below : List Frame} {meth : Method} {c : Code} {g : fr_G} {Q : State → Prop} (X : fr_X p s m args meth c g cX3_roadsOpenTo RX3 4) {o : Nat} (ho : fr_tab[o]? = some (0, 2, [o + 1 + 1])) (ha : fr_tab[o + 1]? = some (1, 122, [])) (k1 : Int32) {y2 : Int32} {y3 : Int32} {τ : fr_St} (K : fr_V p l e (fr_rm 3) s m args below meth c g Q 4 τ 41 [(0, .ref (g.2.1 o)), (1, .int k1), (2, .int y2), (3, .int y3)] []) : ∀ (n : Nat) (x2 : Int32) (x3 : Int32) (σ : fr_St), L_X3_roadsOpenTo_4 o k1 n x2 x3 σ = some (y2, y3, τ) → fr_V p l e (fr_rm 3) s m args below meth c g Q 4 σ 4 [(0, .ref (g.2.1 o)), (1, .int k1), (2, .int x2), (3, .int x3)] [] := by
  intro n
  induction n with
  | zero => intro x2 x3 σ hL; cases hL
  | succ n ih =>
    intro x2 x3 σ hL
    rw [L_X3_roadsOpenTo_4] at hL
    refine sv_iload_n (i := 3) X dX3_roadsOpenTo_4 rfl rfl ?_
    refine sv_aload_n (i := 0) X dX3_roadsOpenTo_5 rfl rfl ?_
    obtain ⟨r3, s2, hc1, hL⟩ := fr_bP_some hL
    refine sv_callVi X (c_X3_roads ho ha hc1) cd_X3_roads ml_X3_29 im_X3_roads se_X3_roads in_RX3 hd_X3_roads ho rfl (by decide) rfl (Nat.le_of_ble_eq_true rfl) dX3_roadsOpenTo_6 rfl ?_
    refine sv_icmp_ge (tgt := 41) X dX3_roadsOpenTo_9 (by decide) (fun h19 => ?_) (fun h19 => ?_)
    · replace hL := fr_pos hL h19
      obtain ⟨rfl, rfl, rfl⟩ := fr_i3 hL
      exact K
    · replace hL := fr_neg hL h19
      refine sv_aload_n (i := 0) X dX3_roadsOpenTo_12 rfl rfl ?_
      refine sv_iload_n (i := 3) X dX3_roadsOpenTo_13 rfl rfl ?_
      refine sv_aload_n (i := 0) X dX3_roadsOpenTo_14 rfl rfl ?_
      refine sv_iload_n (i := 1) X dX3_roadsOpenTo_15 rfl rfl ?_
      obtain ⟨r6, s5, hc4, hL⟩ := fr_bP_some hL
      refine sv_callVi X (c_X3_soleOf ho ha hc4) cd_X3_soleOf ml_X3_71 im_X3_soleOf se_X3_soleOf in_RX3 hd_X3_soleOf ho rfl (by decide) rfl (Nat.le_of_ble_eq_true rfl) dX3_roadsOpenTo_16 rfl ?_
      refine sv_aload_n (i := 0) X dX3_roadsOpenTo_19 rfl rfl ?_
      obtain ⟨r9, s8, hc7, hL⟩ := fr_bP_some hL
      refine sv_callVi X (c_X3_today ho ha hc7) cd_X3_today ml_X3_74 im_X3_today se_X3_today in_RX3 hd_X3_today ho rfl (by decide) rfl (Nat.le_of_ble_eq_true rfl) dX3_roadsOpenTo_20 rfl ?_
      obtain ⟨b12, s11, hc10, hL⟩ := fr_bP_some hL
      refine sv_callVi X (c_X3_opens ho ha hc10) cd_X3_opens ml_X3_67 im_X3_opens se_X3_opens in_RX3 hd_X3_opens ho rfl (by decide) rfl (Nat.le_of_ble_eq_true rfl) dX3_roadsOpenTo_23 rfl ?_
      obtain ⟨v13, hM14, hL⟩ := fr_bS_some hL
      have K15 : fr_V p l e (fr_rm 3) s m args below meth c g Q 4 s11 35 [(0, .ref (g.2.1 o)), (1, .int k1), (2, .int v13), (3, .int x3)] [] := by
        obtain ⟨v16, ev16⟩ : ∃ y : Int32, y = x3 + (1 : Int32) := ⟨_, rfl⟩
        replace hL := fr_lete hL ev16
        refine sv_iinc (i := 3) (v := v16) X dX3_roadsOpenTo_35 rfl (by rw [ev16]; rfl) (by decide) rfl ?_
        refine sv_goto (tgt := 4) X dX3_roadsOpenTo_38 (by decide) ?_
        exact sv_perm [1, 2, 3, 0] rfl (ih _ _ _ hL)
      refine sv_if_eq (tgt := 35) X dX3_roadsOpenTo_26 (by decide) (fun h18 => ?_) (fun h18 => ?_)
      · replace hM14 := fr_pos hM14 h18
        obtain rfl := fr_i1 hM14
        exact K15
      · replace hM14 := fr_neg hM14 h18
        refine sv_iload_n (i := 2) X dX3_roadsOpenTo_29 rfl rfl ?_
        refine sv_iconst (v := 1) X dX3_roadsOpenTo_30 (by decide) ?_
        refine sv_iload_n (i := 3) X dX3_roadsOpenTo_31 rfl rfl ?_
        refine sv_ishl X dX3_roadsOpenTo_32 ?_
        refine sv_ior X dX3_roadsOpenTo_33 ?_
        refine sv_topi (fun v17 ev17 => ?_)
        replace hM14 := fr_lete hM14 ev17
        refine sv_istore_n X dX3_roadsOpenTo_34 rfl (by decide) rfl ?_
        obtain rfl := fr_i1 hM14
        exact sv_perm [1, 2, 0, 3] rfl K15
def F_X3_roadsOpenTo (o : Nat) (a1 : Int32) (σ : fr_St) : Option (Int32 × fr_St) := fr_bP (L_X3_roadsOpenTo_4 o a1 fr_fu (0 : Int32) (0 : Int32) σ) (fun v1 q5 => fr_pP q5 (fun v2 s3 => some (v1, s3)))
set_option maxRecDepth 100000 in
set_option maxHeartbeats 4000000 in
theorem b_X3_roadsOpenTo {p : Program} {l : Launch} {e : Env} {s : State} {m : MethodId} {args : Array Value} {below : List Frame} {meth : Method} {c : Code} {g : fr_G} {Q : State → Prop} (X : fr_X p s m args meth c g cX3_roadsOpenTo RX3 4) (hr : meth.sig.returnType = (some .int)) {o : Nat} {a1 : Int32} (ho : fr_tab[o]? = some (0, 2, [o + 1 + 1])) (ha : fr_tab[o + 1]? = some (1, 122, [])) {σ τ : fr_St} {r : Int32} (hQ : Q = fr_Qi below args s g r τ) (hF : F_X3_roadsOpenTo o a1 σ = some (r, τ)) : fr_V p l e (fr_rm 3) s m args below meth c g Q 4 σ 0 [(0, .ref (g.2.1 o)), (1, .int a1)] [] := by
  unfold F_X3_roadsOpenTo at hF
  refine sv_iconst (v := 0) X dX3_roadsOpenTo_0 (by decide) ?_
  refine sv_istore_n X dX3_roadsOpenTo_1 rfl (by decide) rfl ?_
  refine sv_iconst (v := 0) X dX3_roadsOpenTo_2 (by decide) ?_
  refine sv_istore_n X dX3_roadsOpenTo_3 rfl (by decide) rfl ?_
  refine sv_perm [2, 3, 1, 0] rfl ?_
  obtain ⟨v1, ⟨v2, s3⟩, hl4, hF⟩ := fr_bP_some hF
  dsimp only [fr_pP] at hF
  refine wL_X3_roadsOpenTo_4 X ho ha a1 ?_ fr_fu _ _ _ hl4
  refine sv_iload_n (i := 2) X dX3_roadsOpenTo_41 rfl rfl ?_
  exact sv_iret X hr hQ dX3_roadsOpenTo_42 hF
theorem c_X3_roadsOpenTo {l : Launch} {g : fr_G} {o : Nat} {a1 : Int32} (ho : fr_tab[o]? = some (0, 2, [o + 1 + 1])) (ha : fr_tab[o + 1]? = some (1, 122, [])) {σ τ : fr_St} {r : Int32} (hF : F_X3_roadsOpenTo o a1 σ = some (r, τ)) : fr_Ci l g yX3_roadsOpenTo (fr_ws yX3_roadsOpenTo cX3_roadsOpenTo 4 (some .int)) 3 [.ref (g.2.1 o), .int a1] σ r τ := fr_mi (by decide) (Nat.le_of_ble_eq_true rfl) (fun p e s m below meth c X hr => b_X3_roadsOpenTo X hr ho ha rfl hF)
def F_X3_canGo (o : Nat) (a1 : Int32) (a2 : Int32) (σ : fr_St) : Option (Bool × fr_St) := fr_bP (F_X3_placeOf o a1 σ) (fun r3 s2 => fr_bP (F_X3_isEnd o a2 r3 s2) (fun b6 s5 => fr_bP (if (fr_bi b6) = 0 then (some ((0 : Int32), s5)) else (fr_bP (F_X3_soleOf o a1 s5) (fun r13 s12 => fr_bP (F_X3_today o s12) (fun r16 s15 => fr_bP (F_X3_opens o a2 r13 r16 s15) (fun b19 s18 => if (fr_bi b19) = 0 then (some ((0 : Int32), s18)) else (some ((1 : Int32), s18))))))) (fun v7 s8 => if v7 = 0 then some (false, s8) else if v7 = 1 then some (true, s8) else none)))
set_option maxRecDepth 100000 in
set_option maxHeartbeats 4000000 in
theorem b_X3_canGo {p : Program} {l : Launch} {e : Env} {s : State} {m : MethodId} {args : Array Value} {below : List Frame} {meth : Method} {c : Code} {g : fr_G} {Q : State → Prop} (X : fr_X p s m args meth c g cX3_canGo RX3 3) (hr : meth.sig.returnType = (some .boolean)) {o : Nat} {a1 : Int32} {a2 : Int32} (ho : fr_tab[o]? = some (0, 2, [o + 1 + 1])) (ha : fr_tab[o + 1]? = some (1, 122, [])) {σ τ : fr_St} {r : Bool} (hQ : Q = fr_Qi below args s g (fr_bi r) τ) (hF : F_X3_canGo o a1 a2 σ = some (r, τ)) : fr_V p l e (fr_rm 3) s m args below meth c g Q 3 σ 0 [(0, .ref (g.2.1 o)), (1, .int a1), (2, .int a2)] [] := by
  unfold F_X3_canGo at hF
  refine sv_aload_n (i := 0) X dX3_canGo_0 rfl rfl ?_
  refine sv_iload_n (i := 2) X dX3_canGo_1 rfl rfl ?_
  refine sv_aload_n (i := 0) X dX3_canGo_2 rfl rfl ?_
  refine sv_iload_n (i := 1) X dX3_canGo_3 rfl rfl ?_
  obtain ⟨r3, s2, hc1, hF⟩ := fr_bP_some hF
  refine sv_callVi X (c_X3_placeOf ho ha hc1) cd_X3_placeOf ml_X3_77 im_X3_placeOf se_X3_placeOf in_RX3 hd_X3_placeOf ho rfl (by decide) rfl (Nat.le_of_ble_eq_true rfl) dX3_canGo_4 rfl ?_
  obtain ⟨b6, s5, hc4, hF⟩ := fr_bP_some hF
  refine sv_callVi X (c_X3_isEnd ho ha hc4) cd_X3_isEnd ml_X3_80 im_X3_isEnd se_X3_isEnd in_RX3 hd_X3_isEnd ho rfl (by decide) rfl (Nat.le_of_ble_eq_true rfl) dX3_canGo_7 rfl ?_
  obtain ⟨v7, s8, hM9, hF⟩ := fr_bP_some hF
  have K10 : fr_V p l e (fr_rm 3) s m args below meth c g Q 3 s8 35 [(0, .ref (g.2.1 o)), (1, .int a1), (2, .int a2)] [.int v7] := by
    exact sv_zretv X hr hQ dX3_canGo_35 hF
  refine sv_if_eq (tgt := 34) X dX3_canGo_10 (by decide) (fun h21 => ?_) (fun h21 => ?_)
  · replace hM9 := fr_pos hM9 h21
    refine sv_iconst (v := 0) X dX3_canGo_34 (by decide) ?_
    obtain ⟨rfl, rfl⟩ := fr_i2 hM9
    exact K10
  · replace hM9 := fr_neg hM9 h21
    refine sv_aload_n (i := 0) X dX3_canGo_13 rfl rfl ?_
    refine sv_iload_n (i := 2) X dX3_canGo_14 rfl rfl ?_
    refine sv_aload_n (i := 0) X dX3_canGo_15 rfl rfl ?_
    refine sv_iload_n (i := 1) X dX3_canGo_16 rfl rfl ?_
    obtain ⟨r13, s12, hc11, hM9⟩ := fr_bP_some hM9
    refine sv_callVi X (c_X3_soleOf ho ha hc11) cd_X3_soleOf ml_X3_71 im_X3_soleOf se_X3_soleOf in_RX3 hd_X3_soleOf ho rfl (by decide) rfl (Nat.le_of_ble_eq_true rfl) dX3_canGo_17 rfl ?_
    refine sv_aload_n (i := 0) X dX3_canGo_20 rfl rfl ?_
    obtain ⟨r16, s15, hc14, hM9⟩ := fr_bP_some hM9
    refine sv_callVi X (c_X3_today ho ha hc14) cd_X3_today ml_X3_74 im_X3_today se_X3_today in_RX3 hd_X3_today ho rfl (by decide) rfl (Nat.le_of_ble_eq_true rfl) dX3_canGo_21 rfl ?_
    obtain ⟨b19, s18, hc17, hM9⟩ := fr_bP_some hM9
    refine sv_callVi X (c_X3_opens ho ha hc17) cd_X3_opens ml_X3_67 im_X3_opens se_X3_opens in_RX3 hd_X3_opens ho rfl (by decide) rfl (Nat.le_of_ble_eq_true rfl) dX3_canGo_24 rfl ?_
    refine sv_if_eq (tgt := 34) X dX3_canGo_27 (by decide) (fun h20 => ?_) (fun h20 => ?_)
    · replace hM9 := fr_pos hM9 h20
      refine sv_iconst (v := 0) X dX3_canGo_34 (by decide) ?_
      obtain ⟨rfl, rfl⟩ := fr_i2 hM9
      exact K10
    · replace hM9 := fr_neg hM9 h20
      refine sv_iconst (v := 1) X dX3_canGo_30 (by decide) ?_
      refine sv_goto (tgt := 35) X dX3_canGo_31 (by decide) ?_
      obtain ⟨rfl, rfl⟩ := fr_i2 hM9
      exact K10
theorem c_X3_canGo {l : Launch} {g : fr_G} {o : Nat} {a1 : Int32} {a2 : Int32} (ho : fr_tab[o]? = some (0, 2, [o + 1 + 1])) (ha : fr_tab[o + 1]? = some (1, 122, [])) {σ τ : fr_St} {r : Bool} (hF : F_X3_canGo o a1 a2 σ = some (r, τ)) : fr_Ci l g yX3_canGo (fr_ws yX3_canGo cX3_canGo 3 (some .boolean)) 3 [.ref (g.2.1 o), .int a1, .int a2] σ (fr_bi r) τ := fr_mz (by decide) (Nat.le_of_ble_eq_true rfl) (fun p e s m below meth c X hr => b_X3_canGo X hr ho ha rfl hF)
def F_X3_meetToday (o : Nat) (a1 : Int32) (a2 : Int32) (σ : fr_St) : Option fr_St := fr_bP (F_X3_meeting a1 a2 σ) (fun r3 s2 => if fr_ib ((50 : Int32) + r3) 122 = true then if fr_ib ((50 : Int32) + r3) 122 = true then fr_let (fr_up s2 (o + 1) (fr_ix ((50 : Int32) + r3)) ((s2 (o + 1) (fr_ix ((50 : Int32) + r3))) + (1 : Int32))) (fun s6 => fr_bP (F_X3_today o s6) (fun r9 s8 => if fr_ib ((86 : Int32) + r3) 122 = true then fr_let (fr_up s8 (o + 1) (fr_ix ((86 : Int32) + r3)) r9) (fun s11 => some s11) else none)) else none else none)
set_option maxRecDepth 100000 in
set_option maxHeartbeats 4000000 in
theorem b_X3_meetToday {p : Program} {l : Launch} {e : Env} {s : State} {m : MethodId} {args : Array Value} {below : List Frame} {meth : Method} {c : Code} {g : fr_G} {Q : State → Prop} (X : fr_X p s m args meth c g cX3_meetToday RX3 4) (hr : meth.sig.returnType = (Option.none : Option Jvm.ClassFile.FieldType)) {o : Nat} {a1 : Int32} {a2 : Int32} (ho : fr_tab[o]? = some (0, 2, [o + 1 + 1])) (ha : fr_tab[o + 1]? = some (1, 122, [])) {σ τ : fr_St} (hQ : Q = fr_Qv below args s g τ) (hF : F_X3_meetToday o a1 a2 σ = some τ) : fr_V p l e (fr_rm 1) s m args below meth c g Q 4 σ 0 [(0, .ref (g.2.1 o)), (1, .int a1), (2, .int a2)] [] := by
  unfold F_X3_meetToday at hF
  refine sv_iload_n (i := 1) X dX3_meetToday_0 rfl rfl ?_
  refine sv_iload_n (i := 2) X dX3_meetToday_1 rfl rfl ?_
  obtain ⟨r3, s2, hc1, hF⟩ := fr_bP_some hF
  refine sv_callSi X (c_X3_meeting hc1) cd_X3_meeting ml_X3_46 sm_X3_meeting in_RX3 hd_X3_meeting (by decide) rfl (Nat.le_of_ble_eq_true rfl) dX3_meetToday_2 rfl ?_
  refine sv_istore_n X dX3_meetToday_5 rfl (by decide) rfl ?_
  refine sv_aload_n (i := 1) X dX3_meetToday_6 rfl rfl ?_
  refine sv_getr X ix_X3 rfl 0 (by decide) ho rfl fl_X3_9 dX3_meetToday_7 ?_
  refine sv_bipush (v := 50) X dX3_meetToday_10 (by decide) ?_
  refine sv_iload_n (i := 0) X dX3_meetToday_12 rfl rfl ?_
  refine sv_iadd X dX3_meetToday_13 ?_
  refine sv_dup2 X dX3_meetToday_14 rfl rfl ?_
  obtain ⟨hb4, hF⟩ := fr_chk hF
  refine sv_iald (j := (fr_ix ((50 : Int32) + r3))) X ha hb4 rfl dX3_meetToday_15 ?_
  refine sv_iconst (v := 1) X dX3_meetToday_16 (by decide) ?_
  refine sv_iadd X dX3_meetToday_17 ?_
  obtain ⟨hb5, hF⟩ := fr_chk hF
  refine sv_iast (j := (fr_ix ((50 : Int32) + r3))) X ha hb5 rfl dX3_meetToday_18 ?_
  refine sv_sig (fun s6 es6 => ?_)
  replace hF := fr_lete hF es6
  refine sv_aload_n (i := 1) X dX3_meetToday_19 rfl rfl ?_
  refine sv_getr X ix_X3 rfl 0 (by decide) ho rfl fl_X3_9 dX3_meetToday_20 ?_
  refine sv_bipush (v := 86) X dX3_meetToday_23 (by decide) ?_
  refine sv_iload_n (i := 0) X dX3_meetToday_25 rfl rfl ?_
  refine sv_iadd X dX3_meetToday_26 ?_
  refine sv_aload_n (i := 1) X dX3_meetToday_27 rfl rfl ?_
  obtain ⟨r9, s8, hc7, hF⟩ := fr_bP_some hF
  refine sv_callVi X (c_X3_today ho ha hc7) cd_X3_today ml_X3_74 im_X3_today se_X3_today in_RX3 hd_X3_today ho rfl (by decide) rfl (Nat.le_of_ble_eq_true rfl) dX3_meetToday_28 rfl ?_
  obtain ⟨hb10, hF⟩ := fr_chk hF
  refine sv_iast (j := (fr_ix ((86 : Int32) + r3))) X ha hb10 rfl dX3_meetToday_31 ?_
  refine sv_sig (fun s11 es11 => ?_)
  replace hF := fr_lete hF es11
  exact sv_vret X hr hQ dX3_meetToday_32 hF
theorem c_X3_meetToday {l : Launch} {g : fr_G} {o : Nat} {a1 : Int32} {a2 : Int32} (ho : fr_tab[o]? = some (0, 2, [o + 1 + 1])) (ha : fr_tab[o + 1]? = some (1, 122, [])) {σ τ : fr_St} (hF : F_X3_meetToday o a1 a2 σ = some τ) : fr_Cv l g yX3_meetToday (fr_ws yX3_meetToday cX3_meetToday 4 (Option.none : Option Jvm.ClassFile.FieldType)) 1 [.ref (g.2.1 o), .int a1, .int a2] σ τ := fr_mv (by decide) (Nat.le_of_ble_eq_true rfl) (fun p e s m below meth c X hr => b_X3_meetToday X hr ho ha rfl hF)
def F_X3_goOver (o : Nat) (a1 : Int32) (a2 : Int32) (σ : fr_St) : Option fr_St := fr_bP (F_X3_placeOf o a1 σ) (fun r3 s2 => fr_bP (F_X3_across o a2 r3 s2) (fun r6 s5 => if fr_ib ((42 : Int32) + a1) 122 = true then fr_let (fr_up s5 (o + 1) (fr_ix ((42 : Int32) + a1)) r6) (fun s8 => fr_bP (F_X3_kindOf o a2 s8) (fun r11 s10 => fr_bS (if r11 = (5 : Int32) then (fr_bP (F_X3_longOf o a2 s10) (fun r22 s21 => fr_let (fr_up s21 (o + 1) 5 ((s10 (o + 1) 5) + r22)) (fun s23 => some (s23)))) else (fr_bP (F_X3_soleOf o a1 s10) (fun r17 s16 => fr_bS (F_X3_meetToday o a2 r17 s16) (fun s19 => some (s19))))) (fun s12 => some s12))) else none))
set_option maxRecDepth 100000 in
set_option maxHeartbeats 4000000 in
theorem b_X3_goOver {p : Program} {l : Launch} {e : Env} {s : State} {m : MethodId} {args : Array Value} {below : List Frame} {meth : Method} {c : Code} {g : fr_G} {Q : State → Prop} (X : fr_X p s m args meth c g cX3_goOver RX3 3) (hr : meth.sig.returnType = (Option.none : Option Jvm.ClassFile.FieldType)) {o : Nat} {a1 : Int32} {a2 : Int32} (ho : fr_tab[o]? = some (0, 2, [o + 1 + 1])) (ha : fr_tab[o + 1]? = some (1, 122, [])) {σ τ : fr_St} (hQ : Q = fr_Qv below args s g τ) (hF : F_X3_goOver o a1 a2 σ = some τ) : fr_V p l e (fr_rm 2) s m args below meth c g Q 3 σ 0 [(0, .ref (g.2.1 o)), (1, .int a1), (2, .int a2)] [] := by
  unfold F_X3_goOver at hF
  refine sv_aload_n (i := 0) X dX3_goOver_0 rfl rfl ?_
  refine sv_getr X ix_X3 rfl 0 (by decide) ho rfl fl_X3_9 dX3_goOver_1 ?_
  refine sv_bipush (v := 42) X dX3_goOver_4 (by decide) ?_
  refine sv_iload_n (i := 1) X dX3_goOver_6 rfl rfl ?_
  refine sv_iadd X dX3_goOver_7 ?_
  refine sv_aload_n (i := 0) X dX3_goOver_8 rfl rfl ?_
  refine sv_iload_n (i := 2) X dX3_goOver_9 rfl rfl ?_
  refine sv_aload_n (i := 0) X dX3_goOver_10 rfl rfl ?_
  refine sv_iload_n (i := 1) X dX3_goOver_11 rfl rfl ?_
  obtain ⟨r3, s2, hc1, hF⟩ := fr_bP_some hF
  refine sv_callVi X (c_X3_placeOf ho ha hc1) cd_X3_placeOf ml_X3_77 im_X3_placeOf se_X3_placeOf in_RX3 hd_X3_placeOf ho rfl (by decide) rfl (Nat.le_of_ble_eq_true rfl) dX3_goOver_12 rfl ?_
  obtain ⟨r6, s5, hc4, hF⟩ := fr_bP_some hF
  refine sv_callVi X (c_X3_across ho ha hc4) cd_X3_across ml_X3_84 im_X3_across se_X3_across in_RX3 hd_X3_across ho rfl (by decide) rfl (Nat.le_of_ble_eq_true rfl) dX3_goOver_15 rfl ?_
  obtain ⟨hb7, hF⟩ := fr_chk hF
  refine sv_iast (j := (fr_ix ((42 : Int32) + a1))) X ha hb7 rfl dX3_goOver_18 ?_
  refine sv_sig (fun s8 es8 => ?_)
  replace hF := fr_lete hF es8
  refine sv_aload_n (i := 0) X dX3_goOver_19 rfl rfl ?_
  refine sv_iload_n (i := 2) X dX3_goOver_20 rfl rfl ?_
  obtain ⟨r11, s10, hc9, hF⟩ := fr_bP_some hF
  refine sv_callVi X (c_X3_kindOf ho ha hc9) cd_X3_kindOf ml_X3_50 im_X3_kindOf se_X3_kindOf in_RX3 hd_X3_kindOf ho rfl (by decide) rfl (Nat.le_of_ble_eq_true rfl) dX3_goOver_21 rfl ?_
  refine sv_iconst (v := 5) X dX3_goOver_24 (by decide) ?_
  obtain ⟨s12, hM13, hF⟩ := fr_bS_some hF
  have K14 : fr_V p l e (fr_rm 2) s m args below meth c g Q 3 s12 55 [(0, .ref (g.2.1 o)), (1, .int a1), (2, .int a2)] [] := by
    exact sv_vret X hr hQ dX3_goOver_55 hF
  refine sv_icmp_ne (tgt := 45) X dX3_goOver_25 (by decide) (fun h24 => ?_) (fun h24 => ?_)
  · replace hM13 := fr_neg hM13 h24
    refine sv_aload_n (i := 0) X dX3_goOver_45 rfl rfl ?_
    refine sv_iload_n (i := 2) X dX3_goOver_46 rfl rfl ?_
    refine sv_aload_n (i := 0) X dX3_goOver_47 rfl rfl ?_
    refine sv_iload_n (i := 1) X dX3_goOver_48 rfl rfl ?_
    obtain ⟨r17, s16, hc15, hM13⟩ := fr_bP_some hM13
    refine sv_callVi X (c_X3_soleOf ho ha hc15) cd_X3_soleOf ml_X3_71 im_X3_soleOf se_X3_soleOf in_RX3 hd_X3_soleOf ho rfl (by decide) rfl (Nat.le_of_ble_eq_true rfl) dX3_goOver_49 rfl ?_
    obtain ⟨s19, hc18, hM13⟩ := fr_bS_some hM13
    refine sv_callVv X (c_X3_meetToday ho ha hc18) cd_X3_meetToday ml_X3_90 im_X3_meetToday se_X3_meetToday in_RX3 hd_X3_meetToday ho rfl (by decide) rfl (Nat.le_of_ble_eq_true rfl) dX3_goOver_52 rfl ?_
    obtain rfl := fr_i1 hM13
    exact K14
  · replace hM13 := fr_pos hM13 h24
    refine sv_aload_n (i := 0) X dX3_goOver_28 rfl rfl ?_
    refine sv_getr X ix_X3 rfl 0 (by decide) ho rfl fl_X3_9 dX3_goOver_29 ?_
    refine sv_iconst (v := 5) X dX3_goOver_32 (by decide) ?_
    refine sv_dup2 X dX3_goOver_33 rfl rfl ?_
    refine sv_iald (j := 5) X ha (by decide) (by decide) dX3_goOver_34 ?_
    refine sv_aload_n (i := 0) X dX3_goOver_35 rfl rfl ?_
    refine sv_iload_n (i := 2) X dX3_goOver_36 rfl rfl ?_
    obtain ⟨r22, s21, hc20, hM13⟩ := fr_bP_some hM13
    refine sv_callVi X (c_X3_longOf ho ha hc20) cd_X3_longOf ml_X3_87 im_X3_longOf se_X3_longOf in_RX3 hd_X3_longOf ho rfl (by decide) rfl (Nat.le_of_ble_eq_true rfl) dX3_goOver_37 rfl ?_
    refine sv_iadd X dX3_goOver_40 ?_
    refine sv_iast (j := 5) X ha (by decide) (by decide) dX3_goOver_41 ?_
    refine sv_sig (fun s23 es23 => ?_)
    replace hM13 := fr_lete hM13 es23
    refine sv_goto (tgt := 55) X dX3_goOver_42 (by decide) ?_
    obtain rfl := fr_i1 hM13
    exact K14
theorem c_X3_goOver {l : Launch} {g : fr_G} {o : Nat} {a1 : Int32} {a2 : Int32} (ho : fr_tab[o]? = some (0, 2, [o + 1 + 1])) (ha : fr_tab[o + 1]? = some (1, 122, [])) {σ τ : fr_St} (hF : F_X3_goOver o a1 a2 σ = some τ) : fr_Cv l g yX3_goOver (fr_ws yX3_goOver cX3_goOver 3 (Option.none : Option Jvm.ClassFile.FieldType)) 2 [.ref (g.2.1 o), .int a1, .int a2] σ τ := fr_mv (by decide) (Nat.le_of_ble_eq_true rfl) (fun p e s m below meth c X hr => b_X3_goOver X hr ho ha rfl hF)
def F_X3_swapSoles (o : Nat) (a1 : Int32) (a2 : Int32) (σ : fr_St) : Option fr_St := fr_bP (F_X3_soleOf o a1 σ) (fun r3 s2 => fr_bP (F_X3_soleOf o a2 s2) (fun r6 s5 => if fr_ib ((46 : Int32) + a1) 122 = true then fr_let (fr_up s5 (o + 1) (fr_ix ((46 : Int32) + a1)) r6) (fun s8 => if fr_ib ((46 : Int32) + a2) 122 = true then fr_let (fr_up s8 (o + 1) (fr_ix ((46 : Int32) + a2)) r3) (fun s10 => some s10) else none) else none))
set_option maxRecDepth 100000 in
set_option maxHeartbeats 4000000 in
theorem b_X3_swapSoles {p : Program} {l : Launch} {e : Env} {s : State} {m : MethodId} {args : Array Value} {below : List Frame} {meth : Method} {c : Code} {g : fr_G} {Q : State → Prop} (X : fr_X p s m args meth c g cX3_swapSoles RX3 4) (hr : meth.sig.returnType = (Option.none : Option Jvm.ClassFile.FieldType)) {o : Nat} {a1 : Int32} {a2 : Int32} (ho : fr_tab[o]? = some (0, 2, [o + 1 + 1])) (ha : fr_tab[o + 1]? = some (1, 122, [])) {σ τ : fr_St} (hQ : Q = fr_Qv below args s g τ) (hF : F_X3_swapSoles o a1 a2 σ = some τ) : fr_V p l e (fr_rm 1) s m args below meth c g Q 4 σ 0 [(0, .ref (g.2.1 o)), (1, .int a1), (2, .int a2)] [] := by
  unfold F_X3_swapSoles at hF
  refine sv_aload_n (i := 0) X dX3_swapSoles_0 rfl rfl ?_
  refine sv_iload_n (i := 1) X dX3_swapSoles_1 rfl rfl ?_
  obtain ⟨r3, s2, hc1, hF⟩ := fr_bP_some hF
  refine sv_callVi X (c_X3_soleOf ho ha hc1) cd_X3_soleOf ml_X3_71 im_X3_soleOf se_X3_soleOf in_RX3 hd_X3_soleOf ho rfl (by decide) rfl (Nat.le_of_ble_eq_true rfl) dX3_swapSoles_2 rfl ?_
  refine sv_istore_n X dX3_swapSoles_5 rfl (by decide) rfl ?_
  refine sv_aload_n (i := 1) X dX3_swapSoles_6 rfl rfl ?_
  refine sv_getr X ix_X3 rfl 0 (by decide) ho rfl fl_X3_9 dX3_swapSoles_7 ?_
  refine sv_bipush (v := 46) X dX3_swapSoles_10 (by decide) ?_
  refine sv_iload_n (i := 2) X dX3_swapSoles_12 rfl rfl ?_
  refine sv_iadd X dX3_swapSoles_13 ?_
  refine sv_aload_n (i := 1) X dX3_swapSoles_14 rfl rfl ?_
  refine sv_iload_n (i := 3) X dX3_swapSoles_15 rfl rfl ?_
  obtain ⟨r6, s5, hc4, hF⟩ := fr_bP_some hF
  refine sv_callVi X (c_X3_soleOf ho ha hc4) cd_X3_soleOf ml_X3_71 im_X3_soleOf se_X3_soleOf in_RX3 hd_X3_soleOf ho rfl (by decide) rfl (Nat.le_of_ble_eq_true rfl) dX3_swapSoles_16 rfl ?_
  obtain ⟨hb7, hF⟩ := fr_chk hF
  refine sv_iast (j := (fr_ix ((46 : Int32) + a1))) X ha hb7 rfl dX3_swapSoles_19 ?_
  refine sv_sig (fun s8 es8 => ?_)
  replace hF := fr_lete hF es8
  refine sv_aload_n (i := 1) X dX3_swapSoles_20 rfl rfl ?_
  refine sv_getr X ix_X3 rfl 0 (by decide) ho rfl fl_X3_9 dX3_swapSoles_21 ?_
  refine sv_bipush (v := 46) X dX3_swapSoles_24 (by decide) ?_
  refine sv_iload_n (i := 3) X dX3_swapSoles_26 rfl rfl ?_
  refine sv_iadd X dX3_swapSoles_27 ?_
  refine sv_iload_n (i := 0) X dX3_swapSoles_28 rfl rfl ?_
  obtain ⟨hb9, hF⟩ := fr_chk hF
  refine sv_iast (j := (fr_ix ((46 : Int32) + a2))) X ha hb9 rfl dX3_swapSoles_29 ?_
  refine sv_sig (fun s10 es10 => ?_)
  replace hF := fr_lete hF es10
  exact sv_vret X hr hQ dX3_swapSoles_30 hF
theorem c_X3_swapSoles {l : Launch} {g : fr_G} {o : Nat} {a1 : Int32} {a2 : Int32} (ho : fr_tab[o]? = some (0, 2, [o + 1 + 1])) (ha : fr_tab[o + 1]? = some (1, 122, [])) {σ τ : fr_St} (hF : F_X3_swapSoles o a1 a2 σ = some τ) : fr_Cv l g yX3_swapSoles (fr_ws yX3_swapSoles cX3_swapSoles 4 (Option.none : Option Jvm.ClassFile.FieldType)) 1 [.ref (g.2.1 o), .int a1, .int a2] σ τ := fr_mv (by decide) (Nat.le_of_ble_eq_true rfl) (fun p e s m below meth c X hr => b_X3_swapSoles X hr ho ha rfl hF)
def L_X3_forgetSole_4 (o : Nat) (k1 : Int32) : Nat → Int32 → Int32 → fr_St → Option (Int32 × Int32 × fr_St)
  | 0, _, _, _ => none
  | n + 1, x2, x3, σ => fr_bP (F_X3_roads o σ) (fun r3 s2 => if r3 ≤ x3 then (some (x2, x3, s2)) else (fr_bP (F_X3_timesMet o x3 k1 s2) (fun r6 s5 => fr_bS (if r6 ≤ 0 then (some (x2)) else (fr_let (x2 + (1 : Int32)) (fun v16 => some (v16)))) (fun v7 => fr_bP (F_X3_meeting x3 k1 s5) (fun r12 s11 => if fr_ib ((50 : Int32) + r12) 122 = true then fr_let (fr_up s11 (o + 1) (fr_ix ((50 : Int32) + r12)) (0 : Int32)) (fun s14 => fr_let (x3 + (1 : Int32)) (fun v15 => L_X3_forgetSole_4 o k1 n v7 v15 s14)) else none)))))
set_option maxRecDepth 100000 in
set_option maxHeartbeats 4000000 in
theorem wL_X3_forgetSole_4 {p : Program} {l : Launch} {e : Env} {s : State} {m : MethodId} {args : Array Value} {below : List Frame} {meth : Method} {c : Code} {g : fr_G} {Q : State → Prop} (X : fr_X p s m args meth c g cX3_forgetSole RX3 4) {o : Nat} (ho : fr_tab[o]? = some (0, 2, [o + 1 + 1])) (ha : fr_tab[o + 1]? = some (1, 122, [])) (k1 : Int32) {y2 : Int32} {y3 : Int32} {τ : fr_St} (K : fr_V p l e (fr_rm 2) s m args below meth c g Q 4 τ 44 [(0, .ref (g.2.1 o)), (1, .int k1), (2, .int y2), (3, .int y3)] []) : ∀ (n : Nat) (x2 : Int32) (x3 : Int32) (σ : fr_St), L_X3_forgetSole_4 o k1 n x2 x3 σ = some (y2, y3, τ) → fr_V p l e (fr_rm 2) s m args below meth c g Q 4 σ 4 [(0, .ref (g.2.1 o)), (1, .int k1), (2, .int x2), (3, .int x3)] [] := by
  intro n
  induction n with
  | zero => intro x2 x3 σ hL; cases hL
  | succ n ih =>
    intro x2 x3 σ hL
    rw [L_X3_forgetSole_4] at hL
    refine sv_iload_n (i := 3) X dX3_forgetSole_4 rfl rfl ?_
    refine sv_aload_n (i := 0) X dX3_forgetSole_5 rfl rfl ?_
    obtain ⟨r3, s2, hc1, hL⟩ := fr_bP_some hL
    refine sv_callVi X (c_X3_roads ho ha hc1) cd_X3_roads ml_X3_29 im_X3_roads se_X3_roads in_RX3 hd_X3_roads ho rfl (by decide) rfl (Nat.le_of_ble_eq_true rfl) dX3_forgetSole_6 rfl ?_
    refine sv_icmp_ge (tgt := 44) X dX3_forgetSole_9 (by decide) (fun h18 => ?_) (fun h18 => ?_)
    · replace hL := fr_pos hL h18
      obtain ⟨rfl, rfl, rfl⟩ := fr_i3 hL
      exact K
    · replace hL := fr_neg hL h18
      refine sv_aload_n (i := 0) X dX3_forgetSole_12 rfl rfl ?_
      refine sv_iload_n (i := 3) X dX3_forgetSole_13 rfl rfl ?_
      refine sv_iload_n (i := 1) X dX3_forgetSole_14 rfl rfl ?_
      obtain ⟨r6, s5, hc4, hL⟩ := fr_bP_some hL
      refine sv_callVi X (c_X3_timesMet ho ha hc4) cd_X3_timesMet ml_X3_61 im_X3_timesMet se_X3_timesMet in_RX3 hd_X3_timesMet ho rfl (by decide) rfl (Nat.le_of_ble_eq_true rfl) dX3_forgetSole_15 rfl ?_
      obtain ⟨v7, hM8, hL⟩ := fr_bS_some hL
      have K9 : fr_V p l e (fr_rm 2) s m args below meth c g Q 4 s5 24 [(0, .ref (g.2.1 o)), (1, .int k1), (2, .int v7), (3, .int x3)] [] := by
        refine sv_aload_n (i := 0) X dX3_forgetSole_24 rfl rfl ?_
        refine sv_getr X ix_X3 rfl 0 (by decide) ho rfl fl_X3_9 dX3_forgetSole_25 ?_
        refine sv_bipush (v := 50) X dX3_forgetSole_28 (by decide) ?_
        refine sv_iload_n (i := 3) X dX3_forgetSole_30 rfl rfl ?_
        refine sv_iload_n (i := 1) X dX3_forgetSole_31 rfl rfl ?_
        obtain ⟨r12, s11, hc10, hL⟩ := fr_bP_some hL
        refine sv_callSi X (c_X3_meeting hc10) cd_X3_meeting ml_X3_46 sm_X3_meeting in_RX3 hd_X3_meeting (by decide) rfl (Nat.le_of_ble_eq_true rfl) dX3_forgetSole_32 rfl ?_
        refine sv_iadd X dX3_forgetSole_35 ?_
        refine sv_iconst (v := 0) X dX3_forgetSole_36 (by decide) ?_
        obtain ⟨hb13, hL⟩ := fr_chk hL
        refine sv_iast (j := (fr_ix ((50 : Int32) + r12))) X ha hb13 rfl dX3_forgetSole_37 ?_
        refine sv_sig (fun s14 es14 => ?_)
        replace hL := fr_lete hL es14
        obtain ⟨v15, ev15⟩ : ∃ y : Int32, y = x3 + (1 : Int32) := ⟨_, rfl⟩
        replace hL := fr_lete hL ev15
        refine sv_iinc (i := 3) (v := v15) X dX3_forgetSole_38 rfl (by rw [ev15]; rfl) (by decide) rfl ?_
        refine sv_goto (tgt := 4) X dX3_forgetSole_41 (by decide) ?_
        exact sv_perm [1, 2, 3, 0] rfl (ih _ _ _ hL)
      refine sv_if_le (tgt := 24) X dX3_forgetSole_18 (by decide) (fun h17 => ?_) (fun h17 => ?_)
      · replace hM8 := fr_pos hM8 h17
        obtain rfl := fr_i1 hM8
        exact K9
      · replace hM8 := fr_neg hM8 h17
        obtain ⟨v16, ev16⟩ : ∃ y : Int32, y = x2 + (1 : Int32) := ⟨_, rfl⟩
        replace hM8 := fr_lete hM8 ev16
        refine sv_iinc (i := 2) (v := v16) X dX3_forgetSole_21 rfl (by rw [ev16]; rfl) (by decide) rfl ?_
        obtain rfl := fr_i1 hM8
        exact sv_perm [1, 2, 0, 3] rfl K9
def F_X3_forgetSole (o : Nat) (a1 : Int32) (σ : fr_St) : Option (Int32 × fr_St) := fr_bP (L_X3_forgetSole_4 o a1 fr_fu (0 : Int32) (0 : Int32) σ) (fun v1 q5 => fr_pP q5 (fun v2 s3 => some (v1, s3)))
set_option maxRecDepth 100000 in
set_option maxHeartbeats 4000000 in
theorem b_X3_forgetSole {p : Program} {l : Launch} {e : Env} {s : State} {m : MethodId} {args : Array Value} {below : List Frame} {meth : Method} {c : Code} {g : fr_G} {Q : State → Prop} (X : fr_X p s m args meth c g cX3_forgetSole RX3 4) (hr : meth.sig.returnType = (some .int)) {o : Nat} {a1 : Int32} (ho : fr_tab[o]? = some (0, 2, [o + 1 + 1])) (ha : fr_tab[o + 1]? = some (1, 122, [])) {σ τ : fr_St} {r : Int32} (hQ : Q = fr_Qi below args s g r τ) (hF : F_X3_forgetSole o a1 σ = some (r, τ)) : fr_V p l e (fr_rm 2) s m args below meth c g Q 4 σ 0 [(0, .ref (g.2.1 o)), (1, .int a1)] [] := by
  unfold F_X3_forgetSole at hF
  refine sv_iconst (v := 0) X dX3_forgetSole_0 (by decide) ?_
  refine sv_istore_n X dX3_forgetSole_1 rfl (by decide) rfl ?_
  refine sv_iconst (v := 0) X dX3_forgetSole_2 (by decide) ?_
  refine sv_istore_n X dX3_forgetSole_3 rfl (by decide) rfl ?_
  refine sv_perm [2, 3, 1, 0] rfl ?_
  obtain ⟨v1, ⟨v2, s3⟩, hl4, hF⟩ := fr_bP_some hF
  dsimp only [fr_pP] at hF
  refine wL_X3_forgetSole_4 X ho ha a1 ?_ fr_fu _ _ _ hl4
  refine sv_iload_n (i := 2) X dX3_forgetSole_44 rfl rfl ?_
  exact sv_iret X hr hQ dX3_forgetSole_45 hF
theorem c_X3_forgetSole {l : Launch} {g : fr_G} {o : Nat} {a1 : Int32} (ho : fr_tab[o]? = some (0, 2, [o + 1 + 1])) (ha : fr_tab[o + 1]? = some (1, 122, [])) {σ τ : fr_St} {r : Int32} (hF : F_X3_forgetSole o a1 σ = some (r, τ)) : fr_Ci l g yX3_forgetSole (fr_ws yX3_forgetSole cX3_forgetSole 4 (some .int)) 2 [.ref (g.2.1 o), .int a1] σ r τ := fr_mi (by decide) (Nat.le_of_ble_eq_true rfl) (fun p e s m below meth c X hr => b_X3_forgetSole X hr ho ha rfl hF)
def F_X3_nextDay (o : Nat) (σ : fr_St) : Option fr_St := fr_let (fr_up σ (o + 1) 4 ((σ (o + 1) 4) + (1 : Int32))) (fun s1 => some s1)
set_option maxRecDepth 100000 in
set_option maxHeartbeats 4000000 in
theorem b_X3_nextDay {p : Program} {l : Launch} {e : Env} {s : State} {m : MethodId} {args : Array Value} {below : List Frame} {meth : Method} {c : Code} {g : fr_G} {Q : State → Prop} (X : fr_X p s m args meth c g cX3_nextDay RX3 1) (hr : meth.sig.returnType = (Option.none : Option Jvm.ClassFile.FieldType)) {o : Nat} (ho : fr_tab[o]? = some (0, 2, [o + 1 + 1])) (ha : fr_tab[o + 1]? = some (1, 122, [])) {σ τ : fr_St} (hQ : Q = fr_Qv below args s g τ) (hF : F_X3_nextDay o σ = some τ) : fr_V p l e (fr_rm 0) s m args below meth c g Q 1 σ 0 [(0, .ref (g.2.1 o))] [] := by
  unfold F_X3_nextDay at hF
  refine sv_aload_n (i := 0) X dX3_nextDay_0 rfl rfl ?_
  refine sv_getr X ix_X3 rfl 0 (by decide) ho rfl fl_X3_9 dX3_nextDay_1 ?_
  refine sv_iconst (v := 4) X dX3_nextDay_4 (by decide) ?_
  refine sv_dup2 X dX3_nextDay_5 rfl rfl ?_
  refine sv_iald (j := 4) X ha (by decide) (by decide) dX3_nextDay_6 ?_
  refine sv_iconst (v := 1) X dX3_nextDay_7 (by decide) ?_
  refine sv_iadd X dX3_nextDay_8 ?_
  refine sv_iast (j := 4) X ha (by decide) (by decide) dX3_nextDay_9 ?_
  refine sv_sig (fun s1 es1 => ?_)
  replace hF := fr_lete hF es1
  exact sv_vret X hr hQ dX3_nextDay_10 hF
theorem c_X3_nextDay {l : Launch} {g : fr_G} {o : Nat} (ho : fr_tab[o]? = some (0, 2, [o + 1 + 1])) (ha : fr_tab[o + 1]? = some (1, 122, [])) {σ τ : fr_St} (hF : F_X3_nextDay o σ = some τ) : fr_Cv l g yX3_nextDay (fr_ws yX3_nextDay cX3_nextDay 1 (Option.none : Option Jvm.ClassFile.FieldType)) 0 [.ref (g.2.1 o)] σ τ := fr_mv (by decide) (Nat.le_of_ble_eq_true rfl) (fun p e s m below meth c X hr => b_X3_nextDay X hr ho ha rfl hF)
def F_X3_giveLaw (o : Nat) (a1 : Int32) (a2 : Int32) (σ : fr_St) : Option fr_St := fr_let (fr_up σ (o + 1) 0 a1) (fun s1 => fr_let (fr_up s1 (o + 1) 1 a2) (fun s2 => some s2))
set_option maxRecDepth 100000 in
set_option maxHeartbeats 4000000 in
theorem b_X3_giveLaw {p : Program} {l : Launch} {e : Env} {s : State} {m : MethodId} {args : Array Value} {below : List Frame} {meth : Method} {c : Code} {g : fr_G} {Q : State → Prop} (X : fr_X p s m args meth c g cX3_giveLaw RX3 3) (hr : meth.sig.returnType = (Option.none : Option Jvm.ClassFile.FieldType)) {o : Nat} {a1 : Int32} {a2 : Int32} (ho : fr_tab[o]? = some (0, 2, [o + 1 + 1])) (ha : fr_tab[o + 1]? = some (1, 122, [])) {σ τ : fr_St} (hQ : Q = fr_Qv below args s g τ) (hF : F_X3_giveLaw o a1 a2 σ = some τ) : fr_V p l e (fr_rm 0) s m args below meth c g Q 3 σ 0 [(0, .ref (g.2.1 o)), (1, .int a1), (2, .int a2)] [] := by
  unfold F_X3_giveLaw at hF
  refine sv_aload_n (i := 0) X dX3_giveLaw_0 rfl rfl ?_
  refine sv_getr X ix_X3 rfl 0 (by decide) ho rfl fl_X3_9 dX3_giveLaw_1 ?_
  refine sv_iconst (v := 0) X dX3_giveLaw_4 (by decide) ?_
  refine sv_iload_n (i := 1) X dX3_giveLaw_5 rfl rfl ?_
  refine sv_iast (j := 0) X ha (by decide) (by decide) dX3_giveLaw_6 ?_
  refine sv_sig (fun s1 es1 => ?_)
  replace hF := fr_lete hF es1
  refine sv_aload_n (i := 0) X dX3_giveLaw_7 rfl rfl ?_
  refine sv_getr X ix_X3 rfl 0 (by decide) ho rfl fl_X3_9 dX3_giveLaw_8 ?_
  refine sv_iconst (v := 1) X dX3_giveLaw_11 (by decide) ?_
  refine sv_iload_n (i := 2) X dX3_giveLaw_12 rfl rfl ?_
  refine sv_iast (j := 1) X ha (by decide) (by decide) dX3_giveLaw_13 ?_
  refine sv_sig (fun s2 es2 => ?_)
  replace hF := fr_lete hF es2
  exact sv_vret X hr hQ dX3_giveLaw_14 hF
theorem c_X3_giveLaw {l : Launch} {g : fr_G} {o : Nat} {a1 : Int32} {a2 : Int32} (ho : fr_tab[o]? = some (0, 2, [o + 1 + 1])) (ha : fr_tab[o + 1]? = some (1, 122, [])) {σ τ : fr_St} (hF : F_X3_giveLaw o a1 a2 σ = some τ) : fr_Cv l g yX3_giveLaw (fr_ws yX3_giveLaw cX3_giveLaw 3 (Option.none : Option Jvm.ClassFile.FieldType)) 0 [.ref (g.2.1 o), .int a1, .int a2] σ τ := fr_mv (by decide) (Nat.le_of_ble_eq_true rfl) (fun p e s m below meth c X hr => b_X3_giveLaw X hr ho ha rfl hF)
def F_X3_addRoad (o : Nat) (a1 : Int32) (a2 : Int32) (a3 : Int32) (a4 : Int32) (σ : fr_St) : Option fr_St := fr_bP (F_X3_roads o σ) (fun r3 s2 => if r3 < (9 : Int32) then (if fr_ib ((6 : Int32) + r3) 122 = true then fr_let (fr_up s2 (o + 1) (fr_ix ((6 : Int32) + r3)) a1) (fun s5 => if fr_ib ((15 : Int32) + r3) 122 = true then fr_let (fr_up s5 (o + 1) (fr_ix ((15 : Int32) + r3)) a2) (fun s7 => if fr_ib ((24 : Int32) + r3) 122 = true then fr_let (fr_up s7 (o + 1) (fr_ix ((24 : Int32) + r3)) a3) (fun s9 => if fr_ib ((33 : Int32) + r3) 122 = true then fr_let (fr_up s9 (o + 1) (fr_ix ((33 : Int32) + r3)) a4) (fun s11 => fr_let (fr_up s11 (o + 1) 2 ((s11 (o + 1) 2) + (1 : Int32))) (fun s12 => some s12)) else none) else none) else none) else none) else (some s2))
set_option maxRecDepth 100000 in
set_option maxHeartbeats 4000000 in
theorem b_X3_addRoad {p : Program} {l : Launch} {e : Env} {s : State} {m : MethodId} {args : Array Value} {below : List Frame} {meth : Method} {c : Code} {g : fr_G} {Q : State → Prop} (X : fr_X p s m args meth c g cX3_addRoad RX3 6) (hr : meth.sig.returnType = (Option.none : Option Jvm.ClassFile.FieldType)) {o : Nat} {a1 : Int32} {a2 : Int32} {a3 : Int32} {a4 : Int32} (ho : fr_tab[o]? = some (0, 2, [o + 1 + 1])) (ha : fr_tab[o + 1]? = some (1, 122, [])) {σ τ : fr_St} (hQ : Q = fr_Qv below args s g τ) (hF : F_X3_addRoad o a1 a2 a3 a4 σ = some τ) : fr_V p l e (fr_rm 1) s m args below meth c g Q 6 σ 0 [(0, .ref (g.2.1 o)), (1, .int a1), (2, .int a2), (3, .int a3), (4, .int a4)] [] := by
  unfold F_X3_addRoad at hF
  refine sv_aload_n (i := 0) X dX3_addRoad_0 rfl rfl ?_
  obtain ⟨r3, s2, hc1, hF⟩ := fr_bP_some hF
  refine sv_callVi X (c_X3_roads ho ha hc1) cd_X3_roads ml_X3_29 im_X3_roads se_X3_roads in_RX3 hd_X3_roads ho rfl (by decide) rfl (Nat.le_of_ble_eq_true rfl) dX3_addRoad_1 rfl ?_
  refine sv_istore X dX3_addRoad_4 (by decide) rfl ?_
  refine sv_iload (i := 0) X dX3_addRoad_6 rfl ?_
  refine sv_bipush (v := 9) X dX3_addRoad_8 (by decide) ?_
  refine sv_icmp_lt (tgt := 14) X dX3_addRoad_10 (by decide) (fun h13 => ?_) (fun h13 => ?_)
  · replace hF := fr_pos hF h13
    refine sv_aload_n (i := 1) X dX3_addRoad_14 rfl rfl ?_
    refine sv_getr X ix_X3 rfl 0 (by decide) ho rfl fl_X3_9 dX3_addRoad_15 ?_
    refine sv_bipush (v := 6) X dX3_addRoad_18 (by decide) ?_
    refine sv_iload (i := 0) X dX3_addRoad_20 rfl ?_
    refine sv_iadd X dX3_addRoad_22 ?_
    refine sv_iload_n (i := 2) X dX3_addRoad_23 rfl rfl ?_
    obtain ⟨hb4, hF⟩ := fr_chk hF
    refine sv_iast (j := (fr_ix ((6 : Int32) + r3))) X ha hb4 rfl dX3_addRoad_24 ?_
    refine sv_sig (fun s5 es5 => ?_)
    replace hF := fr_lete hF es5
    refine sv_aload_n (i := 1) X dX3_addRoad_25 rfl rfl ?_
    refine sv_getr X ix_X3 rfl 0 (by decide) ho rfl fl_X3_9 dX3_addRoad_26 ?_
    refine sv_bipush (v := 15) X dX3_addRoad_29 (by decide) ?_
    refine sv_iload (i := 0) X dX3_addRoad_31 rfl ?_
    refine sv_iadd X dX3_addRoad_33 ?_
    refine sv_iload_n (i := 3) X dX3_addRoad_34 rfl rfl ?_
    obtain ⟨hb6, hF⟩ := fr_chk hF
    refine sv_iast (j := (fr_ix ((15 : Int32) + r3))) X ha hb6 rfl dX3_addRoad_35 ?_
    refine sv_sig (fun s7 es7 => ?_)
    replace hF := fr_lete hF es7
    refine sv_aload_n (i := 1) X dX3_addRoad_36 rfl rfl ?_
    refine sv_getr X ix_X3 rfl 0 (by decide) ho rfl fl_X3_9 dX3_addRoad_37 ?_
    refine sv_bipush (v := 24) X dX3_addRoad_40 (by decide) ?_
    refine sv_iload (i := 0) X dX3_addRoad_42 rfl ?_
    refine sv_iadd X dX3_addRoad_44 ?_
    refine sv_iload_n (i := 4) X dX3_addRoad_45 rfl rfl ?_
    obtain ⟨hb8, hF⟩ := fr_chk hF
    refine sv_iast (j := (fr_ix ((24 : Int32) + r3))) X ha hb8 rfl dX3_addRoad_46 ?_
    refine sv_sig (fun s9 es9 => ?_)
    replace hF := fr_lete hF es9
    refine sv_aload_n (i := 1) X dX3_addRoad_47 rfl rfl ?_
    refine sv_getr X ix_X3 rfl 0 (by decide) ho rfl fl_X3_9 dX3_addRoad_48 ?_
    refine sv_bipush (v := 33) X dX3_addRoad_51 (by decide) ?_
    refine sv_iload (i := 0) X dX3_addRoad_53 rfl ?_
    refine sv_iadd X dX3_addRoad_55 ?_
    refine sv_iload (i := 5) X dX3_addRoad_56 rfl ?_
    obtain ⟨hb10, hF⟩ := fr_chk hF
    refine sv_iast (j := (fr_ix ((33 : Int32) + r3))) X ha hb10 rfl dX3_addRoad_58 ?_
    refine sv_sig (fun s11 es11 => ?_)
    replace hF := fr_lete hF es11
    refine sv_aload_n (i := 1) X dX3_addRoad_59 rfl rfl ?_
    refine sv_getr X ix_X3 rfl 0 (by decide) ho rfl fl_X3_9 dX3_addRoad_60 ?_
    refine sv_iconst (v := 2) X dX3_addRoad_63 (by decide) ?_
    refine sv_dup2 X dX3_addRoad_64 rfl rfl ?_
    refine sv_iald (j := 2) X ha (by decide) (by decide) dX3_addRoad_65 ?_
    refine sv_iconst (v := 1) X dX3_addRoad_66 (by decide) ?_
    refine sv_iadd X dX3_addRoad_67 ?_
    refine sv_iast (j := 2) X ha (by decide) (by decide) dX3_addRoad_68 ?_
    refine sv_sig (fun s12 es12 => ?_)
    replace hF := fr_lete hF es12
    exact sv_vret X hr hQ dX3_addRoad_69 hF
  · replace hF := fr_neg hF h13
    exact sv_vret X hr hQ dX3_addRoad_13 hF
theorem c_X3_addRoad {l : Launch} {g : fr_G} {o : Nat} {a1 : Int32} {a2 : Int32} {a3 : Int32} {a4 : Int32} (ho : fr_tab[o]? = some (0, 2, [o + 1 + 1])) (ha : fr_tab[o + 1]? = some (1, 122, [])) {σ τ : fr_St} (hF : F_X3_addRoad o a1 a2 a3 a4 σ = some τ) : fr_Cv l g yX3_addRoad (fr_ws yX3_addRoad cX3_addRoad 6 (Option.none : Option Jvm.ClassFile.FieldType)) 1 [.ref (g.2.1 o), .int a1, .int a2, .int a3, .int a4] σ τ := fr_mv (by decide) (Nat.le_of_ble_eq_true rfl) (fun p e s m below meth c X hr => b_X3_addRoad X hr ho ha rfl hF)
def L_X3_addPerson_44 (o : Nat) (k2 : Int32) (k3 : Int32) : Nat → Int32 → fr_St → Option (Int32 × fr_St)
  | 0, _, _ => none
  | n + 1, x4, σ => fr_bP (F_X3_roads o σ) (fun r3 s2 => if r3 ≤ x4 then (some (x4, s2)) else (fr_bS (if ((k2 >>> (x4 &&& 31)) &&& (1 : Int32)) = (1 : Int32) then (fr_bP (F_X3_kindOf o x4 s2) (fun r10 s9 => if r10 = (5 : Int32) then (some (s9)) else (fr_bS (F_X3_meetToday o x4 k3 s9) (fun s12 => fr_bS (F_X3_meetToday o x4 k3 s12) (fun s14 => some (s14)))))) else (some (s2))) (fun s4 => fr_let (x4 + (1 : Int32)) (fun v7 => L_X3_addPerson_44 o k2 k3 n v7 s4))))
set_option maxRecDepth 100000 in
set_option maxHeartbeats 4000000 in
theorem wL_X3_addPerson_44 {p : Program} {l : Launch} {e : Env} {s : State} {m : MethodId} {args : Array Value} {below : List Frame} {meth : Method} {c : Code} {g : fr_G} {Q : State → Prop} (X : fr_X p s m args meth c g cX3_addPerson RX3 5) {o : Nat} (ho : fr_tab[o]? = some (0, 2, [o + 1 + 1])) (ha : fr_tab[o + 1]? = some (1, 122, [])) (k1 : Int32) (k2 : Int32) (k3 : Int32) {y4 : Int32} {τ : fr_St} (K : fr_V p l e (fr_rm 2) s m args below meth c g Q 5 τ 93 [(0, .ref (g.2.1 o)), (1, .int k1), (2, .int k2), (3, .int k3), (4, .int y4)] []) : ∀ (n : Nat) (x4 : Int32) (σ : fr_St), L_X3_addPerson_44 o k2 k3 n x4 σ = some (y4, τ) → fr_V p l e (fr_rm 2) s m args below meth c g Q 5 σ 44 [(0, .ref (g.2.1 o)), (1, .int k1), (2, .int k2), (3, .int k3), (4, .int x4)] [] := by
  intro n
  induction n with
  | zero => intro x4 σ hL; cases hL
  | succ n ih =>
    intro x4 σ hL
    rw [L_X3_addPerson_44] at hL
    refine sv_iload (i := 4) X dX3_addPerson_44 rfl ?_
    refine sv_aload_n (i := 0) X dX3_addPerson_46 rfl rfl ?_
    obtain ⟨r3, s2, hc1, hL⟩ := fr_bP_some hL
    refine sv_callVi X (c_X3_roads ho ha hc1) cd_X3_roads ml_X3_29 im_X3_roads se_X3_roads in_RX3 hd_X3_roads ho rfl (by decide) rfl (Nat.le_of_ble_eq_true rfl) dX3_addPerson_47 rfl ?_
    refine sv_icmp_ge (tgt := 93) X dX3_addPerson_50 (by decide) (fun h17 => ?_) (fun h17 => ?_)
    · replace hL := fr_pos hL h17
      obtain ⟨rfl, rfl⟩ := fr_i2 hL
      exact K
    · replace hL := fr_neg hL h17
      refine sv_iload_n (i := 2) X dX3_addPerson_53 rfl rfl ?_
      refine sv_iload (i := 4) X dX3_addPerson_54 rfl ?_
      refine sv_ishr X dX3_addPerson_56 ?_
      refine sv_iconst (v := 1) X dX3_addPerson_57 (by decide) ?_
      refine sv_iand X dX3_addPerson_58 ?_
      refine sv_iconst (v := 1) X dX3_addPerson_59 (by decide) ?_
      obtain ⟨s4, hM5, hL⟩ := fr_bS_some hL
      have K6 : fr_V p l e (fr_rm 2) s m args below meth c g Q 5 s4 87 [(0, .ref (g.2.1 o)), (1, .int k1), (2, .int k2), (3, .int k3), (4, .int x4)] [] := by
        obtain ⟨v7, ev7⟩ : ∃ y : Int32, y = x4 + (1 : Int32) := ⟨_, rfl⟩
        replace hL := fr_lete hL ev7
        refine sv_iinc (i := 4) (v := v7) X dX3_addPerson_87 rfl (by rw [ev7]; rfl) (by decide) rfl ?_
        refine sv_goto (tgt := 44) X dX3_addPerson_90 (by decide) ?_
        exact sv_perm [1, 2, 3, 4, 0] rfl (ih _ _ hL)
      refine sv_icmp_ne (tgt := 87) X dX3_addPerson_60 (by decide) (fun h16 => ?_) (fun h16 => ?_)
      · replace hM5 := fr_neg hM5 h16
        obtain rfl := fr_i1 hM5
        exact K6
      · replace hM5 := fr_pos hM5 h16
        refine sv_aload_n (i := 0) X dX3_addPerson_63 rfl rfl ?_
        refine sv_iload (i := 4) X dX3_addPerson_64 rfl ?_
        obtain ⟨r10, s9, hc8, hM5⟩ := fr_bP_some hM5
        refine sv_callVi X (c_X3_kindOf ho ha hc8) cd_X3_kindOf ml_X3_50 im_X3_kindOf se_X3_kindOf in_RX3 hd_X3_kindOf ho rfl (by decide) rfl (Nat.le_of_ble_eq_true rfl) dX3_addPerson_66 rfl ?_
        refine sv_iconst (v := 5) X dX3_addPerson_69 (by decide) ?_
        refine sv_icmp_eq (tgt := 87) X dX3_addPerson_70 (by decide) (fun h15 => ?_) (fun h15 => ?_)
        · replace hM5 := fr_pos hM5 h15
          obtain rfl := fr_i1 hM5
          exact K6
        · replace hM5 := fr_neg hM5 h15
          refine sv_aload_n (i := 0) X dX3_addPerson_73 rfl rfl ?_
          refine sv_iload (i := 4) X dX3_addPerson_74 rfl ?_
          refine sv_iload_n (i := 3) X dX3_addPerson_76 rfl rfl ?_
          obtain ⟨s12, hc11, hM5⟩ := fr_bS_some hM5
          refine sv_callVv X (c_X3_meetToday ho ha hc11) cd_X3_meetToday ml_X3_90 im_X3_meetToday se_X3_meetToday in_RX3 hd_X3_meetToday ho rfl (by decide) rfl (Nat.le_of_ble_eq_true rfl) dX3_addPerson_77 rfl ?_
          refine sv_aload_n (i := 0) X dX3_addPerson_80 rfl rfl ?_
          refine sv_iload (i := 4) X dX3_addPerson_81 rfl ?_
          refine sv_iload_n (i := 3) X dX3_addPerson_83 rfl rfl ?_
          obtain ⟨s14, hc13, hM5⟩ := fr_bS_some hM5
          refine sv_callVv X (c_X3_meetToday ho ha hc13) cd_X3_meetToday ml_X3_90 im_X3_meetToday se_X3_meetToday in_RX3 hd_X3_meetToday ho rfl (by decide) rfl (Nat.le_of_ble_eq_true rfl) dX3_addPerson_84 rfl ?_
          obtain rfl := fr_i1 hM5
          exact K6
def F_X3_addPerson (o : Nat) (a1 : Int32) (a2 : Int32) (σ : fr_St) : Option fr_St := fr_bP (F_X3_people o σ) (fun r3 s2 => if r3 < (4 : Int32) then (if fr_ib ((42 : Int32) + r3) 122 = true then fr_let (fr_up s2 (o + 1) (fr_ix ((42 : Int32) + r3)) a1) (fun s5 => if fr_ib ((46 : Int32) + r3) 122 = true then fr_let (fr_up s5 (o + 1) (fr_ix ((46 : Int32) + r3)) r3) (fun s7 => fr_let (fr_up s7 (o + 1) 3 ((s7 (o + 1) 3) + (1 : Int32))) (fun s8 => fr_bP (L_X3_addPerson_44 o a2 r3 fr_fu (0 : Int32) s8) (fun v9 s10 => some s10))) else none) else none) else (some s2))
set_option maxRecDepth 100000 in
set_option maxHeartbeats 4000000 in
theorem b_X3_addPerson {p : Program} {l : Launch} {e : Env} {s : State} {m : MethodId} {args : Array Value} {below : List Frame} {meth : Method} {c : Code} {g : fr_G} {Q : State → Prop} (X : fr_X p s m args meth c g cX3_addPerson RX3 5) (hr : meth.sig.returnType = (Option.none : Option Jvm.ClassFile.FieldType)) {o : Nat} {a1 : Int32} {a2 : Int32} (ho : fr_tab[o]? = some (0, 2, [o + 1 + 1])) (ha : fr_tab[o + 1]? = some (1, 122, [])) {σ τ : fr_St} (hQ : Q = fr_Qv below args s g τ) (hF : F_X3_addPerson o a1 a2 σ = some τ) : fr_V p l e (fr_rm 2) s m args below meth c g Q 5 σ 0 [(0, .ref (g.2.1 o)), (1, .int a1), (2, .int a2)] [] := by
  unfold F_X3_addPerson at hF
  refine sv_aload_n (i := 0) X dX3_addPerson_0 rfl rfl ?_
  obtain ⟨r3, s2, hc1, hF⟩ := fr_bP_some hF
  refine sv_callVi X (c_X3_people ho ha hc1) cd_X3_people ml_X3_32 im_X3_people se_X3_people in_RX3 hd_X3_people ho rfl (by decide) rfl (Nat.le_of_ble_eq_true rfl) dX3_addPerson_1 rfl ?_
  refine sv_istore_n X dX3_addPerson_4 rfl (by decide) rfl ?_
  refine sv_iload_n (i := 0) X dX3_addPerson_5 rfl rfl ?_
  refine sv_iconst (v := 4) X dX3_addPerson_6 (by decide) ?_
  refine sv_icmp_lt (tgt := 11) X dX3_addPerson_7 (by decide) (fun h12 => ?_) (fun h12 => ?_)
  · replace hF := fr_pos hF h12
    refine sv_aload_n (i := 1) X dX3_addPerson_11 rfl rfl ?_
    refine sv_getr X ix_X3 rfl 0 (by decide) ho rfl fl_X3_9 dX3_addPerson_12 ?_
    refine sv_bipush (v := 42) X dX3_addPerson_15 (by decide) ?_
    refine sv_iload_n (i := 0) X dX3_addPerson_17 rfl rfl ?_
    refine sv_iadd X dX3_addPerson_18 ?_
    refine sv_iload_n (i := 2) X dX3_addPerson_19 rfl rfl ?_
    obtain ⟨hb4, hF⟩ := fr_chk hF
    refine sv_iast (j := (fr_ix ((42 : Int32) + r3))) X ha hb4 rfl dX3_addPerson_20 ?_
    refine sv_sig (fun s5 es5 => ?_)
    replace hF := fr_lete hF es5
    refine sv_aload_n (i := 1) X dX3_addPerson_21 rfl rfl ?_
    refine sv_getr X ix_X3 rfl 0 (by decide) ho rfl fl_X3_9 dX3_addPerson_22 ?_
    refine sv_bipush (v := 46) X dX3_addPerson_25 (by decide) ?_
    refine sv_iload_n (i := 0) X dX3_addPerson_27 rfl rfl ?_
    refine sv_iadd X dX3_addPerson_28 ?_
    refine sv_iload_n (i := 0) X dX3_addPerson_29 rfl rfl ?_
    obtain ⟨hb6, hF⟩ := fr_chk hF
    refine sv_iast (j := (fr_ix ((46 : Int32) + r3))) X ha hb6 rfl dX3_addPerson_30 ?_
    refine sv_sig (fun s7 es7 => ?_)
    replace hF := fr_lete hF es7
    refine sv_aload_n (i := 1) X dX3_addPerson_31 rfl rfl ?_
    refine sv_getr X ix_X3 rfl 0 (by decide) ho rfl fl_X3_9 dX3_addPerson_32 ?_
    refine sv_iconst (v := 3) X dX3_addPerson_35 (by decide) ?_
    refine sv_dup2 X dX3_addPerson_36 rfl rfl ?_
    refine sv_iald (j := 3) X ha (by decide) (by decide) dX3_addPerson_37 ?_
    refine sv_iconst (v := 1) X dX3_addPerson_38 (by decide) ?_
    refine sv_iadd X dX3_addPerson_39 ?_
    refine sv_iast (j := 3) X ha (by decide) (by decide) dX3_addPerson_40 ?_
    refine sv_sig (fun s8 es8 => ?_)
    replace hF := fr_lete hF es8
    refine sv_iconst (v := 0) X dX3_addPerson_41 (by decide) ?_
    refine sv_istore X dX3_addPerson_42 (by decide) rfl ?_
    refine sv_perm [2, 3, 4, 1, 0] rfl ?_
    obtain ⟨v9, s10, hl11, hF⟩ := fr_bP_some hF
    refine wL_X3_addPerson_44 X ho ha a1 a2 r3 ?_ fr_fu _ _ hl11
    exact sv_vret X hr hQ dX3_addPerson_93 hF
  · replace hF := fr_neg hF h12
    exact sv_vret X hr hQ dX3_addPerson_10 hF
theorem c_X3_addPerson {l : Launch} {g : fr_G} {o : Nat} {a1 : Int32} {a2 : Int32} (ho : fr_tab[o]? = some (0, 2, [o + 1 + 1])) (ha : fr_tab[o + 1]? = some (1, 122, [])) {σ τ : fr_St} (hF : F_X3_addPerson o a1 a2 σ = some τ) : fr_Cv l g yX3_addPerson (fr_ws yX3_addPerson cX3_addPerson 5 (Option.none : Option Jvm.ClassFile.FieldType)) 2 [.ref (g.2.1 o), .int a1, .int a2] σ τ := fr_mv (by decide) (Nat.le_of_ble_eq_true rfl) (fun p e s m below meth c X hr => b_X3_addPerson X hr ho ha rfl hF)
def F_J6_bitCount_0f7a4 (a1 : Int32) (σ : fr_St) : Option (Int32 × fr_St) := fr_let ((a1 - (((a1.toUInt32 >>> ((1 : Int32).toUInt32 &&& Int32.toUInt32 31)).toInt32) &&& (1431655765 : Int32)))) (fun v1 => fr_let (((v1 &&& (858993459 : Int32)) + (((v1.toUInt32 >>> ((2 : Int32).toUInt32 &&& Int32.toUInt32 31)).toInt32) &&& (858993459 : Int32)))) (fun v2 => fr_let (((v2 + ((v2.toUInt32 >>> ((4 : Int32).toUInt32 &&& Int32.toUInt32 31)).toInt32)) &&& (252645135 : Int32))) (fun v3 => fr_let ((v3 + ((v3.toUInt32 >>> ((8 : Int32).toUInt32 &&& Int32.toUInt32 31)).toInt32))) (fun v4 => fr_let ((v4 + ((v4.toUInt32 >>> ((16 : Int32).toUInt32 &&& Int32.toUInt32 31)).toInt32))) (fun v5 => some ((v5 &&& (63 : Int32)), σ))))))
set_option maxRecDepth 100000 in
set_option maxHeartbeats 4000000 in
theorem b_J6_bitCount_0f7a4 {p : Program} {l : Launch} {e : Env} {s : State} {m : MethodId} {args : Array Value} {below : List Frame} {meth : Method} {c : Code} {g : fr_G} {Q : State → Prop} (X : fr_X p s m args meth c g cJ6_bitCount_0f7a4 RJ6 1) (hr : meth.sig.returnType = (some .int)) {a1 : Int32}  {σ τ : fr_St} {r : Int32} (hQ : Q = fr_Qi below args s g r τ) (hF : F_J6_bitCount_0f7a4 a1 σ = some (r, τ)) : fr_V p l e (fr_rm 0) s m args below meth c g Q 1 σ 0 [(0, .int a1)] [] := by
  unfold F_J6_bitCount_0f7a4 at hF
  refine sv_iload_n (i := 0) X dJ6_bitCount_0f7a4_0 rfl rfl ?_
  refine sv_iload_n (i := 0) X dJ6_bitCount_0f7a4_1 rfl rfl ?_
  refine sv_iconst (v := 1) X dJ6_bitCount_0f7a4_2 (by decide) ?_
  refine sv_iushr X dJ6_bitCount_0f7a4_3 ?_
  refine sv_ldc_w X kn_J6_265 dJ6_bitCount_0f7a4_4 ?_
  refine sv_iand X dJ6_bitCount_0f7a4_7 ?_
  refine sv_isub X dJ6_bitCount_0f7a4_8 ?_
  refine sv_topi (fun v1 ev1 => ?_)
  replace hF := fr_lete hF ev1
  refine sv_istore_n X dJ6_bitCount_0f7a4_9 rfl (by decide) rfl ?_
  refine sv_iload_n (i := 0) X dJ6_bitCount_0f7a4_10 rfl rfl ?_
  refine sv_ldc_w X kn_J6_266 dJ6_bitCount_0f7a4_11 ?_
  refine sv_iand X dJ6_bitCount_0f7a4_14 ?_
  refine sv_iload_n (i := 0) X dJ6_bitCount_0f7a4_15 rfl rfl ?_
  refine sv_iconst (v := 2) X dJ6_bitCount_0f7a4_16 (by decide) ?_
  refine sv_iushr X dJ6_bitCount_0f7a4_17 ?_
  refine sv_ldc_w X kn_J6_266 dJ6_bitCount_0f7a4_18 ?_
  refine sv_iand X dJ6_bitCount_0f7a4_21 ?_
  refine sv_iadd X dJ6_bitCount_0f7a4_22 ?_
  refine sv_topi (fun v2 ev2 => ?_)
  replace hF := fr_lete hF ev2
  refine sv_istore_n X dJ6_bitCount_0f7a4_23 rfl (by decide) rfl ?_
  refine sv_iload_n (i := 0) X dJ6_bitCount_0f7a4_24 rfl rfl ?_
  refine sv_iload_n (i := 0) X dJ6_bitCount_0f7a4_25 rfl rfl ?_
  refine sv_iconst (v := 4) X dJ6_bitCount_0f7a4_26 (by decide) ?_
  refine sv_iushr X dJ6_bitCount_0f7a4_27 ?_
  refine sv_iadd X dJ6_bitCount_0f7a4_28 ?_
  refine sv_ldc_w X kn_J6_267 dJ6_bitCount_0f7a4_29 ?_
  refine sv_iand X dJ6_bitCount_0f7a4_32 ?_
  refine sv_topi (fun v3 ev3 => ?_)
  replace hF := fr_lete hF ev3
  refine sv_istore_n X dJ6_bitCount_0f7a4_33 rfl (by decide) rfl ?_
  refine sv_iload_n (i := 0) X dJ6_bitCount_0f7a4_34 rfl rfl ?_
  refine sv_iload_n (i := 0) X dJ6_bitCount_0f7a4_35 rfl rfl ?_
  refine sv_bipush (v := 8) X dJ6_bitCount_0f7a4_36 (by decide) ?_
  refine sv_iushr X dJ6_bitCount_0f7a4_38 ?_
  refine sv_iadd X dJ6_bitCount_0f7a4_39 ?_
  refine sv_topi (fun v4 ev4 => ?_)
  replace hF := fr_lete hF ev4
  refine sv_istore_n X dJ6_bitCount_0f7a4_40 rfl (by decide) rfl ?_
  refine sv_iload_n (i := 0) X dJ6_bitCount_0f7a4_41 rfl rfl ?_
  refine sv_iload_n (i := 0) X dJ6_bitCount_0f7a4_42 rfl rfl ?_
  refine sv_bipush (v := 16) X dJ6_bitCount_0f7a4_43 (by decide) ?_
  refine sv_iushr X dJ6_bitCount_0f7a4_45 ?_
  refine sv_iadd X dJ6_bitCount_0f7a4_46 ?_
  refine sv_topi (fun v5 ev5 => ?_)
  replace hF := fr_lete hF ev5
  refine sv_istore_n X dJ6_bitCount_0f7a4_47 rfl (by decide) rfl ?_
  refine sv_iload_n (i := 0) X dJ6_bitCount_0f7a4_48 rfl rfl ?_
  refine sv_bipush (v := 63) X dJ6_bitCount_0f7a4_49 (by decide) ?_
  refine sv_iand X dJ6_bitCount_0f7a4_51 ?_
  exact sv_iret X hr hQ dJ6_bitCount_0f7a4_52 hF
theorem c_J6_bitCount_0f7a4 {l : Launch} {g : fr_G} {a1 : Int32}  {σ τ : fr_St} {r : Int32} (hF : F_J6_bitCount_0f7a4 a1 σ = some (r, τ)) : fr_Ci l g yJ6_bitCount_0f7a4 (fr_ws yJ6_bitCount_0f7a4 cJ6_bitCount_0f7a4 1 (some .int)) 0 [.int a1] σ r τ := fr_mi (by decide) (Nat.le_of_ble_eq_true rfl) (fun p e s m below meth c X hr => b_J6_bitCount_0f7a4 X hr  rfl hF)
