def F_X8_in (a1 : Int64) (a2 : Int64) (a3 : Int64) (σ : fr_St) : Option (Bool × fr_St) := fr_bS (if (lg_cmp a1 a2) < 0 then (some ((0 : Int32))) else (if 0 < (lg_cmp a1 a3) then (some ((0 : Int32))) else (some ((1 : Int32))))) (fun v1 => if v1 = 0 then some (false, σ) else if v1 = 1 then some (true, σ) else none)
set_option maxRecDepth 100000 in
set_option maxHeartbeats 4000000 in
theorem b_X8_in {p : Program} {l : Launch} {e : Env} {s : State} {m : MethodId} {args : Array Value} {below : List Frame} {meth : Method} {c : Code} {g : fr_G} {Q : State → Prop} (X : fr_X p s m args meth c g cX8_in RX8 6) (hr : meth.sig.returnType = (some .boolean)) {a1 : Int64} {a2 : Int64} {a3 : Int64}  {σ τ : fr_St} {r : Bool} (hQ : Q = fr_Qi below args s g (fr_bi r) τ) (hF : F_X8_in a1 a2 a3 σ = some (r, τ)) : fr_V p l e (fr_rm 0) s m args below meth c g Q 6 σ 0 [(0, .long a1), (2, .long a2), (4, .long a3)] [] := by
  unfold F_X8_in at hF
  refine sv_lload_n (i := 0) X dX8_in_0 rfl rfl ?_
  refine sv_lload_n (i := 1) X dX8_in_1 rfl rfl ?_
  refine sv_lcmp X dX8_in_2 ?_
  obtain ⟨v1, hM2, hF⟩ := fr_bS_some hF
  have K3 : fr_V p l e (fr_rm 0) s m args below meth c g Q 6 σ 18 [(0, .long a1), (2, .long a2), (4, .long a3)] [.int v1] := by
    exact sv_zretv X hr hQ dX8_in_18 hF
  refine sv_if_lt (tgt := 17) X dX8_in_3 (by decide) (fun h5 => ?_) (fun h5 => ?_)
  · replace hM2 := fr_pos hM2 h5
    refine sv_iconst (v := 0) X dX8_in_17 (by decide) ?_
    obtain rfl := fr_i1 hM2
    exact K3
  · replace hM2 := fr_neg hM2 h5
    refine sv_lload_n (i := 0) X dX8_in_6 rfl rfl ?_
    refine sv_lload (i := 2) X dX8_in_7 rfl ?_
    refine sv_lcmp X dX8_in_9 ?_
    refine sv_if_gt (tgt := 17) X dX8_in_10 (by decide) (fun h4 => ?_) (fun h4 => ?_)
    · replace hM2 := fr_pos hM2 h4
      refine sv_iconst (v := 0) X dX8_in_17 (by decide) ?_
      obtain rfl := fr_i1 hM2
      exact K3
    · replace hM2 := fr_neg hM2 h4
      refine sv_iconst (v := 1) X dX8_in_13 (by decide) ?_
      refine sv_goto (tgt := 18) X dX8_in_14 (by decide) ?_
      obtain rfl := fr_i1 hM2
      exact K3
theorem c_X8_in {l : Launch} {g : fr_G} {a1 : Int64} {a2 : Int64} {a3 : Int64}  {σ τ : fr_St} {r : Bool} (hF : F_X8_in a1 a2 a3 σ = some (r, τ)) : fr_Ci l g yX8_in (fr_ws yX8_in cX8_in 6 (some .boolean)) 0 [.long a1, .long a2, .long a3] σ (fr_bi r) τ := fr_mz (by decide) (Nat.le_of_ble_eq_true rfl) (fun p e s m below meth c X hr => b_X8_in X hr  rfl hF)
def F_X8_has (a1 : Int32) (a2 : Int32) (σ : fr_St) : Option (Bool × fr_St) := fr_bS (if ((a1 >>> (a2 &&& 31)) &&& (1 : Int32)) = (1 : Int32) then (some ((1 : Int32))) else (some ((0 : Int32)))) (fun v1 => if v1 = 0 then some (false, σ) else if v1 = 1 then some (true, σ) else none)
set_option maxRecDepth 100000 in
set_option maxHeartbeats 4000000 in
theorem b_X8_has {p : Program} {l : Launch} {e : Env} {s : State} {m : MethodId} {args : Array Value} {below : List Frame} {meth : Method} {c : Code} {g : fr_G} {Q : State → Prop} (X : fr_X p s m args meth c g cX8_has RX8 2) (hr : meth.sig.returnType = (some .boolean)) {a1 : Int32} {a2 : Int32}  {σ τ : fr_St} {r : Bool} (hQ : Q = fr_Qi below args s g (fr_bi r) τ) (hF : F_X8_has a1 a2 σ = some (r, τ)) : fr_V p l e (fr_rm 0) s m args below meth c g Q 2 σ 0 [(0, .int a1), (1, .int a2)] [] := by
  unfold F_X8_has at hF
  refine sv_iload_n (i := 0) X dX8_has_0 rfl rfl ?_
  refine sv_iload_n (i := 1) X dX8_has_1 rfl rfl ?_
  refine sv_ishr X dX8_has_2 ?_
  refine sv_iconst (v := 1) X dX8_has_3 (by decide) ?_
  refine sv_iand X dX8_has_4 ?_
  refine sv_iconst (v := 1) X dX8_has_5 (by decide) ?_
  obtain ⟨v1, hM2, hF⟩ := fr_bS_some hF
  have K3 : fr_V p l e (fr_rm 0) s m args below meth c g Q 2 σ 14 [(0, .int a1), (1, .int a2)] [.int v1] := by
    exact sv_zretv X hr hQ dX8_has_14 hF
  refine sv_icmp_ne (tgt := 13) X dX8_has_6 (by decide) (fun h4 => ?_) (fun h4 => ?_)
  · replace hM2 := fr_neg hM2 h4
    refine sv_iconst (v := 0) X dX8_has_13 (by decide) ?_
    obtain rfl := fr_i1 hM2
    exact K3
  · replace hM2 := fr_pos hM2 h4
    refine sv_iconst (v := 1) X dX8_has_9 (by decide) ?_
    refine sv_goto (tgt := 14) X dX8_has_10 (by decide) ?_
    obtain rfl := fr_i1 hM2
    exact K3
theorem c_X8_has {l : Launch} {g : fr_G} {a1 : Int32} {a2 : Int32}  {σ τ : fr_St} {r : Bool} (hF : F_X8_has a1 a2 σ = some (r, τ)) : fr_Ci l g yX8_has (fr_ws yX8_has cX8_has 2 (some .boolean)) 0 [.int a1, .int a2] σ (fr_bi r) τ := fr_mz (by decide) (Nat.le_of_ble_eq_true rfl) (fun p e s m below meth c X hr => b_X8_has X hr  rfl hF)
def L_X8_ones_4  : Nat → Int32 → Int32 → fr_St → Option (Int32 × Int32 × fr_St)
  | 0, _, _, _ => none
  | n + 1, x1, x2, σ => if x2 = 0 then (some (x1, x2, σ)) else (fr_let (x1 + (1 : Int32)) (fun v1 => fr_let ((x2 &&& (x2 - (1 : Int32)))) (fun v2 => L_X8_ones_4  n v1 v2 σ)))
set_option maxRecDepth 100000 in
set_option maxHeartbeats 4000000 in
theorem wL_X8_ones_4 {p : Program} {l : Launch} {e : Env} {s : State} {m : MethodId} {args : Array Value} {below : List Frame} {meth : Method} {c : Code} {g : fr_G} {Q : State → Prop} (X : fr_X p s m args meth c g cX8_ones RX8 3)  (k0 : Int32) {y1 : Int32} {y2 : Int32} {τ : fr_St} (K : fr_V p l e (fr_rm 0) s m args below meth c g Q 3 τ 20 [(0, .int k0), (1, .int y1), (2, .int y2)] []) : ∀ (n : Nat) (x1 : Int32) (x2 : Int32) (σ : fr_St), L_X8_ones_4  n x1 x2 σ = some (y1, y2, τ) → fr_V p l e (fr_rm 0) s m args below meth c g Q 3 σ 4 [(0, .int k0), (1, .int x1), (2, .int x2)] [] := by
  intro n
  induction n with
  | zero => intro x1 x2 σ hL; cases hL
  | succ n ih =>
    intro x1 x2 σ hL
    rw [L_X8_ones_4] at hL
    refine sv_iload_n (i := 2) X dX8_ones_4 rfl rfl ?_
    refine sv_if_eq (tgt := 20) X dX8_ones_5 (by decide) (fun h3 => ?_) (fun h3 => ?_)
    · replace hL := fr_pos hL h3
      obtain ⟨rfl, rfl, rfl⟩ := fr_i3 hL
      exact K
    · replace hL := fr_neg hL h3
      obtain ⟨v1, ev1⟩ : ∃ y : Int32, y = x1 + (1 : Int32) := ⟨_, rfl⟩
      replace hL := fr_lete hL ev1
      refine sv_iinc (i := 1) (v := v1) X dX8_ones_8 rfl (by rw [ev1]; rfl) (by decide) rfl ?_
      refine sv_iload_n (i := 2) X dX8_ones_11 rfl rfl ?_
      refine sv_iload_n (i := 2) X dX8_ones_12 rfl rfl ?_
      refine sv_iconst (v := 1) X dX8_ones_13 (by decide) ?_
      refine sv_isub X dX8_ones_14 ?_
      refine sv_iand X dX8_ones_15 ?_
      refine sv_topi (fun v2 ev2 => ?_)
      replace hL := fr_lete hL ev2
      refine sv_istore_n X dX8_ones_16 rfl (by decide) rfl ?_
      refine sv_goto (tgt := 4) X dX8_ones_17 (by decide) ?_
      exact sv_perm [2, 1, 0] rfl (ih _ _ _ hL)
def F_X8_ones (a1 : Int32) (σ : fr_St) : Option (Int32 × fr_St) := fr_bP (L_X8_ones_4  fr_fu (0 : Int32) a1 σ) (fun v1 q5 => fr_pP q5 (fun v2 s3 => some (v1, s3)))
set_option maxRecDepth 100000 in
set_option maxHeartbeats 4000000 in
theorem b_X8_ones {p : Program} {l : Launch} {e : Env} {s : State} {m : MethodId} {args : Array Value} {below : List Frame} {meth : Method} {c : Code} {g : fr_G} {Q : State → Prop} (X : fr_X p s m args meth c g cX8_ones RX8 3) (hr : meth.sig.returnType = (some .int)) {a1 : Int32}  {σ τ : fr_St} {r : Int32} (hQ : Q = fr_Qi below args s g r τ) (hF : F_X8_ones a1 σ = some (r, τ)) : fr_V p l e (fr_rm 0) s m args below meth c g Q 3 σ 0 [(0, .int a1)] [] := by
  unfold F_X8_ones at hF
  refine sv_iconst (v := 0) X dX8_ones_0 (by decide) ?_
  refine sv_istore_n X dX8_ones_1 rfl (by decide) rfl ?_
  refine sv_iload_n (i := 1) X dX8_ones_2 rfl rfl ?_
  refine sv_istore_n X dX8_ones_3 rfl (by decide) rfl ?_
  refine sv_perm [2, 1, 0] rfl ?_
  obtain ⟨v1, ⟨v2, s3⟩, hl4, hF⟩ := fr_bP_some hF
  dsimp only [fr_pP] at hF
  refine wL_X8_ones_4 X  a1 ?_ fr_fu _ _ _ hl4
  refine sv_iload_n (i := 1) X dX8_ones_20 rfl rfl ?_
  exact sv_iret X hr hQ dX8_ones_21 hF
theorem c_X8_ones {l : Launch} {g : fr_G} {a1 : Int32}  {σ τ : fr_St} {r : Int32} (hF : F_X8_ones a1 σ = some (r, τ)) : fr_Ci l g yX8_ones (fr_ws yX8_ones cX8_ones 3 (some .int)) 0 [.int a1] σ r τ := fr_mi (by decide) (Nat.le_of_ble_eq_true rfl) (fun p e s m below meth c X hr => b_X8_ones X hr  rfl hF)
def F_X8_find (a1 : Int32) (σ : fr_St) : Option (Int32 × fr_St) := fr_let (fr_up σ 59 3 a1) (fun s1 => some (((-1000010 : Int32) - a1), s1))
set_option maxRecDepth 100000 in
set_option maxHeartbeats 4000000 in
theorem b_X8_find {p : Program} {l : Launch} {e : Env} {s : State} {m : MethodId} {args : Array Value} {below : List Frame} {meth : Method} {c : Code} {g : fr_G} {Q : State → Prop} (X : fr_X p s m args meth c g cX8_find RX8 2) (hr : meth.sig.returnType = (some .int)) {a1 : Int32}  {σ τ : fr_St} {r : Int32} (hQ : Q = fr_Qi below args s g r τ) (hF : F_X8_find a1 σ = some (r, τ)) : fr_V p l e (fr_rm 0) s m args below meth c g Q 2 σ 0 [(0, .ref (g.2.1 59)), (1, .int a1)] [] := by
  unfold F_X8_find at hF
  refine sv_aload_n (i := 0) X dX8_find_0 rfl rfl ?_
  refine sv_iload_n (i := 1) X dX8_find_1 rfl rfl ?_
  refine sv_puti (ty := .int) X ix_X8 tyX8_ok nmX8 rfl 3 (by decide) rfl rfl fl_X8_56 rfl rfl rfl rfl dX8_find_2 ?_
  refine sv_sig (fun s1 es1 => ?_)
  replace hF := fr_lete hF es1
  refine sv_ldc X kn_X8_60 dX8_find_5 ?_
  refine sv_iload_n (i := 1) X dX8_find_7 rfl rfl ?_
  refine sv_isub X dX8_find_8 ?_
  exact sv_iret X hr hQ dX8_find_9 hF
theorem c_X8_find {l : Launch} {g : fr_G} {a1 : Int32}  {σ τ : fr_St} {r : Int32} (hF : F_X8_find a1 σ = some (r, τ)) : fr_Ci l g yX8_find (fr_ws yX8_find cX8_find 2 (some .int)) 0 [.ref (g.2.1 59), .int a1] σ r τ := fr_mi (by decide) (Nat.le_of_ble_eq_true rfl) (fun p e s m below meth c X hr => b_X8_find X hr  rfl hF)
def F_X8_well (a1 : Int32) (σ : fr_St) : Option (Int32 × fr_St) := fr_let (fr_up σ 59 3 (0 : Int32)) (fun s1 => some (a1, s1))
set_option maxRecDepth 100000 in
set_option maxHeartbeats 4000000 in
theorem b_X8_well {p : Program} {l : Launch} {e : Env} {s : State} {m : MethodId} {args : Array Value} {below : List Frame} {meth : Method} {c : Code} {g : fr_G} {Q : State → Prop} (X : fr_X p s m args meth c g cX8_well RX8 2) (hr : meth.sig.returnType = (some .int)) {a1 : Int32}  {σ τ : fr_St} {r : Int32} (hQ : Q = fr_Qi below args s g r τ) (hF : F_X8_well a1 σ = some (r, τ)) : fr_V p l e (fr_rm 0) s m args below meth c g Q 2 σ 0 [(0, .ref (g.2.1 59)), (1, .int a1)] [] := by
  unfold F_X8_well at hF
  refine sv_aload_n (i := 0) X dX8_well_0 rfl rfl ?_
  refine sv_iconst (v := 0) X dX8_well_1 (by decide) ?_
  refine sv_puti (ty := .int) X ix_X8 tyX8_ok nmX8 rfl 3 (by decide) rfl rfl fl_X8_56 rfl rfl rfl rfl dX8_well_2 ?_
  refine sv_sig (fun s1 es1 => ?_)
  replace hF := fr_lete hF es1
  refine sv_iload_n (i := 1) X dX8_well_5 rfl rfl ?_
  exact sv_iret X hr hQ dX8_well_6 hF
theorem c_X8_well {l : Launch} {g : fr_G} {a1 : Int32}  {σ τ : fr_St} {r : Int32} (hF : F_X8_well a1 σ = some (r, τ)) : fr_Ci l g yX8_well (fr_ws yX8_well cX8_well 2 (some .int)) 0 [.ref (g.2.1 59), .int a1] σ r τ := fr_mi (by decide) (Nat.le_of_ble_eq_true rfl) (fun p e s m below meth c X hr => b_X8_well X hr  rfl hF)
def F_X8_isRow (a1 : Int32) (σ : fr_St) : Option (Bool × fr_St) := fr_bP (F_X8_in (a1.toInt64) (0 : Int64) (7 : Int64) σ) (fun b3 s2 => some (b3, s2))
set_option maxRecDepth 100000 in
set_option maxHeartbeats 4000000 in
theorem b_X8_isRow {p : Program} {l : Launch} {e : Env} {s : State} {m : MethodId} {args : Array Value} {below : List Frame} {meth : Method} {c : Code} {g : fr_G} {Q : State → Prop} (X : fr_X p s m args meth c g cX8_isRow RX8 1) (hr : meth.sig.returnType = (some .boolean)) {a1 : Int32}  {σ τ : fr_St} {r : Bool} (hQ : Q = fr_Qi below args s g (fr_bi r) τ) (hF : F_X8_isRow a1 σ = some (r, τ)) : fr_V p l e (fr_rm 1) s m args below meth c g Q 1 σ 0 [(0, .int a1)] [] := by
  unfold F_X8_isRow at hF
  refine sv_iload_n (i := 0) X dX8_isRow_0 rfl rfl ?_
  refine sv_i2l X dX8_isRow_1 ?_
  refine sv_lconst (v := 0) X dX8_isRow_2 (by decide) ?_
  refine sv_ldc2_w X kl_X8_61 dX8_isRow_3 ?_
  obtain ⟨b3, s2, hc1, hF⟩ := fr_bP_some hF
  refine sv_callSi X (c_X8_in hc1) cd_X8_in ml_X8_63 sm_X8_in in_RX8 hd_X8_in (by decide) rfl (Nat.le_of_ble_eq_true rfl) dX8_isRow_6 rfl ?_
  exact sv_zret X (b := b3) hr hQ rfl dX8_isRow_9 hF
theorem c_X8_isRow {l : Launch} {g : fr_G} {a1 : Int32}  {σ τ : fr_St} {r : Bool} (hF : F_X8_isRow a1 σ = some (r, τ)) : fr_Ci l g yX8_isRow (fr_ws yX8_isRow cX8_isRow 1 (some .boolean)) 1 [.int a1] σ (fr_bi r) τ := fr_mz (by decide) (Nat.le_of_ble_eq_true rfl) (fun p e s m below meth c X hr => b_X8_isRow X hr  rfl hF)
def L_X8_row_55 (k1 : Int32) : Nat → Int32 → fr_St → Option (Int32 × fr_St)
  | 0, _, _ => none
  | n + 1, x4, σ => if (40 : Int32) ≤ x4 then (some (x4, σ)) else (if fr_ib (((40 : Int32) * k1) + x4) 320 = true then fr_let (fr_up σ 62 (fr_ix (((40 : Int32) * k1) + x4)) (0 : Int32)) (fun s2 => fr_let (x4 + (1 : Int32)) (fun v3 => L_X8_row_55 k1 n v3 s2)) else none)
set_option maxRecDepth 100000 in
set_option maxHeartbeats 4000000 in
theorem wL_X8_row_55 {p : Program} {l : Launch} {e : Env} {s : State} {m : MethodId} {args : Array Value} {below : List Frame} {meth : Method} {c : Code} {g : fr_G} {Q : State → Prop} (X : fr_X p s m args meth c g cX8_row RX8 5)  (k1 : Int32) (k2 : Int32) (k3 : Int32) {y4 : Int32} {τ : fr_St} (K : fr_V p l e (fr_rm 2) s m args below meth c g Q 5 τ 81 [(0, .ref (g.2.1 59)), (1, .int k1), (2, .int k2), (3, .int k3), (4, .int y4)] []) : ∀ (n : Nat) (x4 : Int32) (σ : fr_St), L_X8_row_55 k1 n x4 σ = some (y4, τ) → fr_V p l e (fr_rm 2) s m args below meth c g Q 5 σ 55 [(0, .ref (g.2.1 59)), (1, .int k1), (2, .int k2), (3, .int k3), (4, .int x4)] [] := by
  intro n
  induction n with
  | zero => intro x4 σ hL; cases hL
  | succ n ih =>
    intro x4 σ hL
    rw [L_X8_row_55] at hL
    refine sv_iload (i := 4) X dX8_row_55 rfl ?_
    refine sv_bipush (v := 40) X dX8_row_57 (by decide) ?_
    refine sv_icmp_ge (tgt := 81) X dX8_row_59 (by decide) (fun h4 => ?_) (fun h4 => ?_)
    · replace hL := fr_pos hL h4
      obtain ⟨rfl, rfl⟩ := fr_i2 hL
      exact K
    · replace hL := fr_neg hL h4
      refine sv_aload_n (i := 0) X dX8_row_62 rfl rfl ?_
      refine sv_getr X ix_X8 rfl 2 (by decide) rfl rfl fl_X8_16 dX8_row_63 ?_
      refine sv_bipush (v := 40) X dX8_row_66 (by decide) ?_
      refine sv_iload_n (i := 1) X dX8_row_68 rfl rfl ?_
      refine sv_imul X dX8_row_69 ?_
      refine sv_iload (i := 4) X dX8_row_70 rfl ?_
      refine sv_iadd X dX8_row_72 ?_
      refine sv_iconst (v := 0) X dX8_row_73 (by decide) ?_
      obtain ⟨hb1, hL⟩ := fr_chk hL
      refine sv_iast (j := (fr_ix (((40 : Int32) * k1) + x4))) X rfl hb1 rfl dX8_row_74 ?_
      refine sv_sig (fun s2 es2 => ?_)
      replace hL := fr_lete hL es2
      obtain ⟨v3, ev3⟩ : ∃ y : Int32, y = x4 + (1 : Int32) := ⟨_, rfl⟩
      replace hL := fr_lete hL ev3
      refine sv_iinc (i := 4) (v := v3) X dX8_row_75 rfl (by rw [ev3]; rfl) (by decide) rfl ?_
      refine sv_goto (tgt := 55) X dX8_row_78 (by decide) ?_
      exact sv_perm [1, 2, 3, 4, 0] rfl (ih _ _ hL)
def F_X8_row (a1 : Int32) (a2 : Int32) (a3 : Int32) (σ : fr_St) : Option (Int32 × fr_St) := fr_bP (F_X8_isRow a1 σ) (fun b3 s2 => if (fr_bi b3) = 0 then (some ((-1000001 : Int32), s2)) else (fr_bP (F_X8_in (a2.toInt64) (0 : Int64) (2 : Int64) s2) (fun b6 s5 => if (fr_bi b6) = 0 then (some ((-1000001 : Int32), s5)) else (if a3 ≤ (40 : Int32) then (if 0 ≤ a3 then (if fr_ib a1 8 = true then fr_let (fr_up s5 60 (fr_ix a1) a2) (fun s8 => if fr_ib a1 8 = true then fr_let (fr_up s8 61 (fr_ix a1) a3) (fun s10 => fr_bP (L_X8_row_55 a1 fr_fu (0 : Int32) s10) (fun v11 s12 => fr_bP (F_X8_well a3 s12) (fun r16 s15 => some (r16, s15)))) else none) else none) else (fr_bP (F_X8_find (4 : Int32) s5) (fun r19 s18 => some (r19, s18)))) else (some ((-1000001 : Int32), s5))))))
set_option maxRecDepth 100000 in
set_option maxHeartbeats 4000000 in
theorem b_X8_row {p : Program} {l : Launch} {e : Env} {s : State} {m : MethodId} {args : Array Value} {below : List Frame} {meth : Method} {c : Code} {g : fr_G} {Q : State → Prop} (X : fr_X p s m args meth c g cX8_row RX8 5) (hr : meth.sig.returnType = (some .int)) {a1 : Int32} {a2 : Int32} {a3 : Int32}  {σ τ : fr_St} {r : Int32} (hQ : Q = fr_Qi below args s g r τ) (hF : F_X8_row a1 a2 a3 σ = some (r, τ)) : fr_V p l e (fr_rm 2) s m args below meth c g Q 5 σ 0 [(0, .ref (g.2.1 59)), (1, .int a1), (2, .int a2), (3, .int a3)] [] := by
  unfold F_X8_row at hF
  refine sv_iload_n (i := 1) X dX8_row_0 rfl rfl ?_
  obtain ⟨b3, s2, hc1, hF⟩ := fr_bP_some hF
  refine sv_callSi X (c_X8_isRow hc1) cd_X8_isRow ml_X8_67 sm_X8_isRow in_RX8 hd_X8_isRow (by decide) rfl (Nat.le_of_ble_eq_true rfl) dX8_row_1 rfl ?_
  refine sv_if_eq (tgt := 25) X dX8_row_4 (by decide) (fun h23 => ?_) (fun h23 => ?_)
  · replace hF := fr_pos hF h23
    refine sv_ldc X kn_X8_73 dX8_row_25 ?_
    exact sv_iret X hr hQ dX8_row_27 hF
  · replace hF := fr_neg hF h23
    refine sv_iload_n (i := 2) X dX8_row_7 rfl rfl ?_
    refine sv_i2l X dX8_row_8 ?_
    refine sv_lconst (v := 0) X dX8_row_9 (by decide) ?_
    refine sv_ldc2_w X kl_X8_71 dX8_row_10 ?_
    obtain ⟨b6, s5, hc4, hF⟩ := fr_bP_some hF
    refine sv_callSi X (c_X8_in hc4) cd_X8_in ml_X8_63 sm_X8_in in_RX8 hd_X8_in (by decide) rfl (Nat.le_of_ble_eq_true rfl) dX8_row_13 rfl ?_
    refine sv_if_eq (tgt := 25) X dX8_row_16 (by decide) (fun h22 => ?_) (fun h22 => ?_)
    · replace hF := fr_pos hF h22
      refine sv_ldc X kn_X8_73 dX8_row_25 ?_
      exact sv_iret X hr hQ dX8_row_27 hF
    · replace hF := fr_neg hF h22
      refine sv_iload_n (i := 3) X dX8_row_19 rfl rfl ?_
      refine sv_bipush (v := 40) X dX8_row_20 (by decide) ?_
      refine sv_icmp_le (tgt := 28) X dX8_row_22 (by decide) (fun h21 => ?_) (fun h21 => ?_)
      · replace hF := fr_pos hF h21
        refine sv_iload_n (i := 3) X dX8_row_28 rfl rfl ?_
        refine sv_if_ge (tgt := 38) X dX8_row_29 (by decide) (fun h20 => ?_) (fun h20 => ?_)
        · replace hF := fr_pos hF h20
          refine sv_aload_n (i := 0) X dX8_row_38 rfl rfl ?_
          refine sv_getr X ix_X8 rfl 0 (by decide) rfl rfl fl_X8_7 dX8_row_39 ?_
          refine sv_iload_n (i := 1) X dX8_row_42 rfl rfl ?_
          refine sv_iload_n (i := 2) X dX8_row_43 rfl rfl ?_
          obtain ⟨hb7, hF⟩ := fr_chk hF
          refine sv_iast (j := (fr_ix a1)) X rfl hb7 rfl dX8_row_44 ?_
          refine sv_sig (fun s8 es8 => ?_)
          replace hF := fr_lete hF es8
          refine sv_aload_n (i := 0) X dX8_row_45 rfl rfl ?_
          refine sv_getr X ix_X8 rfl 1 (by decide) rfl rfl fl_X8_13 dX8_row_46 ?_
          refine sv_iload_n (i := 1) X dX8_row_49 rfl rfl ?_
          refine sv_iload_n (i := 3) X dX8_row_50 rfl rfl ?_
          obtain ⟨hb9, hF⟩ := fr_chk hF
          refine sv_iast (j := (fr_ix a1)) X rfl hb9 rfl dX8_row_51 ?_
          refine sv_sig (fun s10 es10 => ?_)
          replace hF := fr_lete hF es10
          refine sv_iconst (v := 0) X dX8_row_52 (by decide) ?_
          refine sv_istore X dX8_row_53 (by decide) rfl ?_
          refine sv_perm [1, 2, 3, 4, 0] rfl ?_
          obtain ⟨v11, s12, hl13, hF⟩ := fr_bP_some hF
          refine wL_X8_row_55 X  a1 a2 a3 ?_ fr_fu _ _ hl13
          refine sv_aload_n (i := 0) X dX8_row_81 rfl rfl ?_
          refine sv_iload_n (i := 3) X dX8_row_82 rfl rfl ?_
          obtain ⟨r16, s15, hc14, hF⟩ := fr_bP_some hF
          refine sv_callVi X (c_X8_well hc14) cd_X8_well ml_X8_78 im_X8_well se_X8_well in_RX8 hd_X8_well rfl rfl (by decide) rfl (Nat.le_of_ble_eq_true rfl) dX8_row_83 rfl ?_
          exact sv_iret X hr hQ dX8_row_86 hF
        · replace hF := fr_neg hF h20
          refine sv_aload_n (i := 0) X dX8_row_32 rfl rfl ?_
          refine sv_iconst (v := 4) X dX8_row_33 (by decide) ?_
          obtain ⟨r19, s18, hc17, hF⟩ := fr_bP_some hF
          refine sv_callVi X (c_X8_find hc17) cd_X8_find ml_X8_74 im_X8_find se_X8_find in_RX8 hd_X8_find rfl rfl (by decide) rfl (Nat.le_of_ble_eq_true rfl) dX8_row_34 rfl ?_
          exact sv_iret X hr hQ dX8_row_37 hF
      · replace hF := fr_neg hF h21
        refine sv_ldc X kn_X8_73 dX8_row_25 ?_
        exact sv_iret X hr hQ dX8_row_27 hF
theorem c_X8_row {l : Launch} {g : fr_G} {a1 : Int32} {a2 : Int32} {a3 : Int32}  {σ τ : fr_St} {r : Int32} (hF : F_X8_row a1 a2 a3 σ = some (r, τ)) : fr_Ci l g yX8_row (fr_ws yX8_row cX8_row 5 (some .int)) 2 [.ref (g.2.1 59), .int a1, .int a2, .int a3] σ r τ := fr_mi (by decide) (Nat.le_of_ble_eq_true rfl) (fun p e s m below meth c X hr => b_X8_row X hr  rfl hF)
def F_X8_asLane (a1 : Int32) (a2 : Int32) (σ : fr_St) : Option (Int32 × fr_St) := fr_bS (if a1 = 0 then (some (((a2 <<< ((24 : Int32) &&& 31)) >>> ((24 : Int32) &&& 31)))) else (if a1 = (1 : Int32) then (some (((a2 <<< ((16 : Int32) &&& 31)) >>> ((16 : Int32) &&& 31)))) else (some (a2)))) (fun v1 => some (v1, σ))
set_option maxRecDepth 100000 in
set_option maxHeartbeats 4000000 in
theorem b_X8_asLane {p : Program} {l : Launch} {e : Env} {s : State} {m : MethodId} {args : Array Value} {below : List Frame} {meth : Method} {c : Code} {g : fr_G} {Q : State → Prop} (X : fr_X p s m args meth c g cX8_asLane RX8 2) (hr : meth.sig.returnType = (some .int)) {a1 : Int32} {a2 : Int32}  {σ τ : fr_St} {r : Int32} (hQ : Q = fr_Qi below args s g r τ) (hF : F_X8_asLane a1 a2 σ = some (r, τ)) : fr_V p l e (fr_rm 0) s m args below meth c g Q 2 σ 0 [(0, .int a1), (1, .int a2)] [] := by
  unfold F_X8_asLane at hF
  refine sv_iload_n (i := 0) X dX8_asLane_0 rfl rfl ?_
  obtain ⟨v1, hM2, hF⟩ := fr_bS_some hF
  have K3 : fr_V p l e (fr_rm 0) s m args below meth c g Q 2 σ 30 [(0, .int a1), (1, .int a2)] [.int v1] := by
    exact sv_iret X hr hQ dX8_asLane_30 hF
  refine sv_if_ne (tgt := 14) X dX8_asLane_1 (by decide) (fun h5 => ?_) (fun h5 => ?_)
  · replace hM2 := fr_neg hM2 h5
    refine sv_iload_n (i := 0) X dX8_asLane_14 rfl rfl ?_
    refine sv_iconst (v := 1) X dX8_asLane_15 (by decide) ?_
    refine sv_icmp_ne (tgt := 29) X dX8_asLane_16 (by decide) (fun h4 => ?_) (fun h4 => ?_)
    · replace hM2 := fr_neg hM2 h4
      refine sv_iload_n (i := 1) X dX8_asLane_29 rfl rfl ?_
      obtain rfl := fr_i1 hM2
      exact K3
    · replace hM2 := fr_pos hM2 h4
      refine sv_iload_n (i := 1) X dX8_asLane_19 rfl rfl ?_
      refine sv_bipush (v := 16) X dX8_asLane_20 (by decide) ?_
      refine sv_ishl X dX8_asLane_22 ?_
      refine sv_bipush (v := 16) X dX8_asLane_23 (by decide) ?_
      refine sv_ishr X dX8_asLane_25 ?_
      refine sv_goto (tgt := 30) X dX8_asLane_26 (by decide) ?_
      obtain rfl := fr_i1 hM2
      exact K3
  · replace hM2 := fr_pos hM2 h5
    refine sv_iload_n (i := 1) X dX8_asLane_4 rfl rfl ?_
    refine sv_bipush (v := 24) X dX8_asLane_5 (by decide) ?_
    refine sv_ishl X dX8_asLane_7 ?_
    refine sv_bipush (v := 24) X dX8_asLane_8 (by decide) ?_
    refine sv_ishr X dX8_asLane_10 ?_
    refine sv_goto (tgt := 30) X dX8_asLane_11 (by decide) ?_
    obtain rfl := fr_i1 hM2
    exact K3
theorem c_X8_asLane {l : Launch} {g : fr_G} {a1 : Int32} {a2 : Int32}  {σ τ : fr_St} {r : Int32} (hF : F_X8_asLane a1 a2 σ = some (r, τ)) : fr_Ci l g yX8_asLane (fr_ws yX8_asLane cX8_asLane 2 (some .int)) 0 [.int a1, .int a2] σ r τ := fr_mi (by decide) (Nat.le_of_ble_eq_true rfl) (fun p e s m below meth c X hr => b_X8_asLane X hr  rfl hF)
def F_X8_set (a1 : Int32) (a2 : Int32) (a3 : Int32) (σ : fr_St) : Option (Int32 × fr_St) := fr_bP (F_X8_isRow a1 σ) (fun b3 s2 => if (fr_bi b3) = 0 then (some ((-1000001 : Int32), s2)) else (if fr_ib a1 8 = true then if 0 ≤ (s2 61 (fr_ix a1)) then (if fr_ib a1 8 = true then fr_bP (F_X8_in (a2.toInt64) (0 : Int64) (((s2 61 (fr_ix a1)) - (1 : Int32)).toInt64) s2) (fun b8 s7 => if (fr_bi b8) = 0 then (fr_bP (F_X8_find (2 : Int32) s7) (fun r21 s20 => some (r21, s20))) else (if fr_ib a1 8 = true then fr_bP (F_X8_asLane (s7 60 (fr_ix a1)) a3 s7) (fun r12 s11 => if fr_ib (((40 : Int32) * a1) + a2) 320 = true then fr_let (fr_up s11 62 (fr_ix (((40 : Int32) * a1) + a2)) r12) (fun s14 => if fr_ib (((40 : Int32) * a1) + a2) 320 = true then fr_bP (F_X8_well (s14 62 (fr_ix (((40 : Int32) * a1) + a2))) s14) (fun r18 s17 => some (r18, s17)) else none) else none) else none)) else none) else (fr_bP (F_X8_find (1 : Int32) s2) (fun r25 s24 => some (r25, s24))) else none))
set_option maxRecDepth 100000 in
set_option maxHeartbeats 4000000 in
theorem b_X8_set {p : Program} {l : Launch} {e : Env} {s : State} {m : MethodId} {args : Array Value} {below : List Frame} {meth : Method} {c : Code} {g : fr_G} {Q : State → Prop} (X : fr_X p s m args meth c g cX8_set RX8 4) (hr : meth.sig.returnType = (some .int)) {a1 : Int32} {a2 : Int32} {a3 : Int32}  {σ τ : fr_St} {r : Int32} (hQ : Q = fr_Qi below args s g r τ) (hF : F_X8_set a1 a2 a3 σ = some (r, τ)) : fr_V p l e (fr_rm 2) s m args below meth c g Q 4 σ 0 [(0, .ref (g.2.1 59)), (1, .int a1), (2, .int a2), (3, .int a3)] [] := by
  unfold F_X8_set at hF
  refine sv_iload_n (i := 1) X dX8_set_0 rfl rfl ?_
  obtain ⟨b3, s2, hc1, hF⟩ := fr_bP_some hF
  refine sv_callSi X (c_X8_isRow hc1) cd_X8_isRow ml_X8_67 sm_X8_isRow in_RX8 hd_X8_isRow (by decide) rfl (Nat.le_of_ble_eq_true rfl) dX8_set_1 rfl ?_
  refine sv_if_ne (tgt := 10) X dX8_set_4 (by decide) (fun h27 => ?_) (fun h27 => ?_)
  · replace hF := fr_neg hF h27
    refine sv_aload_n (i := 0) X dX8_set_10 rfl rfl ?_
    refine sv_getr X ix_X8 rfl 1 (by decide) rfl rfl fl_X8_13 dX8_set_11 ?_
    refine sv_iload_n (i := 1) X dX8_set_14 rfl rfl ?_
    obtain ⟨hb4, hF⟩ := fr_chk hF
    refine sv_iald (j := (fr_ix a1)) X rfl hb4 rfl dX8_set_15 ?_
    refine sv_if_ge (tgt := 25) X dX8_set_16 (by decide) (fun h26 => ?_) (fun h26 => ?_)
    · replace hF := fr_pos hF h26
      refine sv_iload_n (i := 2) X dX8_set_25 rfl rfl ?_
      refine sv_i2l X dX8_set_26 ?_
      refine sv_lconst (v := 0) X dX8_set_27 (by decide) ?_
      refine sv_aload_n (i := 0) X dX8_set_28 rfl rfl ?_
      refine sv_getr X ix_X8 rfl 1 (by decide) rfl rfl fl_X8_13 dX8_set_29 ?_
      refine sv_iload_n (i := 1) X dX8_set_32 rfl rfl ?_
      obtain ⟨hb5, hF⟩ := fr_chk hF
      refine sv_iald (j := (fr_ix a1)) X rfl hb5 rfl dX8_set_33 ?_
      refine sv_iconst (v := 1) X dX8_set_34 (by decide) ?_
      refine sv_isub X dX8_set_35 ?_
      refine sv_i2l X dX8_set_36 ?_
      obtain ⟨b8, s7, hc6, hF⟩ := fr_bP_some hF
      refine sv_callSi X (c_X8_in hc6) cd_X8_in ml_X8_63 sm_X8_in in_RX8 hd_X8_in (by decide) rfl (Nat.le_of_ble_eq_true rfl) dX8_set_37 rfl ?_
      refine sv_if_ne (tgt := 49) X dX8_set_40 (by decide) (fun h22 => ?_) (fun h22 => ?_)
      · replace hF := fr_neg hF h22
        refine sv_aload_n (i := 0) X dX8_set_49 rfl rfl ?_
        refine sv_getr X ix_X8 rfl 2 (by decide) rfl rfl fl_X8_16 dX8_set_50 ?_
        refine sv_bipush (v := 40) X dX8_set_53 (by decide) ?_
        refine sv_iload_n (i := 1) X dX8_set_55 rfl rfl ?_
        refine sv_imul X dX8_set_56 ?_
        refine sv_iload_n (i := 2) X dX8_set_57 rfl rfl ?_
        refine sv_iadd X dX8_set_58 ?_
        refine sv_aload_n (i := 0) X dX8_set_59 rfl rfl ?_
        refine sv_getr X ix_X8 rfl 0 (by decide) rfl rfl fl_X8_7 dX8_set_60 ?_
        refine sv_iload_n (i := 1) X dX8_set_63 rfl rfl ?_
        obtain ⟨hb9, hF⟩ := fr_chk hF
        refine sv_iald (j := (fr_ix a1)) X rfl hb9 rfl dX8_set_64 ?_
        refine sv_iload_n (i := 3) X dX8_set_65 rfl rfl ?_
        obtain ⟨r12, s11, hc10, hF⟩ := fr_bP_some hF
        refine sv_callSi X (c_X8_asLane hc10) cd_X8_asLane ml_X8_81 sm_X8_asLane in_RX8 hd_X8_asLane (by decide) rfl (Nat.le_of_ble_eq_true rfl) dX8_set_66 rfl ?_
        obtain ⟨hb13, hF⟩ := fr_chk hF
        refine sv_iast (j := (fr_ix (((40 : Int32) * a1) + a2))) X rfl hb13 rfl dX8_set_69 ?_
        refine sv_sig (fun s14 es14 => ?_)
        replace hF := fr_lete hF es14
        refine sv_aload_n (i := 0) X dX8_set_70 rfl rfl ?_
        refine sv_aload_n (i := 0) X dX8_set_71 rfl rfl ?_
        refine sv_getr X ix_X8 rfl 2 (by decide) rfl rfl fl_X8_16 dX8_set_72 ?_
        refine sv_bipush (v := 40) X dX8_set_75 (by decide) ?_
        refine sv_iload_n (i := 1) X dX8_set_77 rfl rfl ?_
        refine sv_imul X dX8_set_78 ?_
        refine sv_iload_n (i := 2) X dX8_set_79 rfl rfl ?_
        refine sv_iadd X dX8_set_80 ?_
        obtain ⟨hb15, hF⟩ := fr_chk hF
        refine sv_iald (j := (fr_ix (((40 : Int32) * a1) + a2))) X rfl hb15 rfl dX8_set_81 ?_
        obtain ⟨r18, s17, hc16, hF⟩ := fr_bP_some hF
        refine sv_callVi X (c_X8_well hc16) cd_X8_well ml_X8_78 im_X8_well se_X8_well in_RX8 hd_X8_well rfl rfl (by decide) rfl (Nat.le_of_ble_eq_true rfl) dX8_set_82 rfl ?_
        exact sv_iret X hr hQ dX8_set_85 hF
      · replace hF := fr_pos hF h22
        refine sv_aload_n (i := 0) X dX8_set_43 rfl rfl ?_
        refine sv_iconst (v := 2) X dX8_set_44 (by decide) ?_
        obtain ⟨r21, s20, hc19, hF⟩ := fr_bP_some hF
        refine sv_callVi X (c_X8_find hc19) cd_X8_find ml_X8_74 im_X8_find se_X8_find in_RX8 hd_X8_find rfl rfl (by decide) rfl (Nat.le_of_ble_eq_true rfl) dX8_set_45 rfl ?_
        exact sv_iret X hr hQ dX8_set_48 hF
    · replace hF := fr_neg hF h26
      refine sv_aload_n (i := 0) X dX8_set_19 rfl rfl ?_
      refine sv_iconst (v := 1) X dX8_set_20 (by decide) ?_
      obtain ⟨r25, s24, hc23, hF⟩ := fr_bP_some hF
      refine sv_callVi X (c_X8_find hc23) cd_X8_find ml_X8_74 im_X8_find se_X8_find in_RX8 hd_X8_find rfl rfl (by decide) rfl (Nat.le_of_ble_eq_true rfl) dX8_set_21 rfl ?_
      exact sv_iret X hr hQ dX8_set_24 hF
  · replace hF := fr_pos hF h27
    refine sv_ldc X kn_X8_73 dX8_set_7 ?_
    exact sv_iret X hr hQ dX8_set_9 hF
theorem c_X8_set {l : Launch} {g : fr_G} {a1 : Int32} {a2 : Int32} {a3 : Int32}  {σ τ : fr_St} {r : Int32} (hF : F_X8_set a1 a2 a3 σ = some (r, τ)) : fr_Ci l g yX8_set (fr_ws yX8_set cX8_set 4 (some .int)) 2 [.ref (g.2.1 59), .int a1, .int a2, .int a3] σ r τ := fr_mi (by decide) (Nat.le_of_ble_eq_true rfl) (fun p e s m below meth c X hr => b_X8_set X hr  rfl hF)
def L_X8_copy_117 (k1 : Int32) (k2 : Int32) (k5 : Int32) : Nat → Int32 → fr_St → Option (Int32 × fr_St)
  | 0, _, _ => none
  | n + 1, x6, σ => if k5 ≤ x6 then (some (x6, σ)) else (if fr_ib ((((40 : Int32) * k1) + k2) + x6) 320 = true then if fr_ib x6 40 = true then fr_let (fr_up σ 64 (fr_ix x6) (σ 62 (fr_ix ((((40 : Int32) * k1) + k2) + x6)))) (fun s3 => fr_let (x6 + (1 : Int32)) (fun v4 => L_X8_copy_117 k1 k2 k5 n v4 s3)) else none else none)
set_option maxRecDepth 100000 in
set_option maxHeartbeats 4000000 in
theorem wL_X8_copy_117 {p : Program} {l : Launch} {e : Env} {s : State} {m : MethodId} {args : Array Value} {below : List Frame} {meth : Method} {c : Code} {g : fr_G} {Q : State → Prop} (X : fr_X p s m args meth c g cX8_copy RX8 7)  (k1 : Int32) (k2 : Int32) (k3 : Int32) (k4 : Int32) (k5 : Int32) {y6 : Int32} {τ : fr_St} (K : fr_V p l e (fr_rm 2) s m args below meth c g Q 7 τ 151 [(0, .ref (g.2.1 59)), (1, .int k1), (2, .int k2), (3, .int k3), (4, .int k4), (5, .int k5), (6, .int y6)] []) : ∀ (n : Nat) (x6 : Int32) (σ : fr_St), L_X8_copy_117 k1 k2 k5 n x6 σ = some (y6, τ) → fr_V p l e (fr_rm 2) s m args below meth c g Q 7 σ 117 [(0, .ref (g.2.1 59)), (1, .int k1), (2, .int k2), (3, .int k3), (4, .int k4), (5, .int k5), (6, .int x6)] [] := by
  intro n
  induction n with
  | zero => intro x6 σ hL; cases hL
  | succ n ih =>
    intro x6 σ hL
    rw [L_X8_copy_117] at hL
    refine sv_iload (i := 6) X dX8_copy_117 rfl ?_
    refine sv_iload (i := 5) X dX8_copy_119 rfl ?_
    refine sv_icmp_ge (tgt := 151) X dX8_copy_121 (by decide) (fun h5 => ?_) (fun h5 => ?_)
    · replace hL := fr_pos hL h5
      obtain ⟨rfl, rfl⟩ := fr_i2 hL
      exact K
    · replace hL := fr_neg hL h5
      refine sv_aload_n (i := 0) X dX8_copy_124 rfl rfl ?_
      refine sv_getr X ix_X8 rfl 6 (by decide) rfl rfl fl_X8_22 dX8_copy_125 ?_
      refine sv_iload (i := 6) X dX8_copy_128 rfl ?_
      refine sv_aload_n (i := 0) X dX8_copy_130 rfl rfl ?_
      refine sv_getr X ix_X8 rfl 2 (by decide) rfl rfl fl_X8_16 dX8_copy_131 ?_
      refine sv_bipush (v := 40) X dX8_copy_134 (by decide) ?_
      refine sv_iload_n (i := 1) X dX8_copy_136 rfl rfl ?_
      refine sv_imul X dX8_copy_137 ?_
      refine sv_iload_n (i := 2) X dX8_copy_138 rfl rfl ?_
      refine sv_iadd X dX8_copy_139 ?_
      refine sv_iload (i := 6) X dX8_copy_140 rfl ?_
      refine sv_iadd X dX8_copy_142 ?_
      obtain ⟨hb1, hL⟩ := fr_chk hL
      refine sv_iald (j := (fr_ix ((((40 : Int32) * k1) + k2) + x6))) X rfl hb1 rfl dX8_copy_143 ?_
      obtain ⟨hb2, hL⟩ := fr_chk hL
      refine sv_iast (j := (fr_ix x6)) X rfl hb2 rfl dX8_copy_144 ?_
      refine sv_sig (fun s3 es3 => ?_)
      replace hL := fr_lete hL es3
      obtain ⟨v4, ev4⟩ : ∃ y : Int32, y = x6 + (1 : Int32) := ⟨_, rfl⟩
      replace hL := fr_lete hL ev4
      refine sv_iinc (i := 6) (v := v4) X dX8_copy_145 rfl (by rw [ev4]; rfl) (by decide) rfl ?_
      refine sv_goto (tgt := 117) X dX8_copy_148 (by decide) ?_
      exact sv_perm [1, 2, 3, 4, 5, 6, 0] rfl (ih _ _ hL)
def L_X8_copy_154 (k3 : Int32) (k4 : Int32) (k5 : Int32) : Nat → Int32 → fr_St → Option (Int32 × fr_St)
  | 0, _, _ => none
  | n + 1, x6, σ => if k5 ≤ x6 then (some (x6, σ)) else (if fr_ib x6 40 = true then if fr_ib ((((40 : Int32) * k3) + k4) + x6) 320 = true then fr_let (fr_up σ 62 (fr_ix ((((40 : Int32) * k3) + k4) + x6)) (σ 64 (fr_ix x6))) (fun s3 => fr_let (x6 + (1 : Int32)) (fun v4 => L_X8_copy_154 k3 k4 k5 n v4 s3)) else none else none)
set_option maxRecDepth 100000 in
set_option maxHeartbeats 4000000 in
theorem wL_X8_copy_154 {p : Program} {l : Launch} {e : Env} {s : State} {m : MethodId} {args : Array Value} {below : List Frame} {meth : Method} {c : Code} {g : fr_G} {Q : State → Prop} (X : fr_X p s m args meth c g cX8_copy RX8 7)  (k1 : Int32) (k2 : Int32) (k3 : Int32) (k4 : Int32) (k5 : Int32) {y6 : Int32} {τ : fr_St} (K : fr_V p l e (fr_rm 2) s m args below meth c g Q 7 τ 189 [(0, .ref (g.2.1 59)), (1, .int k1), (2, .int k2), (3, .int k3), (4, .int k4), (5, .int k5), (6, .int y6)] []) : ∀ (n : Nat) (x6 : Int32) (σ : fr_St), L_X8_copy_154 k3 k4 k5 n x6 σ = some (y6, τ) → fr_V p l e (fr_rm 2) s m args below meth c g Q 7 σ 154 [(0, .ref (g.2.1 59)), (1, .int k1), (2, .int k2), (3, .int k3), (4, .int k4), (5, .int k5), (6, .int x6)] [] := by
  intro n
  induction n with
  | zero => intro x6 σ hL; cases hL
  | succ n ih =>
    intro x6 σ hL
    rw [L_X8_copy_154] at hL
    refine sv_iload (i := 6) X dX8_copy_154 rfl ?_
    refine sv_iload (i := 5) X dX8_copy_156 rfl ?_
    refine sv_icmp_ge (tgt := 189) X dX8_copy_158 (by decide) (fun h5 => ?_) (fun h5 => ?_)
    · replace hL := fr_pos hL h5
      obtain ⟨rfl, rfl⟩ := fr_i2 hL
      exact K
    · replace hL := fr_neg hL h5
      refine sv_aload_n (i := 0) X dX8_copy_161 rfl rfl ?_
      refine sv_getr X ix_X8 rfl 2 (by decide) rfl rfl fl_X8_16 dX8_copy_162 ?_
      refine sv_bipush (v := 40) X dX8_copy_165 (by decide) ?_
      refine sv_iload_n (i := 3) X dX8_copy_167 rfl rfl ?_
      refine sv_imul X dX8_copy_168 ?_
      refine sv_iload (i := 4) X dX8_copy_169 rfl ?_
      refine sv_iadd X dX8_copy_171 ?_
      refine sv_iload (i := 6) X dX8_copy_172 rfl ?_
      refine sv_iadd X dX8_copy_174 ?_
      refine sv_aload_n (i := 0) X dX8_copy_175 rfl rfl ?_
      refine sv_getr X ix_X8 rfl 6 (by decide) rfl rfl fl_X8_22 dX8_copy_176 ?_
      refine sv_iload (i := 6) X dX8_copy_179 rfl ?_
      obtain ⟨hb1, hL⟩ := fr_chk hL
      refine sv_iald (j := (fr_ix x6)) X rfl hb1 rfl dX8_copy_181 ?_
      obtain ⟨hb2, hL⟩ := fr_chk hL
      refine sv_iast (j := (fr_ix ((((40 : Int32) * k3) + k4) + x6))) X rfl hb2 rfl dX8_copy_182 ?_
      refine sv_sig (fun s3 es3 => ?_)
      replace hL := fr_lete hL es3
      obtain ⟨v4, ev4⟩ : ∃ y : Int32, y = x6 + (1 : Int32) := ⟨_, rfl⟩
      replace hL := fr_lete hL ev4
      refine sv_iinc (i := 6) (v := v4) X dX8_copy_183 rfl (by rw [ev4]; rfl) (by decide) rfl ?_
      refine sv_goto (tgt := 154) X dX8_copy_186 (by decide) ?_
      exact sv_perm [1, 2, 3, 4, 5, 6, 0] rfl (ih _ _ hL)
def F_X8_copy (a1 : Int32) (a2 : Int32) (a3 : Int32) (a4 : Int32) (a5 : Int32) (σ : fr_St) : Option (Int32 × fr_St) := fr_bP (F_X8_isRow a1 σ) (fun b3 s2 => if (fr_bi b3) = 0 then (some ((-1000001 : Int32), s2)) else (fr_bP (F_X8_isRow a3 s2) (fun b6 s5 => if (fr_bi b6) = 0 then (some ((-1000001 : Int32), s5)) else (if fr_ib a1 8 = true then if (s5 61 (fr_ix a1)) < 0 then (fr_bP (F_X8_find (1 : Int32) s5) (fun r10 s9 => some (r10, s9))) else (if fr_ib a3 8 = true then if 0 ≤ (s5 61 (fr_ix a3)) then (if fr_ib a1 8 = true then if fr_ib a3 8 = true then if (s5 60 (fr_ix a1)) = (s5 60 (fr_ix a3)) then (if a5 < 0 then (fr_bP (F_X8_find (2 : Int32) s5) (fun r16 s15 => some (r16, s15))) else (if fr_ib a1 8 = true then fr_bP (F_X8_in (a2.toInt64) (0 : Int64) (((s5 61 (fr_ix a1)).toInt64) - (a5.toInt64)) s5) (fun b20 s19 => if (fr_bi b20) = 0 then (fr_bP (F_X8_find (2 : Int32) s19) (fun r23 s22 => some (r23, s22))) else (if fr_ib a3 8 = true then fr_bP (F_X8_in (a4.toInt64) (0 : Int64) (((s19 61 (fr_ix a3)).toInt64) - (a5.toInt64)) s19) (fun b27 s26 => if (fr_bi b27) = 0 then (fr_bP (F_X8_find (2 : Int32) s26) (fun r39 s38 => some (r39, s38))) else (fr_bP (L_X8_copy_117 a1 a2 a5 fr_fu (0 : Int32) s26) (fun v28 s29 => fr_bP (L_X8_copy_154 a3 a4 a5 fr_fu (0 : Int32) s29) (fun v31 s32 => fr_bP (F_X8_well a5 s32) (fun r36 s35 => some (r36, s35)))))) else none)) else none)) else (fr_bP (F_X8_find (5 : Int32) s5) (fun r45 s44 => some (r45, s44))) else none else none) else (fr_bP (F_X8_find (1 : Int32) s5) (fun r49 s48 => some (r49, s48))) else none) else none))))
set_option maxRecDepth 100000 in
set_option maxHeartbeats 4000000 in
theorem b_X8_copy {p : Program} {l : Launch} {e : Env} {s : State} {m : MethodId} {args : Array Value} {below : List Frame} {meth : Method} {c : Code} {g : fr_G} {Q : State → Prop} (X : fr_X p s m args meth c g cX8_copy RX8 7) (hr : meth.sig.returnType = (some .int)) {a1 : Int32} {a2 : Int32} {a3 : Int32} {a4 : Int32} {a5 : Int32}  {σ τ : fr_St} {r : Int32} (hQ : Q = fr_Qi below args s g r τ) (hF : F_X8_copy a1 a2 a3 a4 a5 σ = some (r, τ)) : fr_V p l e (fr_rm 2) s m args below meth c g Q 7 σ 0 [(0, .ref (g.2.1 59)), (1, .int a1), (2, .int a2), (3, .int a3), (4, .int a4), (5, .int a5)] [] := by
  unfold F_X8_copy at hF
  refine sv_iload_n (i := 1) X dX8_copy_0 rfl rfl ?_
  obtain ⟨b3, s2, hc1, hF⟩ := fr_bP_some hF
  refine sv_callSi X (c_X8_isRow hc1) cd_X8_isRow ml_X8_67 sm_X8_isRow in_RX8 hd_X8_isRow (by decide) rfl (Nat.le_of_ble_eq_true rfl) dX8_copy_1 rfl ?_
  refine sv_if_eq (tgt := 14) X dX8_copy_4 (by decide) (fun h53 => ?_) (fun h53 => ?_)
  · replace hF := fr_pos hF h53
    refine sv_ldc X kn_X8_73 dX8_copy_14 ?_
    exact sv_iret X hr hQ dX8_copy_16 hF
  · replace hF := fr_neg hF h53
    refine sv_iload_n (i := 3) X dX8_copy_7 rfl rfl ?_
    obtain ⟨b6, s5, hc4, hF⟩ := fr_bP_some hF
    refine sv_callSi X (c_X8_isRow hc4) cd_X8_isRow ml_X8_67 sm_X8_isRow in_RX8 hd_X8_isRow (by decide) rfl (Nat.le_of_ble_eq_true rfl) dX8_copy_8 rfl ?_
    refine sv_if_ne (tgt := 17) X dX8_copy_11 (by decide) (fun h52 => ?_) (fun h52 => ?_)
    · replace hF := fr_neg hF h52
      refine sv_aload_n (i := 0) X dX8_copy_17 rfl rfl ?_
      refine sv_getr X ix_X8 rfl 1 (by decide) rfl rfl fl_X8_13 dX8_copy_18 ?_
      refine sv_iload_n (i := 1) X dX8_copy_21 rfl rfl ?_
      obtain ⟨hb7, hF⟩ := fr_chk hF
      refine sv_iald (j := (fr_ix a1)) X rfl hb7 rfl dX8_copy_22 ?_
      refine sv_if_lt (tgt := 35) X dX8_copy_23 (by decide) (fun h51 => ?_) (fun h51 => ?_)
      · replace hF := fr_pos hF h51
        refine sv_aload_n (i := 0) X dX8_copy_35 rfl rfl ?_
        refine sv_iconst (v := 1) X dX8_copy_36 (by decide) ?_
        obtain ⟨r10, s9, hc8, hF⟩ := fr_bP_some hF
        refine sv_callVi X (c_X8_find hc8) cd_X8_find ml_X8_74 im_X8_find se_X8_find in_RX8 hd_X8_find rfl rfl (by decide) rfl (Nat.le_of_ble_eq_true rfl) dX8_copy_37 rfl ?_
        exact sv_iret X hr hQ dX8_copy_40 hF
      · replace hF := fr_neg hF h51
        refine sv_aload_n (i := 0) X dX8_copy_26 rfl rfl ?_
        refine sv_getr X ix_X8 rfl 1 (by decide) rfl rfl fl_X8_13 dX8_copy_27 ?_
        refine sv_iload_n (i := 3) X dX8_copy_30 rfl rfl ?_
        obtain ⟨hb11, hF⟩ := fr_chk hF
        refine sv_iald (j := (fr_ix a3)) X rfl hb11 rfl dX8_copy_31 ?_
        refine sv_if_ge (tgt := 41) X dX8_copy_32 (by decide) (fun h50 => ?_) (fun h50 => ?_)
        · replace hF := fr_pos hF h50
          refine sv_aload_n (i := 0) X dX8_copy_41 rfl rfl ?_
          refine sv_getr X ix_X8 rfl 0 (by decide) rfl rfl fl_X8_7 dX8_copy_42 ?_
          refine sv_iload_n (i := 1) X dX8_copy_45 rfl rfl ?_
          obtain ⟨hb12, hF⟩ := fr_chk hF
          refine sv_iald (j := (fr_ix a1)) X rfl hb12 rfl dX8_copy_46 ?_
          refine sv_aload_n (i := 0) X dX8_copy_47 rfl rfl ?_
          refine sv_getr X ix_X8 rfl 0 (by decide) rfl rfl fl_X8_7 dX8_copy_48 ?_
          refine sv_iload_n (i := 3) X dX8_copy_51 rfl rfl ?_
          obtain ⟨hb13, hF⟩ := fr_chk hF
          refine sv_iald (j := (fr_ix a3)) X rfl hb13 rfl dX8_copy_52 ?_
          refine sv_icmp_eq (tgt := 62) X dX8_copy_53 (by decide) (fun h46 => ?_) (fun h46 => ?_)
          · replace hF := fr_pos hF h46
            refine sv_iload (i := 5) X dX8_copy_62 rfl ?_
            refine sv_if_lt (tgt := 108) X dX8_copy_64 (by decide) (fun h42 => ?_) (fun h42 => ?_)
            · replace hF := fr_pos hF h42
              refine sv_aload_n (i := 0) X dX8_copy_108 rfl rfl ?_
              refine sv_iconst (v := 2) X dX8_copy_109 (by decide) ?_
              obtain ⟨r16, s15, hc14, hF⟩ := fr_bP_some hF
              refine sv_callVi X (c_X8_find hc14) cd_X8_find ml_X8_74 im_X8_find se_X8_find in_RX8 hd_X8_find rfl rfl (by decide) rfl (Nat.le_of_ble_eq_true rfl) dX8_copy_110 rfl ?_
              exact sv_iret X hr hQ dX8_copy_113 hF
            · replace hF := fr_neg hF h42
              refine sv_iload_n (i := 2) X dX8_copy_67 rfl rfl ?_
              refine sv_i2l X dX8_copy_68 ?_
              refine sv_lconst (v := 0) X dX8_copy_69 (by decide) ?_
              refine sv_aload_n (i := 0) X dX8_copy_70 rfl rfl ?_
              refine sv_getr X ix_X8 rfl 1 (by decide) rfl rfl fl_X8_13 dX8_copy_71 ?_
              refine sv_iload_n (i := 1) X dX8_copy_74 rfl rfl ?_
              obtain ⟨hb17, hF⟩ := fr_chk hF
              refine sv_iald (j := (fr_ix a1)) X rfl hb17 rfl dX8_copy_75 ?_
              refine sv_i2l X dX8_copy_76 ?_
              refine sv_iload (i := 5) X dX8_copy_77 rfl ?_
              refine sv_i2l X dX8_copy_79 ?_
              refine sv_lsub X dX8_copy_80 ?_
              obtain ⟨b20, s19, hc18, hF⟩ := fr_bP_some hF
              refine sv_callSi X (c_X8_in hc18) cd_X8_in ml_X8_63 sm_X8_in in_RX8 hd_X8_in (by decide) rfl (Nat.le_of_ble_eq_true rfl) dX8_copy_81 rfl ?_
              refine sv_if_eq (tgt := 108) X dX8_copy_84 (by decide) (fun h41 => ?_) (fun h41 => ?_)
              · replace hF := fr_pos hF h41
                refine sv_aload_n (i := 0) X dX8_copy_108 rfl rfl ?_
                refine sv_iconst (v := 2) X dX8_copy_109 (by decide) ?_
                obtain ⟨r23, s22, hc21, hF⟩ := fr_bP_some hF
                refine sv_callVi X (c_X8_find hc21) cd_X8_find ml_X8_74 im_X8_find se_X8_find in_RX8 hd_X8_find rfl rfl (by decide) rfl (Nat.le_of_ble_eq_true rfl) dX8_copy_110 rfl ?_
                exact sv_iret X hr hQ dX8_copy_113 hF
              · replace hF := fr_neg hF h41
                refine sv_iload (i := 4) X dX8_copy_87 rfl ?_
                refine sv_i2l X dX8_copy_89 ?_
                refine sv_lconst (v := 0) X dX8_copy_90 (by decide) ?_
                refine sv_aload_n (i := 0) X dX8_copy_91 rfl rfl ?_
                refine sv_getr X ix_X8 rfl 1 (by decide) rfl rfl fl_X8_13 dX8_copy_92 ?_
                refine sv_iload_n (i := 3) X dX8_copy_95 rfl rfl ?_
                obtain ⟨hb24, hF⟩ := fr_chk hF
                refine sv_iald (j := (fr_ix a3)) X rfl hb24 rfl dX8_copy_96 ?_
                refine sv_i2l X dX8_copy_97 ?_
                refine sv_iload (i := 5) X dX8_copy_98 rfl ?_
                refine sv_i2l X dX8_copy_100 ?_
                refine sv_lsub X dX8_copy_101 ?_
                obtain ⟨b27, s26, hc25, hF⟩ := fr_bP_some hF
                refine sv_callSi X (c_X8_in hc25) cd_X8_in ml_X8_63 sm_X8_in in_RX8 hd_X8_in (by decide) rfl (Nat.le_of_ble_eq_true rfl) dX8_copy_102 rfl ?_
                refine sv_if_ne (tgt := 114) X dX8_copy_105 (by decide) (fun h40 => ?_) (fun h40 => ?_)
                · replace hF := fr_neg hF h40
                  refine sv_iconst (v := 0) X dX8_copy_114 (by decide) ?_
                  refine sv_istore X dX8_copy_115 (by decide) rfl ?_
                  refine sv_perm [1, 2, 3, 4, 5, 6, 0] rfl ?_
                  obtain ⟨v28, s29, hl30, hF⟩ := fr_bP_some hF
                  refine wL_X8_copy_117 X  a1 a2 a3 a4 a5 ?_ fr_fu _ _ hl30
                  refine sv_iconst (v := 0) X dX8_copy_151 (by decide) ?_
                  refine sv_istore X dX8_copy_152 (by decide) rfl ?_
                  refine sv_perm [1, 2, 3, 4, 5, 6, 0] rfl ?_
                  obtain ⟨v31, s32, hl33, hF⟩ := fr_bP_some hF
                  refine wL_X8_copy_154 X  a1 a2 a3 a4 a5 ?_ fr_fu _ _ hl33
                  refine sv_aload_n (i := 0) X dX8_copy_189 rfl rfl ?_
                  refine sv_iload (i := 5) X dX8_copy_190 rfl ?_
                  obtain ⟨r36, s35, hc34, hF⟩ := fr_bP_some hF
                  refine sv_callVi X (c_X8_well hc34) cd_X8_well ml_X8_78 im_X8_well se_X8_well in_RX8 hd_X8_well rfl rfl (by decide) rfl (Nat.le_of_ble_eq_true rfl) dX8_copy_192 rfl ?_
                  exact sv_iret X hr hQ dX8_copy_195 hF
                · replace hF := fr_pos hF h40
                  refine sv_aload_n (i := 0) X dX8_copy_108 rfl rfl ?_
                  refine sv_iconst (v := 2) X dX8_copy_109 (by decide) ?_
                  obtain ⟨r39, s38, hc37, hF⟩ := fr_bP_some hF
                  refine sv_callVi X (c_X8_find hc37) cd_X8_find ml_X8_74 im_X8_find se_X8_find in_RX8 hd_X8_find rfl rfl (by decide) rfl (Nat.le_of_ble_eq_true rfl) dX8_copy_110 rfl ?_
                  exact sv_iret X hr hQ dX8_copy_113 hF
          · replace hF := fr_neg hF h46
            refine sv_aload_n (i := 0) X dX8_copy_56 rfl rfl ?_
            refine sv_iconst (v := 5) X dX8_copy_57 (by decide) ?_
            obtain ⟨r45, s44, hc43, hF⟩ := fr_bP_some hF
            refine sv_callVi X (c_X8_find hc43) cd_X8_find ml_X8_74 im_X8_find se_X8_find in_RX8 hd_X8_find rfl rfl (by decide) rfl (Nat.le_of_ble_eq_true rfl) dX8_copy_58 rfl ?_
            exact sv_iret X hr hQ dX8_copy_61 hF
        · replace hF := fr_neg hF h50
          refine sv_aload_n (i := 0) X dX8_copy_35 rfl rfl ?_
          refine sv_iconst (v := 1) X dX8_copy_36 (by decide) ?_
          obtain ⟨r49, s48, hc47, hF⟩ := fr_bP_some hF
          refine sv_callVi X (c_X8_find hc47) cd_X8_find ml_X8_74 im_X8_find se_X8_find in_RX8 hd_X8_find rfl rfl (by decide) rfl (Nat.le_of_ble_eq_true rfl) dX8_copy_37 rfl ?_
          exact sv_iret X hr hQ dX8_copy_40 hF
    · replace hF := fr_pos hF h52
      refine sv_ldc X kn_X8_73 dX8_copy_14 ?_
      exact sv_iret X hr hQ dX8_copy_16 hF
theorem c_X8_copy {l : Launch} {g : fr_G} {a1 : Int32} {a2 : Int32} {a3 : Int32} {a4 : Int32} {a5 : Int32}  {σ τ : fr_St} {r : Int32} (hF : F_X8_copy a1 a2 a3 a4 a5 σ = some (r, τ)) : fr_Ci l g yX8_copy (fr_ws yX8_copy cX8_copy 7 (some .int)) 2 [.ref (g.2.1 59), .int a1, .int a2, .int a3, .int a4, .int a5] σ r τ := fr_mi (by decide) (Nat.le_of_ble_eq_true rfl) (fun p e s m below meth c X hr => b_X8_copy X hr  rfl hF)
def F_X8_drop (a1 : Int32) (σ : fr_St) : Option (Int32 × fr_St) := fr_bP (F_X8_isRow a1 σ) (fun b3 s2 => if (fr_bi b3) = 0 then (some ((-1000001 : Int32), s2)) else (if fr_ib a1 8 = true then if 0 ≤ (s2 61 (fr_ix a1)) then (if fr_ib a1 8 = true then fr_let ((s2 61 (fr_ix a1))) (fun v6 => if fr_ib a1 8 = true then fr_let (fr_up s2 61 (fr_ix a1) (-1 : Int32)) (fun s8 => fr_bP (F_X8_well v6 s8) (fun r11 s10 => some (r11, s10))) else none) else none) else (fr_bP (F_X8_find (1 : Int32) s2) (fun r14 s13 => some (r14, s13))) else none))
set_option maxRecDepth 100000 in
set_option maxHeartbeats 4000000 in
theorem b_X8_drop {p : Program} {l : Launch} {e : Env} {s : State} {m : MethodId} {args : Array Value} {below : List Frame} {meth : Method} {c : Code} {g : fr_G} {Q : State → Prop} (X : fr_X p s m args meth c g cX8_drop RX8 3) (hr : meth.sig.returnType = (some .int)) {a1 : Int32}  {σ τ : fr_St} {r : Int32} (hQ : Q = fr_Qi below args s g r τ) (hF : F_X8_drop a1 σ = some (r, τ)) : fr_V p l e (fr_rm 2) s m args below meth c g Q 3 σ 0 [(0, .ref (g.2.1 59)), (1, .int a1)] [] := by
  unfold F_X8_drop at hF
  refine sv_iload_n (i := 1) X dX8_drop_0 rfl rfl ?_
  obtain ⟨b3, s2, hc1, hF⟩ := fr_bP_some hF
  refine sv_callSi X (c_X8_isRow hc1) cd_X8_isRow ml_X8_67 sm_X8_isRow in_RX8 hd_X8_isRow (by decide) rfl (Nat.le_of_ble_eq_true rfl) dX8_drop_1 rfl ?_
  refine sv_if_ne (tgt := 10) X dX8_drop_4 (by decide) (fun h16 => ?_) (fun h16 => ?_)
  · replace hF := fr_neg hF h16
    refine sv_aload_n (i := 0) X dX8_drop_10 rfl rfl ?_
    refine sv_getr X ix_X8 rfl 1 (by decide) rfl rfl fl_X8_13 dX8_drop_11 ?_
    refine sv_iload_n (i := 1) X dX8_drop_14 rfl rfl ?_
    obtain ⟨hb4, hF⟩ := fr_chk hF
    refine sv_iald (j := (fr_ix a1)) X rfl hb4 rfl dX8_drop_15 ?_
    refine sv_if_ge (tgt := 25) X dX8_drop_16 (by decide) (fun h15 => ?_) (fun h15 => ?_)
    · replace hF := fr_pos hF h15
      refine sv_aload_n (i := 0) X dX8_drop_25 rfl rfl ?_
      refine sv_getr X ix_X8 rfl 1 (by decide) rfl rfl fl_X8_13 dX8_drop_26 ?_
      refine sv_iload_n (i := 1) X dX8_drop_29 rfl rfl ?_
      obtain ⟨hb5, hF⟩ := fr_chk hF
      refine sv_iald (j := (fr_ix a1)) X rfl hb5 rfl dX8_drop_30 ?_
      refine sv_topi (fun v6 ev6 => ?_)
      replace hF := fr_lete hF ev6
      refine sv_istore_n X dX8_drop_31 rfl (by decide) rfl ?_
      refine sv_aload_n (i := 1) X dX8_drop_32 rfl rfl ?_
      refine sv_getr X ix_X8 rfl 1 (by decide) rfl rfl fl_X8_13 dX8_drop_33 ?_
      refine sv_iload_n (i := 2) X dX8_drop_36 rfl rfl ?_
      refine sv_iconst (v := (-1)) X dX8_drop_37 (by decide) ?_
      obtain ⟨hb7, hF⟩ := fr_chk hF
      refine sv_iast (j := (fr_ix a1)) X rfl hb7 rfl dX8_drop_38 ?_
      refine sv_sig (fun s8 es8 => ?_)
      replace hF := fr_lete hF es8
      refine sv_aload_n (i := 1) X dX8_drop_39 rfl rfl ?_
      refine sv_iload_n (i := 0) X dX8_drop_40 rfl rfl ?_
      obtain ⟨r11, s10, hc9, hF⟩ := fr_bP_some hF
      refine sv_callVi X (c_X8_well hc9) cd_X8_well ml_X8_78 im_X8_well se_X8_well in_RX8 hd_X8_well rfl rfl (by decide) rfl (Nat.le_of_ble_eq_true rfl) dX8_drop_41 rfl ?_
      exact sv_iret X hr hQ dX8_drop_44 hF
    · replace hF := fr_neg hF h15
      refine sv_aload_n (i := 0) X dX8_drop_19 rfl rfl ?_
      refine sv_iconst (v := 1) X dX8_drop_20 (by decide) ?_
      obtain ⟨r14, s13, hc12, hF⟩ := fr_bP_some hF
      refine sv_callVi X (c_X8_find hc12) cd_X8_find ml_X8_74 im_X8_find se_X8_find in_RX8 hd_X8_find rfl rfl (by decide) rfl (Nat.le_of_ble_eq_true rfl) dX8_drop_21 rfl ?_
      exact sv_iret X hr hQ dX8_drop_24 hF
  · replace hF := fr_pos hF h16
    refine sv_ldc X kn_X8_73 dX8_drop_7 ?_
    exact sv_iret X hr hQ dX8_drop_9 hF
theorem c_X8_drop {l : Launch} {g : fr_G} {a1 : Int32}  {σ τ : fr_St} {r : Int32} (hF : F_X8_drop a1 σ = some (r, τ)) : fr_Ci l g yX8_drop (fr_ws yX8_drop cX8_drop 3 (some .int)) 2 [.ref (g.2.1 59), .int a1] σ r τ := fr_mi (by decide) (Nat.le_of_ble_eq_true rfl) (fun p e s m below meth c X hr => b_X8_drop X hr  rfl hF)
def F_X8_feed (a1 : Int32) (σ : fr_St) : Option (Int32 × fr_St) := fr_bP (F_X8_in (a1.toInt64) (0 : Int64) (255 : Int64) σ) (fun b3 s2 => if (fr_bi b3) = 0 then (some ((-1000001 : Int32), s2)) else (if (s2 59 8) = (120 : Int32) then (some ((-1000003 : Int32), s2)) else (if fr_ib (s2 59 8) 120 = true then fr_let (fr_up s2 65 (fr_ix (s2 59 8)) a1) (fun s5 => fr_let (fr_up s5 59 8 ((s5 59 8) + (1 : Int32))) (fun s6 => some ((s6 59 8), s6))) else none)))
set_option maxRecDepth 100000 in
set_option maxHeartbeats 4000000 in
theorem b_X8_feed {p : Program} {l : Launch} {e : Env} {s : State} {m : MethodId} {args : Array Value} {below : List Frame} {meth : Method} {c : Code} {g : fr_G} {Q : State → Prop} (X : fr_X p s m args meth c g cX8_feed RX8 2) (hr : meth.sig.returnType = (some .int)) {a1 : Int32}  {σ τ : fr_St} {r : Int32} (hQ : Q = fr_Qi below args s g r τ) (hF : F_X8_feed a1 σ = some (r, τ)) : fr_V p l e (fr_rm 1) s m args below meth c g Q 2 σ 0 [(0, .ref (g.2.1 59)), (1, .int a1)] [] := by
  unfold F_X8_feed at hF
  refine sv_iload_n (i := 1) X dX8_feed_0 rfl rfl ?_
  refine sv_i2l X dX8_feed_1 ?_
  refine sv_lconst (v := 0) X dX8_feed_2 (by decide) ?_
  refine sv_ldc2_w X kl_X8_85 dX8_feed_3 ?_
  obtain ⟨b3, s2, hc1, hF⟩ := fr_bP_some hF
  refine sv_callSi X (c_X8_in hc1) cd_X8_in ml_X8_63 sm_X8_in in_RX8 hd_X8_in (by decide) rfl (Nat.le_of_ble_eq_true rfl) dX8_feed_6 rfl ?_
  refine sv_if_ne (tgt := 15) X dX8_feed_9 (by decide) (fun h8 => ?_) (fun h8 => ?_)
  · replace hF := fr_neg hF h8
    refine sv_aload_n (i := 0) X dX8_feed_15 rfl rfl ?_
    refine sv_geti X ix_X8 rfl 8 (by decide) rfl rfl fl_X8_87 dX8_feed_16 ?_
    refine sv_bipush (v := 120) X dX8_feed_19 (by decide) ?_
    refine sv_icmp_ne (tgt := 27) X dX8_feed_21 (by decide) (fun h7 => ?_) (fun h7 => ?_)
    · replace hF := fr_neg hF h7
      refine sv_aload_n (i := 0) X dX8_feed_27 rfl rfl ?_
      refine sv_getr X ix_X8 rfl 7 (by decide) rfl rfl fl_X8_25 dX8_feed_28 ?_
      refine sv_aload_n (i := 0) X dX8_feed_31 rfl rfl ?_
      refine sv_geti X ix_X8 rfl 8 (by decide) rfl rfl fl_X8_87 dX8_feed_32 ?_
      refine sv_iload_n (i := 1) X dX8_feed_35 rfl rfl ?_
      obtain ⟨hb4, hF⟩ := fr_chk hF
      refine sv_iast (j := (fr_ix (s2 59 8))) X rfl hb4 rfl dX8_feed_36 ?_
      refine sv_sig (fun s5 es5 => ?_)
      replace hF := fr_lete hF es5
      refine sv_aload_n (i := 0) X dX8_feed_37 rfl rfl ?_
      refine sv_dup X dX8_feed_38 rfl ?_
      refine sv_geti X ix_X8 rfl 8 (by decide) rfl rfl fl_X8_87 dX8_feed_39 ?_
      refine sv_iconst (v := 1) X dX8_feed_42 (by decide) ?_
      refine sv_iadd X dX8_feed_43 ?_
      refine sv_puti (ty := .int) X ix_X8 tyX8_ok nmX8 rfl 8 (by decide) rfl rfl fl_X8_87 rfl rfl rfl rfl dX8_feed_44 ?_
      refine sv_sig (fun s6 es6 => ?_)
      replace hF := fr_lete hF es6
      refine sv_aload_n (i := 0) X dX8_feed_47 rfl rfl ?_
      refine sv_geti X ix_X8 rfl 8 (by decide) rfl rfl fl_X8_87 dX8_feed_48 ?_
      exact sv_iret X hr hQ dX8_feed_51 hF
    · replace hF := fr_pos hF h7
      refine sv_ldc X kn_X8_90 dX8_feed_24 ?_
      exact sv_iret X hr hQ dX8_feed_26 hF
  · replace hF := fr_pos hF h8
    refine sv_ldc X kn_X8_73 dX8_feed_12 ?_
    exact sv_iret X hr hQ dX8_feed_14 hF
theorem c_X8_feed {l : Launch} {g : fr_G} {a1 : Int32}  {σ τ : fr_St} {r : Int32} (hF : F_X8_feed a1 σ = some (r, τ)) : fr_Ci l g yX8_feed (fr_ws yX8_feed cX8_feed 2 (some .int)) 1 [.ref (g.2.1 59), .int a1] σ r τ := fr_mi (by decide) (Nat.le_of_ble_eq_true rfl) (fun p e s m below meth c X hr => b_X8_feed X hr  rfl hF)
def L_X8_nextToken_33  : Nat → fr_St → Option (fr_St)
  | 0, _ => none
  | n + 1, σ => if (σ 59 8) ≤ (σ 59 10) then (some σ) else (if fr_ib (σ 59 10) 120 = true then fr_bP (F_X8_in ((σ 65 (fr_ix (σ 59 10))).toInt64) (48 : Int64) (57 : Int64) σ) (fun b4 s3 => if (fr_bi b4) = 0 then (some s3) else (fr_bS (if (s3 59 12) ≤ (999 : Int32) then (if fr_ib (s3 59 10) 120 = true then some (((((10 : Int32) * (s3 59 12)) + (s3 65 (fr_ix (s3 59 10)))) - (48 : Int32))) else none) else (some ((s3 59 12)))) (fun v5 => fr_let (fr_up s3 59 12 v5) (fun s8 => fr_let (fr_up s8 59 10 ((s8 59 10) + (1 : Int32))) (fun s9 => L_X8_nextToken_33  n s9))))) else none)
set_option maxRecDepth 100000 in
set_option maxHeartbeats 4000000 in
theorem wL_X8_nextToken_33 {p : Program} {l : Launch} {e : Env} {s : State} {m : MethodId} {args : Array Value} {below : List Frame} {meth : Method} {c : Code} {g : fr_G} {Q : State → Prop} (X : fr_X p s m args meth c g cX8_nextToken RX8 1)    {τ : fr_St} (K : fr_V p l e (fr_rm 1) s m args below meth c g Q 1 τ 120 [(0, .ref (g.2.1 59))] []) : ∀ (n : Nat)  (σ : fr_St), L_X8_nextToken_33  n  σ = some τ → fr_V p l e (fr_rm 1) s m args below meth c g Q 1 σ 33 [(0, .ref (g.2.1 59))] [] := by
  intro n
  induction n with
  | zero => intro σ hL; cases hL
  | succ n ih =>
    intro σ hL
    rw [L_X8_nextToken_33] at hL
    refine sv_aload_n (i := 0) X dX8_nextToken_33 rfl rfl ?_
    refine sv_geti X ix_X8 rfl 10 (by decide) rfl rfl fl_X8_91 dX8_nextToken_34 ?_
    refine sv_aload_n (i := 0) X dX8_nextToken_37 rfl rfl ?_
    refine sv_geti X ix_X8 rfl 8 (by decide) rfl rfl fl_X8_87 dX8_nextToken_38 ?_
    refine sv_icmp_ge (tgt := 120) X dX8_nextToken_41 (by decide) (fun h13 => ?_) (fun h13 => ?_)
    · replace hL := fr_pos hL h13
      obtain rfl := fr_i1 hL
      exact K
    · replace hL := fr_neg hL h13
      refine sv_aload_n (i := 0) X dX8_nextToken_44 rfl rfl ?_
      refine sv_getr X ix_X8 rfl 7 (by decide) rfl rfl fl_X8_25 dX8_nextToken_45 ?_
      refine sv_aload_n (i := 0) X dX8_nextToken_48 rfl rfl ?_
      refine sv_geti X ix_X8 rfl 10 (by decide) rfl rfl fl_X8_91 dX8_nextToken_49 ?_
      obtain ⟨hb1, hL⟩ := fr_chk hL
      refine sv_iald (j := (fr_ix (σ 59 10))) X rfl hb1 rfl dX8_nextToken_52 ?_
      refine sv_i2l X dX8_nextToken_53 ?_
      refine sv_ldc2_w X kl_X8_103 dX8_nextToken_54 ?_
      refine sv_ldc2_w X kl_X8_105 dX8_nextToken_57 ?_
      obtain ⟨b4, s3, hc2, hL⟩ := fr_bP_some hL
      refine sv_callSi X (c_X8_in hc2) cd_X8_in ml_X8_63 sm_X8_in in_RX8 hd_X8_in (by decide) rfl (Nat.le_of_ble_eq_true rfl) dX8_nextToken_60 rfl ?_
      refine sv_if_eq (tgt := 120) X dX8_nextToken_63 (by decide) (fun h12 => ?_) (fun h12 => ?_)
      · replace hL := fr_pos hL h12
        obtain rfl := fr_i1 hL
        exact K
      · replace hL := fr_neg hL h12
        refine sv_aload_n (i := 0) X dX8_nextToken_66 rfl rfl ?_
        refine sv_aload_n (i := 0) X dX8_nextToken_67 rfl rfl ?_
        refine sv_geti X ix_X8 rfl 12 (by decide) rfl rfl fl_X8_100 dX8_nextToken_68 ?_
        refine sv_sipush (v := 999) X dX8_nextToken_71 (by decide) ?_
        obtain ⟨v5, hM6, hL⟩ := fr_bS_some hL
        have K7 : fr_V p l e (fr_rm 1) s m args below meth c g Q 1 s3 104 [(0, .ref (g.2.1 59))] [.int v5, .ref (g.2.1 59)] := by
          refine sv_puti (ty := .int) X ix_X8 tyX8_ok nmX8 rfl 12 (by decide) rfl rfl fl_X8_100 rfl rfl rfl rfl dX8_nextToken_104 ?_
          refine sv_sig (fun s8 es8 => ?_)
          replace hL := fr_lete hL es8
          refine sv_aload_n (i := 0) X dX8_nextToken_107 rfl rfl ?_
          refine sv_dup X dX8_nextToken_108 rfl ?_
          refine sv_geti X ix_X8 rfl 10 (by decide) rfl rfl fl_X8_91 dX8_nextToken_109 ?_
          refine sv_iconst (v := 1) X dX8_nextToken_112 (by decide) ?_
          refine sv_iadd X dX8_nextToken_113 ?_
          refine sv_puti (ty := .int) X ix_X8 tyX8_ok nmX8 rfl 10 (by decide) rfl rfl fl_X8_91 rfl rfl rfl rfl dX8_nextToken_114 ?_
          refine sv_sig (fun s9 es9 => ?_)
          replace hL := fr_lete hL es9
          refine sv_goto (tgt := 33) X dX8_nextToken_117 (by decide) ?_
          exact ih _ hL
        refine sv_icmp_le (tgt := 84) X dX8_nextToken_74 (by decide) (fun h11 => ?_) (fun h11 => ?_)
        · replace hM6 := fr_pos hM6 h11
          refine sv_bipush (v := 10) X dX8_nextToken_84 (by decide) ?_
          refine sv_aload_n (i := 0) X dX8_nextToken_86 rfl rfl ?_
          refine sv_geti X ix_X8 rfl 12 (by decide) rfl rfl fl_X8_100 dX8_nextToken_87 ?_
          refine sv_imul X dX8_nextToken_90 ?_
          refine sv_aload_n (i := 0) X dX8_nextToken_91 rfl rfl ?_
          refine sv_getr X ix_X8 rfl 7 (by decide) rfl rfl fl_X8_25 dX8_nextToken_92 ?_
          refine sv_aload_n (i := 0) X dX8_nextToken_95 rfl rfl ?_
          refine sv_geti X ix_X8 rfl 10 (by decide) rfl rfl fl_X8_91 dX8_nextToken_96 ?_
          obtain ⟨hb10, hM6⟩ := fr_chk hM6
          refine sv_iald (j := (fr_ix (s3 59 10))) X rfl hb10 rfl dX8_nextToken_99 ?_
          refine sv_iadd X dX8_nextToken_100 ?_
          refine sv_bipush (v := 48) X dX8_nextToken_101 (by decide) ?_
          refine sv_isub X dX8_nextToken_103 ?_
          obtain rfl := fr_i1 hM6
          exact K7
        · replace hM6 := fr_neg hM6 h11
          refine sv_aload_n (i := 0) X dX8_nextToken_77 rfl rfl ?_
          refine sv_geti X ix_X8 rfl 12 (by decide) rfl rfl fl_X8_100 dX8_nextToken_78 ?_
          refine sv_goto (tgt := 104) X dX8_nextToken_81 (by decide) ?_
          obtain rfl := fr_i1 hM6
          exact K7
def F_X8_nextToken  (σ : fr_St) : Option fr_St := fr_let (fr_up σ 59 13 (σ 59 10)) (fun s1 => fr_bS (if (s1 59 10) = (s1 59 8) then (some ((3 : Int32))) else (some ((0 : Int32)))) (fun v2 => fr_let (fr_up s1 59 11 v2) (fun s5 => fr_let (fr_up s5 59 12 (0 : Int32)) (fun s6 => fr_bS (L_X8_nextToken_33  fr_fu s6) (fun s7 => fr_bS (if (s7 59 10) ≤ (s7 59 13) then (if (s7 59 11) = 0 then (if fr_ib (s7 59 10) 120 = true then fr_let (fr_up s7 59 12 (s7 65 (fr_ix (s7 59 10)))) (fun s13 => fr_bP (F_X8_in ((s13 59 12).toInt64) (97 : Int64) (122 : Int64) s13) (fun b16 s15 => fr_bS (if (fr_bi b16) = 0 then (if (s15 59 12) = (44 : Int32) then (some ((1 : Int32))) else (if (s15 59 12) = (59 : Int32) then (some ((1 : Int32))) else (some ((0 : Int32))))) else (some ((1 : Int32)))) (fun v17 => fr_let (fr_up s15 59 11 v17) (fun s20 => fr_let (fr_up s20 59 10 ((s20 59 10) + (1 : Int32))) (fun s21 => some (s21)))))) else none) else (some (s7))) else (fr_bS (if ((s7 59 10) - (s7 59 13)) ≤ (3 : Int32) then (some ((2 : Int32))) else (some ((0 : Int32)))) (fun v26 => fr_let (fr_up s7 59 11 v26) (fun s29 => some (s29))))) (fun s9 => some s9))))))
set_option maxRecDepth 100000 in
set_option maxHeartbeats 4000000 in
theorem b_X8_nextToken {p : Program} {l : Launch} {e : Env} {s : State} {m : MethodId} {args : Array Value} {below : List Frame} {meth : Method} {c : Code} {g : fr_G} {Q : State → Prop} (X : fr_X p s m args meth c g cX8_nextToken RX8 1) (hr : meth.sig.returnType = (Option.none : Option Jvm.ClassFile.FieldType))   {σ τ : fr_St} (hQ : Q = fr_Qv below args s g τ) (hF : F_X8_nextToken  σ = some τ) : fr_V p l e (fr_rm 1) s m args below meth c g Q 1 σ 0 [(0, .ref (g.2.1 59))] [] := by
  unfold F_X8_nextToken at hF
  refine sv_aload_n (i := 0) X dX8_nextToken_0 rfl rfl ?_
  refine sv_aload_n (i := 0) X dX8_nextToken_1 rfl rfl ?_
  refine sv_geti X ix_X8 rfl 10 (by decide) rfl rfl fl_X8_91 dX8_nextToken_2 ?_
  refine sv_puti (ty := .int) X ix_X8 tyX8_ok nmX8 rfl 13 (by decide) rfl rfl fl_X8_94 rfl rfl rfl rfl dX8_nextToken_5 ?_
  refine sv_sig (fun s1 es1 => ?_)
  replace hF := fr_lete hF es1
  refine sv_aload_n (i := 0) X dX8_nextToken_8 rfl rfl ?_
  refine sv_aload_n (i := 0) X dX8_nextToken_9 rfl rfl ?_
  refine sv_geti X ix_X8 rfl 10 (by decide) rfl rfl fl_X8_91 dX8_nextToken_10 ?_
  refine sv_aload_n (i := 0) X dX8_nextToken_13 rfl rfl ?_
  refine sv_geti X ix_X8 rfl 8 (by decide) rfl rfl fl_X8_87 dX8_nextToken_14 ?_
  obtain ⟨v2, hM3, hF⟩ := fr_bS_some hF
  have K4 : fr_V p l e (fr_rm 1) s m args below meth c g Q 1 s1 25 [(0, .ref (g.2.1 59))] [.int v2, .ref (g.2.1 59)] := by
    refine sv_puti (ty := .int) X ix_X8 tyX8_ok nmX8 rfl 11 (by decide) rfl rfl fl_X8_97 rfl rfl rfl rfl dX8_nextToken_25 ?_
    refine sv_sig (fun s5 es5 => ?_)
    replace hF := fr_lete hF es5
    refine sv_aload_n (i := 0) X dX8_nextToken_28 rfl rfl ?_
    refine sv_iconst (v := 0) X dX8_nextToken_29 (by decide) ?_
    refine sv_puti (ty := .int) X ix_X8 tyX8_ok nmX8 rfl 12 (by decide) rfl rfl fl_X8_100 rfl rfl rfl rfl dX8_nextToken_30 ?_
    refine sv_sig (fun s6 es6 => ?_)
    replace hF := fr_lete hF es6
    obtain ⟨s7, hl8, hF⟩ := fr_bS_some hF
    refine wL_X8_nextToken_33 X   ?_ fr_fu _ hl8
    refine sv_aload_n (i := 0) X dX8_nextToken_120 rfl rfl ?_
    refine sv_geti X ix_X8 rfl 10 (by decide) rfl rfl fl_X8_91 dX8_nextToken_121 ?_
    refine sv_aload_n (i := 0) X dX8_nextToken_124 rfl rfl ?_
    refine sv_geti X ix_X8 rfl 13 (by decide) rfl rfl fl_X8_94 dX8_nextToken_125 ?_
    obtain ⟨s9, hM10, hF⟩ := fr_bS_some hF
    have K11 : fr_V p l e (fr_rm 1) s m args below meth c g Q 1 s9 230 [(0, .ref (g.2.1 59))] [] := by
      exact sv_vret X hr hQ dX8_nextToken_230 hF
    refine sv_icmp_le (tgt := 156) X dX8_nextToken_128 (by decide) (fun h31 => ?_) (fun h31 => ?_)
    · replace hM10 := fr_pos hM10 h31
      refine sv_aload_n (i := 0) X dX8_nextToken_156 rfl rfl ?_
      refine sv_geti X ix_X8 rfl 11 (by decide) rfl rfl fl_X8_97 dX8_nextToken_157 ?_
      refine sv_if_ne (tgt := 230) X dX8_nextToken_160 (by decide) (fun h25 => ?_) (fun h25 => ?_)
      · replace hM10 := fr_neg hM10 h25
        obtain rfl := fr_i1 hM10
        exact K11
      · replace hM10 := fr_pos hM10 h25
        refine sv_aload_n (i := 0) X dX8_nextToken_163 rfl rfl ?_
        refine sv_aload_n (i := 0) X dX8_nextToken_164 rfl rfl ?_
        refine sv_getr X ix_X8 rfl 7 (by decide) rfl rfl fl_X8_25 dX8_nextToken_165 ?_
        refine sv_aload_n (i := 0) X dX8_nextToken_168 rfl rfl ?_
        refine sv_geti X ix_X8 rfl 10 (by decide) rfl rfl fl_X8_91 dX8_nextToken_169 ?_
        obtain ⟨hb12, hM10⟩ := fr_chk hM10
        refine sv_iald (j := (fr_ix (s7 59 10))) X rfl hb12 rfl dX8_nextToken_172 ?_
        refine sv_puti (ty := .int) X ix_X8 tyX8_ok nmX8 rfl 12 (by decide) rfl rfl fl_X8_100 rfl rfl rfl rfl dX8_nextToken_173 ?_
        refine sv_sig (fun s13 es13 => ?_)
        replace hM10 := fr_lete hM10 es13
        refine sv_aload_n (i := 0) X dX8_nextToken_176 rfl rfl ?_
        refine sv_aload_n (i := 0) X dX8_nextToken_177 rfl rfl ?_
        refine sv_geti X ix_X8 rfl 12 (by decide) rfl rfl fl_X8_100 dX8_nextToken_178 ?_
        refine sv_i2l X dX8_nextToken_181 ?_
        refine sv_ldc2_w X kl_X8_107 dX8_nextToken_182 ?_
        refine sv_ldc2_w X kl_X8_109 dX8_nextToken_185 ?_
        obtain ⟨b16, s15, hc14, hM10⟩ := fr_bP_some hM10
        refine sv_callSi X (c_X8_in hc14) cd_X8_in ml_X8_63 sm_X8_in in_RX8 hd_X8_in (by decide) rfl (Nat.le_of_ble_eq_true rfl) dX8_nextToken_188 rfl ?_
        obtain ⟨v17, hM18, hM10⟩ := fr_bS_some hM10
        have K19 : fr_V p l e (fr_rm 1) s m args below meth c g Q 1 s15 217 [(0, .ref (g.2.1 59))] [.int v17, .ref (g.2.1 59)] := by
          refine sv_puti (ty := .int) X ix_X8 tyX8_ok nmX8 rfl 11 (by decide) rfl rfl fl_X8_97 rfl rfl rfl rfl dX8_nextToken_217 ?_
          refine sv_sig (fun s20 es20 => ?_)
          replace hM10 := fr_lete hM10 es20
          refine sv_aload_n (i := 0) X dX8_nextToken_220 rfl rfl ?_
          refine sv_dup X dX8_nextToken_221 rfl ?_
          refine sv_geti X ix_X8 rfl 10 (by decide) rfl rfl fl_X8_91 dX8_nextToken_222 ?_
          refine sv_iconst (v := 1) X dX8_nextToken_225 (by decide) ?_
          refine sv_iadd X dX8_nextToken_226 ?_
          refine sv_puti (ty := .int) X ix_X8 tyX8_ok nmX8 rfl 10 (by decide) rfl rfl fl_X8_91 rfl rfl rfl rfl dX8_nextToken_227 ?_
          refine sv_sig (fun s21 es21 => ?_)
          replace hM10 := fr_lete hM10 es21
          obtain rfl := fr_i1 hM10
          exact K11
        refine sv_if_ne (tgt := 212) X dX8_nextToken_191 (by decide) (fun h24 => ?_) (fun h24 => ?_)
        · replace hM18 := fr_neg hM18 h24
          refine sv_iconst (v := 1) X dX8_nextToken_212 (by decide) ?_
          refine sv_goto (tgt := 217) X dX8_nextToken_213 (by decide) ?_
          obtain rfl := fr_i1 hM18
          exact K19
        · replace hM18 := fr_pos hM18 h24
          refine sv_aload_n (i := 0) X dX8_nextToken_194 rfl rfl ?_
          refine sv_geti X ix_X8 rfl 12 (by decide) rfl rfl fl_X8_100 dX8_nextToken_195 ?_
          refine sv_bipush (v := 44) X dX8_nextToken_198 (by decide) ?_
          refine sv_icmp_eq (tgt := 212) X dX8_nextToken_200 (by decide) (fun h23 => ?_) (fun h23 => ?_)
          · replace hM18 := fr_pos hM18 h23
            refine sv_iconst (v := 1) X dX8_nextToken_212 (by decide) ?_
            refine sv_goto (tgt := 217) X dX8_nextToken_213 (by decide) ?_
            obtain rfl := fr_i1 hM18
            exact K19
          · replace hM18 := fr_neg hM18 h23
            refine sv_aload_n (i := 0) X dX8_nextToken_203 rfl rfl ?_
            refine sv_geti X ix_X8 rfl 12 (by decide) rfl rfl fl_X8_100 dX8_nextToken_204 ?_
            refine sv_bipush (v := 59) X dX8_nextToken_207 (by decide) ?_
            refine sv_icmp_ne (tgt := 216) X dX8_nextToken_209 (by decide) (fun h22 => ?_) (fun h22 => ?_)
            · replace hM18 := fr_neg hM18 h22
              refine sv_iconst (v := 0) X dX8_nextToken_216 (by decide) ?_
              obtain rfl := fr_i1 hM18
              exact K19
            · replace hM18 := fr_pos hM18 h22
              refine sv_iconst (v := 1) X dX8_nextToken_212 (by decide) ?_
              refine sv_goto (tgt := 217) X dX8_nextToken_213 (by decide) ?_
              obtain rfl := fr_i1 hM18
              exact K19
    · replace hM10 := fr_neg hM10 h31
      refine sv_aload_n (i := 0) X dX8_nextToken_131 rfl rfl ?_
      refine sv_aload_n (i := 0) X dX8_nextToken_132 rfl rfl ?_
      refine sv_geti X ix_X8 rfl 10 (by decide) rfl rfl fl_X8_91 dX8_nextToken_133 ?_
      refine sv_aload_n (i := 0) X dX8_nextToken_136 rfl rfl ?_
      refine sv_geti X ix_X8 rfl 13 (by decide) rfl rfl fl_X8_94 dX8_nextToken_137 ?_
      refine sv_isub X dX8_nextToken_140 ?_
      refine sv_iconst (v := 3) X dX8_nextToken_141 (by decide) ?_
      obtain ⟨v26, hM27, hM10⟩ := fr_bS_some hM10
      have K28 : fr_V p l e (fr_rm 1) s m args below meth c g Q 1 s7 150 [(0, .ref (g.2.1 59))] [.int v26, .ref (g.2.1 59)] := by
        refine sv_puti (ty := .int) X ix_X8 tyX8_ok nmX8 rfl 11 (by decide) rfl rfl fl_X8_97 rfl rfl rfl rfl dX8_nextToken_150 ?_
        refine sv_sig (fun s29 es29 => ?_)
        replace hM10 := fr_lete hM10 es29
        refine sv_goto (tgt := 230) X dX8_nextToken_153 (by decide) ?_
        obtain rfl := fr_i1 hM10
        exact K11
      refine sv_icmp_le (tgt := 149) X dX8_nextToken_142 (by decide) (fun h30 => ?_) (fun h30 => ?_)
      · replace hM27 := fr_pos hM27 h30
        refine sv_iconst (v := 2) X dX8_nextToken_149 (by decide) ?_
        obtain rfl := fr_i1 hM27
        exact K28
      · replace hM27 := fr_neg hM27 h30
        refine sv_iconst (v := 0) X dX8_nextToken_145 (by decide) ?_
        refine sv_goto (tgt := 150) X dX8_nextToken_146 (by decide) ?_
        obtain rfl := fr_i1 hM27
        exact K28
  refine sv_icmp_ne (tgt := 24) X dX8_nextToken_17 (by decide) (fun h32 => ?_) (fun h32 => ?_)
  · replace hM3 := fr_neg hM3 h32
    refine sv_iconst (v := 0) X dX8_nextToken_24 (by decide) ?_
    obtain rfl := fr_i1 hM3
    exact K4
  · replace hM3 := fr_pos hM3 h32
    refine sv_iconst (v := 3) X dX8_nextToken_20 (by decide) ?_
    refine sv_goto (tgt := 25) X dX8_nextToken_21 (by decide) ?_
    obtain rfl := fr_i1 hM3
    exact K4
theorem c_X8_nextToken {l : Launch} {g : fr_G}   {σ τ : fr_St} (hF : F_X8_nextToken  σ = some τ) : fr_Cv l g yX8_nextToken (fr_ws yX8_nextToken cX8_nextToken 1 (Option.none : Option Jvm.ClassFile.FieldType)) 1 [.ref (g.2.1 59)] σ τ := fr_mv (by decide) (Nat.le_of_ble_eq_true rfl) (fun p e s m below meth c X hr => b_X8_nextToken X hr  rfl hF)
def F_X8_faults (a1 : Int32) (σ : fr_St) : Option (Bool × fr_St) := fr_let (fr_up σ 59 14 a1) (fun s1 => some (false, s1))
set_option maxRecDepth 100000 in
set_option maxHeartbeats 4000000 in
theorem b_X8_faults {p : Program} {l : Launch} {e : Env} {s : State} {m : MethodId} {args : Array Value} {below : List Frame} {meth : Method} {c : Code} {g : fr_G} {Q : State → Prop} (X : fr_X p s m args meth c g cX8_faults RX8 2) (hr : meth.sig.returnType = (some .boolean)) {a1 : Int32}  {σ τ : fr_St} {r : Bool} (hQ : Q = fr_Qi below args s g (fr_bi r) τ) (hF : F_X8_faults a1 σ = some (r, τ)) : fr_V p l e (fr_rm 0) s m args below meth c g Q 2 σ 0 [(0, .ref (g.2.1 59)), (1, .int a1)] [] := by
  unfold F_X8_faults at hF
  refine sv_aload_n (i := 0) X dX8_faults_0 rfl rfl ?_
  refine sv_iload_n (i := 1) X dX8_faults_1 rfl rfl ?_
  refine sv_puti (ty := .int) X ix_X8 tyX8_ok nmX8 rfl 14 (by decide) rfl rfl fl_X8_111 rfl rfl rfl rfl dX8_faults_2 ?_
  refine sv_sig (fun s1 es1 => ?_)
  replace hF := fr_lete hF es1
  refine sv_iconst (v := 0) X dX8_faults_5 (by decide) ?_
  exact sv_zret X (b := false) hr hQ rfl dX8_faults_6 hF
theorem c_X8_faults {l : Launch} {g : fr_G} {a1 : Int32}  {σ τ : fr_St} {r : Bool} (hF : F_X8_faults a1 σ = some (r, τ)) : fr_Ci l g yX8_faults (fr_ws yX8_faults cX8_faults 2 (some .boolean)) 0 [.ref (g.2.1 59), .int a1] σ (fr_bi r) τ := fr_mz (by decide) (Nat.le_of_ble_eq_true rfl) (fun p e s m below meth c X hr => b_X8_faults X hr  rfl hF)
def F_X8_isLetter (a1 : Int32) (σ : fr_St) : Option (Bool × fr_St) := fr_bS (if (σ 59 11) = (1 : Int32) then (if (σ 59 12) = a1 then (some ((1 : Int32))) else (some ((0 : Int32)))) else (some ((0 : Int32)))) (fun v1 => if v1 = 0 then some (false, σ) else if v1 = 1 then some (true, σ) else none)
set_option maxRecDepth 100000 in
set_option maxHeartbeats 4000000 in
theorem b_X8_isLetter {p : Program} {l : Launch} {e : Env} {s : State} {m : MethodId} {args : Array Value} {below : List Frame} {meth : Method} {c : Code} {g : fr_G} {Q : State → Prop} (X : fr_X p s m args meth c g cX8_isLetter RX8 2) (hr : meth.sig.returnType = (some .boolean)) {a1 : Int32}  {σ τ : fr_St} {r : Bool} (hQ : Q = fr_Qi below args s g (fr_bi r) τ) (hF : F_X8_isLetter a1 σ = some (r, τ)) : fr_V p l e (fr_rm 0) s m args below meth c g Q 2 σ 0 [(0, .ref (g.2.1 59)), (1, .int a1)] [] := by
  unfold F_X8_isLetter at hF
  refine sv_aload_n (i := 0) X dX8_isLetter_0 rfl rfl ?_
  refine sv_geti X ix_X8 rfl 11 (by decide) rfl rfl fl_X8_97 dX8_isLetter_1 ?_
  refine sv_iconst (v := 1) X dX8_isLetter_4 (by decide) ?_
  obtain ⟨v1, hM2, hF⟩ := fr_bS_some hF
  have K3 : fr_V p l e (fr_rm 0) s m args below meth c g Q 2 σ 21 [(0, .ref (g.2.1 59)), (1, .int a1)] [.int v1] := by
    exact sv_zretv X hr hQ dX8_isLetter_21 hF
  refine sv_icmp_ne (tgt := 20) X dX8_isLetter_5 (by decide) (fun h5 => ?_) (fun h5 => ?_)
  · replace hM2 := fr_neg hM2 h5
    refine sv_iconst (v := 0) X dX8_isLetter_20 (by decide) ?_
    obtain rfl := fr_i1 hM2
    exact K3
  · replace hM2 := fr_pos hM2 h5
    refine sv_aload_n (i := 0) X dX8_isLetter_8 rfl rfl ?_
    refine sv_geti X ix_X8 rfl 12 (by decide) rfl rfl fl_X8_100 dX8_isLetter_9 ?_
    refine sv_iload_n (i := 1) X dX8_isLetter_12 rfl rfl ?_
    refine sv_icmp_ne (tgt := 20) X dX8_isLetter_13 (by decide) (fun h4 => ?_) (fun h4 => ?_)
    · replace hM2 := fr_neg hM2 h4
      refine sv_iconst (v := 0) X dX8_isLetter_20 (by decide) ?_
      obtain rfl := fr_i1 hM2
      exact K3
    · replace hM2 := fr_pos hM2 h4
      refine sv_iconst (v := 1) X dX8_isLetter_16 (by decide) ?_
      refine sv_goto (tgt := 21) X dX8_isLetter_17 (by decide) ?_
      obtain rfl := fr_i1 hM2
      exact K3
theorem c_X8_isLetter {l : Launch} {g : fr_G} {a1 : Int32}  {σ τ : fr_St} {r : Bool} (hF : F_X8_isLetter a1 σ = some (r, τ)) : fr_Ci l g yX8_isLetter (fr_ws yX8_isLetter cX8_isLetter 2 (some .boolean)) 0 [.ref (g.2.1 59), .int a1] σ (fr_bi r) τ := fr_mz (by decide) (Nat.le_of_ble_eq_true rfl) (fun p e s m below meth c X hr => b_X8_isLetter X hr  rfl hF)
def F_X8_takes (a1 : Int32) (σ : fr_St) : Option (Bool × fr_St) := fr_bP (F_X8_isLetter a1 σ) (fun b3 s2 => if (fr_bi b3) = 0 then (fr_bP (F_X8_faults (1 : Int32) s2) (fun b8 s7 => some (b8, s7))) else (fr_bS (F_X8_nextToken s2) (fun s5 => some (true, s5))))
set_option maxRecDepth 100000 in
set_option maxHeartbeats 4000000 in
theorem b_X8_takes {p : Program} {l : Launch} {e : Env} {s : State} {m : MethodId} {args : Array Value} {below : List Frame} {meth : Method} {c : Code} {g : fr_G} {Q : State → Prop} (X : fr_X p s m args meth c g cX8_takes RX8 2) (hr : meth.sig.returnType = (some .boolean)) {a1 : Int32}  {σ τ : fr_St} {r : Bool} (hQ : Q = fr_Qi below args s g (fr_bi r) τ) (hF : F_X8_takes a1 σ = some (r, τ)) : fr_V p l e (fr_rm 2) s m args below meth c g Q 2 σ 0 [(0, .ref (g.2.1 59)), (1, .int a1)] [] := by
  unfold F_X8_takes at hF
  refine sv_aload_n (i := 0) X dX8_takes_0 rfl rfl ?_
  refine sv_iload_n (i := 1) X dX8_takes_1 rfl rfl ?_
  obtain ⟨b3, s2, hc1, hF⟩ := fr_bP_some hF
  refine sv_callVi X (c_X8_isLetter hc1) cd_X8_isLetter ml_X8_114 im_X8_isLetter se_X8_isLetter in_RX8 hd_X8_isLetter rfl rfl (by decide) rfl (Nat.le_of_ble_eq_true rfl) dX8_takes_2 rfl ?_
  refine sv_if_ne (tgt := 14) X dX8_takes_5 (by decide) (fun h9 => ?_) (fun h9 => ?_)
  · replace hF := fr_neg hF h9
    refine sv_aload_n (i := 0) X dX8_takes_14 rfl rfl ?_
    obtain ⟨s5, hc4, hF⟩ := fr_bS_some hF
    refine sv_callVv X (c_X8_nextToken hc4) cd_X8_nextToken ml_X8_120 im_X8_nextToken se_X8_nextToken in_RX8 hd_X8_nextToken rfl rfl (by decide) rfl (Nat.le_of_ble_eq_true rfl) dX8_takes_15 rfl ?_
    refine sv_iconst (v := 1) X dX8_takes_18 (by decide) ?_
    exact sv_zret X (b := true) hr hQ rfl dX8_takes_19 hF
  · replace hF := fr_pos hF h9
    refine sv_aload_n (i := 0) X dX8_takes_8 rfl rfl ?_
    refine sv_iconst (v := 1) X dX8_takes_9 (by decide) ?_
    obtain ⟨b8, s7, hc6, hF⟩ := fr_bP_some hF
    refine sv_callVi X (c_X8_faults hc6) cd_X8_faults ml_X8_117 im_X8_faults se_X8_faults in_RX8 hd_X8_faults rfl rfl (by decide) rfl (Nat.le_of_ble_eq_true rfl) dX8_takes_10 rfl ?_
    exact sv_zret X (b := b8) hr hQ rfl dX8_takes_13 hF
theorem c_X8_takes {l : Launch} {g : fr_G} {a1 : Int32}  {σ τ : fr_St} {r : Bool} (hF : F_X8_takes a1 σ = some (r, τ)) : fr_Ci l g yX8_takes (fr_ws yX8_takes cX8_takes 2 (some .boolean)) 2 [.ref (g.2.1 59), .int a1] σ (fr_bi r) τ := fr_mz (by decide) (Nat.le_of_ble_eq_true rfl) (fun p e s m below meth c X hr => b_X8_takes X hr  rfl hF)
def F_X8_takesNumber (a1 : Int32) (a2 : Int32) (a3 : Int32) (a4 : Int32) (σ : fr_St) : Option (Bool × fr_St) := if (σ 59 11) = (2 : Int32) then (fr_bP (F_X8_in ((σ 59 12).toInt64) (a1.toInt64) (a2.toInt64) σ) (fun b10 s9 => if (fr_bi b10) = 0 then (fr_bS (if (s9 59 11) = (2 : Int32) then (some ((2 : Int32))) else (some ((1 : Int32)))) (fun v18 => fr_bP (F_X8_faults v18 s9) (fun b23 s22 => some (b23, s22)))) else (if fr_ib a3 122 = true then fr_let (fr_up s9 66 (fr_ix a3) (s9 59 12)) (fun s12 => fr_bS (F_X8_nextToken s12) (fun s14 => fr_bP (F_X8_takes a4 s14) (fun b17 s16 => some (b17, s16)))) else none))) else (fr_bS (if (σ 59 11) = (2 : Int32) then (some ((2 : Int32))) else (some ((1 : Int32)))) (fun v1 => fr_bP (F_X8_faults v1 σ) (fun b6 s5 => some (b6, s5))))
set_option maxRecDepth 100000 in
set_option maxHeartbeats 4000000 in
theorem b_X8_takesNumber {p : Program} {l : Launch} {e : Env} {s : State} {m : MethodId} {args : Array Value} {below : List Frame} {meth : Method} {c : Code} {g : fr_G} {Q : State → Prop} (X : fr_X p s m args meth c g cX8_takesNumber RX8 5) (hr : meth.sig.returnType = (some .boolean)) {a1 : Int32} {a2 : Int32} {a3 : Int32} {a4 : Int32}  {σ τ : fr_St} {r : Bool} (hQ : Q = fr_Qi below args s g (fr_bi r) τ) (hF : F_X8_takesNumber a1 a2 a3 a4 σ = some (r, τ)) : fr_V p l e (fr_rm 3) s m args below meth c g Q 5 σ 0 [(0, .ref (g.2.1 59)), (1, .int a1), (2, .int a2), (3, .int a3), (4, .int a4)] [] := by
  unfold F_X8_takesNumber at hF
  refine sv_aload_n (i := 0) X dX8_takesNumber_0 rfl rfl ?_
  refine sv_geti X ix_X8 rfl 11 (by decide) rfl rfl fl_X8_97 dX8_takesNumber_1 ?_
  refine sv_iconst (v := 2) X dX8_takesNumber_4 (by decide) ?_
  refine sv_icmp_ne (tgt := 23) X dX8_takesNumber_5 (by decide) (fun h26 => ?_) (fun h26 => ?_)
  · replace hF := fr_neg hF h26
    refine sv_aload_n (i := 0) X dX8_takesNumber_23 rfl rfl ?_
    refine sv_aload_n (i := 0) X dX8_takesNumber_24 rfl rfl ?_
    refine sv_geti X ix_X8 rfl 11 (by decide) rfl rfl fl_X8_97 dX8_takesNumber_25 ?_
    refine sv_iconst (v := 2) X dX8_takesNumber_28 (by decide) ?_
    obtain ⟨v1, hM2, hF⟩ := fr_bS_some hF
    have K3 : fr_V p l e (fr_rm 3) s m args below meth c g Q 5 σ 37 [(0, .ref (g.2.1 59)), (1, .int a1), (2, .int a2), (3, .int a3), (4, .int a4)] [.int v1, .ref (g.2.1 59)] := by
      obtain ⟨b6, s5, hc4, hF⟩ := fr_bP_some hF
      refine sv_callVi X (c_X8_faults hc4) cd_X8_faults ml_X8_117 im_X8_faults se_X8_faults in_RX8 hd_X8_faults rfl rfl (by decide) rfl (Nat.le_of_ble_eq_true rfl) dX8_takesNumber_37 rfl ?_
      exact sv_zret X (b := b6) hr hQ rfl dX8_takesNumber_40 hF
    refine sv_icmp_ne (tgt := 36) X dX8_takesNumber_29 (by decide) (fun h7 => ?_) (fun h7 => ?_)
    · replace hM2 := fr_neg hM2 h7
      refine sv_iconst (v := 1) X dX8_takesNumber_36 (by decide) ?_
      obtain rfl := fr_i1 hM2
      exact K3
    · replace hM2 := fr_pos hM2 h7
      refine sv_iconst (v := 2) X dX8_takesNumber_32 (by decide) ?_
      refine sv_goto (tgt := 37) X dX8_takesNumber_33 (by decide) ?_
      obtain rfl := fr_i1 hM2
      exact K3
  · replace hF := fr_pos hF h26
    refine sv_aload_n (i := 0) X dX8_takesNumber_8 rfl rfl ?_
    refine sv_geti X ix_X8 rfl 12 (by decide) rfl rfl fl_X8_100 dX8_takesNumber_9 ?_
    refine sv_i2l X dX8_takesNumber_12 ?_
    refine sv_iload_n (i := 1) X dX8_takesNumber_13 rfl rfl ?_
    refine sv_i2l X dX8_takesNumber_14 ?_
    refine sv_iload_n (i := 2) X dX8_takesNumber_15 rfl rfl ?_
    refine sv_i2l X dX8_takesNumber_16 ?_
    obtain ⟨b10, s9, hc8, hF⟩ := fr_bP_some hF
    refine sv_callSi X (c_X8_in hc8) cd_X8_in ml_X8_63 sm_X8_in in_RX8 hd_X8_in (by decide) rfl (Nat.le_of_ble_eq_true rfl) dX8_takesNumber_17 rfl ?_
    refine sv_if_ne (tgt := 41) X dX8_takesNumber_20 (by decide) (fun h25 => ?_) (fun h25 => ?_)
    · replace hF := fr_neg hF h25
      refine sv_aload_n (i := 0) X dX8_takesNumber_41 rfl rfl ?_
      refine sv_getr X ix_X8 rfl 15 (by decide) rfl rfl fl_X8_28 dX8_takesNumber_42 ?_
      refine sv_iload_n (i := 3) X dX8_takesNumber_45 rfl rfl ?_
      refine sv_aload_n (i := 0) X dX8_takesNumber_46 rfl rfl ?_
      refine sv_geti X ix_X8 rfl 12 (by decide) rfl rfl fl_X8_100 dX8_takesNumber_47 ?_
      obtain ⟨hb11, hF⟩ := fr_chk hF
      refine sv_iast (j := (fr_ix a3)) X rfl hb11 rfl dX8_takesNumber_50 ?_
      refine sv_sig (fun s12 es12 => ?_)
      replace hF := fr_lete hF es12
      refine sv_aload_n (i := 0) X dX8_takesNumber_51 rfl rfl ?_
      obtain ⟨s14, hc13, hF⟩ := fr_bS_some hF
      refine sv_callVv X (c_X8_nextToken hc13) cd_X8_nextToken ml_X8_120 im_X8_nextToken se_X8_nextToken in_RX8 hd_X8_nextToken rfl rfl (by decide) rfl (Nat.le_of_ble_eq_true rfl) dX8_takesNumber_52 rfl ?_
      refine sv_aload_n (i := 0) X dX8_takesNumber_55 rfl rfl ?_
      refine sv_iload (i := 4) X dX8_takesNumber_56 rfl ?_
      obtain ⟨b17, s16, hc15, hF⟩ := fr_bP_some hF
      refine sv_callVi X (c_X8_takes hc15) cd_X8_takes ml_X8_123 im_X8_takes se_X8_takes in_RX8 hd_X8_takes rfl rfl (by decide) rfl (Nat.le_of_ble_eq_true rfl) dX8_takesNumber_58 rfl ?_
      exact sv_zret X (b := b17) hr hQ rfl dX8_takesNumber_61 hF
    · replace hF := fr_pos hF h25
      refine sv_aload_n (i := 0) X dX8_takesNumber_23 rfl rfl ?_
      refine sv_aload_n (i := 0) X dX8_takesNumber_24 rfl rfl ?_
      refine sv_geti X ix_X8 rfl 11 (by decide) rfl rfl fl_X8_97 dX8_takesNumber_25 ?_
      refine sv_iconst (v := 2) X dX8_takesNumber_28 (by decide) ?_
      obtain ⟨v18, hM19, hF⟩ := fr_bS_some hF
      have K20 : fr_V p l e (fr_rm 3) s m args below meth c g Q 5 s9 37 [(0, .ref (g.2.1 59)), (1, .int a1), (2, .int a2), (3, .int a3), (4, .int a4)] [.int v18, .ref (g.2.1 59)] := by
        obtain ⟨b23, s22, hc21, hF⟩ := fr_bP_some hF
        refine sv_callVi X (c_X8_faults hc21) cd_X8_faults ml_X8_117 im_X8_faults se_X8_faults in_RX8 hd_X8_faults rfl rfl (by decide) rfl (Nat.le_of_ble_eq_true rfl) dX8_takesNumber_37 rfl ?_
        exact sv_zret X (b := b23) hr hQ rfl dX8_takesNumber_40 hF
      refine sv_icmp_ne (tgt := 36) X dX8_takesNumber_29 (by decide) (fun h24 => ?_) (fun h24 => ?_)
      · replace hM19 := fr_neg hM19 h24
        refine sv_iconst (v := 1) X dX8_takesNumber_36 (by decide) ?_
        obtain rfl := fr_i1 hM19
        exact K20
      · replace hM19 := fr_pos hM19 h24
        refine sv_iconst (v := 2) X dX8_takesNumber_32 (by decide) ?_
        refine sv_goto (tgt := 37) X dX8_takesNumber_33 (by decide) ?_
        obtain rfl := fr_i1 hM19
        exact K20
theorem c_X8_takesNumber {l : Launch} {g : fr_G} {a1 : Int32} {a2 : Int32} {a3 : Int32} {a4 : Int32}  {σ τ : fr_St} {r : Bool} (hF : F_X8_takesNumber a1 a2 a3 a4 σ = some (r, τ)) : fr_Ci l g yX8_takesNumber (fr_ws yX8_takesNumber cX8_takesNumber 5 (some .boolean)) 3 [.ref (g.2.1 59), .int a1, .int a2, .int a3, .int a4] σ (fr_bi r) τ := fr_mz (by decide) (Nat.le_of_ble_eq_true rfl) (fun p e s m below meth c X hr => b_X8_takesNumber X hr  rfl hF)
def F_X8_readRoad (a1 : Int32) (σ : fr_St) : Option (Bool × fr_St) := fr_let ((σ 66 2)) (fun v1 => if v1 = (9 : Int32) then (fr_bS (if (σ 66 3) ≤ 0 then (some ((3 : Int32))) else (some ((1 : Int32)))) (fun v2 => fr_bP (F_X8_faults v2 σ) (fun b7 s6 => some (b7, s6)))) else (if (σ 66 3) ≤ 0 then (fr_bS (F_X8_nextToken σ) (fun s10 => if fr_ib ((14 : Int32) + v1) 122 = true then fr_let (fr_up s10 66 (fr_ix ((14 : Int32) + v1)) a1) (fun s12 => fr_bP (F_X8_takesNumber (0 : Int32) ((s12 66 1) - (1 : Int32)) ((23 : Int32) + v1) (44 : Int32) s12) (fun b15 s14 => if (fr_bi b15) = 0 then (some (false, s14)) else (if (s14 59 11) = (2 : Int32) then (if fr_ib ((23 : Int32) + v1) 122 = true then if (s14 59 12) = (s14 66 (fr_ix ((23 : Int32) + v1))) then (fr_bP (F_X8_faults (2 : Int32) s14) (fun b45 s44 => some (b45, s44))) else (fr_let (fr_up s14 66 2 ((s14 66 2) + (1 : Int32))) (fun s30 => fr_bP (F_X8_takesNumber (0 : Int32) ((s30 66 1) - (1 : Int32)) ((32 : Int32) + v1) (44 : Int32) s30) (fun b33 s32 => fr_bP (if (fr_bi b33) = 0 then (some ((0 : Int32), s32)) else (fr_bP (F_X8_takesNumber (1 : Int32) (9 : Int32) ((41 : Int32) + v1) (59 : Int32) s32) (fun b40 s39 => if (fr_bi b40) = 0 then (some ((0 : Int32), s39)) else (some ((1 : Int32), s39))))) (fun v34 s35 => if v34 = 0 then some (false, s35) else if v34 = 1 then some (true, s35) else none)))) else none) else (fr_let (fr_up s14 66 2 ((s14 66 2) + (1 : Int32))) (fun s16 => fr_bP (F_X8_takesNumber (0 : Int32) ((s16 66 1) - (1 : Int32)) ((32 : Int32) + v1) (44 : Int32) s16) (fun b19 s18 => fr_bP (if (fr_bi b19) = 0 then (some ((0 : Int32), s18)) else (fr_bP (F_X8_takesNumber (1 : Int32) (9 : Int32) ((41 : Int32) + v1) (59 : Int32) s18) (fun b26 s25 => if (fr_bi b26) = 0 then (some ((0 : Int32), s25)) else (some ((1 : Int32), s25))))) (fun v20 s21 => if v20 = 0 then some (false, s21) else if v20 = 1 then some (true, s21) else none))))))) else none)) else (fr_bS (if (σ 66 3) ≤ 0 then (some ((3 : Int32))) else (some ((1 : Int32)))) (fun v49 => fr_bP (F_X8_faults v49 σ) (fun b54 s53 => some (b54, s53))))))
set_option maxRecDepth 100000 in
set_option maxHeartbeats 4000000 in
theorem b_X8_readRoad {p : Program} {l : Launch} {e : Env} {s : State} {m : MethodId} {args : Array Value} {below : List Frame} {meth : Method} {c : Code} {g : fr_G} {Q : State → Prop} (X : fr_X p s m args meth c g cX8_readRoad RX8 3) (hr : meth.sig.returnType = (some .boolean)) {a1 : Int32}  {σ τ : fr_St} {r : Bool} (hQ : Q = fr_Qi below args s g (fr_bi r) τ) (hF : F_X8_readRoad a1 σ = some (r, τ)) : fr_V p l e (fr_rm 4) s m args below meth c g Q 3 σ 0 [(0, .ref (g.2.1 59)), (1, .int a1)] [] := by
  unfold F_X8_readRoad at hF
  refine sv_aload_n (i := 0) X dX8_readRoad_0 rfl rfl ?_
  refine sv_getr X ix_X8 rfl 15 (by decide) rfl rfl fl_X8_28 dX8_readRoad_1 ?_
  refine sv_iconst (v := 2) X dX8_readRoad_4 (by decide) ?_
  refine sv_iald (j := 2) X rfl (by decide) (by decide) dX8_readRoad_5 ?_
  refine sv_topi (fun v1 ev1 => ?_)
  replace hF := fr_lete hF ev1
  refine sv_istore_n X dX8_readRoad_6 rfl (by decide) rfl ?_
  refine sv_iload_n (i := 0) X dX8_readRoad_7 rfl rfl ?_
  refine sv_bipush (v := 9) X dX8_readRoad_8 (by decide) ?_
  refine sv_icmp_eq (tgt := 22) X dX8_readRoad_10 (by decide) (fun h57 => ?_) (fun h57 => ?_)
  · replace hF := fr_pos hF h57
    refine sv_aload_n (i := 1) X dX8_readRoad_22 rfl rfl ?_
    refine sv_aload_n (i := 1) X dX8_readRoad_23 rfl rfl ?_
    refine sv_getr X ix_X8 rfl 15 (by decide) rfl rfl fl_X8_28 dX8_readRoad_24 ?_
    refine sv_iconst (v := 3) X dX8_readRoad_27 (by decide) ?_
    refine sv_iald (j := 3) X rfl (by decide) (by decide) dX8_readRoad_28 ?_
    obtain ⟨v2, hM3, hF⟩ := fr_bS_some hF
    have K4 : fr_V p l e (fr_rm 4) s m args below meth c g Q 3 σ 37 [(0, .ref (g.2.1 59)), (1, .int a1), (2, .int v1)] [.int v2, .ref (g.2.1 59)] := by
      obtain ⟨b7, s6, hc5, hF⟩ := fr_bP_some hF
      refine sv_callVi X (c_X8_faults hc5) cd_X8_faults ml_X8_117 im_X8_faults se_X8_faults in_RX8 hd_X8_faults rfl rfl (by decide) rfl (Nat.le_of_ble_eq_true rfl) dX8_readRoad_37 rfl ?_
      exact sv_zret X (b := b7) hr hQ rfl dX8_readRoad_40 hF
    refine sv_if_le (tgt := 36) X dX8_readRoad_29 (by decide) (fun h8 => ?_) (fun h8 => ?_)
    · replace hM3 := fr_pos hM3 h8
      refine sv_iconst (v := 3) X dX8_readRoad_36 (by decide) ?_
      obtain rfl := fr_i1 hM3
      exact sv_perm [1, 2, 0] rfl K4
    · replace hM3 := fr_neg hM3 h8
      refine sv_iconst (v := 1) X dX8_readRoad_32 (by decide) ?_
      refine sv_goto (tgt := 37) X dX8_readRoad_33 (by decide) ?_
      obtain rfl := fr_i1 hM3
      exact sv_perm [1, 2, 0] rfl K4
  · replace hF := fr_neg hF h57
    refine sv_aload_n (i := 1) X dX8_readRoad_13 rfl rfl ?_
    refine sv_getr X ix_X8 rfl 15 (by decide) rfl rfl fl_X8_28 dX8_readRoad_14 ?_
    refine sv_iconst (v := 3) X dX8_readRoad_17 (by decide) ?_
    refine sv_iald (j := 3) X rfl (by decide) (by decide) dX8_readRoad_18 ?_
    refine sv_if_le (tgt := 41) X dX8_readRoad_19 (by decide) (fun h56 => ?_) (fun h56 => ?_)
    · replace hF := fr_pos hF h56
      refine sv_aload_n (i := 1) X dX8_readRoad_41 rfl rfl ?_
      obtain ⟨s10, hc9, hF⟩ := fr_bS_some hF
      refine sv_callVv X (c_X8_nextToken hc9) cd_X8_nextToken ml_X8_120 im_X8_nextToken se_X8_nextToken in_RX8 hd_X8_nextToken rfl rfl (by decide) rfl (Nat.le_of_ble_eq_true rfl) dX8_readRoad_42 rfl ?_
      refine sv_aload_n (i := 1) X dX8_readRoad_45 rfl rfl ?_
      refine sv_getr X ix_X8 rfl 15 (by decide) rfl rfl fl_X8_28 dX8_readRoad_46 ?_
      refine sv_bipush (v := 14) X dX8_readRoad_49 (by decide) ?_
      refine sv_iload_n (i := 0) X dX8_readRoad_51 rfl rfl ?_
      refine sv_iadd X dX8_readRoad_52 ?_
      refine sv_iload_n (i := 2) X dX8_readRoad_53 rfl rfl ?_
      obtain ⟨hb11, hF⟩ := fr_chk hF
      refine sv_iast (j := (fr_ix ((14 : Int32) + v1))) X rfl hb11 rfl dX8_readRoad_54 ?_
      refine sv_sig (fun s12 es12 => ?_)
      replace hF := fr_lete hF es12
      refine sv_aload_n (i := 1) X dX8_readRoad_55 rfl rfl ?_
      refine sv_iconst (v := 0) X dX8_readRoad_56 (by decide) ?_
      refine sv_aload_n (i := 1) X dX8_readRoad_57 rfl rfl ?_
      refine sv_getr X ix_X8 rfl 15 (by decide) rfl rfl fl_X8_28 dX8_readRoad_58 ?_
      refine sv_iconst (v := 1) X dX8_readRoad_61 (by decide) ?_
      refine sv_iald (j := 1) X rfl (by decide) (by decide) dX8_readRoad_62 ?_
      refine sv_iconst (v := 1) X dX8_readRoad_63 (by decide) ?_
      refine sv_isub X dX8_readRoad_64 ?_
      refine sv_bipush (v := 23) X dX8_readRoad_65 (by decide) ?_
      refine sv_iload_n (i := 0) X dX8_readRoad_67 rfl rfl ?_
      refine sv_iadd X dX8_readRoad_68 ?_
      refine sv_bipush (v := 44) X dX8_readRoad_69 (by decide) ?_
      obtain ⟨b15, s14, hc13, hF⟩ := fr_bP_some hF
      refine sv_callVi X (c_X8_takesNumber hc13) cd_X8_takesNumber ml_X8_126 im_X8_takesNumber se_X8_takesNumber in_RX8 hd_X8_takesNumber rfl rfl (by decide) rfl (Nat.le_of_ble_eq_true rfl) dX8_readRoad_71 rfl ?_
      refine sv_if_ne (tgt := 79) X dX8_readRoad_74 (by decide) (fun h48 => ?_) (fun h48 => ?_)
      · replace hF := fr_neg hF h48
        refine sv_aload_n (i := 1) X dX8_readRoad_79 rfl rfl ?_
        refine sv_geti X ix_X8 rfl 11 (by decide) rfl rfl fl_X8_97 dX8_readRoad_80 ?_
        refine sv_iconst (v := 2) X dX8_readRoad_83 (by decide) ?_
        refine sv_icmp_ne (tgt := 109) X dX8_readRoad_84 (by decide) (fun h47 => ?_) (fun h47 => ?_)
        · replace hF := fr_neg hF h47
          refine sv_aload_n (i := 1) X dX8_readRoad_109 rfl rfl ?_
          refine sv_getr X ix_X8 rfl 15 (by decide) rfl rfl fl_X8_28 dX8_readRoad_110 ?_
          refine sv_iconst (v := 2) X dX8_readRoad_113 (by decide) ?_
          refine sv_dup2 X dX8_readRoad_114 rfl rfl ?_
          refine sv_iald (j := 2) X rfl (by decide) (by decide) dX8_readRoad_115 ?_
          refine sv_iconst (v := 1) X dX8_readRoad_116 (by decide) ?_
          refine sv_iadd X dX8_readRoad_117 ?_
          refine sv_iast (j := 2) X rfl (by decide) (by decide) dX8_readRoad_118 ?_
          refine sv_sig (fun s16 es16 => ?_)
          replace hF := fr_lete hF es16
          refine sv_aload_n (i := 1) X dX8_readRoad_119 rfl rfl ?_
          refine sv_iconst (v := 0) X dX8_readRoad_120 (by decide) ?_
          refine sv_aload_n (i := 1) X dX8_readRoad_121 rfl rfl ?_
          refine sv_getr X ix_X8 rfl 15 (by decide) rfl rfl fl_X8_28 dX8_readRoad_122 ?_
          refine sv_iconst (v := 1) X dX8_readRoad_125 (by decide) ?_
          refine sv_iald (j := 1) X rfl (by decide) (by decide) dX8_readRoad_126 ?_
          refine sv_iconst (v := 1) X dX8_readRoad_127 (by decide) ?_
          refine sv_isub X dX8_readRoad_128 ?_
          refine sv_bipush (v := 32) X dX8_readRoad_129 (by decide) ?_
          refine sv_iload_n (i := 0) X dX8_readRoad_131 rfl rfl ?_
          refine sv_iadd X dX8_readRoad_132 ?_
          refine sv_bipush (v := 44) X dX8_readRoad_133 (by decide) ?_
          obtain ⟨b19, s18, hc17, hF⟩ := fr_bP_some hF
          refine sv_callVi X (c_X8_takesNumber hc17) cd_X8_takesNumber ml_X8_126 im_X8_takesNumber se_X8_takesNumber in_RX8 hd_X8_takesNumber rfl rfl (by decide) rfl (Nat.le_of_ble_eq_true rfl) dX8_readRoad_135 rfl ?_
          obtain ⟨v20, s21, hM22, hF⟩ := fr_bP_some hF
          have K23 : fr_V p l e (fr_rm 4) s m args below meth c g Q 3 s21 162 [(0, .ref (g.2.1 59)), (1, .int a1), (2, .int v1)] [.int v20] := by
            exact sv_zretv X hr hQ dX8_readRoad_162 hF
          refine sv_if_eq (tgt := 161) X dX8_readRoad_138 (by decide) (fun h28 => ?_) (fun h28 => ?_)
          · replace hM22 := fr_pos hM22 h28
            refine sv_iconst (v := 0) X dX8_readRoad_161 (by decide) ?_
            obtain ⟨rfl, rfl⟩ := fr_i2 hM22
            exact sv_perm [1, 2, 0] rfl K23
          · replace hM22 := fr_neg hM22 h28
            refine sv_aload_n (i := 1) X dX8_readRoad_141 rfl rfl ?_
            refine sv_iconst (v := 1) X dX8_readRoad_142 (by decide) ?_
            refine sv_bipush (v := 9) X dX8_readRoad_143 (by decide) ?_
            refine sv_bipush (v := 41) X dX8_readRoad_145 (by decide) ?_
            refine sv_iload_n (i := 0) X dX8_readRoad_147 rfl rfl ?_
            refine sv_iadd X dX8_readRoad_148 ?_
            refine sv_bipush (v := 59) X dX8_readRoad_149 (by decide) ?_
            obtain ⟨b26, s25, hc24, hM22⟩ := fr_bP_some hM22
            refine sv_callVi X (c_X8_takesNumber hc24) cd_X8_takesNumber ml_X8_126 im_X8_takesNumber se_X8_takesNumber in_RX8 hd_X8_takesNumber rfl rfl (by decide) rfl (Nat.le_of_ble_eq_true rfl) dX8_readRoad_151 rfl ?_
            refine sv_if_eq (tgt := 161) X dX8_readRoad_154 (by decide) (fun h27 => ?_) (fun h27 => ?_)
            · replace hM22 := fr_pos hM22 h27
              refine sv_iconst (v := 0) X dX8_readRoad_161 (by decide) ?_
              obtain ⟨rfl, rfl⟩ := fr_i2 hM22
              exact sv_perm [1, 2, 0] rfl K23
            · replace hM22 := fr_neg hM22 h27
              refine sv_iconst (v := 1) X dX8_readRoad_157 (by decide) ?_
              refine sv_goto (tgt := 162) X dX8_readRoad_158 (by decide) ?_
              obtain ⟨rfl, rfl⟩ := fr_i2 hM22
              exact sv_perm [1, 2, 0] rfl K23
        · replace hF := fr_pos hF h47
          refine sv_aload_n (i := 1) X dX8_readRoad_87 rfl rfl ?_
          refine sv_geti X ix_X8 rfl 12 (by decide) rfl rfl fl_X8_100 dX8_readRoad_88 ?_
          refine sv_aload_n (i := 1) X dX8_readRoad_91 rfl rfl ?_
          refine sv_getr X ix_X8 rfl 15 (by decide) rfl rfl fl_X8_28 dX8_readRoad_92 ?_
          refine sv_bipush (v := 23) X dX8_readRoad_95 (by decide) ?_
          refine sv_iload_n (i := 0) X dX8_readRoad_97 rfl rfl ?_
          refine sv_iadd X dX8_readRoad_98 ?_
          obtain ⟨hb29, hF⟩ := fr_chk hF
          refine sv_iald (j := (fr_ix ((23 : Int32) + v1))) X rfl hb29 rfl dX8_readRoad_99 ?_
          refine sv_icmp_ne (tgt := 109) X dX8_readRoad_100 (by decide) (fun h46 => ?_) (fun h46 => ?_)
          · replace hF := fr_neg hF h46
            refine sv_aload_n (i := 1) X dX8_readRoad_109 rfl rfl ?_
            refine sv_getr X ix_X8 rfl 15 (by decide) rfl rfl fl_X8_28 dX8_readRoad_110 ?_
            refine sv_iconst (v := 2) X dX8_readRoad_113 (by decide) ?_
            refine sv_dup2 X dX8_readRoad_114 rfl rfl ?_
            refine sv_iald (j := 2) X rfl (by decide) (by decide) dX8_readRoad_115 ?_
            refine sv_iconst (v := 1) X dX8_readRoad_116 (by decide) ?_
            refine sv_iadd X dX8_readRoad_117 ?_
            refine sv_iast (j := 2) X rfl (by decide) (by decide) dX8_readRoad_118 ?_
            refine sv_sig (fun s30 es30 => ?_)
            replace hF := fr_lete hF es30
            refine sv_aload_n (i := 1) X dX8_readRoad_119 rfl rfl ?_
            refine sv_iconst (v := 0) X dX8_readRoad_120 (by decide) ?_
            refine sv_aload_n (i := 1) X dX8_readRoad_121 rfl rfl ?_
            refine sv_getr X ix_X8 rfl 15 (by decide) rfl rfl fl_X8_28 dX8_readRoad_122 ?_
            refine sv_iconst (v := 1) X dX8_readRoad_125 (by decide) ?_
            refine sv_iald (j := 1) X rfl (by decide) (by decide) dX8_readRoad_126 ?_
            refine sv_iconst (v := 1) X dX8_readRoad_127 (by decide) ?_
            refine sv_isub X dX8_readRoad_128 ?_
            refine sv_bipush (v := 32) X dX8_readRoad_129 (by decide) ?_
            refine sv_iload_n (i := 0) X dX8_readRoad_131 rfl rfl ?_
            refine sv_iadd X dX8_readRoad_132 ?_
            refine sv_bipush (v := 44) X dX8_readRoad_133 (by decide) ?_
            obtain ⟨b33, s32, hc31, hF⟩ := fr_bP_some hF
            refine sv_callVi X (c_X8_takesNumber hc31) cd_X8_takesNumber ml_X8_126 im_X8_takesNumber se_X8_takesNumber in_RX8 hd_X8_takesNumber rfl rfl (by decide) rfl (Nat.le_of_ble_eq_true rfl) dX8_readRoad_135 rfl ?_
            obtain ⟨v34, s35, hM36, hF⟩ := fr_bP_some hF
            have K37 : fr_V p l e (fr_rm 4) s m args below meth c g Q 3 s35 162 [(0, .ref (g.2.1 59)), (1, .int a1), (2, .int v1)] [.int v34] := by
              exact sv_zretv X hr hQ dX8_readRoad_162 hF
            refine sv_if_eq (tgt := 161) X dX8_readRoad_138 (by decide) (fun h42 => ?_) (fun h42 => ?_)
            · replace hM36 := fr_pos hM36 h42
              refine sv_iconst (v := 0) X dX8_readRoad_161 (by decide) ?_
              obtain ⟨rfl, rfl⟩ := fr_i2 hM36
              exact sv_perm [1, 2, 0] rfl K37
            · replace hM36 := fr_neg hM36 h42
              refine sv_aload_n (i := 1) X dX8_readRoad_141 rfl rfl ?_
              refine sv_iconst (v := 1) X dX8_readRoad_142 (by decide) ?_
              refine sv_bipush (v := 9) X dX8_readRoad_143 (by decide) ?_
              refine sv_bipush (v := 41) X dX8_readRoad_145 (by decide) ?_
              refine sv_iload_n (i := 0) X dX8_readRoad_147 rfl rfl ?_
              refine sv_iadd X dX8_readRoad_148 ?_
              refine sv_bipush (v := 59) X dX8_readRoad_149 (by decide) ?_
              obtain ⟨b40, s39, hc38, hM36⟩ := fr_bP_some hM36
              refine sv_callVi X (c_X8_takesNumber hc38) cd_X8_takesNumber ml_X8_126 im_X8_takesNumber se_X8_takesNumber in_RX8 hd_X8_takesNumber rfl rfl (by decide) rfl (Nat.le_of_ble_eq_true rfl) dX8_readRoad_151 rfl ?_
              refine sv_if_eq (tgt := 161) X dX8_readRoad_154 (by decide) (fun h41 => ?_) (fun h41 => ?_)
              · replace hM36 := fr_pos hM36 h41
                refine sv_iconst (v := 0) X dX8_readRoad_161 (by decide) ?_
                obtain ⟨rfl, rfl⟩ := fr_i2 hM36
                exact sv_perm [1, 2, 0] rfl K37
              · replace hM36 := fr_neg hM36 h41
                refine sv_iconst (v := 1) X dX8_readRoad_157 (by decide) ?_
                refine sv_goto (tgt := 162) X dX8_readRoad_158 (by decide) ?_
                obtain ⟨rfl, rfl⟩ := fr_i2 hM36
                exact sv_perm [1, 2, 0] rfl K37
          · replace hF := fr_pos hF h46
            refine sv_aload_n (i := 1) X dX8_readRoad_103 rfl rfl ?_
            refine sv_iconst (v := 2) X dX8_readRoad_104 (by decide) ?_
            obtain ⟨b45, s44, hc43, hF⟩ := fr_bP_some hF
            refine sv_callVi X (c_X8_faults hc43) cd_X8_faults ml_X8_117 im_X8_faults se_X8_faults in_RX8 hd_X8_faults rfl rfl (by decide) rfl (Nat.le_of_ble_eq_true rfl) dX8_readRoad_105 rfl ?_
            exact sv_zret X (b := b45) hr hQ rfl dX8_readRoad_108 hF
      · replace hF := fr_pos hF h48
        refine sv_iconst (v := 0) X dX8_readRoad_77 (by decide) ?_
        exact sv_zret X (b := false) hr hQ rfl dX8_readRoad_78 hF
    · replace hF := fr_neg hF h56
      refine sv_aload_n (i := 1) X dX8_readRoad_22 rfl rfl ?_
      refine sv_aload_n (i := 1) X dX8_readRoad_23 rfl rfl ?_
      refine sv_getr X ix_X8 rfl 15 (by decide) rfl rfl fl_X8_28 dX8_readRoad_24 ?_
      refine sv_iconst (v := 3) X dX8_readRoad_27 (by decide) ?_
      refine sv_iald (j := 3) X rfl (by decide) (by decide) dX8_readRoad_28 ?_
      obtain ⟨v49, hM50, hF⟩ := fr_bS_some hF
      have K51 : fr_V p l e (fr_rm 4) s m args below meth c g Q 3 σ 37 [(0, .ref (g.2.1 59)), (1, .int a1), (2, .int v1)] [.int v49, .ref (g.2.1 59)] := by
        obtain ⟨b54, s53, hc52, hF⟩ := fr_bP_some hF
        refine sv_callVi X (c_X8_faults hc52) cd_X8_faults ml_X8_117 im_X8_faults se_X8_faults in_RX8 hd_X8_faults rfl rfl (by decide) rfl (Nat.le_of_ble_eq_true rfl) dX8_readRoad_37 rfl ?_
        exact sv_zret X (b := b54) hr hQ rfl dX8_readRoad_40 hF
      refine sv_if_le (tgt := 36) X dX8_readRoad_29 (by decide) (fun h55 => ?_) (fun h55 => ?_)
      · replace hM50 := fr_pos hM50 h55
        refine sv_iconst (v := 3) X dX8_readRoad_36 (by decide) ?_
        obtain rfl := fr_i1 hM50
        exact sv_perm [1, 2, 0] rfl K51
      · replace hM50 := fr_neg hM50 h55
        refine sv_iconst (v := 1) X dX8_readRoad_32 (by decide) ?_
        refine sv_goto (tgt := 37) X dX8_readRoad_33 (by decide) ?_
        obtain rfl := fr_i1 hM50
        exact sv_perm [1, 2, 0] rfl K51
theorem c_X8_readRoad {l : Launch} {g : fr_G} {a1 : Int32}  {σ τ : fr_St} {r : Bool} (hF : F_X8_readRoad a1 σ = some (r, τ)) : fr_Ci l g yX8_readRoad (fr_ws yX8_readRoad cX8_readRoad 3 (some .boolean)) 4 [.ref (g.2.1 59), .int a1] σ (fr_bi r) τ := fr_mz (by decide) (Nat.le_of_ble_eq_true rfl) (fun p e s m below meth c X hr => b_X8_readRoad X hr  rfl hF)
def L_X8_readPerson_103 (k1 : Int32) (k2 : Int32) : Nat → Int32 → fr_St → Option (Int32 × fr_St)
  | 0, _, _ => none
  | n + 1, x3, σ => if (σ 66 2) ≤ x3 then (some (x3, σ)) else (fr_bP (F_X8_has k2 x3 σ) (fun b3 s2 => fr_bS (if (fr_bi b3) = 0 then (some ((0 : Int32))) else (if fr_ib ((14 : Int32) + x3) 122 = true then if (s2 66 (fr_ix ((14 : Int32) + x3))) = (5 : Int32) then (some ((0 : Int32))) else (some ((1 : Int32))) else none)) (fun v4 => fr_bS (if v4 = 0 then (some ((0 : Int32))) else (some ((2 : Int32)))) (fun v7 => if fr_ib (((50 : Int32) + ((4 : Int32) * x3)) + k1) 122 = true then fr_let (fr_up s2 66 (fr_ix (((50 : Int32) + ((4 : Int32) * x3)) + k1)) v7) (fun s11 => fr_bS (if v4 = 0 then (some ((-1000000 : Int32))) else (some ((0 : Int32)))) (fun v12 => if fr_ib (((86 : Int32) + ((4 : Int32) * x3)) + k1) 122 = true then fr_let (fr_up s11 66 (fr_ix (((86 : Int32) + ((4 : Int32) * x3)) + k1)) v12) (fun s16 => fr_let (x3 + (1 : Int32)) (fun v17 => L_X8_readPerson_103 k1 k2 n v17 s16)) else none)) else none))))
set_option maxRecDepth 100000 in
set_option maxHeartbeats 4000000 in
theorem wL_X8_readPerson_103 {p : Program} {l : Launch} {e : Env} {s : State} {m : MethodId} {args : Array Value} {below : List Frame} {meth : Method} {c : Code} {g : fr_G} {Q : State → Prop} (X : fr_X p s m args meth c g cX8_readPerson RX8 5)  (k1 : Int32) (k2 : Int32) {y3 : Int32} {τ : fr_St} (K : fr_V p l e (fr_rm 4) s m args below meth c g Q 5 τ 194 [(0, .ref (g.2.1 59)), (1, .int k1), (2, .int k2), (3, .int y3)] []) : ∀ (n : Nat) (x3 : Int32) (σ : fr_St), L_X8_readPerson_103 k1 k2 n x3 σ = some (y3, τ) → fr_V p l e (fr_rm 4) s m args below meth c g Q 5 σ 103 [(0, .ref (g.2.1 59)), (1, .int k1), (2, .int k2), (3, .int x3)] [] := by
  intro n
  induction n with
  | zero => intro x3 σ hL; cases hL
  | succ n ih =>
    intro x3 σ hL
    rw [L_X8_readPerson_103] at hL
    refine sv_iload_n (i := 3) X dX8_readPerson_103 rfl rfl ?_
    refine sv_aload_n (i := 0) X dX8_readPerson_104 rfl rfl ?_
    refine sv_getr X ix_X8 rfl 15 (by decide) rfl rfl fl_X8_28 dX8_readPerson_105 ?_
    refine sv_iconst (v := 2) X dX8_readPerson_108 (by decide) ?_
    refine sv_iald (j := 2) X rfl (by decide) (by decide) dX8_readPerson_109 ?_
    refine sv_icmp_ge (tgt := 194) X dX8_readPerson_110 (by decide) (fun h23 => ?_) (fun h23 => ?_)
    · replace hL := fr_pos hL h23
      obtain ⟨rfl, rfl⟩ := fr_i2 hL
      exact K
    · replace hL := fr_neg hL h23
      refine sv_iload_n (i := 2) X dX8_readPerson_113 rfl rfl ?_
      refine sv_iload_n (i := 3) X dX8_readPerson_114 rfl rfl ?_
      obtain ⟨b3, s2, hc1, hL⟩ := fr_bP_some hL
      refine sv_callSi X (c_X8_has hc1) cd_X8_has ml_X8_130 sm_X8_has in_RX8 hd_X8_has (by decide) rfl (Nat.le_of_ble_eq_true rfl) dX8_readPerson_115 rfl ?_
      obtain ⟨v4, hM5, hL⟩ := fr_bS_some hL
      have K6 : fr_V p l e (fr_rm 4) s m args below meth c g Q 5 s2 139 [(0, .ref (g.2.1 59)), (1, .int k1), (2, .int k2), (3, .int x3)] [.int v4] := by
        refine sv_istore X dX8_readPerson_139 (by decide) rfl ?_
        refine sv_aload_n (i := 1) X dX8_readPerson_141 rfl rfl ?_
        refine sv_getr X ix_X8 rfl 15 (by decide) rfl rfl fl_X8_28 dX8_readPerson_142 ?_
        refine sv_bipush (v := 50) X dX8_readPerson_145 (by decide) ?_
        refine sv_iconst (v := 4) X dX8_readPerson_147 (by decide) ?_
        refine sv_iload_n (i := 4) X dX8_readPerson_148 rfl rfl ?_
        refine sv_imul X dX8_readPerson_149 ?_
        refine sv_iadd X dX8_readPerson_150 ?_
        refine sv_iload_n (i := 2) X dX8_readPerson_151 rfl rfl ?_
        refine sv_iadd X dX8_readPerson_152 ?_
        refine sv_iload (i := 0) X dX8_readPerson_153 rfl ?_
        obtain ⟨v7, hM8, hL⟩ := fr_bS_some hL
        have K9 : fr_V p l e (fr_rm 4) s m args below meth c g Q 5 s2 163 [(0, .ref (g.2.1 59)), (1, .int k1), (2, .int k2), (3, .int x3), (4, .int v4)] [.int v7, .int (((50 : Int32) + ((4 : Int32) * x3)) + k1), .ref (g.2.1 66)] := by
          obtain ⟨hb10, hL⟩ := fr_chk hL
          refine sv_iast (j := (fr_ix (((50 : Int32) + ((4 : Int32) * x3)) + k1))) X rfl hb10 rfl dX8_readPerson_163 ?_
          refine sv_sig (fun s11 es11 => ?_)
          replace hL := fr_lete hL es11
          refine sv_aload_n (i := 0) X dX8_readPerson_164 rfl rfl ?_
          refine sv_getr X ix_X8 rfl 15 (by decide) rfl rfl fl_X8_28 dX8_readPerson_165 ?_
          refine sv_bipush (v := 86) X dX8_readPerson_168 (by decide) ?_
          refine sv_iconst (v := 4) X dX8_readPerson_170 (by decide) ?_
          refine sv_iload_n (i := 3) X dX8_readPerson_171 rfl rfl ?_
          refine sv_imul X dX8_readPerson_172 ?_
          refine sv_iadd X dX8_readPerson_173 ?_
          refine sv_iload_n (i := 1) X dX8_readPerson_174 rfl rfl ?_
          refine sv_iadd X dX8_readPerson_175 ?_
          refine sv_iload (i := 4) X dX8_readPerson_176 rfl ?_
          obtain ⟨v12, hM13, hL⟩ := fr_bS_some hL
          have K14 : fr_V p l e (fr_rm 4) s m args below meth c g Q 5 s11 187 [(0, .ref (g.2.1 59)), (1, .int k1), (2, .int k2), (3, .int x3), (4, .int v4)] [.int v12, .int (((86 : Int32) + ((4 : Int32) * x3)) + k1), .ref (g.2.1 66)] := by
            obtain ⟨hb15, hL⟩ := fr_chk hL
            refine sv_iast (j := (fr_ix (((86 : Int32) + ((4 : Int32) * x3)) + k1))) X rfl hb15 rfl dX8_readPerson_187 ?_
            refine sv_sig (fun s16 es16 => ?_)
            replace hL := fr_lete hL es16
            obtain ⟨v17, ev17⟩ : ∃ y : Int32, y = x3 + (1 : Int32) := ⟨_, rfl⟩
            replace hL := fr_lete hL ev17
            refine sv_iinc (i := 3) (v := v17) X dX8_readPerson_188 rfl (by rw [ev17]; rfl) (by decide) rfl ?_
            refine sv_goto (tgt := 103) X dX8_readPerson_191 (by decide) ?_
            exact sv_perm [1, 2, 3, 0] rfl (ih _ _ hL)
          refine sv_if_eq (tgt := 185) X dX8_readPerson_178 (by decide) (fun h18 => ?_) (fun h18 => ?_)
          · replace hM13 := fr_pos hM13 h18
            refine sv_ldc X kn_X8_134 dX8_readPerson_185 ?_
            obtain rfl := fr_i1 hM13
            exact K14
          · replace hM13 := fr_neg hM13 h18
            refine sv_iconst (v := 0) X dX8_readPerson_181 (by decide) ?_
            refine sv_goto (tgt := 187) X dX8_readPerson_182 (by decide) ?_
            obtain rfl := fr_i1 hM13
            exact K14
        refine sv_if_eq (tgt := 162) X dX8_readPerson_155 (by decide) (fun h19 => ?_) (fun h19 => ?_)
        · replace hM8 := fr_pos hM8 h19
          refine sv_iconst (v := 0) X dX8_readPerson_162 (by decide) ?_
          obtain rfl := fr_i1 hM8
          exact sv_perm [1, 2, 3, 4, 0] rfl K9
        · replace hM8 := fr_neg hM8 h19
          refine sv_iconst (v := 2) X dX8_readPerson_158 (by decide) ?_
          refine sv_goto (tgt := 163) X dX8_readPerson_159 (by decide) ?_
          obtain rfl := fr_i1 hM8
          exact sv_perm [1, 2, 3, 4, 0] rfl K9
      refine sv_if_eq (tgt := 138) X dX8_readPerson_118 (by decide) (fun h22 => ?_) (fun h22 => ?_)
      · replace hM5 := fr_pos hM5 h22
        refine sv_iconst (v := 0) X dX8_readPerson_138 (by decide) ?_
        obtain rfl := fr_i1 hM5
        exact K6
      · replace hM5 := fr_neg hM5 h22
        refine sv_aload_n (i := 0) X dX8_readPerson_121 rfl rfl ?_
        refine sv_getr X ix_X8 rfl 15 (by decide) rfl rfl fl_X8_28 dX8_readPerson_122 ?_
        refine sv_bipush (v := 14) X dX8_readPerson_125 (by decide) ?_
        refine sv_iload_n (i := 3) X dX8_readPerson_127 rfl rfl ?_
        refine sv_iadd X dX8_readPerson_128 ?_
        obtain ⟨hb20, hM5⟩ := fr_chk hM5
        refine sv_iald (j := (fr_ix ((14 : Int32) + x3))) X rfl hb20 rfl dX8_readPerson_129 ?_
        refine sv_iconst (v := 5) X dX8_readPerson_130 (by decide) ?_
        refine sv_icmp_eq (tgt := 138) X dX8_readPerson_131 (by decide) (fun h21 => ?_) (fun h21 => ?_)
        · replace hM5 := fr_pos hM5 h21
          refine sv_iconst (v := 0) X dX8_readPerson_138 (by decide) ?_
          obtain rfl := fr_i1 hM5
          exact K6
        · replace hM5 := fr_neg hM5 h21
          refine sv_iconst (v := 1) X dX8_readPerson_134 (by decide) ?_
          refine sv_goto (tgt := 139) X dX8_readPerson_135 (by decide) ?_
          obtain rfl := fr_i1 hM5
          exact K6
def F_X8_readPerson  (σ : fr_St) : Option (Bool × fr_St) := fr_let ((σ 66 3)) (fun v1 => if v1 = (4 : Int32) then (fr_bP (F_X8_faults (3 : Int32) σ) (fun b22 s21 => some (b22, s21))) else (fr_bS (F_X8_nextToken σ) (fun s3 => fr_let (fr_up s3 66 3 ((s3 66 3) + (1 : Int32))) (fun s4 => if fr_ib ((10 : Int32) + v1) 122 = true then fr_let (fr_up s4 66 (fr_ix ((10 : Int32) + v1)) v1) (fun s6 => fr_bP (F_X8_takesNumber (0 : Int32) ((s6 66 1) - (1 : Int32)) ((6 : Int32) + v1) (44 : Int32) s6) (fun b9 s8 => if (fr_bi b9) = 0 then (some (false, s8)) else (fr_let ((s8 59 12)) (fun v10 => fr_bP (F_X8_takesNumber (0 : Int32) (((1 : Int32) <<< ((s8 66 2) &&& 31)) - (1 : Int32)) (5 : Int32) (59 : Int32) s8) (fun b13 s12 => if (fr_bi b13) = 0 then (some (false, s12)) else (fr_let (fr_up s12 66 5 (0 : Int32)) (fun s14 => fr_bP (L_X8_readPerson_103 v1 v10 fr_fu (0 : Int32) s14) (fun v15 s16 => some (true, s16))))))))) else none))))
set_option maxRecDepth 100000 in
set_option maxHeartbeats 4000000 in
theorem b_X8_readPerson {p : Program} {l : Launch} {e : Env} {s : State} {m : MethodId} {args : Array Value} {below : List Frame} {meth : Method} {c : Code} {g : fr_G} {Q : State → Prop} (X : fr_X p s m args meth c g cX8_readPerson RX8 5) (hr : meth.sig.returnType = (some .boolean))   {σ τ : fr_St} {r : Bool} (hQ : Q = fr_Qi below args s g (fr_bi r) τ) (hF : F_X8_readPerson  σ = some (r, τ)) : fr_V p l e (fr_rm 4) s m args below meth c g Q 5 σ 0 [(0, .ref (g.2.1 59))] [] := by
  unfold F_X8_readPerson at hF
  refine sv_aload_n (i := 0) X dX8_readPerson_0 rfl rfl ?_
  refine sv_getr X ix_X8 rfl 15 (by decide) rfl rfl fl_X8_28 dX8_readPerson_1 ?_
  refine sv_iconst (v := 3) X dX8_readPerson_4 (by decide) ?_
  refine sv_iald (j := 3) X rfl (by decide) (by decide) dX8_readPerson_5 ?_
  refine sv_topi (fun v1 ev1 => ?_)
  replace hF := fr_lete hF ev1
  refine sv_istore_n X dX8_readPerson_6 rfl (by decide) rfl ?_
  refine sv_iload_n (i := 0) X dX8_readPerson_7 rfl rfl ?_
  refine sv_iconst (v := 4) X dX8_readPerson_8 (by decide) ?_
  refine sv_icmp_ne (tgt := 18) X dX8_readPerson_9 (by decide) (fun h23 => ?_) (fun h23 => ?_)
  · replace hF := fr_neg hF h23
    refine sv_aload_n (i := 1) X dX8_readPerson_18 rfl rfl ?_
    obtain ⟨s3, hc2, hF⟩ := fr_bS_some hF
    refine sv_callVv X (c_X8_nextToken hc2) cd_X8_nextToken ml_X8_120 im_X8_nextToken se_X8_nextToken in_RX8 hd_X8_nextToken rfl rfl (by decide) rfl (Nat.le_of_ble_eq_true rfl) dX8_readPerson_19 rfl ?_
    refine sv_aload_n (i := 1) X dX8_readPerson_22 rfl rfl ?_
    refine sv_getr X ix_X8 rfl 15 (by decide) rfl rfl fl_X8_28 dX8_readPerson_23 ?_
    refine sv_iconst (v := 3) X dX8_readPerson_26 (by decide) ?_
    refine sv_dup2 X dX8_readPerson_27 rfl rfl ?_
    refine sv_iald (j := 3) X rfl (by decide) (by decide) dX8_readPerson_28 ?_
    refine sv_iconst (v := 1) X dX8_readPerson_29 (by decide) ?_
    refine sv_iadd X dX8_readPerson_30 ?_
    refine sv_iast (j := 3) X rfl (by decide) (by decide) dX8_readPerson_31 ?_
    refine sv_sig (fun s4 es4 => ?_)
    replace hF := fr_lete hF es4
    refine sv_aload_n (i := 1) X dX8_readPerson_32 rfl rfl ?_
    refine sv_getr X ix_X8 rfl 15 (by decide) rfl rfl fl_X8_28 dX8_readPerson_33 ?_
    refine sv_bipush (v := 10) X dX8_readPerson_36 (by decide) ?_
    refine sv_iload_n (i := 0) X dX8_readPerson_38 rfl rfl ?_
    refine sv_iadd X dX8_readPerson_39 ?_
    refine sv_iload_n (i := 0) X dX8_readPerson_40 rfl rfl ?_
    obtain ⟨hb5, hF⟩ := fr_chk hF
    refine sv_iast (j := (fr_ix ((10 : Int32) + v1))) X rfl hb5 rfl dX8_readPerson_41 ?_
    refine sv_sig (fun s6 es6 => ?_)
    replace hF := fr_lete hF es6
    refine sv_aload_n (i := 1) X dX8_readPerson_42 rfl rfl ?_
    refine sv_iconst (v := 0) X dX8_readPerson_43 (by decide) ?_
    refine sv_aload_n (i := 1) X dX8_readPerson_44 rfl rfl ?_
    refine sv_getr X ix_X8 rfl 15 (by decide) rfl rfl fl_X8_28 dX8_readPerson_45 ?_
    refine sv_iconst (v := 1) X dX8_readPerson_48 (by decide) ?_
    refine sv_iald (j := 1) X rfl (by decide) (by decide) dX8_readPerson_49 ?_
    refine sv_iconst (v := 1) X dX8_readPerson_50 (by decide) ?_
    refine sv_isub X dX8_readPerson_51 ?_
    refine sv_bipush (v := 6) X dX8_readPerson_52 (by decide) ?_
    refine sv_iload_n (i := 0) X dX8_readPerson_54 rfl rfl ?_
    refine sv_iadd X dX8_readPerson_55 ?_
    refine sv_bipush (v := 44) X dX8_readPerson_56 (by decide) ?_
    obtain ⟨b9, s8, hc7, hF⟩ := fr_bP_some hF
    refine sv_callVi X (c_X8_takesNumber hc7) cd_X8_takesNumber ml_X8_126 im_X8_takesNumber se_X8_takesNumber in_RX8 hd_X8_takesNumber rfl rfl (by decide) rfl (Nat.le_of_ble_eq_true rfl) dX8_readPerson_58 rfl ?_
    refine sv_if_ne (tgt := 66) X dX8_readPerson_61 (by decide) (fun h19 => ?_) (fun h19 => ?_)
    · replace hF := fr_neg hF h19
      refine sv_aload_n (i := 1) X dX8_readPerson_66 rfl rfl ?_
      refine sv_geti X ix_X8 rfl 12 (by decide) rfl rfl fl_X8_100 dX8_readPerson_67 ?_
      refine sv_topi (fun v10 ev10 => ?_)
      replace hF := fr_lete hF ev10
      refine sv_istore_n X dX8_readPerson_70 rfl (by decide) rfl ?_
      refine sv_aload_n (i := 2) X dX8_readPerson_71 rfl rfl ?_
      refine sv_iconst (v := 0) X dX8_readPerson_72 (by decide) ?_
      refine sv_iconst (v := 1) X dX8_readPerson_73 (by decide) ?_
      refine sv_aload_n (i := 2) X dX8_readPerson_74 rfl rfl ?_
      refine sv_getr X ix_X8 rfl 15 (by decide) rfl rfl fl_X8_28 dX8_readPerson_75 ?_
      refine sv_iconst (v := 2) X dX8_readPerson_78 (by decide) ?_
      refine sv_iald (j := 2) X rfl (by decide) (by decide) dX8_readPerson_79 ?_
      refine sv_ishl X dX8_readPerson_80 ?_
      refine sv_iconst (v := 1) X dX8_readPerson_81 (by decide) ?_
      refine sv_isub X dX8_readPerson_82 ?_
      refine sv_iconst (v := 5) X dX8_readPerson_83 (by decide) ?_
      refine sv_bipush (v := 59) X dX8_readPerson_84 (by decide) ?_
      obtain ⟨b13, s12, hc11, hF⟩ := fr_bP_some hF
      refine sv_callVi X (c_X8_takesNumber hc11) cd_X8_takesNumber ml_X8_126 im_X8_takesNumber se_X8_takesNumber in_RX8 hd_X8_takesNumber rfl rfl (by decide) rfl (Nat.le_of_ble_eq_true rfl) dX8_readPerson_86 rfl ?_
      refine sv_if_ne (tgt := 94) X dX8_readPerson_89 (by decide) (fun h18 => ?_) (fun h18 => ?_)
      · replace hF := fr_neg hF h18
        refine sv_aload_n (i := 2) X dX8_readPerson_94 rfl rfl ?_
        refine sv_getr X ix_X8 rfl 15 (by decide) rfl rfl fl_X8_28 dX8_readPerson_95 ?_
        refine sv_iconst (v := 5) X dX8_readPerson_98 (by decide) ?_
        refine sv_iconst (v := 0) X dX8_readPerson_99 (by decide) ?_
        refine sv_iast (j := 5) X rfl (by decide) (by decide) dX8_readPerson_100 ?_
        refine sv_sig (fun s14 es14 => ?_)
        replace hF := fr_lete hF es14
        refine sv_iconst (v := 0) X dX8_readPerson_101 (by decide) ?_
        refine sv_istore_n X dX8_readPerson_102 rfl (by decide) rfl ?_
        refine sv_perm [3, 2, 1, 0] rfl ?_
        obtain ⟨v15, s16, hl17, hF⟩ := fr_bP_some hF
        refine wL_X8_readPerson_103 X  v1 v10 ?_ fr_fu _ _ hl17
        refine sv_iconst (v := 1) X dX8_readPerson_194 (by decide) ?_
        exact sv_zret X (b := true) hr hQ rfl dX8_readPerson_195 hF
      · replace hF := fr_pos hF h18
        refine sv_iconst (v := 0) X dX8_readPerson_92 (by decide) ?_
        exact sv_zret X (b := false) hr hQ rfl dX8_readPerson_93 hF
    · replace hF := fr_pos hF h19
      refine sv_iconst (v := 0) X dX8_readPerson_64 (by decide) ?_
      exact sv_zret X (b := false) hr hQ rfl dX8_readPerson_65 hF
  · replace hF := fr_pos hF h23
    refine sv_aload_n (i := 1) X dX8_readPerson_12 rfl rfl ?_
    refine sv_iconst (v := 3) X dX8_readPerson_13 (by decide) ?_
    obtain ⟨b22, s21, hc20, hF⟩ := fr_bP_some hF
    refine sv_callVi X (c_X8_faults hc20) cd_X8_faults ml_X8_117 im_X8_faults se_X8_faults in_RX8 hd_X8_faults rfl rfl (by decide) rfl (Nat.le_of_ble_eq_true rfl) dX8_readPerson_14 rfl ?_
    exact sv_zret X (b := b22) hr hQ rfl dX8_readPerson_17 hF
theorem c_X8_readPerson {l : Launch} {g : fr_G}   {σ τ : fr_St} {r : Bool} (hF : F_X8_readPerson  σ = some (r, τ)) : fr_Ci l g yX8_readPerson (fr_ws yX8_readPerson cX8_readPerson 5 (some .boolean)) 4 [.ref (g.2.1 59)] σ (fr_bi r) τ := fr_mz (by decide) (Nat.le_of_ble_eq_true rfl) (fun p e s m below meth c X hr => b_X8_readPerson X hr  rfl hF)
