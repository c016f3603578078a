def L_X8_round_26 (k2 : Int32) : Nat → Int32 → Int32 → fr_St → Option (Int32 × Int32 × fr_St)
  | 0, _, _, _ => none
  | n + 1, x3, x4, σ => if (σ 63 2) ≤ x4 then (some (x3, x4, σ)) else (fr_bP (F_X8_has k2 x4 σ) (fun b3 s2 => fr_bP (if (fr_bi b3) = 0 then (some ((0 : Int32), s2)) else (fr_bP (F_X8_isByFeet x4 s2) (fun b12 s11 => if (fr_bi b12) = 0 then (some ((0 : Int32), s11)) else (some (((1 : Int32) <<< (x4 &&& 31)), s11))))) (fun v4 s5 => fr_let ((x3 ||| v4)) (fun v8 => fr_let (x4 + (1 : Int32)) (fun v9 => L_X8_round_26 k2 n v8 v9 s5)))))
set_option maxRecDepth 100000 in
set_option maxHeartbeats 4000000 in
theorem wL_X8_round_26 {p : Program} {l : Launch} {e : Env} {s : State} {m : MethodId} {args : Array Value} {below : List Frame} {meth : Method} {c : Code} {g : fr_G} {Q : State → Prop} (X : fr_X p s m args meth c g cX8_round RX8 12)  (k1 : Int32) (k2 : Int32) {y3 : Int32} {y4 : Int32} {τ : fr_St} (K : fr_V p l e (fr_rm 4) s m args below meth c g Q 12 τ 72 [(0, .ref (g.2.1 59)), (1, .int k1), (2, .int k2), (3, .int y3), (4, .int y4)] []) : ∀ (n : Nat) (x3 : Int32) (x4 : Int32) (σ : fr_St), L_X8_round_26 k2 n x3 x4 σ = some (y3, y4, τ) → fr_V p l e (fr_rm 4) s m args below meth c g Q 12 σ 26 [(0, .ref (g.2.1 59)), (1, .int k1), (2, .int k2), (3, .int x3), (4, .int x4)] [] := by
  intro n
  induction n with
  | zero => intro x3 x4 σ hL; cases hL
  | succ n ih =>
    intro x3 x4 σ hL
    rw [L_X8_round_26] at hL
    refine sv_iload (i := 4) X dX8_round_26 rfl ?_
    refine sv_aload_n (i := 0) X dX8_round_28 rfl rfl ?_
    refine sv_getr X ix_X8 rfl 5 (by decide) rfl rfl fl_X8_19 dX8_round_29 ?_
    refine sv_iconst (v := 2) X dX8_round_32 (by decide) ?_
    refine sv_iald (j := 2) X rfl (by decide) (by decide) dX8_round_33 ?_
    refine sv_icmp_ge (tgt := 72) X dX8_round_34 (by decide) (fun h15 => ?_) (fun h15 => ?_)
    · replace hL := fr_pos hL h15
      obtain ⟨rfl, rfl, rfl⟩ := fr_i3 hL
      exact K
    · replace hL := fr_neg hL h15
      refine sv_iload_n (i := 3) X dX8_round_37 rfl rfl ?_
      refine sv_iload_n (i := 2) X dX8_round_38 rfl rfl ?_
      refine sv_iload (i := 4) X dX8_round_39 rfl ?_
      obtain ⟨b3, s2, hc1, hL⟩ := fr_bP_some hL
      refine sv_callSi X (c_X8_has hc1) cd_X8_has ml_X8_130 sm_X8_has in_RX8 hd_X8_has (by decide) rfl (Nat.le_of_ble_eq_true rfl) dX8_round_41 rfl ?_
      obtain ⟨v4, s5, hM6, hL⟩ := fr_bP_some hL
      have K7 : fr_V p l e (fr_rm 4) s m args below meth c g Q 12 s5 64 [(0, .ref (g.2.1 59)), (1, .int k1), (2, .int k2), (3, .int x3), (4, .int x4)] [.int v4, .int x3] := by
        refine sv_ior X dX8_round_64 ?_
        refine sv_topi (fun v8 ev8 => ?_)
        replace hL := fr_lete hL ev8
        refine sv_istore_n X dX8_round_65 rfl (by decide) rfl ?_
        obtain ⟨v9, ev9⟩ : ∃ y : Int32, y = x4 + (1 : Int32) := ⟨_, rfl⟩
        replace hL := fr_lete hL ev9
        refine sv_iinc (i := 4) (v := v9) X dX8_round_66 rfl (by rw [ev9]; rfl) (by decide) rfl ?_
        refine sv_goto (tgt := 26) X dX8_round_69 (by decide) ?_
        exact sv_perm [2, 3, 4, 1, 0] rfl (ih _ _ _ hL)
      refine sv_if_eq (tgt := 63) X dX8_round_44 (by decide) (fun h14 => ?_) (fun h14 => ?_)
      · replace hM6 := fr_pos hM6 h14
        refine sv_iconst (v := 0) X dX8_round_63 (by decide) ?_
        obtain ⟨rfl, rfl⟩ := fr_i2 hM6
        exact K7
      · replace hM6 := fr_neg hM6 h14
        refine sv_aload_n (i := 0) X dX8_round_47 rfl rfl ?_
        refine sv_iload (i := 4) X dX8_round_48 rfl ?_
        obtain ⟨b12, s11, hc10, hM6⟩ := fr_bP_some hM6
        refine sv_callVi X (c_X8_isByFeet hc10) cd_X8_isByFeet ml_X8_159 im_X8_isByFeet se_X8_isByFeet in_RX8 hd_X8_isByFeet rfl rfl (by decide) rfl (Nat.le_of_ble_eq_true rfl) dX8_round_50 rfl ?_
        refine sv_if_eq (tgt := 63) X dX8_round_53 (by decide) (fun h13 => ?_) (fun h13 => ?_)
        · replace hM6 := fr_pos hM6 h13
          refine sv_iconst (v := 0) X dX8_round_63 (by decide) ?_
          obtain ⟨rfl, rfl⟩ := fr_i2 hM6
          exact K7
        · replace hM6 := fr_neg hM6 h13
          refine sv_iconst (v := 1) X dX8_round_56 (by decide) ?_
          refine sv_iload (i := 4) X dX8_round_57 rfl ?_
          refine sv_ishl X dX8_round_59 ?_
          refine sv_goto (tgt := 64) X dX8_round_60 (by decide) ?_
          obtain ⟨rfl, rfl⟩ := fr_i2 hM6
          exact K7
def L_X8_round_86 (k4 : Int32) : Nat → Int32 → fr_St → Option (Int32 × fr_St)
  | 0, _, _ => none
  | n + 1, x5, σ => if (4096 : Int32) ≤ x5 then (some (x5, σ)) else (fr_bS (if x5 = ((512 : Int32) * k4) then (some ((0 : Int32))) else (some ((100000 : Int32)))) (fun v1 => if fr_ib x5 4096 = true then fr_let (fr_up σ 69 (fr_ix x5) v1) (fun s5 => fr_let (x5 + (1 : Int32)) (fun v6 => L_X8_round_86 k4 n v6 s5)) else none))
set_option maxRecDepth 100000 in
set_option maxHeartbeats 4000000 in
theorem wL_X8_round_86 {p : Program} {l : Launch} {e : Env} {s : State} {m : MethodId} {args : Array Value} {below : List Frame} {meth : Method} {c : Code} {g : fr_G} {Q : State → Prop} (X : fr_X p s m args meth c g cX8_round RX8 12)  (k1 : Int32) (k2 : Int32) (k3 : Int32) (k4 : Int32) {y5 : Int32} {τ : fr_St} (K : fr_V p l e (fr_rm 4) s m args below meth c g Q 12 τ 124 [(0, .ref (g.2.1 59)), (1, .int k1), (2, .int k2), (3, .int k3), (4, .int k4), (5, .int y5)] []) : ∀ (n : Nat) (x5 : Int32) (σ : fr_St), L_X8_round_86 k4 n x5 σ = some (y5, τ) → fr_V p l e (fr_rm 4) s m args below meth c g Q 12 σ 86 [(0, .ref (g.2.1 59)), (1, .int k1), (2, .int k2), (3, .int k3), (4, .int k4), (5, .int x5)] [] := by
  intro n
  induction n with
  | zero => intro x5 σ hL; cases hL
  | succ n ih =>
    intro x5 σ hL
    rw [L_X8_round_86] at hL
    refine sv_iload (i := 5) X dX8_round_86 rfl ?_
    refine sv_sipush (v := 4096) X dX8_round_88 (by decide) ?_
    refine sv_icmp_ge (tgt := 124) X dX8_round_91 (by decide) (fun h8 => ?_) (fun h8 => ?_)
    · replace hL := fr_pos hL h8
      obtain ⟨rfl, rfl⟩ := fr_i2 hL
      exact K
    · replace hL := fr_neg hL h8
      refine sv_aload_n (i := 0) X dX8_round_94 rfl rfl ?_
      refine sv_getr X ix_X8 rfl 19 (by decide) rfl rfl fl_X8_37 dX8_round_95 ?_
      refine sv_iload (i := 5) X dX8_round_98 rfl ?_
      refine sv_iload (i := 5) X dX8_round_100 rfl ?_
      refine sv_sipush (v := 512) X dX8_round_102 (by decide) ?_
      refine sv_iload (i := 4) X dX8_round_105 rfl ?_
      refine sv_imul X dX8_round_107 ?_
      obtain ⟨v1, hM2, hL⟩ := fr_bS_some hL
      have K3 : fr_V p l e (fr_rm 4) s m args below meth c g Q 12 σ 117 [(0, .ref (g.2.1 59)), (1, .int k1), (2, .int k2), (3, .int k3), (4, .int k4), (5, .int x5)] [.int v1, .int x5, .ref (g.2.1 69)] := by
        obtain ⟨hb4, hL⟩ := fr_chk hL
        refine sv_iast (j := (fr_ix x5)) X rfl hb4 rfl dX8_round_117 ?_
        refine sv_sig (fun s5 es5 => ?_)
        replace hL := fr_lete hL es5
        obtain ⟨v6, ev6⟩ : ∃ y : Int32, y = x5 + (1 : Int32) := ⟨_, rfl⟩
        replace hL := fr_lete hL ev6
        refine sv_iinc (i := 5) (v := v6) X dX8_round_118 rfl (by rw [ev6]; rfl) (by decide) rfl ?_
        refine sv_goto (tgt := 86) X dX8_round_121 (by decide) ?_
        exact sv_perm [1, 2, 3, 4, 5, 0] rfl (ih _ _ hL)
      refine sv_icmp_ne (tgt := 115) X dX8_round_108 (by decide) (fun h7 => ?_) (fun h7 => ?_)
      · replace hM2 := fr_neg hM2 h7
        refine sv_ldc X kn_X8_204 dX8_round_115 ?_
        obtain rfl := fr_i1 hM2
        exact K3
      · replace hM2 := fr_pos hM2 h7
        refine sv_iconst (v := 0) X dX8_round_111 (by decide) ?_
        refine sv_goto (tgt := 117) X dX8_round_112 (by decide) ?_
        obtain rfl := fr_i1 hM2
        exact K3
def L_X8_round_138 (k2 : Int32) (k3 : Int32) : Nat → Int32 → Int32 → fr_St → Option (Int32 × Int32 × fr_St)
  | 0, _, _, _ => none
  | n + 1, x5, x6, σ => if ((4096 : Int32) * (σ 63 2)) ≤ x6 then (some (x5, x6, σ)) else (if (σ 63 2) = 0 then none else fr_let ((x6 - x6 / (σ 63 2) * (σ 63 2))) (fun v2 => if (σ 63 2) = 0 then none else fr_let ((x6 / (σ 63 2))) (fun v4 => fr_bP (F_X8_has k2 v2 σ) (fun b7 s6 => fr_bP (if (fr_bi b7) = 0 then (some ((-1 : Int32), s6)) else (fr_bP (F_X8_across v2 (v4 / (512 : Int32)) s6) (fun r40 s39 => some (r40, s39)))) (fun v8 s9 => fr_bP (if v8 < 0 then (some (x5, s9)) else (if fr_ib v4 4096 = true then if (100000 : Int32) ≤ (s9 69 (fr_ix v4)) then (some (x5, s9)) else (fr_let ((((512 : Int32) * v8) + ((v4 - v4 / (512 : Int32) * (512 : Int32)) ||| (((1 : Int32) <<< (v2 &&& 31)) &&& k3)))) (fun v18 => if fr_ib v4 4096 = true then if fr_ib ((41 : Int32) + v2) 122 = true then fr_let (((s9 69 (fr_ix v4)) + (s9 63 (fr_ix ((41 : Int32) + v2))))) (fun v21 => fr_bS (if x5 = 0 then (if fr_ib v18 4096 = true then if (s9 69 (fr_ix v18)) ≤ v21 then (some ((0 : Int32))) else (some ((1 : Int32))) else none) else (some ((1 : Int32)))) (fun v22 => if fr_ib v18 4096 = true then fr_bS (if (s9 69 (fr_ix v18)) ≤ v21 then (if fr_ib v18 4096 = true then some ((s9 69 (fr_ix v18))) else none) else (some (v21))) (fun v26 => if fr_ib v18 4096 = true then fr_let (fr_up s9 69 (fr_ix v18) v26) (fun s30 => some (v22, s30)) else none) else none)) else none else none)) else none)) (fun v12 s13 => fr_let (x6 + (1 : Int32)) (fun v16 => L_X8_round_138 k2 k3 n v12 v16 s13)))))))
set_option maxRecDepth 100000 in
set_option maxHeartbeats 4000000 in
theorem wL_X8_round_138 {p : Program} {l : Launch} {e : Env} {s : State} {m : MethodId} {args : Array Value} {below : List Frame} {meth : Method} {c : Code} {g : fr_G} {Q : State → Prop} (X : fr_X p s m args meth c g cX8_round RX8 12)  (k1 : Int32) (k2 : Int32) (k3 : Int32) (k4 : Int32) {y5 : Int32} {y6 : Int32} {τ : fr_St} (K : fr_V p l e (fr_rm 4) s m args below meth c g Q 12 τ 322 [(0, .ref (g.2.1 59)), (1, .int k1), (2, .int k2), (3, .int k3), (4, .int k4), (5, .int y5), (6, .int y6)] []) : ∀ (n : Nat) (x5 : Int32) (x6 : Int32) (σ : fr_St), L_X8_round_138 k2 k3 n x5 x6 σ = some (y5, y6, τ) → fr_V p l e (fr_rm 4) s m args below meth c g Q 12 σ 138 [(0, .ref (g.2.1 59)), (1, .int k1), (2, .int k2), (3, .int k3), (4, .int k4), (5, .int x5), (6, .int x6)] [] := by
  intro n
  induction n with
  | zero => intro x5 x6 σ hL; cases hL
  | succ n ih =>
    intro x5 x6 σ hL
    rw [L_X8_round_138] at hL
    refine sv_iload (i := 6) X dX8_round_138 rfl ?_
    refine sv_sipush (v := 4096) X dX8_round_140 (by decide) ?_
    refine sv_aload_n (i := 0) X dX8_round_143 rfl rfl ?_
    refine sv_getr X ix_X8 rfl 5 (by decide) rfl rfl fl_X8_19 dX8_round_144 ?_
    refine sv_iconst (v := 2) X dX8_round_147 (by decide) ?_
    refine sv_iald (j := 2) X rfl (by decide) (by decide) dX8_round_148 ?_
    refine sv_imul X dX8_round_149 ?_
    refine sv_icmp_ge (tgt := 322) X dX8_round_150 (by decide) (fun h42 => ?_) (fun h42 => ?_)
    · replace hL := fr_pos hL h42
      obtain ⟨rfl, rfl, rfl⟩ := fr_i3 hL
      exact K
    · replace hL := fr_neg hL h42
      refine sv_iload (i := 6) X dX8_round_153 rfl ?_
      refine sv_aload_n (i := 0) X dX8_round_155 rfl rfl ?_
      refine sv_getr X ix_X8 rfl 5 (by decide) rfl rfl fl_X8_19 dX8_round_156 ?_
      refine sv_iconst (v := 2) X dX8_round_159 (by decide) ?_
      refine sv_iald (j := 2) X rfl (by decide) (by decide) dX8_round_160 ?_
      obtain ⟨hn1, hL⟩ := fr_chn hL
      refine sv_irem X dX8_round_161 hn1 ?_
      refine sv_topi (fun v2 ev2 => ?_)
      replace hL := fr_lete hL ev2
      refine sv_istore X dX8_round_162 (by decide) rfl ?_
      refine sv_iload (i := 7) X dX8_round_164 rfl ?_
      refine sv_aload_n (i := 1) X dX8_round_166 rfl rfl ?_
      refine sv_getr X ix_X8 rfl 5 (by decide) rfl rfl fl_X8_19 dX8_round_167 ?_
      refine sv_iconst (v := 2) X dX8_round_170 (by decide) ?_
      refine sv_iald (j := 2) X rfl (by decide) (by decide) dX8_round_171 ?_
      obtain ⟨hn3, hL⟩ := fr_chn hL
      refine sv_idiv X dX8_round_172 hn3 ?_
      refine sv_topi (fun v4 ev4 => ?_)
      replace hL := fr_lete hL ev4
      refine sv_istore X dX8_round_173 (by decide) rfl ?_
      refine sv_iload_n (i := 4) X dX8_round_175 rfl rfl ?_
      refine sv_iload (i := 1) X dX8_round_176 rfl ?_
      obtain ⟨b7, s6, hc5, hL⟩ := fr_bP_some hL
      refine sv_callSi X (c_X8_has hc5) cd_X8_has ml_X8_130 sm_X8_has in_RX8 hd_X8_has (by decide) rfl (Nat.le_of_ble_eq_true rfl) dX8_round_178 rfl ?_
      obtain ⟨v8, s9, hM10, hL⟩ := fr_bP_some hL
      have K11 : fr_V p l e (fr_rm 4) s m args below meth c g Q 12 s9 200 [(0, .ref (g.2.1 59)), (1, .int k1), (2, .int k2), (3, .int k3), (4, .int k4), (5, .int x5), (6, .int x6), (7, .int v2), (8, .int v4)] [.int v8] := by
        refine sv_istore X dX8_round_200 (by decide) rfl ?_
        refine sv_iload (i := 0) X dX8_round_202 rfl ?_
        obtain ⟨v12, s13, hM14, hL⟩ := fr_bP_some hL
        have K15 : fr_V p l e (fr_rm 4) s m args below meth c g Q 12 s13 316 [(0, .ref (g.2.1 59)), (1, .int k1), (2, .int k2), (3, .int k3), (4, .int k4), (5, .int v12), (6, .int x6), (7, .int v2), (8, .int v4), (9, .int v8)] [] := by
          obtain ⟨v16, ev16⟩ : ∃ y : Int32, y = x6 + (1 : Int32) := ⟨_, rfl⟩
          replace hL := fr_lete hL ev16
          refine sv_iinc (i := 6) (v := v16) X dX8_round_316 rfl (by rw [ev16]; rfl) (by decide) rfl ?_
          refine sv_goto (tgt := 138) X dX8_round_319 (by decide) ?_
          exact sv_perm [1, 2, 3, 4, 5, 6, 0] rfl (ih _ _ _ hL)
        refine sv_if_lt (tgt := 316) X dX8_round_204 (by decide) (fun h37 => ?_) (fun h37 => ?_)
        · replace hM14 := fr_pos hM14 h37
          obtain ⟨rfl, rfl⟩ := fr_i2 hM14
          exact sv_perm [1, 2, 3, 4, 5, 6, 7, 8, 9, 0] rfl K15
        · replace hM14 := fr_neg hM14 h37
          refine sv_aload_n (i := 1) X dX8_round_207 rfl rfl ?_
          refine sv_getr X ix_X8 rfl 19 (by decide) rfl rfl fl_X8_37 dX8_round_208 ?_
          refine sv_iload (i := 9) X dX8_round_211 rfl ?_
          obtain ⟨hb17, hM14⟩ := fr_chk hM14
          refine sv_iald (j := (fr_ix v4)) X rfl hb17 rfl dX8_round_213 ?_
          refine sv_ldc X kn_X8_204 dX8_round_214 ?_
          refine sv_icmp_ge (tgt := 316) X dX8_round_216 (by decide) (fun h36 => ?_) (fun h36 => ?_)
          · replace hM14 := fr_pos hM14 h36
            obtain ⟨rfl, rfl⟩ := fr_i2 hM14
            exact sv_perm [1, 2, 3, 4, 5, 6, 7, 8, 9, 0] rfl K15
          · replace hM14 := fr_neg hM14 h36
            refine sv_sipush (v := 512) X dX8_round_219 (by decide) ?_
            refine sv_iload (i := 0) X dX8_round_222 rfl ?_
            refine sv_imul X dX8_round_224 ?_
            refine sv_iload (i := 9) X dX8_round_225 rfl ?_
            refine sv_sipush (v := 512) X dX8_round_227 (by decide) ?_
            refine sv_irem X dX8_round_230 (by decide) ?_
            refine sv_iconst (v := 1) X dX8_round_231 (by decide) ?_
            refine sv_iload (i := 8) X dX8_round_232 rfl ?_
            refine sv_ishl X dX8_round_234 ?_
            refine sv_iload_n (i := 4) X dX8_round_235 rfl rfl ?_
            refine sv_iand X dX8_round_236 ?_
            refine sv_ior X dX8_round_237 ?_
            refine sv_iadd X dX8_round_238 ?_
            refine sv_topi (fun v18 ev18 => ?_)
            replace hM14 := fr_lete hM14 ev18
            refine sv_istore X dX8_round_239 (by decide) rfl ?_
            refine sv_aload_n (i := 2) X dX8_round_241 rfl rfl ?_
            refine sv_getr X ix_X8 rfl 19 (by decide) rfl rfl fl_X8_37 dX8_round_242 ?_
            refine sv_iload (i := 10) X dX8_round_245 rfl ?_
            obtain ⟨hb19, hM14⟩ := fr_chk hM14
            refine sv_iald (j := (fr_ix v4)) X rfl hb19 rfl dX8_round_247 ?_
            refine sv_aload_n (i := 2) X dX8_round_248 rfl rfl ?_
            refine sv_getr X ix_X8 rfl 5 (by decide) rfl rfl fl_X8_19 dX8_round_249 ?_
            refine sv_bipush (v := 41) X dX8_round_252 (by decide) ?_
            refine sv_iload (i := 9) X dX8_round_254 rfl ?_
            refine sv_iadd X dX8_round_256 ?_
            obtain ⟨hb20, hM14⟩ := fr_chk hM14
            refine sv_iald (j := (fr_ix ((41 : Int32) + v2))) X rfl hb20 rfl dX8_round_257 ?_
            refine sv_iadd X dX8_round_258 ?_
            refine sv_topi (fun v21 ev21 => ?_)
            replace hM14 := fr_lete hM14 ev21
            refine sv_istore X dX8_round_259 (by decide) rfl ?_
            refine sv_iload (i := 8) X dX8_round_261 rfl ?_
            obtain ⟨v22, hM23, hM14⟩ := fr_bS_some hM14
            have K24 : fr_V p l e (fr_rm 4) s m args below meth c g Q 12 s9 283 [(0, .ref (g.2.1 59)), (1, .int k1), (2, .int k2), (3, .int k3), (4, .int k4), (5, .int x5), (6, .int x6), (7, .int v2), (8, .int v4), (9, .int v8), (10, .int v18), (11, .int v21)] [.int v22] := by
              refine sv_istore X dX8_round_283 (by decide) rfl ?_
              refine sv_aload_n (i := 1) X dX8_round_285 rfl rfl ?_
              refine sv_getr X ix_X8 rfl 19 (by decide) rfl rfl fl_X8_37 dX8_round_286 ?_
              refine sv_iload (i := 10) X dX8_round_289 rfl ?_
              refine sv_iload (i := 11) X dX8_round_291 rfl ?_
              refine sv_aload_n (i := 1) X dX8_round_293 rfl rfl ?_
              refine sv_getr X ix_X8 rfl 19 (by decide) rfl rfl fl_X8_37 dX8_round_294 ?_
              refine sv_iload (i := 10) X dX8_round_297 rfl ?_
              obtain ⟨hb25, hM14⟩ := fr_chk hM14
              refine sv_iald (j := (fr_ix v18)) X rfl hb25 rfl dX8_round_299 ?_
              obtain ⟨v26, hM27, hM14⟩ := fr_bS_some hM14
              have K28 : fr_V p l e (fr_rm 4) s m args below meth c g Q 12 s9 315 [(0, .ref (g.2.1 59)), (1, .int k1), (2, .int k2), (3, .int k3), (4, .int k4), (5, .int v22), (6, .int x6), (7, .int v2), (8, .int v4), (9, .int v8), (10, .int v18), (11, .int v21)] [.int v26, .int v18, .ref (g.2.1 69)] := by
                obtain ⟨hb29, hM14⟩ := fr_chk hM14
                refine sv_iast (j := (fr_ix v18)) X rfl hb29 rfl dX8_round_315 ?_
                refine sv_sig (fun s30 es30 => ?_)
                replace hM14 := fr_lete hM14 es30
                obtain ⟨rfl, rfl⟩ := fr_i2 hM14
                exact sv_perm [0, 1, 2, 3, 4, 5, 6, 7, 8, 9] rfl K15
              refine sv_icmp_ge (tgt := 308) X dX8_round_300 (by decide) (fun h32 => ?_) (fun h32 => ?_)
              · replace hM27 := fr_pos hM27 h32
                refine sv_aload_n (i := 1) X dX8_round_308 rfl rfl ?_
                refine sv_getr X ix_X8 rfl 19 (by decide) rfl rfl fl_X8_37 dX8_round_309 ?_
                refine sv_iload (i := 10) X dX8_round_312 rfl ?_
                obtain ⟨hb31, hM27⟩ := fr_chk hM27
                refine sv_iald (j := (fr_ix v18)) X rfl hb31 rfl dX8_round_314 ?_
                obtain rfl := fr_i1 hM27
                exact sv_perm [1, 2, 3, 4, 5, 0, 6, 7, 8, 9, 10, 11] rfl K28
              · replace hM27 := fr_neg hM27 h32
                refine sv_iload (i := 11) X dX8_round_303 rfl ?_
                refine sv_goto (tgt := 315) X dX8_round_305 (by decide) ?_
                obtain rfl := fr_i1 hM27
                exact sv_perm [1, 2, 3, 4, 5, 0, 6, 7, 8, 9, 10, 11] rfl K28
            refine sv_if_ne (tgt := 278) X dX8_round_263 (by decide) (fun h35 => ?_) (fun h35 => ?_)
            · replace hM23 := fr_neg hM23 h35
              refine sv_iconst (v := 1) X dX8_round_278 (by decide) ?_
              refine sv_goto (tgt := 283) X dX8_round_279 (by decide) ?_
              obtain rfl := fr_i1 hM23
              exact sv_perm [3, 4, 5, 6, 7, 8, 9, 10, 11, 2, 1, 0] rfl K24
            · replace hM23 := fr_pos hM23 h35
              refine sv_iload (i := 0) X dX8_round_266 rfl ?_
              refine sv_aload_n (i := 3) X dX8_round_268 rfl rfl ?_
              refine sv_getr X ix_X8 rfl 19 (by decide) rfl rfl fl_X8_37 dX8_round_269 ?_
              refine sv_iload (i := 1) X dX8_round_272 rfl ?_
              obtain ⟨hb33, hM23⟩ := fr_chk hM23
              refine sv_iald (j := (fr_ix v18)) X rfl hb33 rfl dX8_round_274 ?_
              refine sv_icmp_ge (tgt := 282) X dX8_round_275 (by decide) (fun h34 => ?_) (fun h34 => ?_)
              · replace hM23 := fr_pos hM23 h34
                refine sv_iconst (v := 0) X dX8_round_282 (by decide) ?_
                obtain rfl := fr_i1 hM23
                exact sv_perm [3, 4, 5, 6, 7, 8, 9, 10, 11, 2, 1, 0] rfl K24
              · replace hM23 := fr_neg hM23 h34
                refine sv_iconst (v := 1) X dX8_round_278 (by decide) ?_
                refine sv_goto (tgt := 283) X dX8_round_279 (by decide) ?_
                obtain rfl := fr_i1 hM23
                exact sv_perm [3, 4, 5, 6, 7, 8, 9, 10, 11, 2, 1, 0] rfl K24
      refine sv_if_eq (tgt := 199) X dX8_round_181 (by decide) (fun h41 => ?_) (fun h41 => ?_)
      · replace hM10 := fr_pos hM10 h41
        refine sv_iconst (v := (-1)) X dX8_round_199 (by decide) ?_
        obtain ⟨rfl, rfl⟩ := fr_i2 hM10
        exact sv_perm [2, 3, 4, 5, 6, 7, 8, 1, 0] rfl K11
      · replace hM10 := fr_neg hM10 h41
        refine sv_aload_n (i := 2) X dX8_round_184 rfl rfl ?_
        refine sv_iload (i := 1) X dX8_round_185 rfl ?_
        refine sv_iload (i := 0) X dX8_round_187 rfl ?_
        refine sv_sipush (v := 512) X dX8_round_189 (by decide) ?_
        refine sv_idiv X dX8_round_192 (by decide) ?_
        obtain ⟨r40, s39, hc38, hM10⟩ := fr_bP_some hM10
        refine sv_callVi X (c_X8_across hc38) cd_X8_across ml_X8_172 im_X8_across se_X8_across in_RX8 hd_X8_across rfl rfl (by decide) rfl (Nat.le_of_ble_eq_true rfl) dX8_round_193 rfl ?_
        refine sv_goto (tgt := 200) X dX8_round_196 (by decide) ?_
        obtain ⟨rfl, rfl⟩ := fr_i2 hM10
        exact sv_perm [2, 3, 4, 5, 6, 7, 8, 1, 0] rfl K11
def L_X8_round_127 (k2 : Int32) (k3 : Int32) : Nat → Int32 → fr_St → Option (Int32 × fr_St)
  | 0, _, _ => none
  | n + 1, x5, σ => if x5 = 0 then (some (x5, σ)) else (fr_bP (L_X8_round_138 k2 k3 fr_fu (0 : Int32) (0 : Int32) σ) (fun v1 q5 => fr_pP q5 (fun v2 s3 => L_X8_round_127 k2 k3 n v1 s3)))
set_option maxRecDepth 100000 in
set_option maxHeartbeats 4000000 in
theorem wL_X8_round_127 {p : Program} {l : Launch} {e : Env} {s : State} {m : MethodId} {args : Array Value} {below : List Frame} {meth : Method} {c : Code} {g : fr_G} {Q : State → Prop} (X : fr_X p s m args meth c g cX8_round RX8 12)  (k1 : Int32) (k2 : Int32) (k3 : Int32) (k4 : Int32) {y5 : Int32} {τ : fr_St} (K : fr_V p l e (fr_rm 4) s m args below meth c g Q 12 τ 325 [(0, .ref (g.2.1 59)), (1, .int k1), (2, .int k2), (3, .int k3), (4, .int k4), (5, .int y5)] []) : ∀ (n : Nat) (x5 : Int32) (σ : fr_St), L_X8_round_127 k2 k3 n x5 σ = some (y5, τ) → fr_V p l e (fr_rm 4) s m args below meth c g Q 12 σ 127 [(0, .ref (g.2.1 59)), (1, .int k1), (2, .int k2), (3, .int k3), (4, .int k4), (5, .int x5)] [] := by
  intro n
  induction n with
  | zero => intro x5 σ hL; cases hL
  | succ n ih =>
    intro x5 σ hL
    rw [L_X8_round_127] at hL
    refine sv_iload (i := 5) X dX8_round_127 rfl ?_
    refine sv_if_eq (tgt := 325) X dX8_round_129 (by decide) (fun h6 => ?_) (fun h6 => ?_)
    · replace hL := fr_pos hL h6
      obtain ⟨rfl, rfl⟩ := fr_i2 hL
      exact K
    · replace hL := fr_neg hL h6
      refine sv_iconst (v := 0) X dX8_round_132 (by decide) ?_
      refine sv_istore X dX8_round_133 (by decide) rfl ?_
      refine sv_iconst (v := 0) X dX8_round_135 (by decide) ?_
      refine sv_istore X dX8_round_136 (by decide) rfl ?_
      refine sv_perm [2, 3, 4, 5, 6, 1, 0] rfl ?_
      obtain ⟨v1, ⟨v2, s3⟩, hl4, hL⟩ := fr_bP_some hL
      dsimp only [fr_pP] at hL
      refine wL_X8_round_138 X  k1 k2 k3 k4 ?_ fr_fu _ _ _ hl4
      refine sv_goto (tgt := 127) X dX8_round_322 (by decide) ?_
      exact sv_perm [0, 1, 2, 3, 4, 5] rfl (ih _ _ hL)
def F_X8_round (a1 : Int32) (σ : fr_St) : Option (Int32 × fr_St) := fr_bP (F_X8_isPerson a1 σ) (fun b3 s2 => if (fr_bi b3) = 0 then (some ((-1000001 : Int32), s2)) else (fr_bP (F_X8_soleOf a1 s2) (fun r6 s5 => fr_bP (F_X8_openTo r6 s5) (fun r9 s8 => fr_bP (L_X8_round_26 r9 fr_fu (0 : Int32) (0 : Int32) s8) (fun v10 q26 => fr_pP q26 (fun v11 s12 => if fr_ib ((6 : Int32) + a1) 122 = true then fr_let ((s12 63 (fr_ix ((6 : Int32) + a1)))) (fun v15 => fr_bP (L_X8_round_86 v15 fr_fu (0 : Int32) s12) (fun v16 s17 => fr_bP (L_X8_round_127 r9 v10 fr_fu (1 : Int32) s17) (fun v19 s20 => if fr_ib (((512 : Int32) * v15) + v10) 4096 = true then fr_bP (F_X8_orNone (s20 69 (fr_ix (((512 : Int32) * v15) + v10))) s20) (fun r25 s24 => some (r25, s24)) else none))) else none))))))
set_option maxRecDepth 100000 in
set_option maxHeartbeats 4000000 in
theorem b_X8_round {p : Program} {l : Launch} {e : Env} {s : State} {m : MethodId} {args : Array Value} {below : List Frame} {meth : Method} {c : Code} {g : fr_G} {Q : State → Prop} (X : fr_X p s m args meth c g cX8_round RX8 12) (hr : meth.sig.returnType = (some .int)) {a1 : Int32}  {σ τ : fr_St} {r : Int32} (hQ : Q = fr_Qi below args s g r τ) (hF : F_X8_round a1 σ = some (r, τ)) : fr_V p l e (fr_rm 4) s m args below meth c g Q 12 σ 0 [(0, .ref (g.2.1 59)), (1, .int a1)] [] := by
  unfold F_X8_round at hF
  refine sv_aload_n (i := 0) X dX8_round_0 rfl rfl ?_
  refine sv_iload_n (i := 1) X dX8_round_1 rfl rfl ?_
  obtain ⟨b3, s2, hc1, hF⟩ := fr_bP_some hF
  refine sv_callVi X (c_X8_isPerson hc1) cd_X8_isPerson ml_X8_156 im_X8_isPerson se_X8_isPerson in_RX8 hd_X8_isPerson rfl rfl (by decide) rfl (Nat.le_of_ble_eq_true rfl) dX8_round_2 rfl ?_
  refine sv_if_ne (tgt := 11) X dX8_round_5 (by decide) (fun h27 => ?_) (fun h27 => ?_)
  · replace hF := fr_neg hF h27
    refine sv_aload_n (i := 0) X dX8_round_11 rfl rfl ?_
    refine sv_aload_n (i := 0) X dX8_round_12 rfl rfl ?_
    refine sv_iload_n (i := 1) X dX8_round_13 rfl rfl ?_
    obtain ⟨r6, s5, hc4, hF⟩ := fr_bP_some hF
    refine sv_callVi X (c_X8_soleOf hc4) cd_X8_soleOf ml_X8_175 im_X8_soleOf se_X8_soleOf in_RX8 hd_X8_soleOf rfl rfl (by decide) rfl (Nat.le_of_ble_eq_true rfl) dX8_round_14 rfl ?_
    obtain ⟨r9, s8, hc7, hF⟩ := fr_bP_some hF
    refine sv_callVi X (c_X8_openTo hc7) cd_X8_openTo ml_X8_195 im_X8_openTo se_X8_openTo in_RX8 hd_X8_openTo rfl rfl (by decide) rfl (Nat.le_of_ble_eq_true rfl) dX8_round_17 rfl ?_
    refine sv_istore_n X dX8_round_20 rfl (by decide) rfl ?_
    refine sv_iconst (v := 0) X dX8_round_21 (by decide) ?_
    refine sv_istore_n X dX8_round_22 rfl (by decide) rfl ?_
    refine sv_iconst (v := 0) X dX8_round_23 (by decide) ?_
    refine sv_istore X dX8_round_24 (by decide) rfl ?_
    refine sv_perm [3, 4, 2, 1, 0] rfl ?_
    obtain ⟨v10, ⟨v11, s12⟩, hl13, hF⟩ := fr_bP_some hF
    dsimp only [fr_pP] at hF
    refine wL_X8_round_26 X  a1 r9 ?_ fr_fu _ _ _ hl13
    refine sv_aload_n (i := 0) X dX8_round_72 rfl rfl ?_
    refine sv_getr X ix_X8 rfl 5 (by decide) rfl rfl fl_X8_19 dX8_round_73 ?_
    refine sv_bipush (v := 6) X dX8_round_76 (by decide) ?_
    refine sv_iload_n (i := 1) X dX8_round_78 rfl rfl ?_
    refine sv_iadd X dX8_round_79 ?_
    obtain ⟨hb14, hF⟩ := fr_chk hF
    refine sv_iald (j := (fr_ix ((6 : Int32) + a1))) X rfl hb14 rfl dX8_round_80 ?_
    refine sv_topi (fun v15 ev15 => ?_)
    replace hF := fr_lete hF ev15
    refine sv_istore X dX8_round_81 (by decide) rfl ?_
    refine sv_iconst (v := 0) X dX8_round_83 (by decide) ?_
    refine sv_istore X dX8_round_84 (by decide) rfl ?_
    refine sv_perm [2, 3, 4, 5, 1, 0] rfl ?_
    obtain ⟨v16, s17, hl18, hF⟩ := fr_bP_some hF
    refine wL_X8_round_86 X  a1 r9 v10 v15 ?_ fr_fu _ _ hl18
    refine sv_iconst (v := 1) X dX8_round_124 (by decide) ?_
    refine sv_istore X dX8_round_125 (by decide) rfl ?_
    refine sv_perm [1, 2, 3, 4, 5, 0] rfl ?_
    obtain ⟨v19, s20, hl21, hF⟩ := fr_bP_some hF
    refine wL_X8_round_127 X  a1 r9 v10 v15 ?_ fr_fu _ _ hl21
    refine sv_aload_n (i := 0) X dX8_round_325 rfl rfl ?_
    refine sv_getr X ix_X8 rfl 19 (by decide) rfl rfl fl_X8_37 dX8_round_326 ?_
    refine sv_sipush (v := 512) X dX8_round_329 (by decide) ?_
    refine sv_iload (i := 4) X dX8_round_332 rfl ?_
    refine sv_imul X dX8_round_334 ?_
    refine sv_iload_n (i := 3) X dX8_round_335 rfl rfl ?_
    refine sv_iadd X dX8_round_336 ?_
    obtain ⟨hb22, hF⟩ := fr_chk hF
    refine sv_iald (j := (fr_ix (((512 : Int32) * v15) + v10))) X rfl hb22 rfl dX8_round_337 ?_
    obtain ⟨r25, s24, hc23, hF⟩ := fr_bP_some hF
    refine sv_callSi X (c_X8_orNone hc23) cd_X8_orNone ml_X8_212 sm_X8_orNone in_RX8 hd_X8_orNone (by decide) rfl (Nat.le_of_ble_eq_true rfl) dX8_round_338 rfl ?_
    exact sv_iret X hr hQ dX8_round_341 hF
  · replace hF := fr_pos hF h27
    refine sv_ldc X kn_X8_73 dX8_round_8 ?_
    exact sv_iret X hr hQ dX8_round_10 hF
theorem c_X8_round {l : Launch} {g : fr_G} {a1 : Int32}  {σ τ : fr_St} {r : Int32} (hF : F_X8_round a1 σ = some (r, τ)) : fr_Ci l g yX8_round (fr_ws yX8_round cX8_round 12 (some .int)) 4 [.ref (g.2.1 59), .int a1] σ r τ := fr_mi (by decide) (Nat.le_of_ble_eq_true rfl) (fun p e s m below meth c X hr => b_X8_round X hr  rfl hF)
def L_X8_bars_62 (k1 : Int32) (k2 : Int32) (k4 : Int32) : Nat → Int32 → Int32 → fr_St → Option (Int32 × Int32 × fr_St)
  | 0, _, _, _ => none
  | n + 1, x5, x6, σ => if ((1 : Int32) <<< ((σ 63 2) &&& 31)) ≤ x6 then (some (x5, x6, σ)) else (fr_bP (if x5 < 0 then (some ((1 : Int32), σ)) else (fr_bP (F_X8_ones x6 σ) (fun r21 s20 => fr_bP (F_X8_ones x5 s20) (fun r24 s23 => if r24 ≤ r21 then (some ((0 : Int32), s23)) else (some ((1 : Int32), s23)))))) (fun v1 s2 => fr_bP (if v1 = 0 then (some (x5, s2)) else (if fr_ib ((6 : Int32) + k1) 122 = true then fr_bP (F_X8_reachBy (s2 63 (fr_ix ((6 : Int32) + k1))) (k4 &&& (x6 ^^^ (-1 : Int32))) s2) (fun r13 s12 => fr_bP (F_X8_has r13 k2 s12) (fun b16 s15 => if (fr_bi b16) = 0 then (some (x6, s15)) else (some (x5, s15)))) else none)) (fun v5 s6 => fr_let (x6 + (1 : Int32)) (fun v9 => L_X8_bars_62 k1 k2 k4 n v5 v9 s6))))
set_option maxRecDepth 100000 in
set_option maxHeartbeats 4000000 in
theorem wL_X8_bars_62 {p : Program} {l : Launch} {e : Env} {s : State} {m : MethodId} {args : Array Value} {below : List Frame} {meth : Method} {c : Code} {g : fr_G} {Q : State → Prop} (X : fr_X p s m args meth c g cX8_bars RX8 8)  (k1 : Int32) (k2 : Int32) (k3 : Int32) (k4 : Int32) {y5 : Int32} {y6 : Int32} {τ : fr_St} (K : fr_V p l e (fr_rm 4) s m args below meth c g Q 8 τ 142 [(0, .ref (g.2.1 59)), (1, .int k1), (2, .int k2), (3, .int k3), (4, .int k4), (5, .int y5), (6, .int y6)] []) : ∀ (n : Nat) (x5 : Int32) (x6 : Int32) (σ : fr_St), L_X8_bars_62 k1 k2 k4 n x5 x6 σ = some (y5, y6, τ) → fr_V p l e (fr_rm 4) s m args below meth c g Q 8 σ 62 [(0, .ref (g.2.1 59)), (1, .int k1), (2, .int k2), (3, .int k3), (4, .int k4), (5, .int x5), (6, .int x6)] [] := by
  intro n
  induction n with
  | zero => intro x5 x6 σ hL; cases hL
  | succ n ih =>
    intro x5 x6 σ hL
    rw [L_X8_bars_62] at hL
    refine sv_iload (i := 6) X dX8_bars_62 rfl ?_
    refine sv_iconst (v := 1) X dX8_bars_64 (by decide) ?_
    refine sv_aload_n (i := 0) X dX8_bars_65 rfl rfl ?_
    refine sv_getr X ix_X8 rfl 5 (by decide) rfl rfl fl_X8_19 dX8_bars_66 ?_
    refine sv_iconst (v := 2) X dX8_bars_69 (by decide) ?_
    refine sv_iald (j := 2) X rfl (by decide) (by decide) dX8_bars_70 ?_
    refine sv_ishl X dX8_bars_71 ?_
    refine sv_icmp_ge (tgt := 142) X dX8_bars_72 (by decide) (fun h27 => ?_) (fun h27 => ?_)
    · replace hL := fr_pos hL h27
      obtain ⟨rfl, rfl, rfl⟩ := fr_i3 hL
      exact K
    · replace hL := fr_neg hL h27
      refine sv_iload (i := 5) X dX8_bars_75 rfl ?_
      obtain ⟨v1, s2, hM3, hL⟩ := fr_bP_some hL
      have K4 : fr_V p l e (fr_rm 4) s m args below meth c g Q 8 s2 98 [(0, .ref (g.2.1 59)), (1, .int k1), (2, .int k2), (3, .int k3), (4, .int k4), (5, .int x5), (6, .int x6)] [.int v1] := by
        refine sv_istore X dX8_bars_98 (by decide) rfl ?_
        refine sv_iload (i := 0) X dX8_bars_100 rfl ?_
        obtain ⟨v5, s6, hM7, hL⟩ := fr_bP_some hL
        have K8 : fr_V p l e (fr_rm 4) s m args below meth c g Q 8 s6 136 [(0, .ref (g.2.1 59)), (1, .int k1), (2, .int k2), (3, .int k3), (4, .int k4), (5, .int v5), (6, .int x6), (7, .int v1)] [] := by
          obtain ⟨v9, ev9⟩ : ∃ y : Int32, y = x6 + (1 : Int32) := ⟨_, rfl⟩
          replace hL := fr_lete hL ev9
          refine sv_iinc (i := 6) (v := v9) X dX8_bars_136 rfl (by rw [ev9]; rfl) (by decide) rfl ?_
          refine sv_goto (tgt := 62) X dX8_bars_139 (by decide) ?_
          exact sv_perm [1, 2, 3, 4, 5, 6, 0] rfl (ih _ _ _ hL)
        refine sv_if_eq (tgt := 136) X dX8_bars_102 (by decide) (fun h18 => ?_) (fun h18 => ?_)
        · replace hM7 := fr_pos hM7 h18
          obtain ⟨rfl, rfl⟩ := fr_i2 hM7
          exact sv_perm [1, 2, 3, 4, 5, 6, 7, 0] rfl K8
        · replace hM7 := fr_neg hM7 h18
          refine sv_aload_n (i := 1) X dX8_bars_105 rfl rfl ?_
          refine sv_aload_n (i := 1) X dX8_bars_106 rfl rfl ?_
          refine sv_getr X ix_X8 rfl 5 (by decide) rfl rfl fl_X8_19 dX8_bars_107 ?_
          refine sv_bipush (v := 6) X dX8_bars_110 (by decide) ?_
          refine sv_iload_n (i := 2) X dX8_bars_112 rfl rfl ?_
          refine sv_iadd X dX8_bars_113 ?_
          obtain ⟨hb10, hM7⟩ := fr_chk hM7
          refine sv_iald (j := (fr_ix ((6 : Int32) + k1))) X rfl hb10 rfl dX8_bars_114 ?_
          refine sv_iload (i := 5) X dX8_bars_115 rfl ?_
          refine sv_iload (i := 7) X dX8_bars_117 rfl ?_
          refine sv_iconst (v := (-1)) X dX8_bars_119 (by decide) ?_
          refine sv_ixor X dX8_bars_120 ?_
          refine sv_iand X dX8_bars_121 ?_
          obtain ⟨r13, s12, hc11, hM7⟩ := fr_bP_some hM7
          refine sv_callVi X (c_X8_reachBy hc11) cd_X8_reachBy ml_X8_201 im_X8_reachBy se_X8_reachBy in_RX8 hd_X8_reachBy rfl rfl (by decide) rfl (Nat.le_of_ble_eq_true rfl) dX8_bars_122 rfl ?_
          refine sv_iload_n (i := 3) X dX8_bars_125 rfl rfl ?_
          obtain ⟨b16, s15, hc14, hM7⟩ := fr_bP_some hM7
          refine sv_callSi X (c_X8_has hc14) cd_X8_has ml_X8_130 sm_X8_has in_RX8 hd_X8_has (by decide) rfl (Nat.le_of_ble_eq_true rfl) dX8_bars_126 rfl ?_
          refine sv_if_ne (tgt := 136) X dX8_bars_129 (by decide) (fun h17 => ?_) (fun h17 => ?_)
          · replace hM7 := fr_neg hM7 h17
            obtain ⟨rfl, rfl⟩ := fr_i2 hM7
            exact sv_perm [1, 2, 3, 4, 5, 6, 7, 0] rfl K8
          · replace hM7 := fr_pos hM7 h17
            refine sv_iload (i := 7) X dX8_bars_132 rfl ?_
            refine sv_istore X dX8_bars_134 (by decide) rfl ?_
            obtain ⟨rfl, rfl⟩ := fr_i2 hM7
            exact sv_perm [2, 3, 4, 5, 6, 0, 7, 1] rfl K8
      refine sv_if_lt (tgt := 93) X dX8_bars_77 (by decide) (fun h26 => ?_) (fun h26 => ?_)
      · replace hM3 := fr_pos hM3 h26
        refine sv_iconst (v := 1) X dX8_bars_93 (by decide) ?_
        refine sv_goto (tgt := 98) X dX8_bars_94 (by decide) ?_
        obtain ⟨rfl, rfl⟩ := fr_i2 hM3
        exact K4
      · replace hM3 := fr_neg hM3 h26
        refine sv_iload (i := 6) X dX8_bars_80 rfl ?_
        obtain ⟨r21, s20, hc19, hM3⟩ := fr_bP_some hM3
        refine sv_callSi X (c_X8_ones hc19) cd_X8_ones ml_X8_217 sm_X8_ones in_RX8 hd_X8_ones (by decide) rfl (Nat.le_of_ble_eq_true rfl) dX8_bars_82 rfl ?_
        refine sv_iload (i := 5) X dX8_bars_85 rfl ?_
        obtain ⟨r24, s23, hc22, hM3⟩ := fr_bP_some hM3
        refine sv_callSi X (c_X8_ones hc22) cd_X8_ones ml_X8_217 sm_X8_ones in_RX8 hd_X8_ones (by decide) rfl (Nat.le_of_ble_eq_true rfl) dX8_bars_87 rfl ?_
        refine sv_icmp_ge (tgt := 97) X dX8_bars_90 (by decide) (fun h25 => ?_) (fun h25 => ?_)
        · replace hM3 := fr_pos hM3 h25
          refine sv_iconst (v := 0) X dX8_bars_97 (by decide) ?_
          obtain ⟨rfl, rfl⟩ := fr_i2 hM3
          exact K4
        · replace hM3 := fr_neg hM3 h25
          refine sv_iconst (v := 1) X dX8_bars_93 (by decide) ?_
          refine sv_goto (tgt := 98) X dX8_bars_94 (by decide) ?_
          obtain ⟨rfl, rfl⟩ := fr_i2 hM3
          exact K4
def F_X8_bars (a1 : Int32) (a2 : Int32) (a3 : Int32) (σ : fr_St) : Option (Int32 × fr_St) := fr_bP (F_X8_isPerson a1 σ) (fun b3 s2 => if (fr_bi b3) = 0 then (some ((-1000001 : Int32), s2)) else (fr_bP (F_X8_isPlace a2 s2) (fun b6 s5 => if (fr_bi b6) = 0 then (some ((-1000001 : Int32), s5)) else (fr_bP (F_X8_in (a3.toInt64) (0 : Int64) (1 : Int64) s5) (fun b9 s8 => if (fr_bi b9) = 0 then (some ((-1000001 : Int32), s8)) else (if fr_ib ((6 : Int32) + a1) 122 = true then if (s8 63 (fr_ix ((6 : Int32) + a1))) = a2 then (some ((-1000000 : Int32), s8)) else (fr_bP (F_X8_soleOf a1 s8) (fun r13 s12 => fr_bP (F_X8_openTo r13 s12) (fun r16 s15 => fr_bP (L_X8_bars_62 a1 a2 r16 fr_fu (-1 : Int32) (0 : Int32) s15) (fun v17 q29 => fr_pP q29 (fun v18 s19 => fr_bP (if a3 = 0 then (fr_bP (F_X8_ones v17 s19) (fun r27 s26 => some (r27, s26))) else (some (v17, s19))) (fun v21 s22 => some (v21, s22))))))) else none))))))
set_option maxRecDepth 100000 in
set_option maxHeartbeats 4000000 in
theorem b_X8_bars {p : Program} {l : Launch} {e : Env} {s : State} {m : MethodId} {args : Array Value} {below : List Frame} {meth : Method} {c : Code} {g : fr_G} {Q : State → Prop} (X : fr_X p s m args meth c g cX8_bars RX8 8) (hr : meth.sig.returnType = (some .int)) {a1 : Int32} {a2 : Int32} {a3 : Int32}  {σ τ : fr_St} {r : Int32} (hQ : Q = fr_Qi below args s g r τ) (hF : F_X8_bars a1 a2 a3 σ = some (r, τ)) : fr_V p l e (fr_rm 4) s m args below meth c g Q 8 σ 0 [(0, .ref (g.2.1 59)), (1, .int a1), (2, .int a2), (3, .int a3)] [] := by
  unfold F_X8_bars at hF
  refine sv_aload_n (i := 0) X dX8_bars_0 rfl rfl ?_
  refine sv_iload_n (i := 1) X dX8_bars_1 rfl rfl ?_
  obtain ⟨b3, s2, hc1, hF⟩ := fr_bP_some hF
  refine sv_callVi X (c_X8_isPerson hc1) cd_X8_isPerson ml_X8_156 im_X8_isPerson se_X8_isPerson in_RX8 hd_X8_isPerson rfl rfl (by decide) rfl (Nat.le_of_ble_eq_true rfl) dX8_bars_2 rfl ?_
  refine sv_if_eq (tgt := 26) X dX8_bars_5 (by decide) (fun h33 => ?_) (fun h33 => ?_)
  · replace hF := fr_pos hF h33
    refine sv_ldc X kn_X8_73 dX8_bars_26 ?_
    exact sv_iret X hr hQ dX8_bars_28 hF
  · replace hF := fr_neg hF h33
    refine sv_aload_n (i := 0) X dX8_bars_8 rfl rfl ?_
    refine sv_iload_n (i := 2) X dX8_bars_9 rfl rfl ?_
    obtain ⟨b6, s5, hc4, hF⟩ := fr_bP_some hF
    refine sv_callVi X (c_X8_isPlace hc4) cd_X8_isPlace ml_X8_205 im_X8_isPlace se_X8_isPlace in_RX8 hd_X8_isPlace rfl rfl (by decide) rfl (Nat.le_of_ble_eq_true rfl) dX8_bars_10 rfl ?_
    refine sv_if_eq (tgt := 26) X dX8_bars_13 (by decide) (fun h32 => ?_) (fun h32 => ?_)
    · replace hF := fr_pos hF h32
      refine sv_ldc X kn_X8_73 dX8_bars_26 ?_
      exact sv_iret X hr hQ dX8_bars_28 hF
    · replace hF := fr_neg hF h32
      refine sv_iload_n (i := 3) X dX8_bars_16 rfl rfl ?_
      refine sv_i2l X dX8_bars_17 ?_
      refine sv_lconst (v := 0) X dX8_bars_18 (by decide) ?_
      refine sv_lconst (v := 1) X dX8_bars_19 (by decide) ?_
      obtain ⟨b9, s8, hc7, hF⟩ := fr_bP_some hF
      refine sv_callSi X (c_X8_in hc7) cd_X8_in ml_X8_63 sm_X8_in in_RX8 hd_X8_in (by decide) rfl (Nat.le_of_ble_eq_true rfl) dX8_bars_20 rfl ?_
      refine sv_if_ne (tgt := 29) X dX8_bars_23 (by decide) (fun h31 => ?_) (fun h31 => ?_)
      · replace hF := fr_neg hF h31
        refine sv_aload_n (i := 0) X dX8_bars_29 rfl rfl ?_
        refine sv_getr X ix_X8 rfl 5 (by decide) rfl rfl fl_X8_19 dX8_bars_30 ?_
        refine sv_bipush (v := 6) X dX8_bars_33 (by decide) ?_
        refine sv_iload_n (i := 1) X dX8_bars_35 rfl rfl ?_
        refine sv_iadd X dX8_bars_36 ?_
        obtain ⟨hb10, hF⟩ := fr_chk hF
        refine sv_iald (j := (fr_ix ((6 : Int32) + a1))) X rfl hb10 rfl dX8_bars_37 ?_
        refine sv_iload_n (i := 2) X dX8_bars_38 rfl rfl ?_
        refine sv_icmp_ne (tgt := 45) X dX8_bars_39 (by decide) (fun h30 => ?_) (fun h30 => ?_)
        · replace hF := fr_neg hF h30
          refine sv_aload_n (i := 0) X dX8_bars_45 rfl rfl ?_
          refine sv_aload_n (i := 0) X dX8_bars_46 rfl rfl ?_
          refine sv_iload_n (i := 1) X dX8_bars_47 rfl rfl ?_
          obtain ⟨r13, s12, hc11, hF⟩ := fr_bP_some hF
          refine sv_callVi X (c_X8_soleOf hc11) cd_X8_soleOf ml_X8_175 im_X8_soleOf se_X8_soleOf in_RX8 hd_X8_soleOf rfl rfl (by decide) rfl (Nat.le_of_ble_eq_true rfl) dX8_bars_48 rfl ?_
          obtain ⟨r16, s15, hc14, hF⟩ := fr_bP_some hF
          refine sv_callVi X (c_X8_openTo hc14) cd_X8_openTo ml_X8_195 im_X8_openTo se_X8_openTo in_RX8 hd_X8_openTo rfl rfl (by decide) rfl (Nat.le_of_ble_eq_true rfl) dX8_bars_51 rfl ?_
          refine sv_istore X dX8_bars_54 (by decide) rfl ?_
          refine sv_iconst (v := (-1)) X dX8_bars_56 (by decide) ?_
          refine sv_istore X dX8_bars_57 (by decide) rfl ?_
          refine sv_iconst (v := 0) X dX8_bars_59 (by decide) ?_
          refine sv_istore X dX8_bars_60 (by decide) rfl ?_
          refine sv_perm [3, 4, 5, 6, 2, 1, 0] rfl ?_
          obtain ⟨v17, ⟨v18, s19⟩, hl20, hF⟩ := fr_bP_some hF
          dsimp only [fr_pP] at hF
          refine wL_X8_bars_62 X  a1 a2 a3 r16 ?_ fr_fu _ _ _ hl20
          refine sv_iload_n (i := 3) X dX8_bars_142 rfl rfl ?_
          obtain ⟨v21, s22, hM23, hF⟩ := fr_bP_some hF
          have K24 : fr_V p l e (fr_rm 4) s m args below meth c g Q 8 s22 156 [(0, .ref (g.2.1 59)), (1, .int a1), (2, .int a2), (3, .int a3), (4, .int r16), (5, .int v17), (6, .int v18)] [.int v21] := by
            exact sv_iret X hr hQ dX8_bars_156 hF
          refine sv_if_ne (tgt := 154) X dX8_bars_143 (by decide) (fun h28 => ?_) (fun h28 => ?_)
          · replace hM23 := fr_neg hM23 h28
            refine sv_iload (i := 5) X dX8_bars_154 rfl ?_
            obtain ⟨rfl, rfl⟩ := fr_i2 hM23
            exact K24
          · replace hM23 := fr_pos hM23 h28
            refine sv_iload (i := 5) X dX8_bars_146 rfl ?_
            obtain ⟨r27, s26, hc25, hM23⟩ := fr_bP_some hM23
            refine sv_callSi X (c_X8_ones hc25) cd_X8_ones ml_X8_217 sm_X8_ones in_RX8 hd_X8_ones (by decide) rfl (Nat.le_of_ble_eq_true rfl) dX8_bars_148 rfl ?_
            refine sv_goto (tgt := 156) X dX8_bars_151 (by decide) ?_
            obtain ⟨rfl, rfl⟩ := fr_i2 hM23
            exact K24
        · replace hF := fr_pos hF h30
          refine sv_ldc X kn_X8_134 dX8_bars_42 ?_
          exact sv_iret X hr hQ dX8_bars_44 hF
      · replace hF := fr_pos hF h31
        refine sv_ldc X kn_X8_73 dX8_bars_26 ?_
        exact sv_iret X hr hQ dX8_bars_28 hF
theorem c_X8_bars {l : Launch} {g : fr_G} {a1 : Int32} {a2 : Int32} {a3 : Int32}  {σ τ : fr_St} {r : Int32} (hF : F_X8_bars a1 a2 a3 σ = some (r, τ)) : fr_Ci l g yX8_bars (fr_ws yX8_bars cX8_bars 8 (some .int)) 4 [.ref (g.2.1 59), .int a1, .int a2, .int a3] σ r τ := fr_mi (by decide) (Nat.le_of_ble_eq_true rfl) (fun p e s m below meth c X hr => b_X8_bars X hr  rfl hF)
def L_X8_meet_48  : Nat → Int32 → fr_St → Option (Int32 × fr_St)
  | 0, _, _ => none
  | n + 1, x4, σ => if (8 : Int32) ≤ x4 then (some (x4, σ)) else (if fr_ib x4 8 = true then if fr_ib x4 8 = true then fr_let (fr_up σ 70 (fr_ix x4) (σ 68 (fr_ix x4))) (fun s3 => fr_let (x4 + (1 : Int32)) (fun v4 => L_X8_meet_48  n v4 s3)) else none else none)
set_option maxRecDepth 100000 in
set_option maxHeartbeats 4000000 in
theorem wL_X8_meet_48 {p : Program} {l : Launch} {e : Env} {s : State} {m : MethodId} {args : Array Value} {below : List Frame} {meth : Method} {c : Code} {g : fr_G} {Q : State → Prop} (X : fr_X p s m args meth c g cX8_meet RX8 7)  (k1 : Int32) (k2 : Int32) (k3 : Int32) {y4 : Int32} {τ : fr_St} (K : fr_V p l e (fr_rm 4) s m args below meth c g Q 7 τ 75 [(0, .ref (g.2.1 59)), (1, .int k1), (2, .int k2), (3, .int k3), (4, .int y4)] []) : ∀ (n : Nat) (x4 : Int32) (σ : fr_St), L_X8_meet_48  n x4 σ = some (y4, τ) → fr_V p l e (fr_rm 4) s m args below meth c g Q 7 σ 48 [(0, .ref (g.2.1 59)), (1, .int k1), (2, .int k2), (3, .int k3), (4, .int x4)] [] := by
  intro n
  induction n with
  | zero => intro x4 σ hL; cases hL
  | succ n ih =>
    intro x4 σ hL
    rw [L_X8_meet_48] at hL
    refine sv_iload (i := 4) X dX8_meet_48 rfl ?_
    refine sv_bipush (v := 8) X dX8_meet_50 (by decide) ?_
    refine sv_icmp_ge (tgt := 75) X dX8_meet_52 (by decide) (fun h5 => ?_) (fun h5 => ?_)
    · replace hL := fr_pos hL h5
      obtain ⟨rfl, rfl⟩ := fr_i2 hL
      exact K
    · replace hL := fr_neg hL h5
      refine sv_aload_n (i := 0) X dX8_meet_55 rfl rfl ?_
      refine sv_getr X ix_X8 rfl 20 (by decide) rfl rfl fl_X8_40 dX8_meet_56 ?_
      refine sv_iload (i := 4) X dX8_meet_59 rfl ?_
      refine sv_aload_n (i := 0) X dX8_meet_61 rfl rfl ?_
      refine sv_getr X ix_X8 rfl 18 (by decide) rfl rfl fl_X8_34 dX8_meet_62 ?_
      refine sv_iload (i := 4) X dX8_meet_65 rfl ?_
      obtain ⟨hb1, hL⟩ := fr_chk hL
      refine sv_iald (j := (fr_ix x4)) X rfl hb1 rfl dX8_meet_67 ?_
      obtain ⟨hb2, hL⟩ := fr_chk hL
      refine sv_iast (j := (fr_ix x4)) X rfl hb2 rfl dX8_meet_68 ?_
      refine sv_sig (fun s3 es3 => ?_)
      replace hL := fr_lete hL es3
      obtain ⟨v4, ev4⟩ : ∃ y : Int32, y = x4 + (1 : Int32) := ⟨_, rfl⟩
      replace hL := fr_lete hL ev4
      refine sv_iinc (i := 4) (v := v4) X dX8_meet_69 rfl (by rw [ev4]; rfl) (by decide) rfl ?_
      refine sv_goto (tgt := 48) X dX8_meet_72 (by decide) ?_
      exact sv_perm [1, 2, 3, 4, 0] rfl (ih _ _ hL)
def L_X8_meet_109  : Nat → Int32 → Int32 → Int32 → fr_St → Option (Int32 × Int32 × Int32 × fr_St)
  | 0, _, _, _, _ => none
  | n + 1, x4, x5, x6, σ => if (σ 63 1) ≤ x6 then (some (x4, x5, x6, σ)) else (if fr_ib x6 8 = true then if fr_ib x6 8 = true then fr_bP (if x5 ≤ ((σ 70 (fr_ix x6)) + (σ 68 (fr_ix x6))) then (some (x4, x5)) else (if fr_ib x6 8 = true then if fr_ib x6 8 = true then fr_let (((σ 70 (fr_ix x6)) + (σ 68 (fr_ix x6)))) (fun v10 => some (x6, v10)) else none else none)) (fun v3 v4 => fr_let (x6 + (1 : Int32)) (fun v7 => L_X8_meet_109  n v3 v4 v7 σ)) else none else none)
set_option maxRecDepth 100000 in
set_option maxHeartbeats 4000000 in
theorem wL_X8_meet_109 {p : Program} {l : Launch} {e : Env} {s : State} {m : MethodId} {args : Array Value} {below : List Frame} {meth : Method} {c : Code} {g : fr_G} {Q : State → Prop} (X : fr_X p s m args meth c g cX8_meet RX8 7)  (k1 : Int32) (k2 : Int32) (k3 : Int32) {y4 : Int32} {y5 : Int32} {y6 : Int32} {τ : fr_St} (K : fr_V p l e (fr_rm 4) s m args below meth c g Q 7 τ 167 [(0, .ref (g.2.1 59)), (1, .int k1), (2, .int k2), (3, .int k3), (4, .int y4), (5, .int y5), (6, .int y6)] []) : ∀ (n : Nat) (x4 : Int32) (x5 : Int32) (x6 : Int32) (σ : fr_St), L_X8_meet_109  n x4 x5 x6 σ = some (y4, y5, y6, τ) → fr_V p l e (fr_rm 4) s m args below meth c g Q 7 σ 109 [(0, .ref (g.2.1 59)), (1, .int k1), (2, .int k2), (3, .int k3), (4, .int x4), (5, .int x5), (6, .int x6)] [] := by
  intro n
  induction n with
  | zero => intro x4 x5 x6 σ hL; cases hL
  | succ n ih =>
    intro x4 x5 x6 σ hL
    rw [L_X8_meet_109] at hL
    refine sv_iload (i := 6) X dX8_meet_109 rfl ?_
    refine sv_aload_n (i := 0) X dX8_meet_111 rfl rfl ?_
    refine sv_getr X ix_X8 rfl 5 (by decide) rfl rfl fl_X8_19 dX8_meet_112 ?_
    refine sv_iconst (v := 1) X dX8_meet_115 (by decide) ?_
    refine sv_iald (j := 1) X rfl (by decide) (by decide) dX8_meet_116 ?_
    refine sv_icmp_ge (tgt := 167) X dX8_meet_117 (by decide) (fun h12 => ?_) (fun h12 => ?_)
    · replace hL := fr_pos hL h12
      obtain ⟨rfl, rfl, rfl, rfl⟩ := fr_i4 hL
      exact K
    · replace hL := fr_neg hL h12
      refine sv_aload_n (i := 0) X dX8_meet_120 rfl rfl ?_
      refine sv_getr X ix_X8 rfl 20 (by decide) rfl rfl fl_X8_40 dX8_meet_121 ?_
      refine sv_iload (i := 6) X dX8_meet_124 rfl ?_
      obtain ⟨hb1, hL⟩ := fr_chk hL
      refine sv_iald (j := (fr_ix x6)) X rfl hb1 rfl dX8_meet_126 ?_
      refine sv_aload_n (i := 0) X dX8_meet_127 rfl rfl ?_
      refine sv_getr X ix_X8 rfl 18 (by decide) rfl rfl fl_X8_34 dX8_meet_128 ?_
      refine sv_iload (i := 6) X dX8_meet_131 rfl ?_
      obtain ⟨hb2, hL⟩ := fr_chk hL
      refine sv_iald (j := (fr_ix x6)) X rfl hb2 rfl dX8_meet_133 ?_
      refine sv_iadd X dX8_meet_134 ?_
      refine sv_iload (i := 5) X dX8_meet_135 rfl ?_
      obtain ⟨v3, v4, hM5, hL⟩ := fr_bP_some hL
      have K6 : fr_V p l e (fr_rm 4) s m args below meth c g Q 7 σ 161 [(0, .ref (g.2.1 59)), (1, .int k1), (2, .int k2), (3, .int k3), (4, .int v3), (5, .int v4), (6, .int x6)] [] := by
        obtain ⟨v7, ev7⟩ : ∃ y : Int32, y = x6 + (1 : Int32) := ⟨_, rfl⟩
        replace hL := fr_lete hL ev7
        refine sv_iinc (i := 6) (v := v7) X dX8_meet_161 rfl (by rw [ev7]; rfl) (by decide) rfl ?_
        refine sv_goto (tgt := 109) X dX8_meet_164 (by decide) ?_
        exact sv_perm [1, 2, 3, 4, 5, 6, 0] rfl (ih _ _ _ _ hL)
      refine sv_icmp_ge (tgt := 161) X dX8_meet_137 (by decide) (fun h11 => ?_) (fun h11 => ?_)
      · replace hM5 := fr_pos hM5 h11
        obtain ⟨rfl, rfl⟩ := fr_i2 hM5
        exact K6
      · replace hM5 := fr_neg hM5 h11
        refine sv_iload (i := 6) X dX8_meet_140 rfl ?_
        refine sv_istore X dX8_meet_142 (by decide) rfl ?_
        refine sv_aload_n (i := 1) X dX8_meet_144 rfl rfl ?_
        refine sv_getr X ix_X8 rfl 20 (by decide) rfl rfl fl_X8_40 dX8_meet_145 ?_
        refine sv_iload (i := 6) X dX8_meet_148 rfl ?_
        obtain ⟨hb8, hM5⟩ := fr_chk hM5
        refine sv_iald (j := (fr_ix x6)) X rfl hb8 rfl dX8_meet_150 ?_
        refine sv_aload_n (i := 1) X dX8_meet_151 rfl rfl ?_
        refine sv_getr X ix_X8 rfl 18 (by decide) rfl rfl fl_X8_34 dX8_meet_152 ?_
        refine sv_iload (i := 6) X dX8_meet_155 rfl ?_
        obtain ⟨hb9, hM5⟩ := fr_chk hM5
        refine sv_iald (j := (fr_ix x6)) X rfl hb9 rfl dX8_meet_157 ?_
        refine sv_iadd X dX8_meet_158 ?_
        refine sv_topi (fun v10 ev10 => ?_)
        replace hM5 := fr_lete hM5 ev10
        refine sv_istore X dX8_meet_159 (by decide) rfl ?_
        obtain ⟨rfl, rfl⟩ := fr_i2 hM5
        exact sv_perm [2, 3, 4, 5, 1, 0, 6] rfl K6
def F_X8_meet (a1 : Int32) (a2 : Int32) (a3 : Int32) (σ : fr_St) : Option (Int32 × fr_St) := fr_bP (F_X8_areTwo a1 a2 σ) (fun b3 s2 => if (fr_bi b3) = 0 then (some ((-1000001 : Int32), s2)) else (fr_bP (F_X8_in (a3.toInt64) (0 : Int64) (1 : Int64) s2) (fun b6 s5 => if (fr_bi b6) = 0 then (some ((-1000001 : Int32), s5)) else (if fr_ib ((6 : Int32) + a1) 122 = true then fr_bP (F_X8_soleOf a1 s5) (fun r10 s9 => fr_bP (F_X8_openTo r10 s9) (fun r13 s12 => fr_bS (F_X8_findFars (s5 63 (fr_ix ((6 : Int32) + a1))) r13 (0 : Int32) s12) (fun s15 => fr_bP (L_X8_meet_48  fr_fu (0 : Int32) s15) (fun v16 s17 => if fr_ib ((6 : Int32) + a2) 122 = true then fr_bP (F_X8_soleOf a2 s17) (fun r22 s21 => fr_bP (F_X8_openTo r22 s21) (fun r25 s24 => fr_bS (F_X8_findFars (s17 63 (fr_ix ((6 : Int32) + a2))) r25 (0 : Int32) s24) (fun s27 => fr_bP (L_X8_meet_109  fr_fu (-1000000 : Int32) (100000 : Int32) (0 : Int32) s27) (fun v28 q41 => fr_pP q41 (fun v29 q42 => fr_pP q42 (fun v30 s31 => fr_bP (if a3 = 0 then (some (v28, s31)) else (fr_bP (F_X8_orNone v29 s31) (fun r39 s38 => some (r39, s38)))) (fun v33 s34 => some (v33, s34)))))))) else none)))) else none))))
set_option maxRecDepth 100000 in
set_option maxHeartbeats 4000000 in
theorem b_X8_meet {p : Program} {l : Launch} {e : Env} {s : State} {m : MethodId} {args : Array Value} {below : List Frame} {meth : Method} {c : Code} {g : fr_G} {Q : State → Prop} (X : fr_X p s m args meth c g cX8_meet RX8 7) (hr : meth.sig.returnType = (some .int)) {a1 : Int32} {a2 : Int32} {a3 : Int32}  {σ τ : fr_St} {r : Int32} (hQ : Q = fr_Qi below args s g r τ) (hF : F_X8_meet a1 a2 a3 σ = some (r, τ)) : fr_V p l e (fr_rm 4) s m args below meth c g Q 7 σ 0 [(0, .ref (g.2.1 59)), (1, .int a1), (2, .int a2), (3, .int a3)] [] := by
  unfold F_X8_meet at hF
  refine sv_aload_n (i := 0) X dX8_meet_0 rfl rfl ?_
  refine sv_iload_n (i := 1) X dX8_meet_1 rfl rfl ?_
  refine sv_iload_n (i := 2) X dX8_meet_2 rfl rfl ?_
  obtain ⟨b3, s2, hc1, hF⟩ := fr_bP_some hF
  refine sv_callVi X (c_X8_areTwo hc1) cd_X8_areTwo ml_X8_192 im_X8_areTwo se_X8_areTwo in_RX8 hd_X8_areTwo rfl rfl (by decide) rfl (Nat.le_of_ble_eq_true rfl) dX8_meet_3 rfl ?_
  refine sv_if_eq (tgt := 19) X dX8_meet_6 (by decide) (fun h44 => ?_) (fun h44 => ?_)
  · replace hF := fr_pos hF h44
    refine sv_ldc X kn_X8_73 dX8_meet_19 ?_
    exact sv_iret X hr hQ dX8_meet_21 hF
  · replace hF := fr_neg hF h44
    refine sv_iload_n (i := 3) X dX8_meet_9 rfl rfl ?_
    refine sv_i2l X dX8_meet_10 ?_
    refine sv_lconst (v := 0) X dX8_meet_11 (by decide) ?_
    refine sv_lconst (v := 1) X dX8_meet_12 (by decide) ?_
    obtain ⟨b6, s5, hc4, hF⟩ := fr_bP_some hF
    refine sv_callSi X (c_X8_in hc4) cd_X8_in ml_X8_63 sm_X8_in in_RX8 hd_X8_in (by decide) rfl (Nat.le_of_ble_eq_true rfl) dX8_meet_13 rfl ?_
    refine sv_if_ne (tgt := 22) X dX8_meet_16 (by decide) (fun h43 => ?_) (fun h43 => ?_)
    · replace hF := fr_neg hF h43
      refine sv_aload_n (i := 0) X dX8_meet_22 rfl rfl ?_
      refine sv_aload_n (i := 0) X dX8_meet_23 rfl rfl ?_
      refine sv_getr X ix_X8 rfl 5 (by decide) rfl rfl fl_X8_19 dX8_meet_24 ?_
      refine sv_bipush (v := 6) X dX8_meet_27 (by decide) ?_
      refine sv_iload_n (i := 1) X dX8_meet_29 rfl rfl ?_
      refine sv_iadd X dX8_meet_30 ?_
      obtain ⟨hb7, hF⟩ := fr_chk hF
      refine sv_iald (j := (fr_ix ((6 : Int32) + a1))) X rfl hb7 rfl dX8_meet_31 ?_
      refine sv_aload_n (i := 0) X dX8_meet_32 rfl rfl ?_
      refine sv_aload_n (i := 0) X dX8_meet_33 rfl rfl ?_
      refine sv_iload_n (i := 1) X dX8_meet_34 rfl rfl ?_
      obtain ⟨r10, s9, hc8, hF⟩ := fr_bP_some hF
      refine sv_callVi X (c_X8_soleOf hc8) cd_X8_soleOf ml_X8_175 im_X8_soleOf se_X8_soleOf in_RX8 hd_X8_soleOf rfl rfl (by decide) rfl (Nat.le_of_ble_eq_true rfl) dX8_meet_35 rfl ?_
      obtain ⟨r13, s12, hc11, hF⟩ := fr_bP_some hF
      refine sv_callVi X (c_X8_openTo hc11) cd_X8_openTo ml_X8_195 im_X8_openTo se_X8_openTo in_RX8 hd_X8_openTo rfl rfl (by decide) rfl (Nat.le_of_ble_eq_true rfl) dX8_meet_38 rfl ?_
      refine sv_iconst (v := 0) X dX8_meet_41 (by decide) ?_
      obtain ⟨s15, hc14, hF⟩ := fr_bS_some hF
      refine sv_callVv X (c_X8_findFars hc14) cd_X8_findFars ml_X8_208 im_X8_findFars se_X8_findFars in_RX8 hd_X8_findFars rfl rfl (by decide) rfl (Nat.le_of_ble_eq_true rfl) dX8_meet_42 rfl ?_
      refine sv_iconst (v := 0) X dX8_meet_45 (by decide) ?_
      refine sv_istore X dX8_meet_46 (by decide) rfl ?_
      refine sv_perm [1, 2, 3, 4, 0] rfl ?_
      obtain ⟨v16, s17, hl18, hF⟩ := fr_bP_some hF
      refine wL_X8_meet_48 X  a1 a2 a3 ?_ fr_fu _ _ hl18
      refine sv_aload_n (i := 0) X dX8_meet_75 rfl rfl ?_
      refine sv_aload_n (i := 0) X dX8_meet_76 rfl rfl ?_
      refine sv_getr X ix_X8 rfl 5 (by decide) rfl rfl fl_X8_19 dX8_meet_77 ?_
      refine sv_bipush (v := 6) X dX8_meet_80 (by decide) ?_
      refine sv_iload_n (i := 2) X dX8_meet_82 rfl rfl ?_
      refine sv_iadd X dX8_meet_83 ?_
      obtain ⟨hb19, hF⟩ := fr_chk hF
      refine sv_iald (j := (fr_ix ((6 : Int32) + a2))) X rfl hb19 rfl dX8_meet_84 ?_
      refine sv_aload_n (i := 0) X dX8_meet_85 rfl rfl ?_
      refine sv_aload_n (i := 0) X dX8_meet_86 rfl rfl ?_
      refine sv_iload_n (i := 2) X dX8_meet_87 rfl rfl ?_
      obtain ⟨r22, s21, hc20, hF⟩ := fr_bP_some hF
      refine sv_callVi X (c_X8_soleOf hc20) cd_X8_soleOf ml_X8_175 im_X8_soleOf se_X8_soleOf in_RX8 hd_X8_soleOf rfl rfl (by decide) rfl (Nat.le_of_ble_eq_true rfl) dX8_meet_88 rfl ?_
      obtain ⟨r25, s24, hc23, hF⟩ := fr_bP_some hF
      refine sv_callVi X (c_X8_openTo hc23) cd_X8_openTo ml_X8_195 im_X8_openTo se_X8_openTo in_RX8 hd_X8_openTo rfl rfl (by decide) rfl (Nat.le_of_ble_eq_true rfl) dX8_meet_91 rfl ?_
      refine sv_iconst (v := 0) X dX8_meet_94 (by decide) ?_
      obtain ⟨s27, hc26, hF⟩ := fr_bS_some hF
      refine sv_callVv X (c_X8_findFars hc26) cd_X8_findFars ml_X8_208 im_X8_findFars se_X8_findFars in_RX8 hd_X8_findFars rfl rfl (by decide) rfl (Nat.le_of_ble_eq_true rfl) dX8_meet_95 rfl ?_
      refine sv_ldc X kn_X8_134 dX8_meet_98 ?_
      refine sv_istore X dX8_meet_100 (by decide) rfl ?_
      refine sv_ldc X kn_X8_204 dX8_meet_102 ?_
      refine sv_istore X dX8_meet_104 (by decide) rfl ?_
      refine sv_iconst (v := 0) X dX8_meet_106 (by decide) ?_
      refine sv_istore X dX8_meet_107 (by decide) rfl ?_
      refine sv_perm [3, 4, 5, 6, 2, 1, 0] rfl ?_
      obtain ⟨v28, ⟨v29, v30, s31⟩, hl32, hF⟩ := fr_bP_some hF
      dsimp only [fr_pP] at hF
      refine wL_X8_meet_109 X  a1 a2 a3 ?_ fr_fu _ _ _ _ hl32
      refine sv_iload_n (i := 3) X dX8_meet_167 rfl rfl ?_
      obtain ⟨v33, s34, hM35, hF⟩ := fr_bP_some hF
      have K36 : fr_V p l e (fr_rm 4) s m args below meth c g Q 7 s34 181 [(0, .ref (g.2.1 59)), (1, .int a1), (2, .int a2), (3, .int a3), (4, .int v28), (5, .int v29), (6, .int v30)] [.int v33] := by
        exact sv_iret X hr hQ dX8_meet_181 hF
      refine sv_if_ne (tgt := 176) X dX8_meet_168 (by decide) (fun h40 => ?_) (fun h40 => ?_)
      · replace hM35 := fr_neg hM35 h40
        refine sv_iload (i := 5) X dX8_meet_176 rfl ?_
        obtain ⟨r39, s38, hc37, hM35⟩ := fr_bP_some hM35
        refine sv_callSi X (c_X8_orNone hc37) cd_X8_orNone ml_X8_212 sm_X8_orNone in_RX8 hd_X8_orNone (by decide) rfl (Nat.le_of_ble_eq_true rfl) dX8_meet_178 rfl ?_
        obtain ⟨rfl, rfl⟩ := fr_i2 hM35
        exact K36
      · replace hM35 := fr_pos hM35 h40
        refine sv_iload (i := 4) X dX8_meet_171 rfl ?_
        refine sv_goto (tgt := 181) X dX8_meet_173 (by decide) ?_
        obtain ⟨rfl, rfl⟩ := fr_i2 hM35
        exact K36
    · replace hF := fr_pos hF h43
      refine sv_ldc X kn_X8_73 dX8_meet_19 ?_
      exact sv_iret X hr hQ dX8_meet_21 hF
theorem c_X8_meet {l : Launch} {g : fr_G} {a1 : Int32} {a2 : Int32} {a3 : Int32}  {σ τ : fr_St} {r : Int32} (hF : F_X8_meet a1 a2 a3 σ = some (r, τ)) : fr_Ci l g yX8_meet (fr_ws yX8_meet cX8_meet 7 (some .int)) 4 [.ref (g.2.1 59), .int a1, .int a2, .int a3] σ r τ := fr_mi (by decide) (Nat.le_of_ble_eq_true rfl) (fun p e s m below meth c X hr => b_X8_meet X hr  rfl hF)
def L_X8_canGo_3  : Nat → Int32 → fr_St → Option (Int32 × fr_St)
  | 0, _, _ => none
  | n + 1, x4, σ => if (122 : Int32) ≤ x4 then (some (x4, σ)) else (if fr_ib x4 122 = true then if fr_ib x4 122 = true then fr_let (fr_up σ 71 (fr_ix x4) (σ 63 (fr_ix x4))) (fun s3 => fr_let (x4 + (1 : Int32)) (fun v4 => L_X8_canGo_3  n v4 s3)) else none else none)
set_option maxRecDepth 100000 in
set_option maxHeartbeats 4000000 in
theorem wL_X8_canGo_3 {p : Program} {l : Launch} {e : Env} {s : State} {m : MethodId} {args : Array Value} {below : List Frame} {meth : Method} {c : Code} {g : fr_G} {Q : State → Prop} (X : fr_X p s m args meth c g cX8_canGo RX8 7)  (k1 : Int32) (k2 : Int32) (k3 : Int32) {y4 : Int32} {τ : fr_St} (K : fr_V p l e (fr_rm 3) s m args below meth c g Q 7 τ 30 [(0, .ref (g.2.1 59)), (1, .int k1), (2, .int k2), (3, .int k3), (4, .int y4)] []) : ∀ (n : Nat) (x4 : Int32) (σ : fr_St), L_X8_canGo_3  n x4 σ = some (y4, τ) → fr_V p l e (fr_rm 3) s m args below meth c g Q 7 σ 3 [(0, .ref (g.2.1 59)), (1, .int k1), (2, .int k2), (3, .int k3), (4, .int x4)] [] := by
  intro n
  induction n with
  | zero => intro x4 σ hL; cases hL
  | succ n ih =>
    intro x4 σ hL
    rw [L_X8_canGo_3] at hL
    refine sv_iload (i := 4) X dX8_canGo_3 rfl ?_
    refine sv_bipush (v := 122) X dX8_canGo_5 (by decide) ?_
    refine sv_icmp_ge (tgt := 30) X dX8_canGo_7 (by decide) (fun h5 => ?_) (fun h5 => ?_)
    · replace hL := fr_pos hL h5
      obtain ⟨rfl, rfl⟩ := fr_i2 hL
      exact K
    · replace hL := fr_neg hL h5
      refine sv_aload_n (i := 0) X dX8_canGo_10 rfl rfl ?_
      refine sv_getr X ix_X8 rfl 21 (by decide) rfl rfl fl_X8_43 dX8_canGo_11 ?_
      refine sv_iload (i := 4) X dX8_canGo_14 rfl ?_
      refine sv_aload_n (i := 0) X dX8_canGo_16 rfl rfl ?_
      refine sv_getr X ix_X8 rfl 5 (by decide) rfl rfl fl_X8_19 dX8_canGo_17 ?_
      refine sv_iload (i := 4) X dX8_canGo_20 rfl ?_
      obtain ⟨hb1, hL⟩ := fr_chk hL
      refine sv_iald (j := (fr_ix x4)) X rfl hb1 rfl dX8_canGo_22 ?_
      obtain ⟨hb2, hL⟩ := fr_chk hL
      refine sv_iast (j := (fr_ix x4)) X rfl hb2 rfl dX8_canGo_23 ?_
      refine sv_sig (fun s3 es3 => ?_)
      replace hL := fr_lete hL es3
      obtain ⟨v4, ev4⟩ : ∃ y : Int32, y = x4 + (1 : Int32) := ⟨_, rfl⟩
      replace hL := fr_lete hL ev4
      refine sv_iinc (i := 4) (v := v4) X dX8_canGo_24 rfl (by rw [ev4]; rfl) (by decide) rfl ?_
      refine sv_goto (tgt := 3) X dX8_canGo_27 (by decide) ?_
      exact sv_perm [1, 2, 3, 4, 0] rfl (ih _ _ hL)
def L_X8_canGo_36 (k1 : Int32) (k2 : Int32) (k3 : Int32) : Nat → Int32 → Int32 → fr_St → Option (Int32 × Int32 × fr_St)
  | 0, _, _, _ => none
  | n + 1, x4, x5, σ => if k3 ≤ x5 then (some (x4, x5, σ)) else (if x4 = 0 then (some (x4, x5, σ)) else (if fr_ib (k2 + x5) 320 = true then fr_let ((σ 62 (fr_ix (k2 + x5)))) (fun v2 => fr_bP (F_X8_opens v2 k1 σ) (fun b5 s4 => fr_let ((fr_bi b5)) (fun v6 => fr_bS (F_X8_meetSole v2 k1 s4) (fun s8 => fr_let (x5 + (1 : Int32)) (fun v9 => L_X8_canGo_36 k1 k2 k3 n v6 v9 s8))))) else none))
set_option maxRecDepth 100000 in
set_option maxHeartbeats 4000000 in
theorem wL_X8_canGo_36 {p : Program} {l : Launch} {e : Env} {s : State} {m : MethodId} {args : Array Value} {below : List Frame} {meth : Method} {c : Code} {g : fr_G} {Q : State → Prop} (X : fr_X p s m args meth c g cX8_canGo RX8 7)  (k1 : Int32) (k2 : Int32) (k3 : Int32) {y4 : Int32} {y5 : Int32} {τ : fr_St} (K : fr_V p l e (fr_rm 3) s m args below meth c g Q 7 τ 80 [(0, .ref (g.2.1 59)), (1, .int k1), (2, .int k2), (3, .int k3), (4, .int y4), (5, .int y5)] []) : ∀ (n : Nat) (x4 : Int32) (x5 : Int32) (σ : fr_St), L_X8_canGo_36 k1 k2 k3 n x4 x5 σ = some (y4, y5, τ) → fr_V p l e (fr_rm 3) s m args below meth c g Q 7 σ 36 [(0, .ref (g.2.1 59)), (1, .int k1), (2, .int k2), (3, .int k3), (4, .int x4), (5, .int x5)] [] := by
  intro n
  induction n with
  | zero => intro x4 x5 σ hL; cases hL
  | succ n ih =>
    intro x4 x5 σ hL
    rw [L_X8_canGo_36] at hL
    refine sv_iload (i := 5) X dX8_canGo_36 rfl ?_
    refine sv_iload_n (i := 3) X dX8_canGo_38 rfl rfl ?_
    refine sv_icmp_ge (tgt := 80) X dX8_canGo_39 (by decide) (fun h11 => ?_) (fun h11 => ?_)
    · replace hL := fr_pos hL h11
      obtain ⟨rfl, rfl, rfl⟩ := fr_i3 hL
      exact K
    · replace hL := fr_neg hL h11
      refine sv_iload (i := 4) X dX8_canGo_42 rfl ?_
      refine sv_if_eq (tgt := 80) X dX8_canGo_44 (by decide) (fun h10 => ?_) (fun h10 => ?_)
      · replace hL := fr_pos hL h10
        obtain ⟨rfl, rfl, rfl⟩ := fr_i3 hL
        exact K
      · replace hL := fr_neg hL h10
        refine sv_aload_n (i := 0) X dX8_canGo_47 rfl rfl ?_
        refine sv_getr X ix_X8 rfl 2 (by decide) rfl rfl fl_X8_16 dX8_canGo_48 ?_
        refine sv_iload_n (i := 2) X dX8_canGo_51 rfl rfl ?_
        refine sv_iload (i := 5) X dX8_canGo_52 rfl ?_
        refine sv_iadd X dX8_canGo_54 ?_
        obtain ⟨hb1, hL⟩ := fr_chk hL
        refine sv_iald (j := (fr_ix (k2 + x5))) X rfl hb1 rfl dX8_canGo_55 ?_
        refine sv_topi (fun v2 ev2 => ?_)
        replace hL := fr_lete hL ev2
        refine sv_istore X dX8_canGo_56 (by decide) rfl ?_
        refine sv_aload_n (i := 1) X dX8_canGo_58 rfl rfl ?_
        refine sv_iload (i := 0) X dX8_canGo_59 rfl ?_
        refine sv_iload_n (i := 2) X dX8_canGo_61 rfl rfl ?_
        obtain ⟨b5, s4, hc3, hL⟩ := fr_bP_some hL
        refine sv_callVi X (c_X8_opens hc3) cd_X8_opens ml_X8_169 im_X8_opens se_X8_opens in_RX8 hd_X8_opens rfl rfl (by decide) rfl (Nat.le_of_ble_eq_true rfl) dX8_canGo_62 rfl ?_
        refine sv_topi (fun v6 ev6 => ?_)
        replace hL := fr_lete hL ev6
        refine sv_istore X dX8_canGo_65 (by decide) rfl ?_
        refine sv_aload_n (i := 2) X dX8_canGo_67 rfl rfl ?_
        refine sv_iload (i := 1) X dX8_canGo_68 rfl ?_
        refine sv_iload_n (i := 3) X dX8_canGo_70 rfl rfl ?_
        obtain ⟨s8, hc7, hL⟩ := fr_bS_some hL
        refine sv_callVv X (c_X8_meetSole hc7) cd_X8_meetSole ml_X8_178 im_X8_meetSole se_X8_meetSole in_RX8 hd_X8_meetSole rfl rfl (by decide) rfl (Nat.le_of_ble_eq_true rfl) dX8_canGo_71 rfl ?_
        obtain ⟨v9, ev9⟩ : ∃ y : Int32, y = x5 + (1 : Int32) := ⟨_, rfl⟩
        replace hL := fr_lete hL ev9
        refine sv_iinc (i := 6) (v := v9) X dX8_canGo_74 rfl (by rw [ev9]; rfl) (by decide) rfl ?_
        refine sv_goto (tgt := 36) X dX8_canGo_77 (by decide) ?_
        exact sv_perm [3, 4, 5, 6, 1, 0] rfl (ih _ _ _ hL)
def L_X8_canGo_83  : Nat → Int32 → fr_St → Option (Int32 × fr_St)
  | 0, _, _ => none
  | n + 1, x5, σ => if (122 : Int32) ≤ x5 then (some (x5, σ)) else (if fr_ib x5 122 = true then if fr_ib x5 122 = true then fr_let (fr_up σ 63 (fr_ix x5) (σ 71 (fr_ix x5))) (fun s3 => fr_let (x5 + (1 : Int32)) (fun v4 => L_X8_canGo_83  n v4 s3)) else none else none)
set_option maxRecDepth 100000 in
set_option maxHeartbeats 4000000 in
theorem wL_X8_canGo_83 {p : Program} {l : Launch} {e : Env} {s : State} {m : MethodId} {args : Array Value} {below : List Frame} {meth : Method} {c : Code} {g : fr_G} {Q : State → Prop} (X : fr_X p s m args meth c g cX8_canGo RX8 7)  (k1 : Int32) (k2 : Int32) (k3 : Int32) (k4 : Int32) {y5 : Int32} {τ : fr_St} (K : fr_V p l e (fr_rm 3) s m args below meth c g Q 7 τ 110 [(0, .ref (g.2.1 59)), (1, .int k1), (2, .int k2), (3, .int k3), (4, .int k4), (5, .int y5)] []) : ∀ (n : Nat) (x5 : Int32) (σ : fr_St), L_X8_canGo_83  n x5 σ = some (y5, τ) → fr_V p l e (fr_rm 3) s m args below meth c g Q 7 σ 83 [(0, .ref (g.2.1 59)), (1, .int k1), (2, .int k2), (3, .int k3), (4, .int k4), (5, .int x5)] [] := by
  intro n
  induction n with
  | zero => intro x5 σ hL; cases hL
  | succ n ih =>
    intro x5 σ hL
    rw [L_X8_canGo_83] at hL
    refine sv_iload (i := 5) X dX8_canGo_83 rfl ?_
    refine sv_bipush (v := 122) X dX8_canGo_85 (by decide) ?_
    refine sv_icmp_ge (tgt := 110) X dX8_canGo_87 (by decide) (fun h5 => ?_) (fun h5 => ?_)
    · replace hL := fr_pos hL h5
      obtain ⟨rfl, rfl⟩ := fr_i2 hL
      exact K
    · replace hL := fr_neg hL h5
      refine sv_aload_n (i := 0) X dX8_canGo_90 rfl rfl ?_
      refine sv_getr X ix_X8 rfl 5 (by decide) rfl rfl fl_X8_19 dX8_canGo_91 ?_
      refine sv_iload (i := 5) X dX8_canGo_94 rfl ?_
      refine sv_aload_n (i := 0) X dX8_canGo_96 rfl rfl ?_
      refine sv_getr X ix_X8 rfl 21 (by decide) rfl rfl fl_X8_43 dX8_canGo_97 ?_
      refine sv_iload (i := 5) X dX8_canGo_100 rfl ?_
      obtain ⟨hb1, hL⟩ := fr_chk hL
      refine sv_iald (j := (fr_ix x5)) X rfl hb1 rfl dX8_canGo_102 ?_
      obtain ⟨hb2, hL⟩ := fr_chk hL
      refine sv_iast (j := (fr_ix x5)) X rfl hb2 rfl dX8_canGo_103 ?_
      refine sv_sig (fun s3 es3 => ?_)
      replace hL := fr_lete hL es3
      obtain ⟨v4, ev4⟩ : ∃ y : Int32, y = x5 + (1 : Int32) := ⟨_, rfl⟩
      replace hL := fr_lete hL ev4
      refine sv_iinc (i := 5) (v := v4) X dX8_canGo_104 rfl (by rw [ev4]; rfl) (by decide) rfl ?_
      refine sv_goto (tgt := 83) X dX8_canGo_107 (by decide) ?_
      exact sv_perm [1, 2, 3, 4, 5, 0] rfl (ih _ _ hL)
def F_X8_canGo (a1 : Int32) (a2 : Int32) (a3 : Int32) (σ : fr_St) : Option (Bool × fr_St) := fr_bP (L_X8_canGo_3  fr_fu (0 : Int32) σ) (fun v1 s2 => fr_bP (L_X8_canGo_36 a1 a2 a3 fr_fu (1 : Int32) (0 : Int32) s2) (fun v4 q11 => fr_pP q11 (fun v5 s6 => fr_bP (L_X8_canGo_83  fr_fu (0 : Int32) s6) (fun v8 s9 => if v4 = 0 then some (false, s9) else if v4 = 1 then some (true, s9) else none))))
set_option maxRecDepth 100000 in
set_option maxHeartbeats 4000000 in
theorem b_X8_canGo {p : Program} {l : Launch} {e : Env} {s : State} {m : MethodId} {args : Array Value} {below : List Frame} {meth : Method} {c : Code} {g : fr_G} {Q : State → Prop} (X : fr_X p s m args meth c g cX8_canGo RX8 7) (hr : meth.sig.returnType = (some .boolean)) {a1 : Int32} {a2 : Int32} {a3 : Int32}  {σ τ : fr_St} {r : Bool} (hQ : Q = fr_Qi below args s g (fr_bi r) τ) (hF : F_X8_canGo a1 a2 a3 σ = some (r, τ)) : fr_V p l e (fr_rm 3) s m args below meth c g Q 7 σ 0 [(0, .ref (g.2.1 59)), (1, .int a1), (2, .int a2), (3, .int a3)] [] := by
  unfold F_X8_canGo at hF
  refine sv_iconst (v := 0) X dX8_canGo_0 (by decide) ?_
  refine sv_istore X dX8_canGo_1 (by decide) rfl ?_
  refine sv_perm [1, 2, 3, 4, 0] rfl ?_
  obtain ⟨v1, s2, hl3, hF⟩ := fr_bP_some hF
  refine wL_X8_canGo_3 X  a1 a2 a3 ?_ fr_fu _ _ hl3
  refine sv_iconst (v := 1) X dX8_canGo_30 (by decide) ?_
  refine sv_istore X dX8_canGo_31 (by decide) rfl ?_
  refine sv_iconst (v := 0) X dX8_canGo_33 (by decide) ?_
  refine sv_istore X dX8_canGo_34 (by decide) rfl ?_
  refine sv_perm [2, 3, 4, 5, 1, 0] rfl ?_
  obtain ⟨v4, ⟨v5, s6⟩, hl7, hF⟩ := fr_bP_some hF
  dsimp only [fr_pP] at hF
  refine wL_X8_canGo_36 X  a1 a2 a3 ?_ fr_fu _ _ _ hl7
  refine sv_iconst (v := 0) X dX8_canGo_80 (by decide) ?_
  refine sv_istore X dX8_canGo_81 (by decide) rfl ?_
  refine sv_perm [1, 2, 3, 4, 5, 0] rfl ?_
  obtain ⟨v8, s9, hl10, hF⟩ := fr_bP_some hF
  refine wL_X8_canGo_83 X  a1 a2 a3 v4 ?_ fr_fu _ _ hl10
  refine sv_iload (i := 4) X dX8_canGo_110 rfl ?_
  exact sv_zretv X hr hQ dX8_canGo_112 hF
theorem c_X8_canGo {l : Launch} {g : fr_G} {a1 : Int32} {a2 : Int32} {a3 : Int32}  {σ τ : fr_St} {r : Bool} (hF : F_X8_canGo a1 a2 a3 σ = some (r, τ)) : fr_Ci l g yX8_canGo (fr_ws yX8_canGo cX8_canGo 7 (some .boolean)) 3 [.ref (g.2.1 59), .int a1, .int a2, .int a3] σ (fr_bi r) τ := fr_mz (by decide) (Nat.le_of_ble_eq_true rfl) (fun p e s m below meth c X hr => b_X8_canGo X hr  rfl hF)
def L_X8_whose_87 (k1 : Int32) (k2 : Int32) (k3 : Int32) : Nat → Int32 → Int32 → fr_St → Option ((Int32 × fr_St) ⊕ (Int32 × Int32 × fr_St))
  | 0, _, _, _ => none
  | n + 1, x5, x6, σ => if k3 ≤ x6 then (some (.inr (x5, x6, σ))) else (if fr_ib ((((40 : Int32) * k1) + k2) + x6) 320 = true then fr_let ((σ 62 (fr_ix ((((40 : Int32) * k1) + k2) + x6)))) (fun v2 => fr_bP (F_X8_isRoad v2 σ) (fun b5 s4 => fr_bP (if (fr_bi b5) = 0 then (some ((-1 : Int32), s4)) else (fr_bP (F_X8_across v2 x5 s4) (fun r14 s13 => some (r14, s13)))) (fun v6 s7 => if 0 ≤ v6 then (fr_let (x6 + (1 : Int32)) (fun v10 => L_X8_whose_87 k1 k2 k3 n v6 v10 s7)) else (some (.inl ((-1000001 : Int32), s7)))))) else none)
set_option maxRecDepth 100000 in
set_option maxHeartbeats 4000000 in
theorem wL_X8_whose_87 {p : Program} {l : Launch} {e : Env} {s : State} {m : MethodId} {args : Array Value} {below : List Frame} {meth : Method} {c : Code} {g : fr_G} {Q : State → Prop} (X : fr_X p s m args meth c g cX8_whose RX8 8)  (hr : meth.sig.returnType = (some .int)) {z : (Int32 × fr_St) ⊕ (Int32 × Int32 × fr_St)} (KR : (∀ (r : Int32) (τ : fr_St), z = .inl (r, τ) → Q = fr_Qi below args s g r τ)) (k1 : Int32) (k2 : Int32) (k3 : Int32) (k4 : Int32) (KE : ∀ (y5 : Int32) (y6 : Int32) (τ : fr_St), z = .inr (y5, y6, τ) → fr_V p l e (fr_rm 4) s m args below meth c g Q 8 τ 146 [(0, .ref (g.2.1 59)), (1, .int k1), (2, .int k2), (3, .int k3), (4, .int k4), (5, .int y5), (6, .int y6)] []) : ∀ (n : Nat) (x5 : Int32) (x6 : Int32) (σ : fr_St), L_X8_whose_87 k1 k2 k3 n x5 x6 σ = some z → fr_V p l e (fr_rm 4) s m args below meth c g Q 8 σ 87 [(0, .ref (g.2.1 59)), (1, .int k1), (2, .int k2), (3, .int k3), (4, .int k4), (5, .int x5), (6, .int x6)] [] := by
  intro n
  induction n with
  | zero => intro x5 x6 σ hL; cases hL
  | succ n ih =>
    intro x5 x6 σ hL
    rw [L_X8_whose_87] at hL
    refine sv_iload (i := 6) X dX8_whose_87 rfl ?_
    refine sv_iload_n (i := 3) X dX8_whose_89 rfl rfl ?_
    refine sv_icmp_ge (tgt := 146) X dX8_whose_90 (by decide) (fun h16 => ?_) (fun h16 => ?_)
    · replace hL := fr_pos hL h16
      obtain rfl := Option.some.inj hL
      exact (KE _ _ _ rfl)
    · replace hL := fr_neg hL h16
      refine sv_aload_n (i := 0) X dX8_whose_93 rfl rfl ?_
      refine sv_getr X ix_X8 rfl 2 (by decide) rfl rfl fl_X8_16 dX8_whose_94 ?_
      refine sv_bipush (v := 40) X dX8_whose_97 (by decide) ?_
      refine sv_iload_n (i := 1) X dX8_whose_99 rfl rfl ?_
      refine sv_imul X dX8_whose_100 ?_
      refine sv_iload_n (i := 2) X dX8_whose_101 rfl rfl ?_
      refine sv_iadd X dX8_whose_102 ?_
      refine sv_iload (i := 6) X dX8_whose_103 rfl ?_
      refine sv_iadd X dX8_whose_105 ?_
      obtain ⟨hb1, hL⟩ := fr_chk hL
      refine sv_iald (j := (fr_ix ((((40 : Int32) * k1) + k2) + x6))) X rfl hb1 rfl dX8_whose_106 ?_
      refine sv_topi (fun v2 ev2 => ?_)
      replace hL := fr_lete hL ev2
      refine sv_istore X dX8_whose_107 (by decide) rfl ?_
      refine sv_aload_n (i := 1) X dX8_whose_109 rfl rfl ?_
      refine sv_iload (i := 0) X dX8_whose_110 rfl ?_
      obtain ⟨b5, s4, hc3, hL⟩ := fr_bP_some hL
      refine sv_callVi X (c_X8_isRoad hc3) cd_X8_isRoad ml_X8_182 im_X8_isRoad se_X8_isRoad in_RX8 hd_X8_isRoad rfl rfl (by decide) rfl (Nat.le_of_ble_eq_true rfl) dX8_whose_112 rfl ?_
      obtain ⟨v6, s7, hM8, hL⟩ := fr_bP_some hL
      have K9 : fr_V p l e (fr_rm 4) s m args below meth c g Q 8 s7 130 [(0, .ref (g.2.1 59)), (1, .int k1), (2, .int k2), (3, .int k3), (4, .int k4), (5, .int x5), (6, .int x6), (7, .int v2)] [.int v6] := by
        refine sv_istore X dX8_whose_130 (by decide) rfl ?_
        refine sv_iload (i := 0) X dX8_whose_132 rfl ?_
        refine sv_if_ge (tgt := 140) X dX8_whose_134 (by decide) (fun h11 => ?_) (fun h11 => ?_)
        · replace hL := fr_pos hL h11
          obtain ⟨v10, ev10⟩ : ∃ y : Int32, y = x6 + (1 : Int32) := ⟨_, rfl⟩
          replace hL := fr_lete hL ev10
          refine sv_iinc (i := 6) (v := v10) X dX8_whose_140 rfl (by rw [ev10]; rfl) (by decide) rfl ?_
          refine sv_goto (tgt := 87) X dX8_whose_143 (by decide) ?_
          exact sv_perm [2, 3, 4, 5, 6, 1, 0] rfl (ih _ _ _ hL)
        · replace hL := fr_neg hL h11
          refine sv_ldc X kn_X8_73 dX8_whose_137 ?_
          obtain rfl := Option.some.inj hL
          exact sv_iret X hr (KR _ _ rfl) dX8_whose_139 rfl
      refine sv_if_eq (tgt := 129) X dX8_whose_115 (by decide) (fun h15 => ?_) (fun h15 => ?_)
      · replace hM8 := fr_pos hM8 h15
        refine sv_iconst (v := (-1)) X dX8_whose_129 (by decide) ?_
        obtain ⟨rfl, rfl⟩ := fr_i2 hM8
        exact sv_perm [1, 2, 3, 4, 5, 6, 7, 0] rfl K9
      · replace hM8 := fr_neg hM8 h15
        refine sv_aload_n (i := 1) X dX8_whose_118 rfl rfl ?_
        refine sv_iload (i := 0) X dX8_whose_119 rfl ?_
        refine sv_iload (i := 6) X dX8_whose_121 rfl ?_
        obtain ⟨r14, s13, hc12, hM8⟩ := fr_bP_some hM8
        refine sv_callVi X (c_X8_across hc12) cd_X8_across ml_X8_172 im_X8_across se_X8_across in_RX8 hd_X8_across rfl rfl (by decide) rfl (Nat.le_of_ble_eq_true rfl) dX8_whose_123 rfl ?_
        refine sv_goto (tgt := 130) X dX8_whose_126 (by decide) ?_
        obtain ⟨rfl, rfl⟩ := fr_i2 hM8
        exact sv_perm [1, 2, 3, 4, 5, 6, 7, 0] rfl K9
def L_X8_whose_152 (k1 : Int32) (k2 : Int32) (k3 : Int32) : Nat → Int32 → Int32 → fr_St → Option (Int32 × Int32 × fr_St)
  | 0, _, _, _ => none
  | n + 1, x6, x7, σ => if (σ 63 3) ≤ x7 then (some (x6, x7, σ)) else (fr_bP (F_X8_canGo x7 (((40 : Int32) * k1) + k2) k3 σ) (fun b3 s2 => fr_bS (if (fr_bi b3) = 0 then (some ((0 : Int32))) else (some (((1 : Int32) <<< (x7 &&& 31))))) (fun v4 => fr_let ((x6 ||| v4)) (fun v7 => fr_let (x7 + (1 : Int32)) (fun v8 => L_X8_whose_152 k1 k2 k3 n v7 v8 s2)))))
set_option maxRecDepth 100000 in
set_option maxHeartbeats 4000000 in
theorem wL_X8_whose_152 {p : Program} {l : Launch} {e : Env} {s : State} {m : MethodId} {args : Array Value} {below : List Frame} {meth : Method} {c : Code} {g : fr_G} {Q : State → Prop} (X : fr_X p s m args meth c g cX8_whose RX8 8)  (k1 : Int32) (k2 : Int32) (k3 : Int32) (k4 : Int32) (k5 : Int32) {y6 : Int32} {y7 : Int32} {τ : fr_St} (K : fr_V p l e (fr_rm 4) s m args below meth c g Q 8 τ 198 [(0, .ref (g.2.1 59)), (1, .int k1), (2, .int k2), (3, .int k3), (4, .int k4), (5, .int k5), (6, .int y6), (7, .int y7)] []) : ∀ (n : Nat) (x6 : Int32) (x7 : Int32) (σ : fr_St), L_X8_whose_152 k1 k2 k3 n x6 x7 σ = some (y6, y7, τ) → fr_V p l e (fr_rm 4) s m args below meth c g Q 8 σ 152 [(0, .ref (g.2.1 59)), (1, .int k1), (2, .int k2), (3, .int k3), (4, .int k4), (5, .int k5), (6, .int x6), (7, .int x7)] [] := by
  intro n
  induction n with
  | zero => intro x6 x7 σ hL; cases hL
  | succ n ih =>
    intro x6 x7 σ hL
    rw [L_X8_whose_152] at hL
    refine sv_iload (i := 7) X dX8_whose_152 rfl ?_
    refine sv_aload_n (i := 0) X dX8_whose_154 rfl rfl ?_
    refine sv_getr X ix_X8 rfl 5 (by decide) rfl rfl fl_X8_19 dX8_whose_155 ?_
    refine sv_iconst (v := 3) X dX8_whose_158 (by decide) ?_
    refine sv_iald (j := 3) X rfl (by decide) (by decide) dX8_whose_159 ?_
    refine sv_icmp_ge (tgt := 198) X dX8_whose_160 (by decide) (fun h10 => ?_) (fun h10 => ?_)
    · replace hL := fr_pos hL h10
      obtain ⟨rfl, rfl, rfl⟩ := fr_i3 hL
      exact K
    · replace hL := fr_neg hL h10
      refine sv_iload (i := 6) X dX8_whose_163 rfl ?_
      refine sv_aload_n (i := 0) X dX8_whose_165 rfl rfl ?_
      refine sv_iload (i := 7) X dX8_whose_166 rfl ?_
      refine sv_bipush (v := 40) X dX8_whose_168 (by decide) ?_
      refine sv_iload_n (i := 1) X dX8_whose_170 rfl rfl ?_
      refine sv_imul X dX8_whose_171 ?_
      refine sv_iload_n (i := 2) X dX8_whose_172 rfl rfl ?_
      refine sv_iadd X dX8_whose_173 ?_
      refine sv_iload_n (i := 3) X dX8_whose_174 rfl rfl ?_
      obtain ⟨b3, s2, hc1, hL⟩ := fr_bP_some hL
      refine sv_callVi X (c_X8_canGo hc1) cd_X8_canGo ml_X8_222 im_X8_canGo se_X8_canGo in_RX8 hd_X8_canGo rfl rfl (by decide) rfl (Nat.le_of_ble_eq_true rfl) dX8_whose_175 rfl ?_
      obtain ⟨v4, hM5, hL⟩ := fr_bS_some hL
      have K6 : fr_V p l e (fr_rm 4) s m args below meth c g Q 8 s2 189 [(0, .ref (g.2.1 59)), (1, .int k1), (2, .int k2), (3, .int k3), (4, .int k4), (5, .int k5), (6, .int x6), (7, .int x7)] [.int v4, .int x6] := by
        refine sv_ior X dX8_whose_189 ?_
        refine sv_topi (fun v7 ev7 => ?_)
        replace hL := fr_lete hL ev7
        refine sv_istore X dX8_whose_190 (by decide) rfl ?_
        obtain ⟨v8, ev8⟩ : ∃ y : Int32, y = x7 + (1 : Int32) := ⟨_, rfl⟩
        replace hL := fr_lete hL ev8
        refine sv_iinc (i := 7) (v := v8) X dX8_whose_192 rfl (by rw [ev8]; rfl) (by decide) rfl ?_
        refine sv_goto (tgt := 152) X dX8_whose_195 (by decide) ?_
        exact sv_perm [2, 3, 4, 5, 6, 7, 1, 0] rfl (ih _ _ _ hL)
      refine sv_if_eq (tgt := 188) X dX8_whose_178 (by decide) (fun h9 => ?_) (fun h9 => ?_)
      · replace hM5 := fr_pos hM5 h9
        refine sv_iconst (v := 0) X dX8_whose_188 (by decide) ?_
        obtain rfl := fr_i1 hM5
        exact K6
      · replace hM5 := fr_neg hM5 h9
        refine sv_iconst (v := 1) X dX8_whose_181 (by decide) ?_
        refine sv_iload (i := 7) X dX8_whose_182 rfl ?_
        refine sv_ishl X dX8_whose_184 ?_
        refine sv_goto (tgt := 189) X dX8_whose_185 (by decide) ?_
        obtain rfl := fr_i1 hM5
        exact K6
def F_X8_whose (a1 : Int32) (a2 : Int32) (a3 : Int32) (a4 : Int32) (σ : fr_St) : Option (Int32 × fr_St) := if (σ 59 4) = 0 then (some ((-1000002 : Int32), σ)) else (fr_bP (F_X8_isRow a1 σ) (fun b3 s2 => if (fr_bi b3) = 0 then (some ((-1000001 : Int32), s2)) else (fr_bP (F_X8_in (a3.toInt64) (0 : Int64) (16 : Int64) s2) (fun b6 s5 => if (fr_bi b6) = 0 then (some ((-1000001 : Int32), s5)) else (fr_bP (F_X8_isPlace a4 s5) (fun b9 s8 => if (fr_bi b9) = 0 then (some ((-1000001 : Int32), s8)) else (if fr_ib a1 8 = true then if 0 ≤ (s8 61 (fr_ix a1)) then (if fr_ib a1 8 = true then fr_bP (F_X8_in (a2.toInt64) (0 : Int64) (((s8 61 (fr_ix a1)) - a3).toInt64) s8) (fun b14 s13 => if (fr_bi b14) = 0 then (fr_bP (F_X8_find (2 : Int32) s13) (fun r32 s31 => some (r32, s31))) else (fr_bR (L_X8_whose_87 a1 a2 a3 fr_fu a4 (0 : Int32) s13) (fun q0 => some q0) (fun q28 => fr_pP q28 (fun v15 q29 => fr_pP q29 (fun v16 s17 => fr_bP (L_X8_whose_152 a1 a2 a3 fr_fu (0 : Int32) (0 : Int32) s17) (fun v19 q26 => fr_pP q26 (fun v20 s21 => fr_bP (F_X8_well v19 s21) (fun r25 s24 => some (r25, s24))))))))) else none) else (fr_bP (F_X8_find (1 : Int32) s8) (fun r36 s35 => some (r36, s35))) else none)))))))
set_option maxRecDepth 100000 in
set_option maxHeartbeats 4000000 in
theorem b_X8_whose {p : Program} {l : Launch} {e : Env} {s : State} {m : MethodId} {args : Array Value} {below : List Frame} {meth : Method} {c : Code} {g : fr_G} {Q : State → Prop} (X : fr_X p s m args meth c g cX8_whose RX8 8) (hr : meth.sig.returnType = (some .int)) {a1 : Int32} {a2 : Int32} {a3 : Int32} {a4 : Int32}  {σ τ : fr_St} {r : Int32} (hQ : Q = fr_Qi below args s g r τ) (hF : F_X8_whose a1 a2 a3 a4 σ = some (r, τ)) : fr_V p l e (fr_rm 4) s m args below meth c g Q 8 σ 0 [(0, .ref (g.2.1 59)), (1, .int a1), (2, .int a2), (3, .int a3), (4, .int a4)] [] := by
  unfold F_X8_whose at hF
  refine sv_aload_n (i := 0) X dX8_whose_0 rfl rfl ?_
  refine sv_geti X ix_X8 rfl 4 (by decide) rfl rfl fl_X8_149 dX8_whose_1 ?_
  refine sv_if_ne (tgt := 10) X dX8_whose_4 (by decide) (fun h41 => ?_) (fun h41 => ?_)
  · replace hF := fr_neg hF h41
    refine sv_iload_n (i := 1) X dX8_whose_10 rfl rfl ?_
    obtain ⟨b3, s2, hc1, hF⟩ := fr_bP_some hF
    refine sv_callSi X (c_X8_isRow hc1) cd_X8_isRow ml_X8_67 sm_X8_isRow in_RX8 hd_X8_isRow (by decide) rfl (Nat.le_of_ble_eq_true rfl) dX8_whose_11 rfl ?_
    refine sv_if_eq (tgt := 38) X dX8_whose_14 (by decide) (fun h40 => ?_) (fun h40 => ?_)
    · replace hF := fr_pos hF h40
      refine sv_ldc X kn_X8_73 dX8_whose_38 ?_
      exact sv_iret X hr hQ dX8_whose_40 hF
    · replace hF := fr_neg hF h40
      refine sv_iload_n (i := 3) X dX8_whose_17 rfl rfl ?_
      refine sv_i2l X dX8_whose_18 ?_
      refine sv_lconst (v := 0) X dX8_whose_19 (by decide) ?_
      refine sv_ldc2_w X kl_X8_220 dX8_whose_20 ?_
      obtain ⟨b6, s5, hc4, hF⟩ := fr_bP_some hF
      refine sv_callSi X (c_X8_in hc4) cd_X8_in ml_X8_63 sm_X8_in in_RX8 hd_X8_in (by decide) rfl (Nat.le_of_ble_eq_true rfl) dX8_whose_23 rfl ?_
      refine sv_if_eq (tgt := 38) X dX8_whose_26 (by decide) (fun h39 => ?_) (fun h39 => ?_)
      · replace hF := fr_pos hF h39
        refine sv_ldc X kn_X8_73 dX8_whose_38 ?_
        exact sv_iret X hr hQ dX8_whose_40 hF
      · replace hF := fr_neg hF h39
        refine sv_aload_n (i := 0) X dX8_whose_29 rfl rfl ?_
        refine sv_iload (i := 4) X dX8_whose_30 rfl ?_
        obtain ⟨b9, s8, hc7, hF⟩ := fr_bP_some hF
        refine sv_callVi X (c_X8_isPlace hc7) cd_X8_isPlace ml_X8_205 im_X8_isPlace se_X8_isPlace in_RX8 hd_X8_isPlace rfl rfl (by decide) rfl (Nat.le_of_ble_eq_true rfl) dX8_whose_32 rfl ?_
        refine sv_if_ne (tgt := 41) X dX8_whose_35 (by decide) (fun h38 => ?_) (fun h38 => ?_)
        · replace hF := fr_neg hF h38
          refine sv_aload_n (i := 0) X dX8_whose_41 rfl rfl ?_
          refine sv_getr X ix_X8 rfl 1 (by decide) rfl rfl fl_X8_13 dX8_whose_42 ?_
          refine sv_iload_n (i := 1) X dX8_whose_45 rfl rfl ?_
          obtain ⟨hb10, hF⟩ := fr_chk hF
          refine sv_iald (j := (fr_ix a1)) X rfl hb10 rfl dX8_whose_46 ?_
          refine sv_if_ge (tgt := 56) X dX8_whose_47 (by decide) (fun h37 => ?_) (fun h37 => ?_)
          · replace hF := fr_pos hF h37
            refine sv_iload_n (i := 2) X dX8_whose_56 rfl rfl ?_
            refine sv_i2l X dX8_whose_57 ?_
            refine sv_lconst (v := 0) X dX8_whose_58 (by decide) ?_
            refine sv_aload_n (i := 0) X dX8_whose_59 rfl rfl ?_
            refine sv_getr X ix_X8 rfl 1 (by decide) rfl rfl fl_X8_13 dX8_whose_60 ?_
            refine sv_iload_n (i := 1) X dX8_whose_63 rfl rfl ?_
            obtain ⟨hb11, hF⟩ := fr_chk hF
            refine sv_iald (j := (fr_ix a1)) X rfl hb11 rfl dX8_whose_64 ?_
            refine sv_iload_n (i := 3) X dX8_whose_65 rfl rfl ?_
            refine sv_isub X dX8_whose_66 ?_
            refine sv_i2l X dX8_whose_67 ?_
            obtain ⟨b14, s13, hc12, hF⟩ := fr_bP_some hF
            refine sv_callSi X (c_X8_in hc12) cd_X8_in ml_X8_63 sm_X8_in in_RX8 hd_X8_in (by decide) rfl (Nat.le_of_ble_eq_true rfl) dX8_whose_68 rfl ?_
            refine sv_if_ne (tgt := 80) X dX8_whose_71 (by decide) (fun h33 => ?_) (fun h33 => ?_)
            · replace hF := fr_neg hF h33
              refine sv_iload (i := 4) X dX8_whose_80 rfl ?_
              refine sv_istore X dX8_whose_82 (by decide) rfl ?_
              refine sv_iconst (v := 0) X dX8_whose_84 (by decide) ?_
              refine sv_istore X dX8_whose_85 (by decide) rfl ?_
              refine sv_perm [2, 3, 4, 5, 6, 1, 0] rfl ?_
              rcases fr_bR_some hF with ⟨⟨rr, ss⟩, hl18, hF⟩ | ⟨⟨v15, v16, s17⟩, hl18, hF⟩
              · obtain ⟨rfl, rfl⟩ := fr_i2 hF
                exact wL_X8_whose_87 X  hr (fun r τ e => by cases e; exact hQ) a1 a2 a3 a4 (fun _ _ _ e => by cases e) fr_fu _ _ _ hl18
              · dsimp only [fr_pP] at hF
                refine wL_X8_whose_87 X  hr (fun r τ e => by cases e) a1 a2 a3 a4 (fun _ _ _ e => ?_) fr_fu _ _ _ hl18
                cases e
                refine sv_iconst (v := 0) X dX8_whose_146 (by decide) ?_
                refine sv_istore X dX8_whose_147 (by decide) rfl ?_
                refine sv_iconst (v := 0) X dX8_whose_149 (by decide) ?_
                refine sv_istore X dX8_whose_150 (by decide) rfl ?_
                refine sv_perm [2, 3, 4, 5, 6, 7, 1, 0] rfl ?_
                obtain ⟨v19, ⟨v20, s21⟩, hl22, hF⟩ := fr_bP_some hF
                dsimp only [fr_pP] at hF
                refine wL_X8_whose_152 X  a1 a2 a3 a4 v15 ?_ fr_fu _ _ _ hl22
                refine sv_aload_n (i := 0) X dX8_whose_198 rfl rfl ?_
                refine sv_iload (i := 6) X dX8_whose_199 rfl ?_
                obtain ⟨r25, s24, hc23, hF⟩ := fr_bP_some hF
                refine sv_callVi X (c_X8_well hc23) cd_X8_well ml_X8_78 im_X8_well se_X8_well in_RX8 hd_X8_well rfl rfl (by decide) rfl (Nat.le_of_ble_eq_true rfl) dX8_whose_201 rfl ?_
                exact sv_iret X hr hQ dX8_whose_204 hF
            · replace hF := fr_pos hF h33
              refine sv_aload_n (i := 0) X dX8_whose_74 rfl rfl ?_
              refine sv_iconst (v := 2) X dX8_whose_75 (by decide) ?_
              obtain ⟨r32, s31, hc30, hF⟩ := fr_bP_some hF
              refine sv_callVi X (c_X8_find hc30) cd_X8_find ml_X8_74 im_X8_find se_X8_find in_RX8 hd_X8_find rfl rfl (by decide) rfl (Nat.le_of_ble_eq_true rfl) dX8_whose_76 rfl ?_
              exact sv_iret X hr hQ dX8_whose_79 hF
          · replace hF := fr_neg hF h37
            refine sv_aload_n (i := 0) X dX8_whose_50 rfl rfl ?_
            refine sv_iconst (v := 1) X dX8_whose_51 (by decide) ?_
            obtain ⟨r36, s35, hc34, hF⟩ := fr_bP_some hF
            refine sv_callVi X (c_X8_find hc34) cd_X8_find ml_X8_74 im_X8_find se_X8_find in_RX8 hd_X8_find rfl rfl (by decide) rfl (Nat.le_of_ble_eq_true rfl) dX8_whose_52 rfl ?_
            exact sv_iret X hr hQ dX8_whose_55 hF
        · replace hF := fr_pos hF h38
          refine sv_ldc X kn_X8_73 dX8_whose_38 ?_
          exact sv_iret X hr hQ dX8_whose_40 hF
  · replace hF := fr_pos hF h41
    refine sv_ldc X kn_X8_185 dX8_whose_7 ?_
    exact sv_iret X hr hQ dX8_whose_9 hF
theorem c_X8_whose {l : Launch} {g : fr_G} {a1 : Int32} {a2 : Int32} {a3 : Int32} {a4 : Int32}  {σ τ : fr_St} {r : Int32} (hF : F_X8_whose a1 a2 a3 a4 σ = some (r, τ)) : fr_Ci l g yX8_whose (fr_ws yX8_whose cX8_whose 8 (some .int)) 4 [.ref (g.2.1 59), .int a1, .int a2, .int a3, .int a4] σ r τ := fr_mi (by decide) (Nat.le_of_ble_eq_true rfl) (fun p e s m below meth c X hr => b_X8_whose X hr  rfl hF)
def L_X8_snow_63  : Nat → Int64 → Int32 → fr_St → Option (Int64 × Int32 × fr_St)
  | 0, _, _, _ => none
  | n + 1, x8, x10, σ => if (σ 63 2) ≤ x10 then (some (x8, x10, σ)) else (fr_let ((x8 * (10 : Int64))) (fun w1 => fr_let (x10 + (1 : Int32)) (fun v2 => L_X8_snow_63  n w1 v2 σ)))
set_option maxRecDepth 100000 in
set_option maxHeartbeats 4000000 in
theorem wL_X8_snow_63 {p : Program} {l : Launch} {e : Env} {s : State} {m : MethodId} {args : Array Value} {below : List Frame} {meth : Method} {c : Code} {g : fr_G} {Q : State → Prop} (X : fr_X p s m args meth c g cX8_snow RX8 16)  (k1 : Int32) (k2 : Int32) (k3 : Int32) (k4 : Int32) (k5 : Int32) (k6 : Int64) {y8 : Int64} {y10 : Int32} {τ : fr_St} (K : fr_V p l e (fr_rm 4) s m args below meth c g Q 16 τ 88 [(0, .ref (g.2.1 59)), (1, .int k1), (2, .int k2), (3, .int k3), (4, .int k4), (5, .int k5), (6, .long k6), (8, .long y8), (10, .int y10)] []) : ∀ (n : Nat) (x8 : Int64) (x10 : Int32) (σ : fr_St), L_X8_snow_63  n x8 x10 σ = some (y8, y10, τ) → fr_V p l e (fr_rm 4) s m args below meth c g Q 16 σ 63 [(0, .ref (g.2.1 59)), (1, .int k1), (2, .int k2), (3, .int k3), (4, .int k4), (5, .int k5), (6, .long k6), (8, .long x8), (10, .int x10)] [] := by
  intro n
  induction n with
  | zero => intro x8 x10 σ hL; cases hL
  | succ n ih =>
    intro x8 x10 σ hL
    rw [L_X8_snow_63] at hL
    refine sv_iload (i := 8) X dX8_snow_63 rfl ?_
    refine sv_aload_n (i := 0) X dX8_snow_65 rfl rfl ?_
    refine sv_getr X ix_X8 rfl 5 (by decide) rfl rfl fl_X8_19 dX8_snow_66 ?_
    refine sv_iconst (v := 2) X dX8_snow_69 (by decide) ?_
    refine sv_iald (j := 2) X rfl (by decide) (by decide) dX8_snow_70 ?_
    refine sv_icmp_ge (tgt := 88) X dX8_snow_71 (by decide) (fun h3 => ?_) (fun h3 => ?_)
    · replace hL := fr_pos hL h3
      obtain ⟨rfl, rfl, rfl⟩ := fr_i3 hL
      exact K
    · replace hL := fr_neg hL h3
      refine sv_lload (i := 7) X dX8_snow_74 rfl ?_
      refine sv_ldc2_w X kl_X8_225 dX8_snow_76 ?_
      refine sv_lmul X dX8_snow_79 ?_
      refine sv_topl (fun w1 ew1 => ?_)
      replace hL := fr_lete hL ew1
      refine sv_lstore X dX8_snow_80 (by decide) rfl ?_
      obtain ⟨v2, ev2⟩ : ∃ y : Int32, y = x10 + (1 : Int32) := ⟨_, rfl⟩
      replace hL := fr_lete hL ev2
      refine sv_iinc (i := 8) (v := v2) X dX8_snow_82 rfl (by rw [ev2]; rfl) (by decide) rfl ?_
      refine sv_goto (tgt := 63) X dX8_snow_85 (by decide) ?_
      exact sv_perm [2, 3, 4, 5, 6, 7, 8, 1, 0] rfl (ih _ _ _ hL)
def L_X8_snow_110 (k3 : Int32) (k10 : Int32) : Nat → Int64 → Int32 → fr_St → Option (Int64 × Int32 × fr_St)
  | 0, _, _, _ => none
  | n + 1, x11, x13, σ => if (σ 63 2) ≤ x13 then (some (x11, x13, σ)) else (fr_bP (F_X8_has k10 x13 σ) (fun b3 s2 => fr_bS (if (fr_bi b3) = 0 then (some ((k3.toInt64))) else (some ((((10 : Int32) - k3).toInt64)))) (fun w4 => fr_let ((x11 * w4)) (fun w7 => fr_let (x13 + (1 : Int32)) (fun v8 => L_X8_snow_110 k3 k10 n w7 v8 s2)))))
set_option maxRecDepth 100000 in
set_option maxHeartbeats 4000000 in
theorem wL_X8_snow_110 {p : Program} {l : Launch} {e : Env} {s : State} {m : MethodId} {args : Array Value} {below : List Frame} {meth : Method} {c : Code} {g : fr_G} {Q : State → Prop} (X : fr_X p s m args meth c g cX8_snow RX8 16)  (k1 : Int32) (k2 : Int32) (k3 : Int32) (k4 : Int32) (k5 : Int32) (k6 : Int64) (k8 : Int64) (k10 : Int32) {y11 : Int64} {y13 : Int32} {τ : fr_St} (K : fr_V p l e (fr_rm 4) s m args below meth c g Q 16 τ 152 [(0, .ref (g.2.1 59)), (1, .int k1), (2, .int k2), (3, .int k3), (4, .int k4), (5, .int k5), (6, .long k6), (8, .long k8), (10, .int k10), (11, .long y11), (13, .int y13)] []) : ∀ (n : Nat) (x11 : Int64) (x13 : Int32) (σ : fr_St), L_X8_snow_110 k3 k10 n x11 x13 σ = some (y11, y13, τ) → fr_V p l e (fr_rm 4) s m args below meth c g Q 16 σ 110 [(0, .ref (g.2.1 59)), (1, .int k1), (2, .int k2), (3, .int k3), (4, .int k4), (5, .int k5), (6, .long k6), (8, .long k8), (10, .int k10), (11, .long x11), (13, .int x13)] [] := by
  intro n
  induction n with
  | zero => intro x11 x13 σ hL; cases hL
  | succ n ih =>
    intro x11 x13 σ hL
    rw [L_X8_snow_110] at hL
    refine sv_iload (i := 10) X dX8_snow_110 rfl ?_
    refine sv_aload_n (i := 0) X dX8_snow_112 rfl rfl ?_
    refine sv_getr X ix_X8 rfl 5 (by decide) rfl rfl fl_X8_19 dX8_snow_113 ?_
    refine sv_iconst (v := 2) X dX8_snow_116 (by decide) ?_
    refine sv_iald (j := 2) X rfl (by decide) (by decide) dX8_snow_117 ?_
    refine sv_icmp_ge (tgt := 152) X dX8_snow_118 (by decide) (fun h10 => ?_) (fun h10 => ?_)
    · replace hL := fr_pos hL h10
      obtain ⟨rfl, rfl, rfl⟩ := fr_i3 hL
      exact K
    · replace hL := fr_neg hL h10
      refine sv_lload (i := 9) X dX8_snow_121 rfl ?_
      refine sv_iload (i := 8) X dX8_snow_123 rfl ?_
      refine sv_iload (i := 10) X dX8_snow_125 rfl ?_
      obtain ⟨b3, s2, hc1, hL⟩ := fr_bP_some hL
      refine sv_callSi X (c_X8_has hc1) cd_X8_has ml_X8_130 sm_X8_has in_RX8 hd_X8_has (by decide) rfl (Nat.le_of_ble_eq_true rfl) dX8_snow_127 rfl ?_
      obtain ⟨w4, hM5, hL⟩ := fr_bS_some hL
      have K6 : fr_V p l e (fr_rm 4) s m args below meth c g Q 16 s2 143 [(0, .ref (g.2.1 59)), (1, .int k1), (2, .int k2), (3, .int k3), (4, .int k4), (5, .int k5), (6, .long k6), (8, .long k8), (10, .int k10), (11, .long x11), (13, .int x13)] [.long w4, .long x11] := by
        refine sv_lmul X dX8_snow_143 ?_
        refine sv_topl (fun w7 ew7 => ?_)
        replace hL := fr_lete hL ew7
        refine sv_lstore X dX8_snow_144 (by decide) rfl ?_
        obtain ⟨v8, ev8⟩ : ∃ y : Int32, y = x13 + (1 : Int32) := ⟨_, rfl⟩
        replace hL := fr_lete hL ev8
        refine sv_iinc (i := 10) (v := v8) X dX8_snow_146 rfl (by rw [ev8]; rfl) (by decide) rfl ?_
        refine sv_goto (tgt := 110) X dX8_snow_149 (by decide) ?_
        exact sv_perm [2, 3, 4, 5, 6, 7, 8, 9, 10, 1, 0] rfl (ih _ _ _ hL)
      refine sv_if_eq (tgt := 141) X dX8_snow_130 (by decide) (fun h9 => ?_) (fun h9 => ?_)
      · replace hM5 := fr_pos hM5 h9
        refine sv_iload_n (i := 3) X dX8_snow_141 rfl rfl ?_
        refine sv_i2l X dX8_snow_142 ?_
        obtain rfl := fr_i1 hM5
        exact K6
      · replace hM5 := fr_neg hM5 h9
        refine sv_bipush (v := 10) X dX8_snow_133 (by decide) ?_
        refine sv_iload_n (i := 3) X dX8_snow_135 rfl rfl ?_
        refine sv_isub X dX8_snow_136 ?_
        refine sv_i2l X dX8_snow_137 ?_
        refine sv_goto (tgt := 143) X dX8_snow_138 (by decide) ?_
        obtain rfl := fr_i1 hM5
        exact K6
def L_X8_snow_91 (k1 : Int32) (k2 : Int32) (k3 : Int32) (k5 : Int32) : Nat → Int64 → Int32 → fr_St → Option (Int64 × Int32 × fr_St)
  | 0, _, _, _ => none
  | n + 1, x6, x10, σ => if ((1 : Int32) <<< ((σ 63 2) &&& 31)) ≤ x10 then (some (x6, x10, σ)) else (fr_bP (L_X8_snow_110 k3 x10 fr_fu (1 : Int64) (0 : Int32) σ) (fun w1 q20 => fr_pP q20 (fun v2 s3 => fr_bP (if (lg_cmp w1 (0 : Int64)) ≤ 0 then (some ((0 : Int64), s3)) else (if fr_ib ((6 : Int32) + k1) 122 = true then fr_bP (F_X8_reachBy (s3 63 (fr_ix ((6 : Int32) + k1))) (k5 &&& x10) s3) (fun r14 s13 => fr_bP (F_X8_has r14 k2 s13) (fun b17 s16 => if (fr_bi b17) = 0 then (some ((0 : Int64), s16)) else (some (w1, s16)))) else none)) (fun w5 s6 => fr_let ((x6 + w5)) (fun w9 => fr_let (x10 + (1 : Int32)) (fun v10 => L_X8_snow_91 k1 k2 k3 k5 n w9 v10 s6))))))
set_option maxRecDepth 100000 in
set_option maxHeartbeats 4000000 in
theorem wL_X8_snow_91 {p : Program} {l : Launch} {e : Env} {s : State} {m : MethodId} {args : Array Value} {below : List Frame} {meth : Method} {c : Code} {g : fr_G} {Q : State → Prop} (X : fr_X p s m args meth c g cX8_snow RX8 16)  (k1 : Int32) (k2 : Int32) (k3 : Int32) (k4 : Int32) (k5 : Int32) (k8 : Int64) {y6 : Int64} {y10 : Int32} {τ : fr_St} (K : fr_V p l e (fr_rm 4) s m args below meth c g Q 16 τ 201 [(0, .ref (g.2.1 59)), (1, .int k1), (2, .int k2), (3, .int k3), (4, .int k4), (5, .int k5), (6, .long y6), (8, .long k8), (10, .int y10)] []) : ∀ (n : Nat) (x6 : Int64) (x10 : Int32) (σ : fr_St), L_X8_snow_91 k1 k2 k3 k5 n x6 x10 σ = some (y6, y10, τ) → fr_V p l e (fr_rm 4) s m args below meth c g Q 16 σ 91 [(0, .ref (g.2.1 59)), (1, .int k1), (2, .int k2), (3, .int k3), (4, .int k4), (5, .int k5), (6, .long x6), (8, .long k8), (10, .int x10)] [] := by
  intro n
  induction n with
  | zero => intro x6 x10 σ hL; cases hL
  | succ n ih =>
    intro x6 x10 σ hL
    rw [L_X8_snow_91] at hL
    refine sv_iload (i := 8) X dX8_snow_91 rfl ?_
    refine sv_iconst (v := 1) X dX8_snow_93 (by decide) ?_
    refine sv_aload_n (i := 0) X dX8_snow_94 rfl rfl ?_
    refine sv_getr X ix_X8 rfl 5 (by decide) rfl rfl fl_X8_19 dX8_snow_95 ?_
    refine sv_iconst (v := 2) X dX8_snow_98 (by decide) ?_
    refine sv_iald (j := 2) X rfl (by decide) (by decide) dX8_snow_99 ?_
    refine sv_ishl X dX8_snow_100 ?_
    refine sv_icmp_ge (tgt := 201) X dX8_snow_101 (by decide) (fun h21 => ?_) (fun h21 => ?_)
    · replace hL := fr_pos hL h21
      obtain ⟨rfl, rfl, rfl⟩ := fr_i3 hL
      exact K
    · replace hL := fr_neg hL h21
      refine sv_lconst (v := 1) X dX8_snow_104 (by decide) ?_
      refine sv_lstore X dX8_snow_105 (by decide) rfl ?_
      refine sv_iconst (v := 0) X dX8_snow_107 (by decide) ?_
      refine sv_istore X dX8_snow_108 (by decide) rfl ?_
      refine sv_perm [2, 3, 4, 5, 6, 7, 8, 9, 10, 1, 0] rfl ?_
      obtain ⟨w1, ⟨v2, s3⟩, hl4, hL⟩ := fr_bP_some hL
      dsimp only [fr_pP] at hL
      refine wL_X8_snow_110 X  k1 k2 k3 k4 k5 x6 k8 x10 ?_ fr_fu _ _ _ hl4
      refine sv_lload (i := 6) X dX8_snow_152 rfl ?_
      refine sv_lload (i := 9) X dX8_snow_154 rfl ?_
      refine sv_lconst (v := 0) X dX8_snow_156 (by decide) ?_
      refine sv_lcmp X dX8_snow_157 ?_
      obtain ⟨w5, s6, hM7, hL⟩ := fr_bP_some hL
      have K8 : fr_V p l e (fr_rm 4) s m args below meth c g Q 16 s6 192 [(0, .ref (g.2.1 59)), (1, .int k1), (2, .int k2), (3, .int k3), (4, .int k4), (5, .int k5), (6, .long x6), (8, .long k8), (10, .int x10), (11, .long w1), (13, .int v2)] [.long w5, .long x6] := by
        refine sv_ladd X dX8_snow_192 ?_
        refine sv_topl (fun w9 ew9 => ?_)
        replace hL := fr_lete hL ew9
        refine sv_lstore X dX8_snow_193 (by decide) rfl ?_
        obtain ⟨v10, ev10⟩ : ∃ y : Int32, y = x10 + (1 : Int32) := ⟨_, rfl⟩
        replace hL := fr_lete hL ev10
        refine sv_iinc (i := 8) (v := v10) X dX8_snow_195 rfl (by rw [ev10]; rfl) (by decide) rfl ?_
        refine sv_goto (tgt := 91) X dX8_snow_198 (by decide) ?_
        exact sv_perm [2, 3, 4, 5, 6, 7, 1, 8, 0] rfl (ih _ _ _ hL)
      refine sv_if_le (tgt := 191) X dX8_snow_158 (by decide) (fun h19 => ?_) (fun h19 => ?_)
      · replace hM7 := fr_pos hM7 h19
        refine sv_lconst (v := 0) X dX8_snow_191 (by decide) ?_
        obtain ⟨rfl, rfl⟩ := fr_i2 hM7
        exact K8
      · replace hM7 := fr_neg hM7 h19
        refine sv_aload_n (i := 0) X dX8_snow_161 rfl rfl ?_
        refine sv_aload_n (i := 0) X dX8_snow_162 rfl rfl ?_
        refine sv_getr X ix_X8 rfl 5 (by decide) rfl rfl fl_X8_19 dX8_snow_163 ?_
        refine sv_bipush (v := 6) X dX8_snow_166 (by decide) ?_
        refine sv_iload_n (i := 1) X dX8_snow_168 rfl rfl ?_
        refine sv_iadd X dX8_snow_169 ?_
        obtain ⟨hb11, hM7⟩ := fr_chk hM7
        refine sv_iald (j := (fr_ix ((6 : Int32) + k1))) X rfl hb11 rfl dX8_snow_170 ?_
        refine sv_iload (i := 5) X dX8_snow_171 rfl ?_
        refine sv_iload (i := 8) X dX8_snow_173 rfl ?_
        refine sv_iand X dX8_snow_175 ?_
        obtain ⟨r14, s13, hc12, hM7⟩ := fr_bP_some hM7
        refine sv_callVi X (c_X8_reachBy hc12) cd_X8_reachBy ml_X8_201 im_X8_reachBy se_X8_reachBy in_RX8 hd_X8_reachBy rfl rfl (by decide) rfl (Nat.le_of_ble_eq_true rfl) dX8_snow_176 rfl ?_
        refine sv_iload_n (i := 2) X dX8_snow_179 rfl rfl ?_
        obtain ⟨b17, s16, hc15, hM7⟩ := fr_bP_some hM7
        refine sv_callSi X (c_X8_has hc15) cd_X8_has ml_X8_130 sm_X8_has in_RX8 hd_X8_has (by decide) rfl (Nat.le_of_ble_eq_true rfl) dX8_snow_180 rfl ?_
        refine sv_if_eq (tgt := 191) X dX8_snow_183 (by decide) (fun h18 => ?_) (fun h18 => ?_)
        · replace hM7 := fr_pos hM7 h18
          refine sv_lconst (v := 0) X dX8_snow_191 (by decide) ?_
          obtain ⟨rfl, rfl⟩ := fr_i2 hM7
          exact K8
        · replace hM7 := fr_neg hM7 h18
          refine sv_lload (i := 9) X dX8_snow_186 rfl ?_
          refine sv_goto (tgt := 192) X dX8_snow_188 (by decide) ?_
          obtain ⟨rfl, rfl⟩ := fr_i2 hM7
          exact K8
def L_X8_snow_209  : Nat → Int64 → Int64 → fr_St → Option (Int64 × Int64 × fr_St)
  | 0, _, _, _ => none
  | n + 1, x10, x12, σ => if (lg_cmp x12 (0 : Int64)) = 0 then (some (x10, x12, σ)) else (if x12 = 0 then none else fr_let ((x10 - x10 / x12 * x12)) (fun w2 => L_X8_snow_209  n x12 w2 σ))
set_option maxRecDepth 100000 in
set_option maxHeartbeats 4000000 in
theorem wL_X8_snow_209 {p : Program} {l : Launch} {e : Env} {s : State} {m : MethodId} {args : Array Value} {below : List Frame} {meth : Method} {c : Code} {g : fr_G} {Q : State → Prop} (X : fr_X p s m args meth c g cX8_snow RX8 16)  (k1 : Int32) (k2 : Int32) (k3 : Int32) (k4 : Int32) (k5 : Int32) (k6 : Int64) (k8 : Int64) {y10 : Int64} {y12 : Int64} {τ : fr_St} (K : fr_V p l e (fr_rm 4) s m args below meth c g Q 16 τ 234 [(0, .ref (g.2.1 59)), (1, .int k1), (2, .int k2), (3, .int k3), (4, .int k4), (5, .int k5), (6, .long k6), (8, .long k8), (10, .long y10), (12, .long y12)] []) : ∀ (n : Nat) (x10 : Int64) (x12 : Int64) (σ : fr_St), L_X8_snow_209  n x10 x12 σ = some (y10, y12, τ) → fr_V p l e (fr_rm 4) s m args below meth c g Q 16 σ 209 [(0, .ref (g.2.1 59)), (1, .int k1), (2, .int k2), (3, .int k3), (4, .int k4), (5, .int k5), (6, .long k6), (8, .long k8), (10, .long x10), (12, .long x12)] [] := by
  intro n
  induction n with
  | zero => intro x10 x12 σ hL; cases hL
  | succ n ih =>
    intro x10 x12 σ hL
    rw [L_X8_snow_209] at hL
    refine sv_lload (i := 9) X dX8_snow_209 rfl ?_
    refine sv_lconst (v := 0) X dX8_snow_211 (by decide) ?_
    refine sv_lcmp X dX8_snow_212 ?_
    refine sv_if_eq (tgt := 234) X dX8_snow_213 (by decide) (fun h3 => ?_) (fun h3 => ?_)
    · replace hL := fr_pos hL h3
      obtain ⟨rfl, rfl, rfl⟩ := fr_i3 hL
      exact K
    · replace hL := fr_neg hL h3
      refine sv_lload (i := 8) X dX8_snow_216 rfl ?_
      refine sv_lload (i := 9) X dX8_snow_218 rfl ?_
      obtain ⟨hn1, hL⟩ := fr_chn hL
      refine sv_lrem X dX8_snow_220 hn1 ?_
      refine sv_topl (fun w2 ew2 => ?_)
      replace hL := fr_lete hL ew2
      refine sv_lstore X dX8_snow_221 (by decide) rfl ?_
      refine sv_lload (i := 10) X dX8_snow_223 rfl ?_
      refine sv_lstore X dX8_snow_225 (by decide) rfl ?_
      refine sv_lload (i := 1) X dX8_snow_227 rfl ?_
      refine sv_lstore X dX8_snow_229 (by decide) rfl ?_
      refine sv_goto (tgt := 209) X dX8_snow_231 (by decide) ?_
      exact sv_perm [3, 4, 5, 6, 7, 8, 9, 10, 1, 0] rfl (ih _ _ _ hL)
def F_X8_snow (a1 : Int32) (a2 : Int32) (a3 : Int32) (a4 : Int32) (σ : fr_St) : Option (Int64 × fr_St) := fr_bP (F_X8_isPerson a1 σ) (fun b3 s2 => if (fr_bi b3) = 0 then (some ((-1000001 : Int64), s2)) else (fr_bP (F_X8_isPlace a2 s2) (fun b6 s5 => if (fr_bi b6) = 0 then (some ((-1000001 : Int64), s5)) else (fr_bP (F_X8_in (a3.toInt64) (0 : Int64) (10 : Int64) s5) (fun b9 s8 => if (fr_bi b9) = 0 then (some ((-1000001 : Int64), s8)) else (fr_bP (F_X8_in (a4.toInt64) (0 : Int64) (1 : Int64) s8) (fun b12 s11 => if (fr_bi b12) = 0 then (some ((-1000001 : Int64), s11)) else (fr_bP (F_X8_soleOf a1 s11) (fun r15 s14 => fr_bP (F_X8_openTo r15 s14) (fun r18 s17 => fr_bP (L_X8_snow_63  fr_fu (1 : Int64) (0 : Int32) s17) (fun w19 q39 => fr_pP q39 (fun v20 s21 => fr_bP (L_X8_snow_91 a1 a2 a3 r18 fr_fu (0 : Int64) (0 : Int32) s21) (fun w23 q38 => fr_pP q38 (fun v24 s25 => fr_bP (L_X8_snow_209  fr_fu w23 w19 s25) (fun w27 q37 => fr_pP q37 (fun w28 s29 => fr_bS (if a4 = 0 then (if w27 = 0 then none else some ((w23 / w27))) else (if w27 = 0 then none else some ((w19 / w27)))) (fun w31 => some (w31, s29))))))))))))))))))
set_option maxRecDepth 100000 in
set_option maxHeartbeats 4000000 in
theorem b_X8_snow {p : Program} {l : Launch} {e : Env} {s : State} {m : MethodId} {args : Array Value} {below : List Frame} {meth : Method} {c : Code} {g : fr_G} {Q : State → Prop} (X : fr_X p s m args meth c g cX8_snow RX8 16) (hr : meth.sig.returnType = (some .long)) {a1 : Int32} {a2 : Int32} {a3 : Int32} {a4 : Int32}  {σ τ : fr_St} {r : Int64} (hQ : Q = fr_Ql below args s g r τ) (hF : F_X8_snow a1 a2 a3 a4 σ = some (r, τ)) : fr_V p l e (fr_rm 4) s m args below meth c g Q 16 σ 0 [(0, .ref (g.2.1 59)), (1, .int a1), (2, .int a2), (3, .int a3), (4, .int a4)] [] := by
  unfold F_X8_snow at hF
  refine sv_aload_n (i := 0) X dX8_snow_0 rfl rfl ?_
  refine sv_iload_n (i := 1) X dX8_snow_1 rfl rfl ?_
  obtain ⟨b3, s2, hc1, hF⟩ := fr_bP_some hF
  refine sv_callVi X (c_X8_isPerson hc1) cd_X8_isPerson ml_X8_156 im_X8_isPerson se_X8_isPerson in_RX8 hd_X8_isPerson rfl rfl (by decide) rfl (Nat.le_of_ble_eq_true rfl) dX8_snow_2 rfl ?_
  refine sv_if_eq (tgt := 39) X dX8_snow_5 (by decide) (fun h43 => ?_) (fun h43 => ?_)
  · replace hF := fr_pos hF h43
    refine sv_ldc2_w X kl_X8_227 dX8_snow_39 ?_
    exact sv_lret X hr hQ dX8_snow_42 hF
  · replace hF := fr_neg hF h43
    refine sv_aload_n (i := 0) X dX8_snow_8 rfl rfl ?_
    refine sv_iload_n (i := 2) X dX8_snow_9 rfl rfl ?_
    obtain ⟨b6, s5, hc4, hF⟩ := fr_bP_some hF
    refine sv_callVi X (c_X8_isPlace hc4) cd_X8_isPlace ml_X8_205 im_X8_isPlace se_X8_isPlace in_RX8 hd_X8_isPlace rfl rfl (by decide) rfl (Nat.le_of_ble_eq_true rfl) dX8_snow_10 rfl ?_
    refine sv_if_eq (tgt := 39) X dX8_snow_13 (by decide) (fun h42 => ?_) (fun h42 => ?_)
    · replace hF := fr_pos hF h42
      refine sv_ldc2_w X kl_X8_227 dX8_snow_39 ?_
      exact sv_lret X hr hQ dX8_snow_42 hF
    · replace hF := fr_neg hF h42
      refine sv_iload_n (i := 3) X dX8_snow_16 rfl rfl ?_
      refine sv_i2l X dX8_snow_17 ?_
      refine sv_lconst (v := 0) X dX8_snow_18 (by decide) ?_
      refine sv_ldc2_w X kl_X8_225 dX8_snow_19 ?_
      obtain ⟨b9, s8, hc7, hF⟩ := fr_bP_some hF
      refine sv_callSi X (c_X8_in hc7) cd_X8_in ml_X8_63 sm_X8_in in_RX8 hd_X8_in (by decide) rfl (Nat.le_of_ble_eq_true rfl) dX8_snow_22 rfl ?_
      refine sv_if_eq (tgt := 39) X dX8_snow_25 (by decide) (fun h41 => ?_) (fun h41 => ?_)
      · replace hF := fr_pos hF h41
        refine sv_ldc2_w X kl_X8_227 dX8_snow_39 ?_
        exact sv_lret X hr hQ dX8_snow_42 hF
      · replace hF := fr_neg hF h41
        refine sv_iload (i := 4) X dX8_snow_28 rfl ?_
        refine sv_i2l X dX8_snow_30 ?_
        refine sv_lconst (v := 0) X dX8_snow_31 (by decide) ?_
        refine sv_lconst (v := 1) X dX8_snow_32 (by decide) ?_
        obtain ⟨b12, s11, hc10, hF⟩ := fr_bP_some hF
        refine sv_callSi X (c_X8_in hc10) cd_X8_in ml_X8_63 sm_X8_in in_RX8 hd_X8_in (by decide) rfl (Nat.le_of_ble_eq_true rfl) dX8_snow_33 rfl ?_
        refine sv_if_ne (tgt := 43) X dX8_snow_36 (by decide) (fun h40 => ?_) (fun h40 => ?_)
        · replace hF := fr_neg hF h40
          refine sv_aload_n (i := 0) X dX8_snow_43 rfl rfl ?_
          refine sv_aload_n (i := 0) X dX8_snow_44 rfl rfl ?_
          refine sv_iload_n (i := 1) X dX8_snow_45 rfl rfl ?_
          obtain ⟨r15, s14, hc13, hF⟩ := fr_bP_some hF
          refine sv_callVi X (c_X8_soleOf hc13) cd_X8_soleOf ml_X8_175 im_X8_soleOf se_X8_soleOf in_RX8 hd_X8_soleOf rfl rfl (by decide) rfl (Nat.le_of_ble_eq_true rfl) dX8_snow_46 rfl ?_
          obtain ⟨r18, s17, hc16, hF⟩ := fr_bP_some hF
          refine sv_callVi X (c_X8_openTo hc16) cd_X8_openTo ml_X8_195 im_X8_openTo se_X8_openTo in_RX8 hd_X8_openTo rfl rfl (by decide) rfl (Nat.le_of_ble_eq_true rfl) dX8_snow_49 rfl ?_
          refine sv_istore X dX8_snow_52 (by decide) rfl ?_
          refine sv_lconst (v := 0) X dX8_snow_54 (by decide) ?_
          refine sv_lstore X dX8_snow_55 (by decide) rfl ?_
          refine sv_lconst (v := 1) X dX8_snow_57 (by decide) ?_
          refine sv_lstore X dX8_snow_58 (by decide) rfl ?_
          refine sv_iconst (v := 0) X dX8_snow_60 (by decide) ?_
          refine sv_istore X dX8_snow_61 (by decide) rfl ?_
          refine sv_perm [4, 5, 6, 7, 8, 3, 2, 1, 0] rfl ?_
          obtain ⟨w19, ⟨v20, s21⟩, hl22, hF⟩ := fr_bP_some hF
          dsimp only [fr_pP] at hF
          refine wL_X8_snow_63 X  a1 a2 a3 a4 r18 (0 : Int64) ?_ fr_fu _ _ _ hl22
          refine sv_iconst (v := 0) X dX8_snow_88 (by decide) ?_
          refine sv_istore X dX8_snow_89 (by decide) rfl ?_
          refine sv_perm [1, 2, 3, 4, 5, 6, 7, 8, 0] rfl ?_
          obtain ⟨w23, ⟨v24, s25⟩, hl26, hF⟩ := fr_bP_some hF
          dsimp only [fr_pP] at hF
          refine wL_X8_snow_91 X  a1 a2 a3 a4 r18 w19 ?_ fr_fu _ _ _ hl26
          refine sv_lload (i := 6) X dX8_snow_201 rfl ?_
          refine sv_lstore X dX8_snow_203 (by decide) rfl ?_
          refine sv_lload (i := 8) X dX8_snow_205 rfl ?_
          refine sv_lstore X dX8_snow_207 (by decide) rfl ?_
          refine sv_perm [2, 3, 4, 5, 6, 7, 8, 9, 1, 0] rfl ?_
          obtain ⟨w27, ⟨w28, s29⟩, hl30, hF⟩ := fr_bP_some hF
          dsimp only [fr_pP] at hF
          refine wL_X8_snow_209 X  a1 a2 a3 a4 r18 w23 w19 ?_ fr_fu _ _ _ hl30
          refine sv_iload (i := 4) X dX8_snow_234 rfl ?_
          obtain ⟨w31, hM32, hF⟩ := fr_bS_some hF
          have K33 : fr_V p l e (fr_rm 4) s m args below meth c g Q 16 s29 252 [(0, .ref (g.2.1 59)), (1, .int a1), (2, .int a2), (3, .int a3), (4, .int a4), (5, .int r18), (6, .long w23), (8, .long w19), (10, .long w27), (12, .long w28)] [.long w31] := by
            exact sv_lret X hr hQ dX8_snow_252 hF
          refine sv_if_ne (tgt := 247) X dX8_snow_236 (by decide) (fun h36 => ?_) (fun h36 => ?_)
          · replace hM32 := fr_neg hM32 h36
            refine sv_lload (i := 7) X dX8_snow_247 rfl ?_
            refine sv_lload (i := 8) X dX8_snow_249 rfl ?_
            obtain ⟨hn34, hM32⟩ := fr_chn hM32
            refine sv_ldiv X dX8_snow_251 hn34 ?_
            obtain rfl := fr_i1 hM32
            exact K33
          · replace hM32 := fr_pos hM32 h36
            refine sv_lload (i := 6) X dX8_snow_239 rfl ?_
            refine sv_lload (i := 8) X dX8_snow_241 rfl ?_
            obtain ⟨hn35, hM32⟩ := fr_chn hM32
            refine sv_ldiv X dX8_snow_243 hn35 ?_
            refine sv_goto (tgt := 252) X dX8_snow_244 (by decide) ?_
            obtain rfl := fr_i1 hM32
            exact K33
        · replace hF := fr_pos hF h40
          refine sv_ldc2_w X kl_X8_227 dX8_snow_39 ?_
          exact sv_lret X hr hQ dX8_snow_42 hF
theorem c_X8_snow {l : Launch} {g : fr_G} {a1 : Int32} {a2 : Int32} {a3 : Int32} {a4 : Int32}  {σ τ : fr_St} {r : Int64} (hF : F_X8_snow a1 a2 a3 a4 σ = some (r, τ)) : fr_Cl l g yX8_snow (fr_ws yX8_snow cX8_snow 16 (some .long)) 4 [.ref (g.2.1 59), .int a1, .int a2, .int a3, .int a4] σ r τ := fr_ml (by decide) (Nat.le_of_ble_eq_true rfl) (fun p e s m below meth c X hr => b_X8_snow X hr  rfl hF)
