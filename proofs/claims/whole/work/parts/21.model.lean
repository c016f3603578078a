def L_X8_readLand_7  : Nat → Int32 → fr_St → Option (Int32 × fr_St)
  | 0, _, _ => none
  | n + 1, x1, σ => if (122 : Int32) ≤ x1 then (some (x1, σ)) else (fr_bS (if (86 : Int32) ≤ x1 then (some ((-1000000 : Int32))) else (some ((0 : Int32)))) (fun v1 => if fr_ib x1 122 = true then fr_let (fr_up σ 66 (fr_ix x1) v1) (fun s5 => fr_let (x1 + (1 : Int32)) (fun v6 => L_X8_readLand_7  n v6 s5)) else none))
set_option maxRecDepth 100000 in
set_option maxHeartbeats 4000000 in
theorem wL_X8_readLand_7 {p : Program} {l : Launch} {e : Env} {s : State} {m : MethodId} {args : Array Value} {below : List Frame} {meth : Method} {c : Code} {g : fr_G} {Q : State → Prop} (X : fr_X p s m args meth c g cX8_readLand RX8 3)   {y1 : Int32} {τ : fr_St} (K : fr_V p l e (fr_rm 5) s m args below meth c g Q 3 τ 37 [(0, .ref (g.2.1 59)), (1, .int y1)] []) : ∀ (n : Nat) (x1 : Int32) (σ : fr_St), L_X8_readLand_7  n x1 σ = some (y1, τ) → fr_V p l e (fr_rm 5) s m args below meth c g Q 3 σ 7 [(0, .ref (g.2.1 59)), (1, .int x1)] [] := by
  intro n
  induction n with
  | zero => intro x1 σ hL; cases hL
  | succ n ih =>
    intro x1 σ hL
    rw [L_X8_readLand_7] at hL
    refine sv_iload_n (i := 1) X dX8_readLand_7 rfl rfl ?_
    refine sv_bipush (v := 122) X dX8_readLand_8 (by decide) ?_
    refine sv_icmp_ge (tgt := 37) X dX8_readLand_10 (by decide) (fun h8 => ?_) (fun h8 => ?_)
    · replace hL := fr_pos hL h8
      obtain ⟨rfl, rfl⟩ := fr_i2 hL
      exact K
    · replace hL := fr_neg hL h8
      refine sv_aload_n (i := 0) X dX8_readLand_13 rfl rfl ?_
      refine sv_getr X ix_X8 rfl 15 (by decide) rfl rfl fl_X8_28 dX8_readLand_14 ?_
      refine sv_iload_n (i := 1) X dX8_readLand_17 rfl rfl ?_
      refine sv_iload_n (i := 1) X dX8_readLand_18 rfl rfl ?_
      refine sv_bipush (v := 86) X dX8_readLand_19 (by decide) ?_
      obtain ⟨v1, hM2, hL⟩ := fr_bS_some hL
      have K3 : fr_V p l e (fr_rm 5) s m args below meth c g Q 3 σ 30 [(0, .ref (g.2.1 59)), (1, .int x1)] [.int v1, .int x1, .ref (g.2.1 66)] := by
        obtain ⟨hb4, hL⟩ := fr_chk hL
        refine sv_iast (j := (fr_ix x1)) X rfl hb4 rfl dX8_readLand_30 ?_
        refine sv_sig (fun s5 es5 => ?_)
        replace hL := fr_lete hL es5
        obtain ⟨v6, ev6⟩ : ∃ y : Int32, y = x1 + (1 : Int32) := ⟨_, rfl⟩
        replace hL := fr_lete hL ev6
        refine sv_iinc (i := 1) (v := v6) X dX8_readLand_31 rfl (by rw [ev6]; rfl) (by decide) rfl ?_
        refine sv_goto (tgt := 7) X dX8_readLand_34 (by decide) ?_
        exact sv_perm [1, 0] rfl (ih _ _ hL)
      refine sv_icmp_ge (tgt := 28) X dX8_readLand_21 (by decide) (fun h7 => ?_) (fun h7 => ?_)
      · replace hM2 := fr_pos hM2 h7
        refine sv_ldc X kn_X8_134 dX8_readLand_28 ?_
        obtain rfl := fr_i1 hM2
        exact K3
      · replace hM2 := fr_neg hM2 h7
        refine sv_iconst (v := 0) X dX8_readLand_24 (by decide) ?_
        refine sv_goto (tgt := 30) X dX8_readLand_25 (by decide) ?_
        obtain rfl := fr_i1 hM2
        exact K3
def L_X8_readLand_80  : Nat → Int32 → fr_St → Option (Int32 × fr_St)
  | 0, _, _ => none
  | n + 1, x1, σ => if x1 = 0 then (some (x1, σ)) else (if (σ 59 11) = (3 : Int32) then (some (x1, σ)) else (fr_bP (F_X8_isLetter (108 : Int32) σ) (fun b3 s2 => fr_bP (if (fr_bi b3) = 0 then (fr_bP (F_X8_isLetter (110 : Int32) s2) (fun b28 s27 => if (fr_bi b28) = 0 then (fr_bP (F_X8_isLetter (111 : Int32) s27) (fun b31 s30 => if (fr_bi b31) = 0 then (fr_bP (F_X8_isLetter (104 : Int32) s30) (fun b34 s33 => if (fr_bi b34) = 0 then (fr_bP (F_X8_isLetter (114 : Int32) s33) (fun b37 s36 => if (fr_bi b37) = 0 then (some ((0 : Int32), s36)) else (some ((5 : Int32), s36)))) else (some ((4 : Int32), s33)))) else (some ((3 : Int32), s30)))) else (some ((2 : Int32), s27)))) else (some ((1 : Int32), s2))) (fun v4 s5 => fr_bP (if v4 ≤ 0 then (fr_bP (F_X8_isLetter (112 : Int32) s5) (fun b14 s13 => if (fr_bi b14) = 0 then (fr_bP (F_X8_faults (1 : Int32) s13) (fun b17 s16 => some ((fr_bi b17), s16))) else (fr_bP (F_X8_readPerson s13) (fun b20 s19 => some ((fr_bi b20), s19))))) else (fr_bP (F_X8_readRoad v4 s5) (fun b24 s23 => some ((fr_bi b24), s23)))) (fun v8 s9 => L_X8_readLand_80  n v8 s9)))))
set_option maxRecDepth 100000 in
set_option maxHeartbeats 4000000 in
theorem wL_X8_readLand_80 {p : Program} {l : Launch} {e : Env} {s : State} {m : MethodId} {args : Array Value} {below : List Frame} {meth : Method} {c : Code} {g : fr_G} {Q : State → Prop} (X : fr_X p s m args meth c g cX8_readLand RX8 3)   {y1 : Int32} {τ : fr_St} (K : fr_V p l e (fr_rm 5) s m args below meth c g Q 3 τ 196 [(0, .ref (g.2.1 59)), (1, .int y1)] []) : ∀ (n : Nat) (x1 : Int32) (σ : fr_St), L_X8_readLand_80  n x1 σ = some (y1, τ) → fr_V p l e (fr_rm 5) s m args below meth c g Q 3 σ 80 [(0, .ref (g.2.1 59)), (1, .int x1)] [] := by
  intro n
  induction n with
  | zero => intro x1 σ hL; cases hL
  | succ n ih =>
    intro x1 σ hL
    rw [L_X8_readLand_80] at hL
    refine sv_iload_n (i := 1) X dX8_readLand_80 rfl rfl ?_
    refine sv_if_eq (tgt := 196) X dX8_readLand_81 (by decide) (fun h44 => ?_) (fun h44 => ?_)
    · replace hL := fr_pos hL h44
      obtain ⟨rfl, rfl⟩ := fr_i2 hL
      exact K
    · replace hL := fr_neg hL h44
      refine sv_aload_n (i := 0) X dX8_readLand_84 rfl rfl ?_
      refine sv_geti X ix_X8 rfl 11 (by decide) rfl rfl fl_X8_97 dX8_readLand_85 ?_
      refine sv_iconst (v := 3) X dX8_readLand_88 (by decide) ?_
      refine sv_icmp_eq (tgt := 196) X dX8_readLand_89 (by decide) (fun h43 => ?_) (fun h43 => ?_)
      · replace hL := fr_pos hL h43
        obtain ⟨rfl, rfl⟩ := fr_i2 hL
        exact K
      · replace hL := fr_neg hL h43
        refine sv_aload_n (i := 0) X dX8_readLand_92 rfl rfl ?_
        refine sv_bipush (v := 108) X dX8_readLand_93 (by decide) ?_
        obtain ⟨b3, s2, hc1, hL⟩ := fr_bP_some hL
        refine sv_callVi X (c_X8_isLetter hc1) cd_X8_isLetter ml_X8_114 im_X8_isLetter se_X8_isLetter in_RX8 hd_X8_isLetter rfl rfl (by decide) rfl (Nat.le_of_ble_eq_true rfl) dX8_readLand_95 rfl ?_
        obtain ⟨v4, s5, hM6, hL⟩ := fr_bP_some hL
        have K7 : fr_V p l e (fr_rm 5) s m args below meth c g Q 3 s5 158 [(0, .ref (g.2.1 59)), (1, .int x1)] [.int v4] := by
          refine sv_istore_n X dX8_readLand_158 rfl (by decide) rfl ?_
          refine sv_iload_n (i := 0) X dX8_readLand_159 rfl rfl ?_
          obtain ⟨v8, s9, hM10, hL⟩ := fr_bP_some hL
          have K11 : fr_V p l e (fr_rm 5) s m args below meth c g Q 3 s9 192 [(0, .ref (g.2.1 59)), (1, .int x1), (2, .int v4)] [.int v8] := by
            refine sv_istore_n X dX8_readLand_192 rfl (by decide) rfl ?_
            refine sv_goto (tgt := 80) X dX8_readLand_193 (by decide) ?_
            exact sv_perm [1, 0] rfl (ih _ _ hL)
          refine sv_if_le (tgt := 171) X dX8_readLand_160 (by decide) (fun h25 => ?_) (fun h25 => ?_)
          · replace hM10 := fr_pos hM10 h25
            refine sv_aload_n (i := 1) X dX8_readLand_171 rfl rfl ?_
            refine sv_bipush (v := 112) X dX8_readLand_172 (by decide) ?_
            obtain ⟨b14, s13, hc12, hM10⟩ := fr_bP_some hM10
            refine sv_callVi X (c_X8_isLetter hc12) cd_X8_isLetter ml_X8_114 im_X8_isLetter se_X8_isLetter in_RX8 hd_X8_isLetter rfl rfl (by decide) rfl (Nat.le_of_ble_eq_true rfl) dX8_readLand_174 rfl ?_
            refine sv_if_eq (tgt := 187) X dX8_readLand_177 (by decide) (fun h21 => ?_) (fun h21 => ?_)
            · replace hM10 := fr_pos hM10 h21
              refine sv_aload_n (i := 1) X dX8_readLand_187 rfl rfl ?_
              refine sv_iconst (v := 1) X dX8_readLand_188 (by decide) ?_
              obtain ⟨b17, s16, hc15, hM10⟩ := fr_bP_some hM10
              refine sv_callVi X (c_X8_faults hc15) cd_X8_faults ml_X8_117 im_X8_faults se_X8_faults in_RX8 hd_X8_faults rfl rfl (by decide) rfl (Nat.le_of_ble_eq_true rfl) dX8_readLand_189 rfl ?_
              obtain ⟨rfl, rfl⟩ := fr_i2 hM10
              exact sv_perm [1, 2, 0] rfl K11
            · replace hM10 := fr_neg hM10 h21
              refine sv_aload_n (i := 1) X dX8_readLand_180 rfl rfl ?_
              obtain ⟨b20, s19, hc18, hM10⟩ := fr_bP_some hM10
              refine sv_callVi X (c_X8_readPerson hc18) cd_X8_readPerson ml_X8_138 im_X8_readPerson se_X8_readPerson in_RX8 hd_X8_readPerson rfl rfl (by decide) rfl (Nat.le_of_ble_eq_true rfl) dX8_readLand_181 rfl ?_
              refine sv_goto (tgt := 192) X dX8_readLand_184 (by decide) ?_
              obtain ⟨rfl, rfl⟩ := fr_i2 hM10
              exact sv_perm [1, 2, 0] rfl K11
          · replace hM10 := fr_neg hM10 h25
            refine sv_aload_n (i := 1) X dX8_readLand_163 rfl rfl ?_
            refine sv_iload_n (i := 0) X dX8_readLand_164 rfl rfl ?_
            obtain ⟨b24, s23, hc22, hM10⟩ := fr_bP_some hM10
            refine sv_callVi X (c_X8_readRoad hc22) cd_X8_readRoad ml_X8_135 im_X8_readRoad se_X8_readRoad in_RX8 hd_X8_readRoad rfl rfl (by decide) rfl (Nat.le_of_ble_eq_true rfl) dX8_readLand_165 rfl ?_
            refine sv_goto (tgt := 192) X dX8_readLand_168 (by decide) ?_
            obtain ⟨rfl, rfl⟩ := fr_i2 hM10
            exact sv_perm [1, 2, 0] rfl K11
        refine sv_if_eq (tgt := 105) X dX8_readLand_98 (by decide) (fun h42 => ?_) (fun h42 => ?_)
        · replace hM6 := fr_pos hM6 h42
          refine sv_aload_n (i := 0) X dX8_readLand_105 rfl rfl ?_
          refine sv_bipush (v := 110) X dX8_readLand_106 (by decide) ?_
          obtain ⟨b28, s27, hc26, hM6⟩ := fr_bP_some hM6
          refine sv_callVi X (c_X8_isLetter hc26) cd_X8_isLetter ml_X8_114 im_X8_isLetter se_X8_isLetter in_RX8 hd_X8_isLetter rfl rfl (by decide) rfl (Nat.le_of_ble_eq_true rfl) dX8_readLand_108 rfl ?_
          refine sv_if_eq (tgt := 118) X dX8_readLand_111 (by decide) (fun h41 => ?_) (fun h41 => ?_)
          · replace hM6 := fr_pos hM6 h41
            refine sv_aload_n (i := 0) X dX8_readLand_118 rfl rfl ?_
            refine sv_bipush (v := 111) X dX8_readLand_119 (by decide) ?_
            obtain ⟨b31, s30, hc29, hM6⟩ := fr_bP_some hM6
            refine sv_callVi X (c_X8_isLetter hc29) cd_X8_isLetter ml_X8_114 im_X8_isLetter se_X8_isLetter in_RX8 hd_X8_isLetter rfl rfl (by decide) rfl (Nat.le_of_ble_eq_true rfl) dX8_readLand_121 rfl ?_
            refine sv_if_eq (tgt := 131) X dX8_readLand_124 (by decide) (fun h40 => ?_) (fun h40 => ?_)
            · replace hM6 := fr_pos hM6 h40
              refine sv_aload_n (i := 0) X dX8_readLand_131 rfl rfl ?_
              refine sv_bipush (v := 104) X dX8_readLand_132 (by decide) ?_
              obtain ⟨b34, s33, hc32, hM6⟩ := fr_bP_some hM6
              refine sv_callVi X (c_X8_isLetter hc32) cd_X8_isLetter ml_X8_114 im_X8_isLetter se_X8_isLetter in_RX8 hd_X8_isLetter rfl rfl (by decide) rfl (Nat.le_of_ble_eq_true rfl) dX8_readLand_134 rfl ?_
              refine sv_if_eq (tgt := 144) X dX8_readLand_137 (by decide) (fun h39 => ?_) (fun h39 => ?_)
              · replace hM6 := fr_pos hM6 h39
                refine sv_aload_n (i := 0) X dX8_readLand_144 rfl rfl ?_
                refine sv_bipush (v := 114) X dX8_readLand_145 (by decide) ?_
                obtain ⟨b37, s36, hc35, hM6⟩ := fr_bP_some hM6
                refine sv_callVi X (c_X8_isLetter hc35) cd_X8_isLetter ml_X8_114 im_X8_isLetter se_X8_isLetter in_RX8 hd_X8_isLetter rfl rfl (by decide) rfl (Nat.le_of_ble_eq_true rfl) dX8_readLand_147 rfl ?_
                refine sv_if_eq (tgt := 157) X dX8_readLand_150 (by decide) (fun h38 => ?_) (fun h38 => ?_)
                · replace hM6 := fr_pos hM6 h38
                  refine sv_iconst (v := 0) X dX8_readLand_157 (by decide) ?_
                  obtain ⟨rfl, rfl⟩ := fr_i2 hM6
                  exact K7
                · replace hM6 := fr_neg hM6 h38
                  refine sv_iconst (v := 5) X dX8_readLand_153 (by decide) ?_
                  refine sv_goto (tgt := 158) X dX8_readLand_154 (by decide) ?_
                  obtain ⟨rfl, rfl⟩ := fr_i2 hM6
                  exact K7
              · replace hM6 := fr_neg hM6 h39
                refine sv_iconst (v := 4) X dX8_readLand_140 (by decide) ?_
                refine sv_goto (tgt := 158) X dX8_readLand_141 (by decide) ?_
                obtain ⟨rfl, rfl⟩ := fr_i2 hM6
                exact K7
            · replace hM6 := fr_neg hM6 h40
              refine sv_iconst (v := 3) X dX8_readLand_127 (by decide) ?_
              refine sv_goto (tgt := 158) X dX8_readLand_128 (by decide) ?_
              obtain ⟨rfl, rfl⟩ := fr_i2 hM6
              exact K7
          · replace hM6 := fr_neg hM6 h41
            refine sv_iconst (v := 2) X dX8_readLand_114 (by decide) ?_
            refine sv_goto (tgt := 158) X dX8_readLand_115 (by decide) ?_
            obtain ⟨rfl, rfl⟩ := fr_i2 hM6
            exact K7
        · replace hM6 := fr_neg hM6 h42
          refine sv_iconst (v := 1) X dX8_readLand_101 (by decide) ?_
          refine sv_goto (tgt := 158) X dX8_readLand_102 (by decide) ?_
          obtain ⟨rfl, rfl⟩ := fr_i2 hM6
          exact K7
def F_X8_readLand  (σ : fr_St) : Option (Bool × fr_St) := fr_let (fr_up σ 59 10 (0 : Int32)) (fun s1 => fr_bP (L_X8_readLand_7  fr_fu (0 : Int32) s1) (fun v2 s3 => fr_bS (F_X8_nextToken s3) (fun s6 => fr_bP (F_X8_takes (102 : Int32) s6) (fun b9 s8 => if (fr_bi b9) = 0 then (some (false, s8)) else (fr_bP (F_X8_takesNumber (1 : Int32) (30 : Int32) (0 : Int32) (44 : Int32) s8) (fun b12 s11 => if (fr_bi b12) = 0 then (some (false, s11)) else (fr_bP (F_X8_takesNumber (2 : Int32) (8 : Int32) (1 : Int32) (59 : Int32) s11) (fun b15 s14 => if (fr_bi b15) = 0 then (some (false, s14)) else (fr_bP (L_X8_readLand_80  fr_fu (1 : Int32) s14) (fun v16 s17 => if v16 = 0 then some (false, s17) else if v16 = 1 then some (true, s17) else none))))))))))
set_option maxRecDepth 100000 in
set_option maxHeartbeats 4000000 in
theorem b_X8_readLand {p : Program} {l : Launch} {e : Env} {s : State} {m : MethodId} {args : Array Value} {below : List Frame} {meth : Method} {c : Code} {g : fr_G} {Q : State → Prop} (X : fr_X p s m args meth c g cX8_readLand RX8 3) (hr : meth.sig.returnType = (some .boolean))   {σ τ : fr_St} {r : Bool} (hQ : Q = fr_Qi below args s g (fr_bi r) τ) (hF : F_X8_readLand  σ = some (r, τ)) : fr_V p l e (fr_rm 5) s m args below meth c g Q 3 σ 0 [(0, .ref (g.2.1 59))] [] := by
  unfold F_X8_readLand at hF
  refine sv_aload_n (i := 0) X dX8_readLand_0 rfl rfl ?_
  refine sv_iconst (v := 0) X dX8_readLand_1 (by decide) ?_
  refine sv_puti (ty := .int) X ix_X8 tyX8_ok nmX8 rfl 10 (by decide) rfl rfl fl_X8_91 rfl rfl rfl rfl dX8_readLand_2 ?_
  refine sv_sig (fun s1 es1 => ?_)
  replace hF := fr_lete hF es1
  refine sv_iconst (v := 0) X dX8_readLand_5 (by decide) ?_
  refine sv_istore_n X dX8_readLand_6 rfl (by decide) rfl ?_
  refine sv_perm [1, 0] rfl ?_
  obtain ⟨v2, s3, hl4, hF⟩ := fr_bP_some hF
  refine wL_X8_readLand_7 X   ?_ fr_fu _ _ hl4
  refine sv_aload_n (i := 0) X dX8_readLand_37 rfl rfl ?_
  obtain ⟨s6, hc5, hF⟩ := fr_bS_some hF
  refine sv_callVv X (c_X8_nextToken hc5) cd_X8_nextToken ml_X8_120 im_X8_nextToken se_X8_nextToken in_RX8 hd_X8_nextToken rfl rfl (by decide) rfl (Nat.le_of_ble_eq_true rfl) dX8_readLand_38 rfl ?_
  refine sv_aload_n (i := 0) X dX8_readLand_41 rfl rfl ?_
  refine sv_bipush (v := 102) X dX8_readLand_42 (by decide) ?_
  obtain ⟨b9, s8, hc7, hF⟩ := fr_bP_some hF
  refine sv_callVi X (c_X8_takes hc7) cd_X8_takes ml_X8_123 im_X8_takes se_X8_takes in_RX8 hd_X8_takes rfl rfl (by decide) rfl (Nat.le_of_ble_eq_true rfl) dX8_readLand_44 rfl ?_
  refine sv_if_eq (tgt := 76) X dX8_readLand_47 (by decide) (fun h21 => ?_) (fun h21 => ?_)
  · replace hF := fr_pos hF h21
    refine sv_iconst (v := 0) X dX8_readLand_76 (by decide) ?_
    exact sv_zret X (b := false) hr hQ rfl dX8_readLand_77 hF
  · replace hF := fr_neg hF h21
    refine sv_aload_n (i := 0) X dX8_readLand_50 rfl rfl ?_
    refine sv_iconst (v := 1) X dX8_readLand_51 (by decide) ?_
    refine sv_bipush (v := 30) X dX8_readLand_52 (by decide) ?_
    refine sv_iconst (v := 0) X dX8_readLand_54 (by decide) ?_
    refine sv_bipush (v := 44) X dX8_readLand_55 (by decide) ?_
    obtain ⟨b12, s11, hc10, hF⟩ := fr_bP_some hF
    refine sv_callVi X (c_X8_takesNumber hc10) cd_X8_takesNumber ml_X8_126 im_X8_takesNumber se_X8_takesNumber in_RX8 hd_X8_takesNumber rfl rfl (by decide) rfl (Nat.le_of_ble_eq_true rfl) dX8_readLand_57 rfl ?_
    refine sv_if_eq (tgt := 76) X dX8_readLand_60 (by decide) (fun h20 => ?_) (fun h20 => ?_)
    · replace hF := fr_pos hF h20
      refine sv_iconst (v := 0) X dX8_readLand_76 (by decide) ?_
      exact sv_zret X (b := false) hr hQ rfl dX8_readLand_77 hF
    · replace hF := fr_neg hF h20
      refine sv_aload_n (i := 0) X dX8_readLand_63 rfl rfl ?_
      refine sv_iconst (v := 2) X dX8_readLand_64 (by decide) ?_
      refine sv_bipush (v := 8) X dX8_readLand_65 (by decide) ?_
      refine sv_iconst (v := 1) X dX8_readLand_67 (by decide) ?_
      refine sv_bipush (v := 59) X dX8_readLand_68 (by decide) ?_
      obtain ⟨b15, s14, hc13, hF⟩ := fr_bP_some hF
      refine sv_callVi X (c_X8_takesNumber hc13) cd_X8_takesNumber ml_X8_126 im_X8_takesNumber se_X8_takesNumber in_RX8 hd_X8_takesNumber rfl rfl (by decide) rfl (Nat.le_of_ble_eq_true rfl) dX8_readLand_70 rfl ?_
      refine sv_if_ne (tgt := 78) X dX8_readLand_73 (by decide) (fun h19 => ?_) (fun h19 => ?_)
      · replace hF := fr_neg hF h19
        refine sv_iconst (v := 1) X dX8_readLand_78 (by decide) ?_
        refine sv_istore_n X dX8_readLand_79 rfl (by decide) rfl ?_
        refine sv_perm [1, 0] rfl ?_
        obtain ⟨v16, s17, hl18, hF⟩ := fr_bP_some hF
        refine wL_X8_readLand_80 X   ?_ fr_fu _ _ hl18
        refine sv_iload_n (i := 1) X dX8_readLand_196 rfl rfl ?_
        exact sv_zretv X hr hQ dX8_readLand_197 hF
      · replace hF := fr_pos hF h19
        refine sv_iconst (v := 0) X dX8_readLand_76 (by decide) ?_
        exact sv_zret X (b := false) hr hQ rfl dX8_readLand_77 hF
theorem c_X8_readLand {l : Launch} {g : fr_G}   {σ τ : fr_St} {r : Bool} (hF : F_X8_readLand  σ = some (r, τ)) : fr_Ci l g yX8_readLand (fr_ws yX8_readLand cX8_readLand 3 (some .boolean)) 5 [.ref (g.2.1 59)] σ (fr_bi r) τ := fr_mz (by decide) (Nat.le_of_ble_eq_true rfl) (fun p e s m below meth c X hr => b_X8_readLand X hr  rfl hF)
def L_X8_land_32  : Nat → Int32 → fr_St → Option (Int32 × fr_St)
  | 0, _, _ => none
  | n + 1, x2, σ => if (122 : Int32) ≤ x2 then (some (x2, σ)) else (if fr_ib x2 122 = true then if fr_ib x2 122 = true then fr_let (fr_up σ 63 (fr_ix x2) (σ 66 (fr_ix x2))) (fun s3 => fr_let (x2 + (1 : Int32)) (fun v4 => L_X8_land_32  n v4 s3)) else none else none)
set_option maxRecDepth 100000 in
set_option maxHeartbeats 4000000 in
theorem wL_X8_land_32 {p : Program} {l : Launch} {e : Env} {s : State} {m : MethodId} {args : Array Value} {below : List Frame} {meth : Method} {c : Code} {g : fr_G} {Q : State → Prop} (X : fr_X p s m args meth c g cX8_land RX8 3)  (k1 : Int32) {y2 : Int32} {τ : fr_St} (K : fr_V p l e (fr_rm 6) s m args below meth c g Q 3 τ 56 [(0, .ref (g.2.1 59)), (1, .int k1), (2, .int y2)] []) : ∀ (n : Nat) (x2 : Int32) (σ : fr_St), L_X8_land_32  n x2 σ = some (y2, τ) → fr_V p l e (fr_rm 6) s m args below meth c g Q 3 σ 32 [(0, .ref (g.2.1 59)), (1, .int k1), (2, .int x2)] [] := by
  intro n
  induction n with
  | zero => intro x2 σ hL; cases hL
  | succ n ih =>
    intro x2 σ hL
    rw [L_X8_land_32] at hL
    refine sv_iload_n (i := 2) X dX8_land_32 rfl rfl ?_
    refine sv_bipush (v := 122) X dX8_land_33 (by decide) ?_
    refine sv_icmp_ge (tgt := 56) X dX8_land_35 (by decide) (fun h5 => ?_) (fun h5 => ?_)
    · replace hL := fr_pos hL h5
      obtain ⟨rfl, rfl⟩ := fr_i2 hL
      exact K
    · replace hL := fr_neg hL h5
      refine sv_aload_n (i := 0) X dX8_land_38 rfl rfl ?_
      refine sv_getr X ix_X8 rfl 5 (by decide) rfl rfl fl_X8_19 dX8_land_39 ?_
      refine sv_iload_n (i := 2) X dX8_land_42 rfl rfl ?_
      refine sv_aload_n (i := 0) X dX8_land_43 rfl rfl ?_
      refine sv_getr X ix_X8 rfl 15 (by decide) rfl rfl fl_X8_28 dX8_land_44 ?_
      refine sv_iload_n (i := 2) X dX8_land_47 rfl rfl ?_
      obtain ⟨hb1, hL⟩ := fr_chk hL
      refine sv_iald (j := (fr_ix x2)) X rfl hb1 rfl dX8_land_48 ?_
      obtain ⟨hb2, hL⟩ := fr_chk hL
      refine sv_iast (j := (fr_ix x2)) X rfl hb2 rfl dX8_land_49 ?_
      refine sv_sig (fun s3 es3 => ?_)
      replace hL := fr_lete hL es3
      obtain ⟨v4, ev4⟩ : ∃ y : Int32, y = x2 + (1 : Int32) := ⟨_, rfl⟩
      replace hL := fr_lete hL ev4
      refine sv_iinc (i := 2) (v := v4) X dX8_land_50 rfl (by rw [ev4]; rfl) (by decide) rfl ?_
      refine sv_goto (tgt := 32) X dX8_land_53 (by decide) ?_
      exact sv_perm [1, 2, 0] rfl (ih _ _ hL)
def F_X8_land  (σ : fr_St) : Option (Int32 × fr_St) := fr_bP (F_X8_readLand σ) (fun b3 s2 => fr_let ((fr_bi b3)) (fun v4 => fr_let (fr_up s2 59 8 (0 : Int32)) (fun s5 => if v4 = 0 then (fr_let (fr_up s5 59 9 (s5 59 14)) (fun s11 => some (((-1000100 : Int32) - (s11 59 13)), s11))) else (fr_bP (L_X8_land_32  fr_fu (0 : Int32) s5) (fun v6 s7 => fr_let (fr_up s7 59 4 (1 : Int32)) (fun s9 => fr_let (fr_up s9 59 17 (0 : Int32)) (fun s10 => some ((s10 63 3), s10))))))))
set_option maxRecDepth 100000 in
set_option maxHeartbeats 4000000 in
theorem b_X8_land {p : Program} {l : Launch} {e : Env} {s : State} {m : MethodId} {args : Array Value} {below : List Frame} {meth : Method} {c : Code} {g : fr_G} {Q : State → Prop} (X : fr_X p s m args meth c g cX8_land RX8 3) (hr : meth.sig.returnType = (some .int))   {σ τ : fr_St} {r : Int32} (hQ : Q = fr_Qi below args s g r τ) (hF : F_X8_land  σ = some (r, τ)) : fr_V p l e (fr_rm 6) s m args below meth c g Q 3 σ 0 [(0, .ref (g.2.1 59))] [] := by
  unfold F_X8_land at hF
  refine sv_aload_n (i := 0) X dX8_land_0 rfl rfl ?_
  obtain ⟨b3, s2, hc1, hF⟩ := fr_bP_some hF
  refine sv_callVi X (c_X8_readLand hc1) cd_X8_readLand ml_X8_142 im_X8_readLand se_X8_readLand in_RX8 hd_X8_readLand rfl rfl (by decide) rfl (Nat.le_of_ble_eq_true rfl) dX8_land_1 rfl ?_
  refine sv_topi (fun v4 ev4 => ?_)
  replace hF := fr_lete hF ev4
  refine sv_istore_n X dX8_land_4 rfl (by decide) rfl ?_
  refine sv_aload_n (i := 1) X dX8_land_5 rfl rfl ?_
  refine sv_iconst (v := 0) X dX8_land_6 (by decide) ?_
  refine sv_puti (ty := .int) X ix_X8 tyX8_ok nmX8 rfl 8 (by decide) rfl rfl fl_X8_87 rfl rfl rfl rfl dX8_land_7 ?_
  refine sv_sig (fun s5 es5 => ?_)
  replace hF := fr_lete hF es5
  refine sv_iload_n (i := 0) X dX8_land_10 rfl rfl ?_
  refine sv_if_ne (tgt := 30) X dX8_land_11 (by decide) (fun h12 => ?_) (fun h12 => ?_)
  · replace hF := fr_neg hF h12
    refine sv_iconst (v := 0) X dX8_land_30 (by decide) ?_
    refine sv_istore_n X dX8_land_31 rfl (by decide) rfl ?_
    refine sv_perm [2, 1, 0] rfl ?_
    obtain ⟨v6, s7, hl8, hF⟩ := fr_bP_some hF
    refine wL_X8_land_32 X  v4 ?_ fr_fu _ _ hl8
    refine sv_aload_n (i := 0) X dX8_land_56 rfl rfl ?_
    refine sv_iconst (v := 1) X dX8_land_57 (by decide) ?_
    refine sv_puti (ty := .boolean) X ix_X8 tyX8_ok nmX8 rfl 4 (by decide) rfl rfl fl_X8_149 rfl rfl rfl rfl dX8_land_58 ?_
    refine sv_sig (fun s9 es9 => ?_)
    replace hF := fr_lete hF es9
    refine sv_aload_n (i := 0) X dX8_land_61 rfl rfl ?_
    refine sv_iconst (v := 0) X dX8_land_62 (by decide) ?_
    refine sv_puti (ty := .int) X ix_X8 tyX8_ok nmX8 rfl 17 (by decide) rfl rfl fl_X8_153 rfl rfl rfl rfl dX8_land_63 ?_
    refine sv_sig (fun s10 es10 => ?_)
    replace hF := fr_lete hF es10
    refine sv_aload_n (i := 0) X dX8_land_66 rfl rfl ?_
    refine sv_getr X ix_X8 rfl 5 (by decide) rfl rfl fl_X8_19 dX8_land_67 ?_
    refine sv_iconst (v := 3) X dX8_land_70 (by decide) ?_
    refine sv_iald (j := 3) X rfl (by decide) (by decide) dX8_land_71 ?_
    exact sv_iret X hr hQ dX8_land_72 hF
  · replace hF := fr_pos hF h12
    refine sv_aload_n (i := 1) X dX8_land_14 rfl rfl ?_
    refine sv_aload_n (i := 1) X dX8_land_15 rfl rfl ?_
    refine sv_geti X ix_X8 rfl 14 (by decide) rfl rfl fl_X8_111 dX8_land_16 ?_
    refine sv_puti (ty := .int) X ix_X8 tyX8_ok nmX8 rfl 9 (by decide) rfl rfl fl_X8_145 rfl rfl rfl rfl dX8_land_19 ?_
    refine sv_sig (fun s11 es11 => ?_)
    replace hF := fr_lete hF es11
    refine sv_ldc X kn_X8_148 dX8_land_22 ?_
    refine sv_aload_n (i := 1) X dX8_land_24 rfl rfl ?_
    refine sv_geti X ix_X8 rfl 13 (by decide) rfl rfl fl_X8_94 dX8_land_25 ?_
    refine sv_isub X dX8_land_28 ?_
    exact sv_iret X hr hQ dX8_land_29 hF
theorem c_X8_land {l : Launch} {g : fr_G}   {σ τ : fr_St} {r : Int32} (hF : F_X8_land  σ = some (r, τ)) : fr_Ci l g yX8_land (fr_ws yX8_land cX8_land 3 (some .int)) 6 [.ref (g.2.1 59)] σ r τ := fr_mi (by decide) (Nat.le_of_ble_eq_true rfl) (fun p e s m below meth c X hr => b_X8_land X hr  rfl hF)
def F_X8_fault  (σ : fr_St) : Option (Int32 × fr_St) := some ((σ 59 9), σ)
set_option maxRecDepth 100000 in
set_option maxHeartbeats 4000000 in
theorem b_X8_fault {p : Program} {l : Launch} {e : Env} {s : State} {m : MethodId} {args : Array Value} {below : List Frame} {meth : Method} {c : Code} {g : fr_G} {Q : State → Prop} (X : fr_X p s m args meth c g cX8_fault RX8 1) (hr : meth.sig.returnType = (some .int))   {σ τ : fr_St} {r : Int32} (hQ : Q = fr_Qi below args s g r τ) (hF : F_X8_fault  σ = some (r, τ)) : fr_V p l e (fr_rm 0) s m args below meth c g Q 1 σ 0 [(0, .ref (g.2.1 59))] [] := by
  unfold F_X8_fault at hF
  refine sv_aload_n (i := 0) X dX8_fault_0 rfl rfl ?_
  refine sv_geti X ix_X8 rfl 9 (by decide) rfl rfl fl_X8_145 dX8_fault_1 ?_
  exact sv_iret X hr hQ dX8_fault_4 hF
theorem c_X8_fault {l : Launch} {g : fr_G}   {σ τ : fr_St} {r : Int32} (hF : F_X8_fault  σ = some (r, τ)) : fr_Ci l g yX8_fault (fr_ws yX8_fault cX8_fault 1 (some .int)) 0 [.ref (g.2.1 59)] σ r τ := fr_mi (by decide) (Nat.le_of_ble_eq_true rfl) (fun p e s m below meth c X hr => b_X8_fault X hr  rfl hF)
def F_X8_isPerson (a1 : Int32) (σ : fr_St) : Option (Bool × fr_St) := fr_bP (F_X8_in (a1.toInt64) (0 : Int64) (((σ 63 3) - (1 : Int32)).toInt64) σ) (fun b3 s2 => some (b3, s2))
set_option maxRecDepth 100000 in
set_option maxHeartbeats 4000000 in
theorem b_X8_isPerson {p : Program} {l : Launch} {e : Env} {s : State} {m : MethodId} {args : Array Value} {below : List Frame} {meth : Method} {c : Code} {g : fr_G} {Q : State → Prop} (X : fr_X p s m args meth c g cX8_isPerson RX8 2) (hr : meth.sig.returnType = (some .boolean)) {a1 : Int32}  {σ τ : fr_St} {r : Bool} (hQ : Q = fr_Qi below args s g (fr_bi r) τ) (hF : F_X8_isPerson a1 σ = some (r, τ)) : fr_V p l e (fr_rm 1) s m args below meth c g Q 2 σ 0 [(0, .ref (g.2.1 59)), (1, .int a1)] [] := by
  unfold F_X8_isPerson at hF
  refine sv_iload_n (i := 1) X dX8_isPerson_0 rfl rfl ?_
  refine sv_i2l X dX8_isPerson_1 ?_
  refine sv_lconst (v := 0) X dX8_isPerson_2 (by decide) ?_
  refine sv_aload_n (i := 0) X dX8_isPerson_3 rfl rfl ?_
  refine sv_getr X ix_X8 rfl 5 (by decide) rfl rfl fl_X8_19 dX8_isPerson_4 ?_
  refine sv_iconst (v := 3) X dX8_isPerson_7 (by decide) ?_
  refine sv_iald (j := 3) X rfl (by decide) (by decide) dX8_isPerson_8 ?_
  refine sv_iconst (v := 1) X dX8_isPerson_9 (by decide) ?_
  refine sv_isub X dX8_isPerson_10 ?_
  refine sv_i2l X dX8_isPerson_11 ?_
  obtain ⟨b3, s2, hc1, hF⟩ := fr_bP_some hF
  refine sv_callSi X (c_X8_in hc1) cd_X8_in ml_X8_63 sm_X8_in in_RX8 hd_X8_in (by decide) rfl (Nat.le_of_ble_eq_true rfl) dX8_isPerson_12 rfl ?_
  exact sv_zret X (b := b3) hr hQ rfl dX8_isPerson_15 hF
theorem c_X8_isPerson {l : Launch} {g : fr_G} {a1 : Int32}  {σ τ : fr_St} {r : Bool} (hF : F_X8_isPerson a1 σ = some (r, τ)) : fr_Ci l g yX8_isPerson (fr_ws yX8_isPerson cX8_isPerson 2 (some .boolean)) 1 [.ref (g.2.1 59), .int a1] σ (fr_bi r) τ := fr_mz (by decide) (Nat.le_of_ble_eq_true rfl) (fun p e s m below meth c X hr => b_X8_isPerson X hr  rfl hF)
def F_X8_isRoad (a1 : Int32) (σ : fr_St) : Option (Bool × fr_St) := fr_bP (F_X8_in (a1.toInt64) (0 : Int64) (((σ 63 2) - (1 : Int32)).toInt64) σ) (fun b3 s2 => some (b3, s2))
set_option maxRecDepth 100000 in
set_option maxHeartbeats 4000000 in
theorem b_X8_isRoad {p : Program} {l : Launch} {e : Env} {s : State} {m : MethodId} {args : Array Value} {below : List Frame} {meth : Method} {c : Code} {g : fr_G} {Q : State → Prop} (X : fr_X p s m args meth c g cX8_isRoad RX8 2) (hr : meth.sig.returnType = (some .boolean)) {a1 : Int32}  {σ τ : fr_St} {r : Bool} (hQ : Q = fr_Qi below args s g (fr_bi r) τ) (hF : F_X8_isRoad a1 σ = some (r, τ)) : fr_V p l e (fr_rm 1) s m args below meth c g Q 2 σ 0 [(0, .ref (g.2.1 59)), (1, .int a1)] [] := by
  unfold F_X8_isRoad at hF
  refine sv_iload_n (i := 1) X dX8_isRoad_0 rfl rfl ?_
  refine sv_i2l X dX8_isRoad_1 ?_
  refine sv_lconst (v := 0) X dX8_isRoad_2 (by decide) ?_
  refine sv_aload_n (i := 0) X dX8_isRoad_3 rfl rfl ?_
  refine sv_getr X ix_X8 rfl 5 (by decide) rfl rfl fl_X8_19 dX8_isRoad_4 ?_
  refine sv_iconst (v := 2) X dX8_isRoad_7 (by decide) ?_
  refine sv_iald (j := 2) X rfl (by decide) (by decide) dX8_isRoad_8 ?_
  refine sv_iconst (v := 1) X dX8_isRoad_9 (by decide) ?_
  refine sv_isub X dX8_isRoad_10 ?_
  refine sv_i2l X dX8_isRoad_11 ?_
  obtain ⟨b3, s2, hc1, hF⟩ := fr_bP_some hF
  refine sv_callSi X (c_X8_in hc1) cd_X8_in ml_X8_63 sm_X8_in in_RX8 hd_X8_in (by decide) rfl (Nat.le_of_ble_eq_true rfl) dX8_isRoad_12 rfl ?_
  exact sv_zret X (b := b3) hr hQ rfl dX8_isRoad_15 hF
theorem c_X8_isRoad {l : Launch} {g : fr_G} {a1 : Int32}  {σ τ : fr_St} {r : Bool} (hF : F_X8_isRoad a1 σ = some (r, τ)) : fr_Ci l g yX8_isRoad (fr_ws yX8_isRoad cX8_isRoad 2 (some .boolean)) 1 [.ref (g.2.1 59), .int a1] σ (fr_bi r) τ := fr_mz (by decide) (Nat.le_of_ble_eq_true rfl) (fun p e s m below meth c X hr => b_X8_isRoad X hr  rfl hF)
def F_X8_isPlace (a1 : Int32) (σ : fr_St) : Option (Bool × fr_St) := fr_bP (F_X8_in (a1.toInt64) (0 : Int64) (((σ 63 1) - (1 : Int32)).toInt64) σ) (fun b3 s2 => some (b3, s2))
set_option maxRecDepth 100000 in
set_option maxHeartbeats 4000000 in
theorem b_X8_isPlace {p : Program} {l : Launch} {e : Env} {s : State} {m : MethodId} {args : Array Value} {below : List Frame} {meth : Method} {c : Code} {g : fr_G} {Q : State → Prop} (X : fr_X p s m args meth c g cX8_isPlace RX8 2) (hr : meth.sig.returnType = (some .boolean)) {a1 : Int32}  {σ τ : fr_St} {r : Bool} (hQ : Q = fr_Qi below args s g (fr_bi r) τ) (hF : F_X8_isPlace a1 σ = some (r, τ)) : fr_V p l e (fr_rm 1) s m args below meth c g Q 2 σ 0 [(0, .ref (g.2.1 59)), (1, .int a1)] [] := by
  unfold F_X8_isPlace at hF
  refine sv_iload_n (i := 1) X dX8_isPlace_0 rfl rfl ?_
  refine sv_i2l X dX8_isPlace_1 ?_
  refine sv_lconst (v := 0) X dX8_isPlace_2 (by decide) ?_
  refine sv_aload_n (i := 0) X dX8_isPlace_3 rfl rfl ?_
  refine sv_getr X ix_X8 rfl 5 (by decide) rfl rfl fl_X8_19 dX8_isPlace_4 ?_
  refine sv_iconst (v := 1) X dX8_isPlace_7 (by decide) ?_
  refine sv_iald (j := 1) X rfl (by decide) (by decide) dX8_isPlace_8 ?_
  refine sv_iconst (v := 1) X dX8_isPlace_9 (by decide) ?_
  refine sv_isub X dX8_isPlace_10 ?_
  refine sv_i2l X dX8_isPlace_11 ?_
  obtain ⟨b3, s2, hc1, hF⟩ := fr_bP_some hF
  refine sv_callSi X (c_X8_in hc1) cd_X8_in ml_X8_63 sm_X8_in in_RX8 hd_X8_in (by decide) rfl (Nat.le_of_ble_eq_true rfl) dX8_isPlace_12 rfl ?_
  exact sv_zret X (b := b3) hr hQ rfl dX8_isPlace_15 hF
theorem c_X8_isPlace {l : Launch} {g : fr_G} {a1 : Int32}  {σ τ : fr_St} {r : Bool} (hF : F_X8_isPlace a1 σ = some (r, τ)) : fr_Ci l g yX8_isPlace (fr_ws yX8_isPlace cX8_isPlace 2 (some .boolean)) 1 [.ref (g.2.1 59), .int a1] σ (fr_bi r) τ := fr_mz (by decide) (Nat.le_of_ble_eq_true rfl) (fun p e s m below meth c X hr => b_X8_isPlace X hr  rfl hF)
def F_X8_areTwo (a1 : Int32) (a2 : Int32) (σ : fr_St) : Option (Bool × fr_St) := fr_bP (F_X8_isPerson a1 σ) (fun b3 s2 => fr_bP (if (fr_bi b3) = 0 then (some ((0 : Int32), s2)) else (fr_bP (F_X8_isPerson a2 s2) (fun b10 s9 => if (fr_bi b10) = 0 then (some ((0 : Int32), s9)) else (if a1 = a2 then (some ((0 : Int32), s9)) else (some ((1 : Int32), s9)))))) (fun v4 s5 => if v4 = 0 then some (false, s5) else if v4 = 1 then some (true, s5) else none))
set_option maxRecDepth 100000 in
set_option maxHeartbeats 4000000 in
theorem b_X8_areTwo {p : Program} {l : Launch} {e : Env} {s : State} {m : MethodId} {args : Array Value} {below : List Frame} {meth : Method} {c : Code} {g : fr_G} {Q : State → Prop} (X : fr_X p s m args meth c g cX8_areTwo RX8 3) (hr : meth.sig.returnType = (some .boolean)) {a1 : Int32} {a2 : Int32}  {σ τ : fr_St} {r : Bool} (hQ : Q = fr_Qi below args s g (fr_bi r) τ) (hF : F_X8_areTwo a1 a2 σ = some (r, τ)) : fr_V p l e (fr_rm 2) s m args below meth c g Q 3 σ 0 [(0, .ref (g.2.1 59)), (1, .int a1), (2, .int a2)] [] := by
  unfold F_X8_areTwo at hF
  refine sv_aload_n (i := 0) X dX8_areTwo_0 rfl rfl ?_
  refine sv_iload_n (i := 1) X dX8_areTwo_1 rfl rfl ?_
  obtain ⟨b3, s2, hc1, hF⟩ := fr_bP_some hF
  refine sv_callVi X (c_X8_isPerson hc1) cd_X8_isPerson ml_X8_156 im_X8_isPerson se_X8_isPerson in_RX8 hd_X8_isPerson rfl rfl (by decide) rfl (Nat.le_of_ble_eq_true rfl) dX8_areTwo_2 rfl ?_
  obtain ⟨v4, s5, hM6, hF⟩ := fr_bP_some hF
  have K7 : fr_V p l e (fr_rm 2) s m args below meth c g Q 3 s5 26 [(0, .ref (g.2.1 59)), (1, .int a1), (2, .int a2)] [.int v4] := by
    exact sv_zretv X hr hQ dX8_areTwo_26 hF
  refine sv_if_eq (tgt := 25) X dX8_areTwo_5 (by decide) (fun h13 => ?_) (fun h13 => ?_)
  · replace hM6 := fr_pos hM6 h13
    refine sv_iconst (v := 0) X dX8_areTwo_25 (by decide) ?_
    obtain ⟨rfl, rfl⟩ := fr_i2 hM6
    exact K7
  · replace hM6 := fr_neg hM6 h13
    refine sv_aload_n (i := 0) X dX8_areTwo_8 rfl rfl ?_
    refine sv_iload_n (i := 2) X dX8_areTwo_9 rfl rfl ?_
    obtain ⟨b10, s9, hc8, hM6⟩ := fr_bP_some hM6
    refine sv_callVi X (c_X8_isPerson hc8) cd_X8_isPerson ml_X8_156 im_X8_isPerson se_X8_isPerson in_RX8 hd_X8_isPerson rfl rfl (by decide) rfl (Nat.le_of_ble_eq_true rfl) dX8_areTwo_10 rfl ?_
    refine sv_if_eq (tgt := 25) X dX8_areTwo_13 (by decide) (fun h12 => ?_) (fun h12 => ?_)
    · replace hM6 := fr_pos hM6 h12
      refine sv_iconst (v := 0) X dX8_areTwo_25 (by decide) ?_
      obtain ⟨rfl, rfl⟩ := fr_i2 hM6
      exact K7
    · replace hM6 := fr_neg hM6 h12
      refine sv_iload_n (i := 1) X dX8_areTwo_16 rfl rfl ?_
      refine sv_iload_n (i := 2) X dX8_areTwo_17 rfl rfl ?_
      refine sv_icmp_eq (tgt := 25) X dX8_areTwo_18 (by decide) (fun h11 => ?_) (fun h11 => ?_)
      · replace hM6 := fr_pos hM6 h11
        refine sv_iconst (v := 0) X dX8_areTwo_25 (by decide) ?_
        obtain ⟨rfl, rfl⟩ := fr_i2 hM6
        exact K7
      · replace hM6 := fr_neg hM6 h11
        refine sv_iconst (v := 1) X dX8_areTwo_21 (by decide) ?_
        refine sv_goto (tgt := 26) X dX8_areTwo_22 (by decide) ?_
        obtain ⟨rfl, rfl⟩ := fr_i2 hM6
        exact K7
theorem c_X8_areTwo {l : Launch} {g : fr_G} {a1 : Int32} {a2 : Int32}  {σ τ : fr_St} {r : Bool} (hF : F_X8_areTwo a1 a2 σ = some (r, τ)) : fr_Ci l g yX8_areTwo (fr_ws yX8_areTwo cX8_areTwo 3 (some .boolean)) 2 [.ref (g.2.1 59), .int a1, .int a2] σ (fr_bi r) τ := fr_mz (by decide) (Nat.le_of_ble_eq_true rfl) (fun p e s m below meth c X hr => b_X8_areTwo X hr  rfl hF)
def F_X8_isByFeet (a1 : Int32) (σ : fr_St) : Option (Bool × fr_St) := if fr_ib ((14 : Int32) + a1) 122 = true then fr_bS (if (4 : Int32) ≤ (σ 63 (fr_ix ((14 : Int32) + a1))) then (some ((0 : Int32))) else (some ((1 : Int32)))) (fun v2 => if v2 = 0 then some (false, σ) else if v2 = 1 then some (true, σ) else none) else none
set_option maxRecDepth 100000 in
set_option maxHeartbeats 4000000 in
theorem b_X8_isByFeet {p : Program} {l : Launch} {e : Env} {s : State} {m : MethodId} {args : Array Value} {below : List Frame} {meth : Method} {c : Code} {g : fr_G} {Q : State → Prop} (X : fr_X p s m args meth c g cX8_isByFeet RX8 2) (hr : meth.sig.returnType = (some .boolean)) {a1 : Int32}  {σ τ : fr_St} {r : Bool} (hQ : Q = fr_Qi below args s g (fr_bi r) τ) (hF : F_X8_isByFeet a1 σ = some (r, τ)) : fr_V p l e (fr_rm 0) s m args below meth c g Q 2 σ 0 [(0, .ref (g.2.1 59)), (1, .int a1)] [] := by
  unfold F_X8_isByFeet at hF
  refine sv_aload_n (i := 0) X dX8_isByFeet_0 rfl rfl ?_
  refine sv_getr X ix_X8 rfl 5 (by decide) rfl rfl fl_X8_19 dX8_isByFeet_1 ?_
  refine sv_bipush (v := 14) X dX8_isByFeet_4 (by decide) ?_
  refine sv_iload_n (i := 1) X dX8_isByFeet_6 rfl rfl ?_
  refine sv_iadd X dX8_isByFeet_7 ?_
  obtain ⟨hb1, hF⟩ := fr_chk hF
  refine sv_iald (j := (fr_ix ((14 : Int32) + a1))) X rfl hb1 rfl dX8_isByFeet_8 ?_
  refine sv_iconst (v := 4) X dX8_isByFeet_9 (by decide) ?_
  obtain ⟨v2, hM3, hF⟩ := fr_bS_some hF
  have K4 : fr_V p l e (fr_rm 0) s m args below meth c g Q 2 σ 18 [(0, .ref (g.2.1 59)), (1, .int a1)] [.int v2] := by
    exact sv_zretv X hr hQ dX8_isByFeet_18 hF
  refine sv_icmp_ge (tgt := 17) X dX8_isByFeet_10 (by decide) (fun h5 => ?_) (fun h5 => ?_)
  · replace hM3 := fr_pos hM3 h5
    refine sv_iconst (v := 0) X dX8_isByFeet_17 (by decide) ?_
    obtain rfl := fr_i1 hM3
    exact K4
  · replace hM3 := fr_neg hM3 h5
    refine sv_iconst (v := 1) X dX8_isByFeet_13 (by decide) ?_
    refine sv_goto (tgt := 18) X dX8_isByFeet_14 (by decide) ?_
    obtain rfl := fr_i1 hM3
    exact K4
theorem c_X8_isByFeet {l : Launch} {g : fr_G} {a1 : Int32}  {σ τ : fr_St} {r : Bool} (hF : F_X8_isByFeet a1 σ = some (r, τ)) : fr_Ci l g yX8_isByFeet (fr_ws yX8_isByFeet cX8_isByFeet 2 (some .boolean)) 0 [.ref (g.2.1 59), .int a1] σ (fr_bi r) τ := fr_mz (by decide) (Nat.le_of_ble_eq_true rfl) (fun p e s m below meth c X hr => b_X8_isByFeet X hr  rfl hF)
def F_X8_limit (a1 : Int32) (σ : fr_St) : Option (Int32 × fr_St) := if fr_ib ((14 : Int32) + a1) 122 = true then fr_bS (if (σ 63 (fr_ix ((14 : Int32) + a1))) = (3 : Int32) then (some (((2 : Int32) * (σ 63 0)))) else (some ((σ 63 0)))) (fun v2 => some (v2, σ)) else none
set_option maxRecDepth 100000 in
set_option maxHeartbeats 4000000 in
theorem b_X8_limit {p : Program} {l : Launch} {e : Env} {s : State} {m : MethodId} {args : Array Value} {below : List Frame} {meth : Method} {c : Code} {g : fr_G} {Q : State → Prop} (X : fr_X p s m args meth c g cX8_limit RX8 2) (hr : meth.sig.returnType = (some .int)) {a1 : Int32}  {σ τ : fr_St} {r : Int32} (hQ : Q = fr_Qi below args s g r τ) (hF : F_X8_limit a1 σ = some (r, τ)) : fr_V p l e (fr_rm 0) s m args below meth c g Q 2 σ 0 [(0, .ref (g.2.1 59)), (1, .int a1)] [] := by
  unfold F_X8_limit at hF
  refine sv_aload_n (i := 0) X dX8_limit_0 rfl rfl ?_
  refine sv_getr X ix_X8 rfl 5 (by decide) rfl rfl fl_X8_19 dX8_limit_1 ?_
  refine sv_bipush (v := 14) X dX8_limit_4 (by decide) ?_
  refine sv_iload_n (i := 1) X dX8_limit_6 rfl rfl ?_
  refine sv_iadd X dX8_limit_7 ?_
  obtain ⟨hb1, hF⟩ := fr_chk hF
  refine sv_iald (j := (fr_ix ((14 : Int32) + a1))) X rfl hb1 rfl dX8_limit_8 ?_
  refine sv_iconst (v := 3) X dX8_limit_9 (by decide) ?_
  obtain ⟨v2, hM3, hF⟩ := fr_bS_some hF
  have K4 : fr_V p l e (fr_rm 0) s m args below meth c g Q 2 σ 30 [(0, .ref (g.2.1 59)), (1, .int a1)] [.int v2] := by
    exact sv_iret X hr hQ dX8_limit_30 hF
  refine sv_icmp_ne (tgt := 24) X dX8_limit_10 (by decide) (fun h5 => ?_) (fun h5 => ?_)
  · replace hM3 := fr_neg hM3 h5
    refine sv_aload_n (i := 0) X dX8_limit_24 rfl rfl ?_
    refine sv_getr X ix_X8 rfl 5 (by decide) rfl rfl fl_X8_19 dX8_limit_25 ?_
    refine sv_iconst (v := 0) X dX8_limit_28 (by decide) ?_
    refine sv_iald (j := 0) X rfl (by decide) (by decide) dX8_limit_29 ?_
    obtain rfl := fr_i1 hM3
    exact K4
  · replace hM3 := fr_pos hM3 h5
    refine sv_iconst (v := 2) X dX8_limit_13 (by decide) ?_
    refine sv_aload_n (i := 0) X dX8_limit_14 rfl rfl ?_
    refine sv_getr X ix_X8 rfl 5 (by decide) rfl rfl fl_X8_19 dX8_limit_15 ?_
    refine sv_iconst (v := 0) X dX8_limit_18 (by decide) ?_
    refine sv_iald (j := 0) X rfl (by decide) (by decide) dX8_limit_19 ?_
    refine sv_imul X dX8_limit_20 ?_
    refine sv_goto (tgt := 30) X dX8_limit_21 (by decide) ?_
    obtain rfl := fr_i1 hM3
    exact K4
theorem c_X8_limit {l : Launch} {g : fr_G} {a1 : Int32}  {σ τ : fr_St} {r : Int32} (hF : F_X8_limit a1 σ = some (r, τ)) : fr_Ci l g yX8_limit (fr_ws yX8_limit cX8_limit 2 (some .int)) 0 [.ref (g.2.1 59), .int a1] σ r τ := fr_mi (by decide) (Nat.le_of_ble_eq_true rfl) (fun p e s m below meth c X hr => b_X8_limit X hr  rfl hF)
def F_X8_opensOn (a1 : Int32) (a2 : Int32) (a3 : Int32) (σ : fr_St) : Option (Bool × fr_St) := fr_let ((((4 : Int32) * a1) + a2)) (fun v1 => if fr_ib ((14 : Int32) + a1) 122 = true then fr_bS (if (σ 63 (fr_ix ((14 : Int32) + a1))) = (2 : Int32) then (some ((2 : Int32))) else (some ((1 : Int32)))) (fun v3 => fr_bP (F_X8_isByFeet a1 σ) (fun b8 s7 => fr_bP (if (fr_bi b8) = 0 then (some ((1 : Int32), s7)) else (if fr_ib ((50 : Int32) + v1) 122 = true then if (s7 63 (fr_ix ((50 : Int32) + v1))) < v3 then (some ((0 : Int32), s7)) else (if fr_ib ((86 : Int32) + v1) 122 = true then fr_bP (F_X8_limit a1 s7) (fun r17 s16 => if r17 < (a3 - (s7 63 (fr_ix ((86 : Int32) + v1)))) then (some ((0 : Int32), s16)) else (some ((1 : Int32), s16))) else none) else none)) (fun v9 s10 => if v9 = 0 then some (false, s10) else if v9 = 1 then some (true, s10) else none))) else none)
set_option maxRecDepth 100000 in
set_option maxHeartbeats 4000000 in
theorem b_X8_opensOn {p : Program} {l : Launch} {e : Env} {s : State} {m : MethodId} {args : Array Value} {below : List Frame} {meth : Method} {c : Code} {g : fr_G} {Q : State → Prop} (X : fr_X p s m args meth c g cX8_opensOn RX8 6) (hr : meth.sig.returnType = (some .boolean)) {a1 : Int32} {a2 : Int32} {a3 : Int32}  {σ τ : fr_St} {r : Bool} (hQ : Q = fr_Qi below args s g (fr_bi r) τ) (hF : F_X8_opensOn a1 a2 a3 σ = some (r, τ)) : fr_V p l e (fr_rm 1) s m args below meth c g Q 6 σ 0 [(0, .ref (g.2.1 59)), (1, .int a1), (2, .int a2), (3, .int a3)] [] := by
  unfold F_X8_opensOn at hF
  refine sv_iconst (v := 4) X dX8_opensOn_0 (by decide) ?_
  refine sv_iload_n (i := 1) X dX8_opensOn_1 rfl rfl ?_
  refine sv_imul X dX8_opensOn_2 ?_
  refine sv_iload_n (i := 2) X dX8_opensOn_3 rfl rfl ?_
  refine sv_iadd X dX8_opensOn_4 ?_
  refine sv_topi (fun v1 ev1 => ?_)
  replace hF := fr_lete hF ev1
  refine sv_istore X dX8_opensOn_5 (by decide) rfl ?_
  refine sv_aload_n (i := 1) X dX8_opensOn_7 rfl rfl ?_
  refine sv_getr X ix_X8 rfl 5 (by decide) rfl rfl fl_X8_19 dX8_opensOn_8 ?_
  refine sv_bipush (v := 14) X dX8_opensOn_11 (by decide) ?_
  refine sv_iload_n (i := 2) X dX8_opensOn_13 rfl rfl ?_
  refine sv_iadd X dX8_opensOn_14 ?_
  obtain ⟨hb2, hF⟩ := fr_chk hF
  refine sv_iald (j := (fr_ix ((14 : Int32) + a1))) X rfl hb2 rfl dX8_opensOn_15 ?_
  refine sv_iconst (v := 2) X dX8_opensOn_16 (by decide) ?_
  obtain ⟨v3, hM4, hF⟩ := fr_bS_some hF
  have K5 : fr_V p l e (fr_rm 1) s m args below meth c g Q 6 σ 25 [(0, .ref (g.2.1 59)), (1, .int a1), (2, .int a2), (3, .int a3), (4, .int v1)] [.int v3] := by
    refine sv_istore X dX8_opensOn_25 (by decide) rfl ?_
    refine sv_aload_n (i := 1) X dX8_opensOn_27 rfl rfl ?_
    refine sv_iload_n (i := 2) X dX8_opensOn_28 rfl rfl ?_
    obtain ⟨b8, s7, hc6, hF⟩ := fr_bP_some hF
    refine sv_callVi X (c_X8_isByFeet hc6) cd_X8_isByFeet ml_X8_159 im_X8_isByFeet se_X8_isByFeet in_RX8 hd_X8_isByFeet rfl rfl (by decide) rfl (Nat.le_of_ble_eq_true rfl) dX8_opensOn_29 rfl ?_
    obtain ⟨v9, s10, hM11, hF⟩ := fr_bP_some hF
    have K12 : fr_V p l e (fr_rm 1) s m args below meth c g Q 6 s10 75 [(0, .ref (g.2.1 59)), (1, .int a1), (2, .int a2), (3, .int a3), (4, .int v1), (5, .int v3)] [.int v9] := by
      exact sv_zretv X hr hQ dX8_opensOn_75 hF
    refine sv_if_eq (tgt := 70) X dX8_opensOn_32 (by decide) (fun h20 => ?_) (fun h20 => ?_)
    · replace hM11 := fr_pos hM11 h20
      refine sv_iconst (v := 1) X dX8_opensOn_70 (by decide) ?_
      refine sv_goto (tgt := 75) X dX8_opensOn_71 (by decide) ?_
      obtain ⟨rfl, rfl⟩ := fr_i2 hM11
      exact sv_perm [1, 2, 3, 4, 5, 0] rfl K12
    · replace hM11 := fr_neg hM11 h20
      refine sv_aload_n (i := 1) X dX8_opensOn_35 rfl rfl ?_
      refine sv_getr X ix_X8 rfl 5 (by decide) rfl rfl fl_X8_19 dX8_opensOn_36 ?_
      refine sv_bipush (v := 50) X dX8_opensOn_39 (by decide) ?_
      refine sv_iload (i := 5) X dX8_opensOn_41 rfl ?_
      refine sv_iadd X dX8_opensOn_43 ?_
      obtain ⟨hb13, hM11⟩ := fr_chk hM11
      refine sv_iald (j := (fr_ix ((50 : Int32) + v1))) X rfl hb13 rfl dX8_opensOn_44 ?_
      refine sv_iload (i := 0) X dX8_opensOn_45 rfl ?_
      refine sv_icmp_lt (tgt := 74) X dX8_opensOn_47 (by decide) (fun h19 => ?_) (fun h19 => ?_)
      · replace hM11 := fr_pos hM11 h19
        refine sv_iconst (v := 0) X dX8_opensOn_74 (by decide) ?_
        obtain ⟨rfl, rfl⟩ := fr_i2 hM11
        exact sv_perm [1, 2, 3, 4, 5, 0] rfl K12
      · replace hM11 := fr_neg hM11 h19
        refine sv_iload_n (i := 4) X dX8_opensOn_50 rfl rfl ?_
        refine sv_aload_n (i := 1) X dX8_opensOn_51 rfl rfl ?_
        refine sv_getr X ix_X8 rfl 5 (by decide) rfl rfl fl_X8_19 dX8_opensOn_52 ?_
        refine sv_bipush (v := 86) X dX8_opensOn_55 (by decide) ?_
        refine sv_iload (i := 5) X dX8_opensOn_57 rfl ?_
        refine sv_iadd X dX8_opensOn_59 ?_
        obtain ⟨hb14, hM11⟩ := fr_chk hM11
        refine sv_iald (j := (fr_ix ((86 : Int32) + v1))) X rfl hb14 rfl dX8_opensOn_60 ?_
        refine sv_isub X dX8_opensOn_61 ?_
        refine sv_aload_n (i := 1) X dX8_opensOn_62 rfl rfl ?_
        refine sv_iload_n (i := 2) X dX8_opensOn_63 rfl rfl ?_
        obtain ⟨r17, s16, hc15, hM11⟩ := fr_bP_some hM11
        refine sv_callVi X (c_X8_limit hc15) cd_X8_limit ml_X8_162 im_X8_limit se_X8_limit in_RX8 hd_X8_limit rfl rfl (by decide) rfl (Nat.le_of_ble_eq_true rfl) dX8_opensOn_64 rfl ?_
        refine sv_icmp_gt (tgt := 74) X dX8_opensOn_67 (by decide) (fun h18 => ?_) (fun h18 => ?_)
        · replace hM11 := fr_pos hM11 h18
          refine sv_iconst (v := 0) X dX8_opensOn_74 (by decide) ?_
          obtain ⟨rfl, rfl⟩ := fr_i2 hM11
          exact sv_perm [1, 2, 3, 4, 5, 0] rfl K12
        · replace hM11 := fr_neg hM11 h18
          refine sv_iconst (v := 1) X dX8_opensOn_70 (by decide) ?_
          refine sv_goto (tgt := 75) X dX8_opensOn_71 (by decide) ?_
          obtain ⟨rfl, rfl⟩ := fr_i2 hM11
          exact sv_perm [1, 2, 3, 4, 5, 0] rfl K12
  refine sv_icmp_ne (tgt := 24) X dX8_opensOn_17 (by decide) (fun h21 => ?_) (fun h21 => ?_)
  · replace hM4 := fr_neg hM4 h21
    refine sv_iconst (v := 1) X dX8_opensOn_24 (by decide) ?_
    obtain rfl := fr_i1 hM4
    exact sv_perm [1, 2, 3, 4, 0] rfl K5
  · replace hM4 := fr_pos hM4 h21
    refine sv_iconst (v := 2) X dX8_opensOn_20 (by decide) ?_
    refine sv_goto (tgt := 25) X dX8_opensOn_21 (by decide) ?_
    obtain rfl := fr_i1 hM4
    exact sv_perm [1, 2, 3, 4, 0] rfl K5
theorem c_X8_opensOn {l : Launch} {g : fr_G} {a1 : Int32} {a2 : Int32} {a3 : Int32}  {σ τ : fr_St} {r : Bool} (hF : F_X8_opensOn a1 a2 a3 σ = some (r, τ)) : fr_Ci l g yX8_opensOn (fr_ws yX8_opensOn cX8_opensOn 6 (some .boolean)) 1 [.ref (g.2.1 59), .int a1, .int a2, .int a3] σ (fr_bi r) τ := fr_mz (by decide) (Nat.le_of_ble_eq_true rfl) (fun p e s m below meth c X hr => b_X8_opensOn X hr  rfl hF)
def F_X8_opens (a1 : Int32) (a2 : Int32) (σ : fr_St) : Option (Bool × fr_St) := fr_bP (F_X8_opensOn a1 a2 (σ 63 4) σ) (fun b3 s2 => some (b3, s2))
set_option maxRecDepth 100000 in
set_option maxHeartbeats 4000000 in
theorem b_X8_opens {p : Program} {l : Launch} {e : Env} {s : State} {m : MethodId} {args : Array Value} {below : List Frame} {meth : Method} {c : Code} {g : fr_G} {Q : State → Prop} (X : fr_X p s m args meth c g cX8_opens RX8 3) (hr : meth.sig.returnType = (some .boolean)) {a1 : Int32} {a2 : Int32}  {σ τ : fr_St} {r : Bool} (hQ : Q = fr_Qi below args s g (fr_bi r) τ) (hF : F_X8_opens a1 a2 σ = some (r, τ)) : fr_V p l e (fr_rm 2) s m args below meth c g Q 3 σ 0 [(0, .ref (g.2.1 59)), (1, .int a1), (2, .int a2)] [] := by
  unfold F_X8_opens at hF
  refine sv_aload_n (i := 0) X dX8_opens_0 rfl rfl ?_
  refine sv_iload_n (i := 1) X dX8_opens_1 rfl rfl ?_
  refine sv_iload_n (i := 2) X dX8_opens_2 rfl rfl ?_
  refine sv_aload_n (i := 0) X dX8_opens_3 rfl rfl ?_
  refine sv_getr X ix_X8 rfl 5 (by decide) rfl rfl fl_X8_19 dX8_opens_4 ?_
  refine sv_iconst (v := 4) X dX8_opens_7 (by decide) ?_
  refine sv_iald (j := 4) X rfl (by decide) (by decide) dX8_opens_8 ?_
  obtain ⟨b3, s2, hc1, hF⟩ := fr_bP_some hF
  refine sv_callVi X (c_X8_opensOn hc1) cd_X8_opensOn ml_X8_165 im_X8_opensOn se_X8_opensOn in_RX8 hd_X8_opensOn rfl rfl (by decide) rfl (Nat.le_of_ble_eq_true rfl) dX8_opens_9 rfl ?_
  exact sv_zret X (b := b3) hr hQ rfl dX8_opens_12 hF
theorem c_X8_opens {l : Launch} {g : fr_G} {a1 : Int32} {a2 : Int32}  {σ τ : fr_St} {r : Bool} (hF : F_X8_opens a1 a2 σ = some (r, τ)) : fr_Ci l g yX8_opens (fr_ws yX8_opens cX8_opens 3 (some .boolean)) 2 [.ref (g.2.1 59), .int a1, .int a2] σ (fr_bi r) τ := fr_mz (by decide) (Nat.le_of_ble_eq_true rfl) (fun p e s m below meth c X hr => b_X8_opens X hr  rfl hF)
def L_X8_openTo_4 (k1 : Int32) : Nat → Int32 → Int32 → fr_St → Option (Int32 × Int32 × fr_St)
  | 0, _, _, _ => none
  | n + 1, x2, x3, σ => if (σ 63 2) ≤ x3 then (some (x2, x3, σ)) else (fr_bP (F_X8_opens x3 k1 σ) (fun b3 s2 => fr_bS (if (fr_bi b3) = 0 then (some ((0 : Int32))) else (some (((1 : Int32) <<< (x3 &&& 31))))) (fun v4 => fr_let ((x2 ||| v4)) (fun v7 => fr_let (x3 + (1 : Int32)) (fun v8 => L_X8_openTo_4 k1 n v7 v8 s2)))))
set_option maxRecDepth 100000 in
set_option maxHeartbeats 4000000 in
theorem wL_X8_openTo_4 {p : Program} {l : Launch} {e : Env} {s : State} {m : MethodId} {args : Array Value} {below : List Frame} {meth : Method} {c : Code} {g : fr_G} {Q : State → Prop} (X : fr_X p s m args meth c g cX8_openTo RX8 4)  (k1 : Int32) {y2 : Int32} {y3 : Int32} {τ : fr_St} (K : fr_V p l e (fr_rm 3) s m args below meth c g Q 4 τ 39 [(0, .ref (g.2.1 59)), (1, .int k1), (2, .int y2), (3, .int y3)] []) : ∀ (n : Nat) (x2 : Int32) (x3 : Int32) (σ : fr_St), L_X8_openTo_4 k1 n x2 x3 σ = some (y2, y3, τ) → fr_V p l e (fr_rm 3) s m args below meth c g Q 4 σ 4 [(0, .ref (g.2.1 59)), (1, .int k1), (2, .int x2), (3, .int x3)] [] := by
  intro n
  induction n with
  | zero => intro x2 x3 σ hL; cases hL
  | succ n ih =>
    intro x2 x3 σ hL
    rw [L_X8_openTo_4] at hL
    refine sv_iload_n (i := 3) X dX8_openTo_4 rfl rfl ?_
    refine sv_aload_n (i := 0) X dX8_openTo_5 rfl rfl ?_
    refine sv_getr X ix_X8 rfl 5 (by decide) rfl rfl fl_X8_19 dX8_openTo_6 ?_
    refine sv_iconst (v := 2) X dX8_openTo_9 (by decide) ?_
    refine sv_iald (j := 2) X rfl (by decide) (by decide) dX8_openTo_10 ?_
    refine sv_icmp_ge (tgt := 39) X dX8_openTo_11 (by decide) (fun h10 => ?_) (fun h10 => ?_)
    · replace hL := fr_pos hL h10
      obtain ⟨rfl, rfl, rfl⟩ := fr_i3 hL
      exact K
    · replace hL := fr_neg hL h10
      refine sv_iload_n (i := 2) X dX8_openTo_14 rfl rfl ?_
      refine sv_aload_n (i := 0) X dX8_openTo_15 rfl rfl ?_
      refine sv_iload_n (i := 3) X dX8_openTo_16 rfl rfl ?_
      refine sv_iload_n (i := 1) X dX8_openTo_17 rfl rfl ?_
      obtain ⟨b3, s2, hc1, hL⟩ := fr_bP_some hL
      refine sv_callVi X (c_X8_opens hc1) cd_X8_opens ml_X8_169 im_X8_opens se_X8_opens in_RX8 hd_X8_opens rfl rfl (by decide) rfl (Nat.le_of_ble_eq_true rfl) dX8_openTo_18 rfl ?_
      obtain ⟨v4, hM5, hL⟩ := fr_bS_some hL
      have K6 : fr_V p l e (fr_rm 3) s m args below meth c g Q 4 s2 31 [(0, .ref (g.2.1 59)), (1, .int k1), (2, .int x2), (3, .int x3)] [.int v4, .int x2] := by
        refine sv_ior X dX8_openTo_31 ?_
        refine sv_topi (fun v7 ev7 => ?_)
        replace hL := fr_lete hL ev7
        refine sv_istore_n X dX8_openTo_32 rfl (by decide) rfl ?_
        obtain ⟨v8, ev8⟩ : ∃ y : Int32, y = x3 + (1 : Int32) := ⟨_, rfl⟩
        replace hL := fr_lete hL ev8
        refine sv_iinc (i := 3) (v := v8) X dX8_openTo_33 rfl (by rw [ev8]; rfl) (by decide) rfl ?_
        refine sv_goto (tgt := 4) X dX8_openTo_36 (by decide) ?_
        exact sv_perm [2, 3, 1, 0] rfl (ih _ _ _ hL)
      refine sv_if_eq (tgt := 30) X dX8_openTo_21 (by decide) (fun h9 => ?_) (fun h9 => ?_)
      · replace hM5 := fr_pos hM5 h9
        refine sv_iconst (v := 0) X dX8_openTo_30 (by decide) ?_
        obtain rfl := fr_i1 hM5
        exact K6
      · replace hM5 := fr_neg hM5 h9
        refine sv_iconst (v := 1) X dX8_openTo_24 (by decide) ?_
        refine sv_iload_n (i := 3) X dX8_openTo_25 rfl rfl ?_
        refine sv_ishl X dX8_openTo_26 ?_
        refine sv_goto (tgt := 31) X dX8_openTo_27 (by decide) ?_
        obtain rfl := fr_i1 hM5
        exact K6
def F_X8_openTo (a1 : Int32) (σ : fr_St) : Option (Int32 × fr_St) := fr_bP (L_X8_openTo_4 a1 fr_fu (0 : Int32) (0 : Int32) σ) (fun v1 q5 => fr_pP q5 (fun v2 s3 => some (v1, s3)))
set_option maxRecDepth 100000 in
set_option maxHeartbeats 4000000 in
theorem b_X8_openTo {p : Program} {l : Launch} {e : Env} {s : State} {m : MethodId} {args : Array Value} {below : List Frame} {meth : Method} {c : Code} {g : fr_G} {Q : State → Prop} (X : fr_X p s m args meth c g cX8_openTo RX8 4) (hr : meth.sig.returnType = (some .int)) {a1 : Int32}  {σ τ : fr_St} {r : Int32} (hQ : Q = fr_Qi below args s g r τ) (hF : F_X8_openTo a1 σ = some (r, τ)) : fr_V p l e (fr_rm 3) s m args below meth c g Q 4 σ 0 [(0, .ref (g.2.1 59)), (1, .int a1)] [] := by
  unfold F_X8_openTo at hF
  refine sv_iconst (v := 0) X dX8_openTo_0 (by decide) ?_
  refine sv_istore_n X dX8_openTo_1 rfl (by decide) rfl ?_
  refine sv_iconst (v := 0) X dX8_openTo_2 (by decide) ?_
  refine sv_istore_n X dX8_openTo_3 rfl (by decide) rfl ?_
  refine sv_perm [2, 3, 1, 0] rfl ?_
  obtain ⟨v1, ⟨v2, s3⟩, hl4, hF⟩ := fr_bP_some hF
  dsimp only [fr_pP] at hF
  refine wL_X8_openTo_4 X  a1 ?_ fr_fu _ _ _ hl4
  refine sv_iload_n (i := 2) X dX8_openTo_39 rfl rfl ?_
  exact sv_iret X hr hQ dX8_openTo_40 hF
theorem c_X8_openTo {l : Launch} {g : fr_G} {a1 : Int32}  {σ τ : fr_St} {r : Int32} (hF : F_X8_openTo a1 σ = some (r, τ)) : fr_Ci l g yX8_openTo (fr_ws yX8_openTo cX8_openTo 4 (some .int)) 3 [.ref (g.2.1 59), .int a1] σ r τ := fr_mi (by decide) (Nat.le_of_ble_eq_true rfl) (fun p e s m below meth c X hr => b_X8_openTo X hr  rfl hF)
def F_X8_soleOf (a1 : Int32) (σ : fr_St) : Option (Int32 × fr_St) := if fr_ib ((10 : Int32) + a1) 122 = true then some ((σ 63 (fr_ix ((10 : Int32) + a1))), σ) else none
set_option maxRecDepth 100000 in
set_option maxHeartbeats 4000000 in
theorem b_X8_soleOf {p : Program} {l : Launch} {e : Env} {s : State} {m : MethodId} {args : Array Value} {below : List Frame} {meth : Method} {c : Code} {g : fr_G} {Q : State → Prop} (X : fr_X p s m args meth c g cX8_soleOf RX8 2) (hr : meth.sig.returnType = (some .int)) {a1 : Int32}  {σ τ : fr_St} {r : Int32} (hQ : Q = fr_Qi below args s g r τ) (hF : F_X8_soleOf a1 σ = some (r, τ)) : fr_V p l e (fr_rm 0) s m args below meth c g Q 2 σ 0 [(0, .ref (g.2.1 59)), (1, .int a1)] [] := by
  unfold F_X8_soleOf at hF
  refine sv_aload_n (i := 0) X dX8_soleOf_0 rfl rfl ?_
  refine sv_getr X ix_X8 rfl 5 (by decide) rfl rfl fl_X8_19 dX8_soleOf_1 ?_
  refine sv_bipush (v := 10) X dX8_soleOf_4 (by decide) ?_
  refine sv_iload_n (i := 1) X dX8_soleOf_6 rfl rfl ?_
  refine sv_iadd X dX8_soleOf_7 ?_
  obtain ⟨hb1, hF⟩ := fr_chk hF
  refine sv_iald (j := (fr_ix ((10 : Int32) + a1))) X rfl hb1 rfl dX8_soleOf_8 ?_
  exact sv_iret X hr hQ dX8_soleOf_9 hF
theorem c_X8_soleOf {l : Launch} {g : fr_G} {a1 : Int32}  {σ τ : fr_St} {r : Int32} (hF : F_X8_soleOf a1 σ = some (r, τ)) : fr_Ci l g yX8_soleOf (fr_ws yX8_soleOf cX8_soleOf 2 (some .int)) 0 [.ref (g.2.1 59), .int a1] σ r τ := fr_mi (by decide) (Nat.le_of_ble_eq_true rfl) (fun p e s m below meth c X hr => b_X8_soleOf X hr  rfl hF)
def L_X8_solesOf_4 (k1 : Int32) : Nat → Int32 → Int32 → fr_St → Option (Int32 × Int32 × fr_St)
  | 0, _, _, _ => none
  | n + 1, x2, x3, σ => if (σ 63 3) ≤ x3 then (some (x2, x3, σ)) else (fr_bP (F_X8_opens k1 x3 σ) (fun b3 s2 => fr_bS (if (fr_bi b3) = 0 then (some ((0 : Int32))) else (some (((1 : Int32) <<< (x3 &&& 31))))) (fun v4 => fr_let ((x2 ||| v4)) (fun v7 => fr_let (x3 + (1 : Int32)) (fun v8 => L_X8_solesOf_4 k1 n v7 v8 s2)))))
set_option maxRecDepth 100000 in
set_option maxHeartbeats 4000000 in
theorem wL_X8_solesOf_4 {p : Program} {l : Launch} {e : Env} {s : State} {m : MethodId} {args : Array Value} {below : List Frame} {meth : Method} {c : Code} {g : fr_G} {Q : State → Prop} (X : fr_X p s m args meth c g cX8_solesOf RX8 4)  (k1 : Int32) {y2 : Int32} {y3 : Int32} {τ : fr_St} (K : fr_V p l e (fr_rm 3) s m args below meth c g Q 4 τ 39 [(0, .ref (g.2.1 59)), (1, .int k1), (2, .int y2), (3, .int y3)] []) : ∀ (n : Nat) (x2 : Int32) (x3 : Int32) (σ : fr_St), L_X8_solesOf_4 k1 n x2 x3 σ = some (y2, y3, τ) → fr_V p l e (fr_rm 3) s m args below meth c g Q 4 σ 4 [(0, .ref (g.2.1 59)), (1, .int k1), (2, .int x2), (3, .int x3)] [] := by
  intro n
  induction n with
  | zero => intro x2 x3 σ hL; cases hL
  | succ n ih =>
    intro x2 x3 σ hL
    rw [L_X8_solesOf_4] at hL
    refine sv_iload_n (i := 3) X dX8_solesOf_4 rfl rfl ?_
    refine sv_aload_n (i := 0) X dX8_solesOf_5 rfl rfl ?_
    refine sv_getr X ix_X8 rfl 5 (by decide) rfl rfl fl_X8_19 dX8_solesOf_6 ?_
    refine sv_iconst (v := 3) X dX8_solesOf_9 (by decide) ?_
    refine sv_iald (j := 3) X rfl (by decide) (by decide) dX8_solesOf_10 ?_
    refine sv_icmp_ge (tgt := 39) X dX8_solesOf_11 (by decide) (fun h10 => ?_) (fun h10 => ?_)
    · replace hL := fr_pos hL h10
      obtain ⟨rfl, rfl, rfl⟩ := fr_i3 hL
      exact K
    · replace hL := fr_neg hL h10
      refine sv_iload_n (i := 2) X dX8_solesOf_14 rfl rfl ?_
      refine sv_aload_n (i := 0) X dX8_solesOf_15 rfl rfl ?_
      refine sv_iload_n (i := 1) X dX8_solesOf_16 rfl rfl ?_
      refine sv_iload_n (i := 3) X dX8_solesOf_17 rfl rfl ?_
      obtain ⟨b3, s2, hc1, hL⟩ := fr_bP_some hL
      refine sv_callVi X (c_X8_opens hc1) cd_X8_opens ml_X8_169 im_X8_opens se_X8_opens in_RX8 hd_X8_opens rfl rfl (by decide) rfl (Nat.le_of_ble_eq_true rfl) dX8_solesOf_18 rfl ?_
      obtain ⟨v4, hM5, hL⟩ := fr_bS_some hL
      have K6 : fr_V p l e (fr_rm 3) s m args below meth c g Q 4 s2 31 [(0, .ref (g.2.1 59)), (1, .int k1), (2, .int x2), (3, .int x3)] [.int v4, .int x2] := by
        refine sv_ior X dX8_solesOf_31 ?_
        refine sv_topi (fun v7 ev7 => ?_)
        replace hL := fr_lete hL ev7
        refine sv_istore_n X dX8_solesOf_32 rfl (by decide) rfl ?_
        obtain ⟨v8, ev8⟩ : ∃ y : Int32, y = x3 + (1 : Int32) := ⟨_, rfl⟩
        replace hL := fr_lete hL ev8
        refine sv_iinc (i := 3) (v := v8) X dX8_solesOf_33 rfl (by rw [ev8]; rfl) (by decide) rfl ?_
        refine sv_goto (tgt := 4) X dX8_solesOf_36 (by decide) ?_
        exact sv_perm [2, 3, 1, 0] rfl (ih _ _ _ hL)
      refine sv_if_eq (tgt := 30) X dX8_solesOf_21 (by decide) (fun h9 => ?_) (fun h9 => ?_)
      · replace hM5 := fr_pos hM5 h9
        refine sv_iconst (v := 0) X dX8_solesOf_30 (by decide) ?_
        obtain rfl := fr_i1 hM5
        exact K6
      · replace hM5 := fr_neg hM5 h9
        refine sv_iconst (v := 1) X dX8_solesOf_24 (by decide) ?_
        refine sv_iload_n (i := 3) X dX8_solesOf_25 rfl rfl ?_
        refine sv_ishl X dX8_solesOf_26 ?_
        refine sv_goto (tgt := 31) X dX8_solesOf_27 (by decide) ?_
        obtain rfl := fr_i1 hM5
        exact K6
def F_X8_solesOf (a1 : Int32) (σ : fr_St) : Option (Int32 × fr_St) := fr_bP (L_X8_solesOf_4 a1 fr_fu (0 : Int32) (0 : Int32) σ) (fun v1 q5 => fr_pP q5 (fun v2 s3 => some (v1, s3)))
set_option maxRecDepth 100000 in
set_option maxHeartbeats 4000000 in
theorem b_X8_solesOf {p : Program} {l : Launch} {e : Env} {s : State} {m : MethodId} {args : Array Value} {below : List Frame} {meth : Method} {c : Code} {g : fr_G} {Q : State → Prop} (X : fr_X p s m args meth c g cX8_solesOf RX8 4) (hr : meth.sig.returnType = (some .int)) {a1 : Int32}  {σ τ : fr_St} {r : Int32} (hQ : Q = fr_Qi below args s g r τ) (hF : F_X8_solesOf a1 σ = some (r, τ)) : fr_V p l e (fr_rm 3) s m args below meth c g Q 4 σ 0 [(0, .ref (g.2.1 59)), (1, .int a1)] [] := by
  unfold F_X8_solesOf at hF
  refine sv_iconst (v := 0) X dX8_solesOf_0 (by decide) ?_
  refine sv_istore_n X dX8_solesOf_1 rfl (by decide) rfl ?_
  refine sv_iconst (v := 0) X dX8_solesOf_2 (by decide) ?_
  refine sv_istore_n X dX8_solesOf_3 rfl (by decide) rfl ?_
  refine sv_perm [2, 3, 1, 0] rfl ?_
  obtain ⟨v1, ⟨v2, s3⟩, hl4, hF⟩ := fr_bP_some hF
  dsimp only [fr_pP] at hF
  refine wL_X8_solesOf_4 X  a1 ?_ fr_fu _ _ _ hl4
  refine sv_iload_n (i := 2) X dX8_solesOf_39 rfl rfl ?_
  exact sv_iret X hr hQ dX8_solesOf_40 hF
theorem c_X8_solesOf {l : Launch} {g : fr_G} {a1 : Int32}  {σ τ : fr_St} {r : Int32} (hF : F_X8_solesOf a1 σ = some (r, τ)) : fr_Ci l g yX8_solesOf (fr_ws yX8_solesOf cX8_solesOf 4 (some .int)) 3 [.ref (g.2.1 59), .int a1] σ r τ := fr_mi (by decide) (Nat.le_of_ble_eq_true rfl) (fun p e s m below meth c X hr => b_X8_solesOf X hr  rfl hF)
def F_X8_across (a1 : Int32) (a2 : Int32) (σ : fr_St) : Option (Int32 × fr_St) := if fr_ib ((23 : Int32) + a1) 122 = true then fr_bS (if (σ 63 (fr_ix ((23 : Int32) + a1))) = a2 then (if fr_ib ((32 : Int32) + a1) 122 = true then some ((σ 63 (fr_ix ((32 : Int32) + a1)))) else none) else (if fr_ib ((32 : Int32) + a1) 122 = true then if (σ 63 (fr_ix ((32 : Int32) + a1))) = a2 then (if fr_ib ((23 : Int32) + a1) 122 = true then some ((σ 63 (fr_ix ((23 : Int32) + a1)))) else none) else (some ((-1 : Int32))) else none)) (fun v2 => some (v2, σ)) else none
set_option maxRecDepth 100000 in
set_option maxHeartbeats 4000000 in
theorem b_X8_across {p : Program} {l : Launch} {e : Env} {s : State} {m : MethodId} {args : Array Value} {below : List Frame} {meth : Method} {c : Code} {g : fr_G} {Q : State → Prop} (X : fr_X p s m args meth c g cX8_across RX8 3) (hr : meth.sig.returnType = (some .int)) {a1 : Int32} {a2 : Int32}  {σ τ : fr_St} {r : Int32} (hQ : Q = fr_Qi below args s g r τ) (hF : F_X8_across a1 a2 σ = some (r, τ)) : fr_V p l e (fr_rm 0) s m args below meth c g Q 3 σ 0 [(0, .ref (g.2.1 59)), (1, .int a1), (2, .int a2)] [] := by
  unfold F_X8_across at hF
  refine sv_aload_n (i := 0) X dX8_across_0 rfl rfl ?_
  refine sv_getr X ix_X8 rfl 5 (by decide) rfl rfl fl_X8_19 dX8_across_1 ?_
  refine sv_bipush (v := 23) X dX8_across_4 (by decide) ?_
  refine sv_iload_n (i := 1) X dX8_across_6 rfl rfl ?_
  refine sv_iadd X dX8_across_7 ?_
  obtain ⟨hb1, hF⟩ := fr_chk hF
  refine sv_iald (j := (fr_ix ((23 : Int32) + a1))) X rfl hb1 rfl dX8_across_8 ?_
  refine sv_iload_n (i := 2) X dX8_across_9 rfl rfl ?_
  obtain ⟨v2, hM3, hF⟩ := fr_bS_some hF
  have K4 : fr_V p l e (fr_rm 0) s m args below meth c g Q 3 σ 51 [(0, .ref (g.2.1 59)), (1, .int a1), (2, .int a2)] [.int v2] := by
    exact sv_iret X hr hQ dX8_across_51 hF
  refine sv_icmp_ne (tgt := 25) X dX8_across_10 (by decide) (fun h9 => ?_) (fun h9 => ?_)
  · replace hM3 := fr_neg hM3 h9
    refine sv_aload_n (i := 0) X dX8_across_25 rfl rfl ?_
    refine sv_getr X ix_X8 rfl 5 (by decide) rfl rfl fl_X8_19 dX8_across_26 ?_
    refine sv_bipush (v := 32) X dX8_across_29 (by decide) ?_
    refine sv_iload_n (i := 1) X dX8_across_31 rfl rfl ?_
    refine sv_iadd X dX8_across_32 ?_
    obtain ⟨hb5, hM3⟩ := fr_chk hM3
    refine sv_iald (j := (fr_ix ((32 : Int32) + a1))) X rfl hb5 rfl dX8_across_33 ?_
    refine sv_iload_n (i := 2) X dX8_across_34 rfl rfl ?_
    refine sv_icmp_ne (tgt := 50) X dX8_across_35 (by decide) (fun h7 => ?_) (fun h7 => ?_)
    · replace hM3 := fr_neg hM3 h7
      refine sv_iconst (v := (-1)) X dX8_across_50 (by decide) ?_
      obtain rfl := fr_i1 hM3
      exact K4
    · replace hM3 := fr_pos hM3 h7
      refine sv_aload_n (i := 0) X dX8_across_38 rfl rfl ?_
      refine sv_getr X ix_X8 rfl 5 (by decide) rfl rfl fl_X8_19 dX8_across_39 ?_
      refine sv_bipush (v := 23) X dX8_across_42 (by decide) ?_
      refine sv_iload_n (i := 1) X dX8_across_44 rfl rfl ?_
      refine sv_iadd X dX8_across_45 ?_
      obtain ⟨hb6, hM3⟩ := fr_chk hM3
      refine sv_iald (j := (fr_ix ((23 : Int32) + a1))) X rfl hb6 rfl dX8_across_46 ?_
      refine sv_goto (tgt := 51) X dX8_across_47 (by decide) ?_
      obtain rfl := fr_i1 hM3
      exact K4
  · replace hM3 := fr_pos hM3 h9
    refine sv_aload_n (i := 0) X dX8_across_13 rfl rfl ?_
    refine sv_getr X ix_X8 rfl 5 (by decide) rfl rfl fl_X8_19 dX8_across_14 ?_
    refine sv_bipush (v := 32) X dX8_across_17 (by decide) ?_
    refine sv_iload_n (i := 1) X dX8_across_19 rfl rfl ?_
    refine sv_iadd X dX8_across_20 ?_
    obtain ⟨hb8, hM3⟩ := fr_chk hM3
    refine sv_iald (j := (fr_ix ((32 : Int32) + a1))) X rfl hb8 rfl dX8_across_21 ?_
    refine sv_goto (tgt := 51) X dX8_across_22 (by decide) ?_
    obtain rfl := fr_i1 hM3
    exact K4
theorem c_X8_across {l : Launch} {g : fr_G} {a1 : Int32} {a2 : Int32}  {σ τ : fr_St} {r : Int32} (hF : F_X8_across a1 a2 σ = some (r, τ)) : fr_Ci l g yX8_across (fr_ws yX8_across cX8_across 3 (some .int)) 0 [.ref (g.2.1 59), .int a1, .int a2] σ r τ := fr_mi (by decide) (Nat.le_of_ble_eq_true rfl) (fun p e s m below meth c X hr => b_X8_across X hr  rfl hF)
def L_X8_note_51  : Nat → Int32 → fr_St → Option (Int32 × fr_St)
  | 0, _, _ => none
  | n + 1, x1, σ => if (122 : Int32) ≤ x1 then (some (x1, σ)) else (if fr_ib x1 122 = true then if fr_ib (((122 : Int32) * (σ 59 17)) + x1) 2928 = true then fr_let (fr_up σ 67 (fr_ix (((122 : Int32) * (σ 59 17)) + x1)) (σ 63 (fr_ix x1))) (fun s3 => fr_let (x1 + (1 : Int32)) (fun v4 => L_X8_note_51  n v4 s3)) else none else none)
set_option maxRecDepth 100000 in
set_option maxHeartbeats 4000000 in
theorem wL_X8_note_51 {p : Program} {l : Launch} {e : Env} {s : State} {m : MethodId} {args : Array Value} {below : List Frame} {meth : Method} {c : Code} {g : fr_G} {Q : State → Prop} (X : fr_X p s m args meth c g cX8_note RX8 2)   {y1 : Int32} {τ : fr_St} (K : fr_V p l e (fr_rm 0) s m args below meth c g Q 2 τ 83 [(0, .ref (g.2.1 59)), (1, .int y1)] []) : ∀ (n : Nat) (x1 : Int32) (σ : fr_St), L_X8_note_51  n x1 σ = some (y1, τ) → fr_V p l e (fr_rm 0) s m args below meth c g Q 2 σ 51 [(0, .ref (g.2.1 59)), (1, .int x1)] [] := by
  intro n
  induction n with
  | zero => intro x1 σ hL; cases hL
  | succ n ih =>
    intro x1 σ hL
    rw [L_X8_note_51] at hL
    refine sv_iload_n (i := 1) X dX8_note_51 rfl rfl ?_
    refine sv_bipush (v := 122) X dX8_note_52 (by decide) ?_
    refine sv_icmp_ge (tgt := 83) X dX8_note_54 (by decide) (fun h5 => ?_) (fun h5 => ?_)
    · replace hL := fr_pos hL h5
      obtain ⟨rfl, rfl⟩ := fr_i2 hL
      exact K
    · replace hL := fr_neg hL h5
      refine sv_aload_n (i := 0) X dX8_note_57 rfl rfl ?_
      refine sv_getr X ix_X8 rfl 16 (by decide) rfl rfl fl_X8_31 dX8_note_58 ?_
      refine sv_bipush (v := 122) X dX8_note_61 (by decide) ?_
      refine sv_aload_n (i := 0) X dX8_note_63 rfl rfl ?_
      refine sv_geti X ix_X8 rfl 17 (by decide) rfl rfl fl_X8_153 dX8_note_64 ?_
      refine sv_imul X dX8_note_67 ?_
      refine sv_iload_n (i := 1) X dX8_note_68 rfl rfl ?_
      refine sv_iadd X dX8_note_69 ?_
      refine sv_aload_n (i := 0) X dX8_note_70 rfl rfl ?_
      refine sv_getr X ix_X8 rfl 5 (by decide) rfl rfl fl_X8_19 dX8_note_71 ?_
      refine sv_iload_n (i := 1) X dX8_note_74 rfl rfl ?_
      obtain ⟨hb1, hL⟩ := fr_chk hL
      refine sv_iald (j := (fr_ix x1)) X rfl hb1 rfl dX8_note_75 ?_
      obtain ⟨hb2, hL⟩ := fr_chk hL
      refine sv_iast (j := (fr_ix (((122 : Int32) * (σ 59 17)) + x1))) X rfl hb2 rfl dX8_note_76 ?_
      refine sv_sig (fun s3 es3 => ?_)
      replace hL := fr_lete hL es3
      obtain ⟨v4, ev4⟩ : ∃ y : Int32, y = x1 + (1 : Int32) := ⟨_, rfl⟩
      replace hL := fr_lete hL ev4
      refine sv_iinc (i := 1) (v := v4) X dX8_note_77 rfl (by rw [ev4]; rfl) (by decide) rfl ?_
      refine sv_goto (tgt := 51) X dX8_note_80 (by decide) ?_
      exact sv_perm [1, 0] rfl (ih _ _ hL)
def L_X8_note_11  : Nat → Int32 → fr_St → Option (Int32 × fr_St)
  | 0, _, _ => none
  | n + 1, x1, σ => if (2806 : Int32) ≤ x1 then (some (x1, σ)) else (if fr_ib (x1 + (122 : Int32)) 2928 = true then if fr_ib x1 2928 = true then fr_let (fr_up σ 67 (fr_ix x1) (σ 67 (fr_ix (x1 + (122 : Int32))))) (fun s3 => fr_let (x1 + (1 : Int32)) (fun v4 => L_X8_note_11  n v4 s3)) else none else none)
set_option maxRecDepth 100000 in
set_option maxHeartbeats 4000000 in
theorem wL_X8_note_11 {p : Program} {l : Launch} {e : Env} {s : State} {m : MethodId} {args : Array Value} {below : List Frame} {meth : Method} {c : Code} {g : fr_G} {Q : State → Prop} (X : fr_X p s m args meth c g cX8_note RX8 2)   {y1 : Int32} {τ : fr_St} (K : fr_V p l e (fr_rm 0) s m args below meth c g Q 2 τ 39 [(0, .ref (g.2.1 59)), (1, .int y1)] []) : ∀ (n : Nat) (x1 : Int32) (σ : fr_St), L_X8_note_11  n x1 σ = some (y1, τ) → fr_V p l e (fr_rm 0) s m args below meth c g Q 2 σ 11 [(0, .ref (g.2.1 59)), (1, .int x1)] [] := by
  intro n
  induction n with
  | zero => intro x1 σ hL; cases hL
  | succ n ih =>
    intro x1 σ hL
    rw [L_X8_note_11] at hL
    refine sv_iload_n (i := 1) X dX8_note_11 rfl rfl ?_
    refine sv_sipush (v := 2806) X dX8_note_12 (by decide) ?_
    refine sv_icmp_ge (tgt := 39) X dX8_note_15 (by decide) (fun h5 => ?_) (fun h5 => ?_)
    · replace hL := fr_pos hL h5
      obtain ⟨rfl, rfl⟩ := fr_i2 hL
      exact K
    · replace hL := fr_neg hL h5
      refine sv_aload_n (i := 0) X dX8_note_18 rfl rfl ?_
      refine sv_getr X ix_X8 rfl 16 (by decide) rfl rfl fl_X8_31 dX8_note_19 ?_
      refine sv_iload_n (i := 1) X dX8_note_22 rfl rfl ?_
      refine sv_aload_n (i := 0) X dX8_note_23 rfl rfl ?_
      refine sv_getr X ix_X8 rfl 16 (by decide) rfl rfl fl_X8_31 dX8_note_24 ?_
      refine sv_iload_n (i := 1) X dX8_note_27 rfl rfl ?_
      refine sv_bipush (v := 122) X dX8_note_28 (by decide) ?_
      refine sv_iadd X dX8_note_30 ?_
      obtain ⟨hb1, hL⟩ := fr_chk hL
      refine sv_iald (j := (fr_ix (x1 + (122 : Int32)))) X rfl hb1 rfl dX8_note_31 ?_
      obtain ⟨hb2, hL⟩ := fr_chk hL
      refine sv_iast (j := (fr_ix x1)) X rfl hb2 rfl dX8_note_32 ?_
      refine sv_sig (fun s3 es3 => ?_)
      replace hL := fr_lete hL es3
      obtain ⟨v4, ev4⟩ : ∃ y : Int32, y = x1 + (1 : Int32) := ⟨_, rfl⟩
      replace hL := fr_lete hL ev4
      refine sv_iinc (i := 1) (v := v4) X dX8_note_33 rfl (by rw [ev4]; rfl) (by decide) rfl ?_
      refine sv_goto (tgt := 11) X dX8_note_36 (by decide) ?_
      exact sv_perm [1, 0] rfl (ih _ _ hL)
def F_X8_note  (σ : fr_St) : Option fr_St := fr_bS (if (σ 59 17) = (24 : Int32) then (fr_bP (L_X8_note_11  fr_fu (0 : Int32) σ) (fun v8 s9 => fr_let (fr_up s9 59 17 ((s9 59 17) - (1 : Int32))) (fun s11 => some (s11)))) else (some (σ))) (fun s1 => fr_bP (L_X8_note_51  fr_fu (0 : Int32) s1) (fun v4 s5 => fr_let (fr_up s5 59 17 ((s5 59 17) + (1 : Int32))) (fun s7 => some s7)))
set_option maxRecDepth 100000 in
set_option maxHeartbeats 4000000 in
theorem b_X8_note {p : Program} {l : Launch} {e : Env} {s : State} {m : MethodId} {args : Array Value} {below : List Frame} {meth : Method} {c : Code} {g : fr_G} {Q : State → Prop} (X : fr_X p s m args meth c g cX8_note RX8 2) (hr : meth.sig.returnType = (Option.none : Option Jvm.ClassFile.FieldType))   {σ τ : fr_St} (hQ : Q = fr_Qv below args s g τ) (hF : F_X8_note  σ = some τ) : fr_V p l e (fr_rm 0) s m args below meth c g Q 2 σ 0 [(0, .ref (g.2.1 59))] [] := by
  unfold F_X8_note at hF
  refine sv_aload_n (i := 0) X dX8_note_0 rfl rfl ?_
  refine sv_geti X ix_X8 rfl 17 (by decide) rfl rfl fl_X8_153 dX8_note_1 ?_
  refine sv_bipush (v := 24) X dX8_note_4 (by decide) ?_
  obtain ⟨s1, hM2, hF⟩ := fr_bS_some hF
  have K3 : fr_V p l e (fr_rm 0) s m args below meth c g Q 2 s1 49 [(0, .ref (g.2.1 59))] [] := by
    refine sv_iconst (v := 0) X dX8_note_49 (by decide) ?_
    refine sv_istore_n X dX8_note_50 rfl (by decide) rfl ?_
    refine sv_perm [1, 0] rfl ?_
    obtain ⟨v4, s5, hl6, hF⟩ := fr_bP_some hF
    refine wL_X8_note_51 X   ?_ fr_fu _ _ hl6
    refine sv_aload_n (i := 0) X dX8_note_83 rfl rfl ?_
    refine sv_dup X dX8_note_84 rfl ?_
    refine sv_geti X ix_X8 rfl 17 (by decide) rfl rfl fl_X8_153 dX8_note_85 ?_
    refine sv_iconst (v := 1) X dX8_note_88 (by decide) ?_
    refine sv_iadd X dX8_note_89 ?_
    refine sv_puti (ty := .int) X ix_X8 tyX8_ok nmX8 rfl 17 (by decide) rfl rfl fl_X8_153 rfl rfl rfl rfl dX8_note_90 ?_
    refine sv_sig (fun s7 es7 => ?_)
    replace hF := fr_lete hF es7
    exact sv_vret X hr hQ dX8_note_93 hF
  refine sv_icmp_ne (tgt := 49) X dX8_note_6 (by decide) (fun h12 => ?_) (fun h12 => ?_)
  · replace hM2 := fr_neg hM2 h12
    obtain rfl := fr_i1 hM2
    exact K3
  · replace hM2 := fr_pos hM2 h12
    refine sv_iconst (v := 0) X dX8_note_9 (by decide) ?_
    refine sv_istore_n X dX8_note_10 rfl (by decide) rfl ?_
    refine sv_perm [1, 0] rfl ?_
    obtain ⟨v8, s9, hl10, hM2⟩ := fr_bP_some hM2
    refine wL_X8_note_11 X   ?_ fr_fu _ _ hl10
    refine sv_aload_n (i := 0) X dX8_note_39 rfl rfl ?_
    refine sv_dup X dX8_note_40 rfl ?_
    refine sv_geti X ix_X8 rfl 17 (by decide) rfl rfl fl_X8_153 dX8_note_41 ?_
    refine sv_iconst (v := 1) X dX8_note_44 (by decide) ?_
    refine sv_isub X dX8_note_45 ?_
    refine sv_puti (ty := .int) X ix_X8 tyX8_ok nmX8 rfl 17 (by decide) rfl rfl fl_X8_153 rfl rfl rfl rfl dX8_note_46 ?_
    refine sv_sig (fun s11 es11 => ?_)
    replace hM2 := fr_lete hM2 es11
    obtain rfl := fr_i1 hM2
    exact sv_perm [0] rfl K3
theorem c_X8_note {l : Launch} {g : fr_G}   {σ τ : fr_St} (hF : F_X8_note  σ = some τ) : fr_Cv l g yX8_note (fr_ws yX8_note cX8_note 2 (Option.none : Option Jvm.ClassFile.FieldType)) 0 [.ref (g.2.1 59)] σ τ := fr_mv (by decide) (Nat.le_of_ble_eq_true rfl) (fun p e s m below meth c X hr => b_X8_note X hr  rfl hF)
def F_X8_meetSole (a1 : Int32) (a2 : Int32) (σ : fr_St) : Option fr_St := if fr_ib ((14 : Int32) + a1) 122 = true then fr_bS (if (σ 63 (fr_ix ((14 : Int32) + a1))) = (5 : Int32) then (some (σ)) else (if fr_ib (((50 : Int32) + ((4 : Int32) * a1)) + a2) 122 = true then if fr_ib (((50 : Int32) + ((4 : Int32) * a1)) + a2) 122 = true then fr_let (fr_up σ 63 (fr_ix (((50 : Int32) + ((4 : Int32) * a1)) + a2)) ((σ 63 (fr_ix (((50 : Int32) + ((4 : Int32) * a1)) + a2))) + (1 : Int32))) (fun s7 => if fr_ib (((86 : Int32) + ((4 : Int32) * a1)) + a2) 122 = true then fr_let (fr_up s7 63 (fr_ix (((86 : Int32) + ((4 : Int32) * a1)) + a2)) (s7 63 4)) (fun s9 => some (s9)) else none) else none else none)) (fun s2 => some s2) else none
set_option maxRecDepth 100000 in
set_option maxHeartbeats 4000000 in
theorem b_X8_meetSole {p : Program} {l : Launch} {e : Env} {s : State} {m : MethodId} {args : Array Value} {below : List Frame} {meth : Method} {c : Code} {g : fr_G} {Q : State → Prop} (X : fr_X p s m args meth c g cX8_meetSole RX8 3) (hr : meth.sig.returnType = (Option.none : Option Jvm.ClassFile.FieldType)) {a1 : Int32} {a2 : Int32}  {σ τ : fr_St} (hQ : Q = fr_Qv below args s g τ) (hF : F_X8_meetSole a1 a2 σ = some τ) : fr_V p l e (fr_rm 0) s m args below meth c g Q 3 σ 0 [(0, .ref (g.2.1 59)), (1, .int a1), (2, .int a2)] [] := by
  unfold F_X8_meetSole at hF
  refine sv_aload_n (i := 0) X dX8_meetSole_0 rfl rfl ?_
  refine sv_getr X ix_X8 rfl 5 (by decide) rfl rfl fl_X8_19 dX8_meetSole_1 ?_
  refine sv_bipush (v := 14) X dX8_meetSole_4 (by decide) ?_
  refine sv_iload_n (i := 1) X dX8_meetSole_6 rfl rfl ?_
  refine sv_iadd X dX8_meetSole_7 ?_
  obtain ⟨hb1, hF⟩ := fr_chk hF
  refine sv_iald (j := (fr_ix ((14 : Int32) + a1))) X rfl hb1 rfl dX8_meetSole_8 ?_
  refine sv_iconst (v := 5) X dX8_meetSole_9 (by decide) ?_
  obtain ⟨s2, hM3, hF⟩ := fr_bS_some hF
  have K4 : fr_V p l e (fr_rm 0) s m args below meth c g Q 3 s2 49 [(0, .ref (g.2.1 59)), (1, .int a1), (2, .int a2)] [] := by
    exact sv_vret X hr hQ dX8_meetSole_49 hF
  refine sv_icmp_eq (tgt := 49) X dX8_meetSole_10 (by decide) (fun h10 => ?_) (fun h10 => ?_)
  · replace hM3 := fr_pos hM3 h10
    obtain rfl := fr_i1 hM3
    exact K4
  · replace hM3 := fr_neg hM3 h10
    refine sv_aload_n (i := 0) X dX8_meetSole_13 rfl rfl ?_
    refine sv_getr X ix_X8 rfl 5 (by decide) rfl rfl fl_X8_19 dX8_meetSole_14 ?_
    refine sv_bipush (v := 50) X dX8_meetSole_17 (by decide) ?_
    refine sv_iconst (v := 4) X dX8_meetSole_19 (by decide) ?_
    refine sv_iload_n (i := 1) X dX8_meetSole_20 rfl rfl ?_
    refine sv_imul X dX8_meetSole_21 ?_
    refine sv_iadd X dX8_meetSole_22 ?_
    refine sv_iload_n (i := 2) X dX8_meetSole_23 rfl rfl ?_
    refine sv_iadd X dX8_meetSole_24 ?_
    refine sv_dup2 X dX8_meetSole_25 rfl rfl ?_
    obtain ⟨hb5, hM3⟩ := fr_chk hM3
    refine sv_iald (j := (fr_ix (((50 : Int32) + ((4 : Int32) * a1)) + a2))) X rfl hb5 rfl dX8_meetSole_26 ?_
    refine sv_iconst (v := 1) X dX8_meetSole_27 (by decide) ?_
    refine sv_iadd X dX8_meetSole_28 ?_
    obtain ⟨hb6, hM3⟩ := fr_chk hM3
    refine sv_iast (j := (fr_ix (((50 : Int32) + ((4 : Int32) * a1)) + a2))) X rfl hb6 rfl dX8_meetSole_29 ?_
    refine sv_sig (fun s7 es7 => ?_)
    replace hM3 := fr_lete hM3 es7
    refine sv_aload_n (i := 0) X dX8_meetSole_30 rfl rfl ?_
    refine sv_getr X ix_X8 rfl 5 (by decide) rfl rfl fl_X8_19 dX8_meetSole_31 ?_
    refine sv_bipush (v := 86) X dX8_meetSole_34 (by decide) ?_
    refine sv_iconst (v := 4) X dX8_meetSole_36 (by decide) ?_
    refine sv_iload_n (i := 1) X dX8_meetSole_37 rfl rfl ?_
    refine sv_imul X dX8_meetSole_38 ?_
    refine sv_iadd X dX8_meetSole_39 ?_
    refine sv_iload_n (i := 2) X dX8_meetSole_40 rfl rfl ?_
    refine sv_iadd X dX8_meetSole_41 ?_
    refine sv_aload_n (i := 0) X dX8_meetSole_42 rfl rfl ?_
    refine sv_getr X ix_X8 rfl 5 (by decide) rfl rfl fl_X8_19 dX8_meetSole_43 ?_
    refine sv_iconst (v := 4) X dX8_meetSole_46 (by decide) ?_
    refine sv_iald (j := 4) X rfl (by decide) (by decide) dX8_meetSole_47 ?_
    obtain ⟨hb8, hM3⟩ := fr_chk hM3
    refine sv_iast (j := (fr_ix (((86 : Int32) + ((4 : Int32) * a1)) + a2))) X rfl hb8 rfl dX8_meetSole_48 ?_
    refine sv_sig (fun s9 es9 => ?_)
    replace hM3 := fr_lete hM3 es9
    obtain rfl := fr_i1 hM3
    exact K4
theorem c_X8_meetSole {l : Launch} {g : fr_G} {a1 : Int32} {a2 : Int32}  {σ τ : fr_St} (hF : F_X8_meetSole a1 a2 σ = some τ) : fr_Cv l g yX8_meetSole (fr_ws yX8_meetSole cX8_meetSole 3 (Option.none : Option Jvm.ClassFile.FieldType)) 0 [.ref (g.2.1 59), .int a1, .int a2] σ τ := fr_mv (by decide) (Nat.le_of_ble_eq_true rfl) (fun p e s m below meth c X hr => b_X8_meetSole X hr  rfl hF)
def F_X8_goOver (a1 : Int32) (a2 : Int32) (σ : fr_St) : Option fr_St := if fr_ib ((6 : Int32) + a1) 122 = true then fr_bP (F_X8_across a2 (σ 63 (fr_ix ((6 : Int32) + a1))) σ) (fun r4 s3 => if fr_ib ((6 : Int32) + a1) 122 = true then fr_let (fr_up s3 63 (fr_ix ((6 : Int32) + a1)) r4) (fun s6 => if fr_ib ((14 : Int32) + a2) 122 = true then fr_bS (if (s6 63 (fr_ix ((14 : Int32) + a2))) = (5 : Int32) then (if fr_ib ((41 : Int32) + a2) 122 = true then some ((s6 63 (fr_ix ((41 : Int32) + a2)))) else none) else (some ((0 : Int32)))) (fun v8 => fr_let (fr_up s6 63 5 ((s6 63 5) + v8)) (fun s11 => fr_bP (F_X8_soleOf a1 s11) (fun r14 s13 => fr_bS (F_X8_meetSole a2 r14 s13) (fun s16 => some s16)))) else none) else none) else none
set_option maxRecDepth 100000 in
set_option maxHeartbeats 4000000 in
theorem b_X8_goOver {p : Program} {l : Launch} {e : Env} {s : State} {m : MethodId} {args : Array Value} {below : List Frame} {meth : Method} {c : Code} {g : fr_G} {Q : State → Prop} (X : fr_X p s m args meth c g cX8_goOver RX8 3) (hr : meth.sig.returnType = (Option.none : Option Jvm.ClassFile.FieldType)) {a1 : Int32} {a2 : Int32}  {σ τ : fr_St} (hQ : Q = fr_Qv below args s g τ) (hF : F_X8_goOver a1 a2 σ = some τ) : fr_V p l e (fr_rm 1) s m args below meth c g Q 3 σ 0 [(0, .ref (g.2.1 59)), (1, .int a1), (2, .int a2)] [] := by
  unfold F_X8_goOver at hF
  refine sv_aload_n (i := 0) X dX8_goOver_0 rfl rfl ?_
  refine sv_getr X ix_X8 rfl 5 (by decide) rfl rfl fl_X8_19 dX8_goOver_1 ?_
  refine sv_bipush (v := 6) X dX8_goOver_4 (by decide) ?_
  refine sv_iload_n (i := 1) X dX8_goOver_6 rfl rfl ?_
  refine sv_iadd X dX8_goOver_7 ?_
  refine sv_aload_n (i := 0) X dX8_goOver_8 rfl rfl ?_
  refine sv_iload_n (i := 2) X dX8_goOver_9 rfl rfl ?_
  refine sv_aload_n (i := 0) X dX8_goOver_10 rfl rfl ?_
  refine sv_getr X ix_X8 rfl 5 (by decide) rfl rfl fl_X8_19 dX8_goOver_11 ?_
  refine sv_bipush (v := 6) X dX8_goOver_14 (by decide) ?_
  refine sv_iload_n (i := 1) X dX8_goOver_16 rfl rfl ?_
  refine sv_iadd X dX8_goOver_17 ?_
  obtain ⟨hb1, hF⟩ := fr_chk hF
  refine sv_iald (j := (fr_ix ((6 : Int32) + a1))) X rfl hb1 rfl dX8_goOver_18 ?_
  obtain ⟨r4, s3, hc2, hF⟩ := fr_bP_some hF
  refine sv_callVi X (c_X8_across hc2) cd_X8_across ml_X8_172 im_X8_across se_X8_across in_RX8 hd_X8_across rfl rfl (by decide) rfl (Nat.le_of_ble_eq_true rfl) dX8_goOver_19 rfl ?_
  obtain ⟨hb5, hF⟩ := fr_chk hF
  refine sv_iast (j := (fr_ix ((6 : Int32) + a1))) X rfl hb5 rfl dX8_goOver_22 ?_
  refine sv_sig (fun s6 es6 => ?_)
  replace hF := fr_lete hF es6
  refine sv_aload_n (i := 0) X dX8_goOver_23 rfl rfl ?_
  refine sv_getr X ix_X8 rfl 5 (by decide) rfl rfl fl_X8_19 dX8_goOver_24 ?_
  refine sv_iconst (v := 5) X dX8_goOver_27 (by decide) ?_
  refine sv_dup2 X dX8_goOver_28 rfl rfl ?_
  refine sv_iald (j := 5) X rfl (by decide) (by decide) dX8_goOver_29 ?_
  refine sv_aload_n (i := 0) X dX8_goOver_30 rfl rfl ?_
  refine sv_getr X ix_X8 rfl 5 (by decide) rfl rfl fl_X8_19 dX8_goOver_31 ?_
  refine sv_bipush (v := 14) X dX8_goOver_34 (by decide) ?_
  refine sv_iload_n (i := 2) X dX8_goOver_36 rfl rfl ?_
  refine sv_iadd X dX8_goOver_37 ?_
  obtain ⟨hb7, hF⟩ := fr_chk hF
  refine sv_iald (j := (fr_ix ((14 : Int32) + a2))) X rfl hb7 rfl dX8_goOver_38 ?_
  refine sv_iconst (v := 5) X dX8_goOver_39 (by decide) ?_
  obtain ⟨v8, hM9, hF⟩ := fr_bS_some hF
  have K10 : fr_V p l e (fr_rm 1) s m args below meth c g Q 3 s6 56 [(0, .ref (g.2.1 59)), (1, .int a1), (2, .int a2)] [.int v8, .int (s6 63 5), .int (5 : Int32), .ref (g.2.1 63)] := by
    refine sv_iadd X dX8_goOver_56 ?_
    refine sv_iast (j := 5) X rfl (by decide) (by decide) dX8_goOver_57 ?_
    refine sv_sig (fun s11 es11 => ?_)
    replace hF := fr_lete hF es11
    refine sv_aload_n (i := 0) X dX8_goOver_58 rfl rfl ?_
    refine sv_iload_n (i := 2) X dX8_goOver_59 rfl rfl ?_
    refine sv_aload_n (i := 0) X dX8_goOver_60 rfl rfl ?_
    refine sv_iload_n (i := 1) X dX8_goOver_61 rfl rfl ?_
    obtain ⟨r14, s13, hc12, hF⟩ := fr_bP_some hF
    refine sv_callVi X (c_X8_soleOf hc12) cd_X8_soleOf ml_X8_175 im_X8_soleOf se_X8_soleOf in_RX8 hd_X8_soleOf rfl rfl (by decide) rfl (Nat.le_of_ble_eq_true rfl) dX8_goOver_62 rfl ?_
    obtain ⟨s16, hc15, hF⟩ := fr_bS_some hF
    refine sv_callVv X (c_X8_meetSole hc15) cd_X8_meetSole ml_X8_178 im_X8_meetSole se_X8_meetSole in_RX8 hd_X8_meetSole rfl rfl (by decide) rfl (Nat.le_of_ble_eq_true rfl) dX8_goOver_65 rfl ?_
    exact sv_vret X hr hQ dX8_goOver_68 hF
  refine sv_icmp_ne (tgt := 55) X dX8_goOver_40 (by decide) (fun h18 => ?_) (fun h18 => ?_)
  · replace hM9 := fr_neg hM9 h18
    refine sv_iconst (v := 0) X dX8_goOver_55 (by decide) ?_
    obtain rfl := fr_i1 hM9
    exact K10
  · replace hM9 := fr_pos hM9 h18
    refine sv_aload_n (i := 0) X dX8_goOver_43 rfl rfl ?_
    refine sv_getr X ix_X8 rfl 5 (by decide) rfl rfl fl_X8_19 dX8_goOver_44 ?_
    refine sv_bipush (v := 41) X dX8_goOver_47 (by decide) ?_
    refine sv_iload_n (i := 2) X dX8_goOver_49 rfl rfl ?_
    refine sv_iadd X dX8_goOver_50 ?_
    obtain ⟨hb17, hM9⟩ := fr_chk hM9
    refine sv_iald (j := (fr_ix ((41 : Int32) + a2))) X rfl hb17 rfl dX8_goOver_51 ?_
    refine sv_goto (tgt := 56) X dX8_goOver_52 (by decide) ?_
    obtain rfl := fr_i1 hM9
    exact K10
theorem c_X8_goOver {l : Launch} {g : fr_G} {a1 : Int32} {a2 : Int32}  {σ τ : fr_St} (hF : F_X8_goOver a1 a2 σ = some τ) : fr_Cv l g yX8_goOver (fr_ws yX8_goOver cX8_goOver 3 (Option.none : Option Jvm.ClassFile.FieldType)) 1 [.ref (g.2.1 59), .int a1, .int a2] σ τ := fr_mv (by decide) (Nat.le_of_ble_eq_true rfl) (fun p e s m below meth c X hr => b_X8_goOver X hr  rfl hF)
def F_X8_walk (a1 : Int32) (a2 : Int32) (σ : fr_St) : Option (Int32 × fr_St) := fr_bP (F_X8_isPerson a1 σ) (fun b3 s2 => if (fr_bi b3) = 0 then (some ((-1000001 : Int32), s2)) else (fr_bP (F_X8_isRoad a2 s2) (fun b6 s5 => if (fr_bi b6) = 0 then (some ((-1000001 : Int32), s5)) else (if fr_ib ((6 : Int32) + a1) 122 = true then fr_bP (F_X8_across a2 (s5 63 (fr_ix ((6 : Int32) + a1))) s5) (fun r10 s9 => if r10 < 0 then (some ((-1000002 : Int32), s9)) else (fr_bP (F_X8_soleOf a1 s9) (fun r13 s12 => fr_bP (F_X8_opens a2 r13 s12) (fun b16 s15 => if (fr_bi b16) = 0 then (some ((-1000002 : Int32), s15)) else (fr_bS (F_X8_note s15) (fun s18 => fr_bS (F_X8_goOver a1 a2 s18) (fun s20 => if fr_ib ((6 : Int32) + a1) 122 = true then some ((s20 63 (fr_ix ((6 : Int32) + a1))), s20) else none))))))) else none))))
set_option maxRecDepth 100000 in
set_option maxHeartbeats 4000000 in
theorem b_X8_walk {p : Program} {l : Launch} {e : Env} {s : State} {m : MethodId} {args : Array Value} {below : List Frame} {meth : Method} {c : Code} {g : fr_G} {Q : State → Prop} (X : fr_X p s m args meth c g cX8_walk RX8 3) (hr : meth.sig.returnType = (some .int)) {a1 : Int32} {a2 : Int32}  {σ τ : fr_St} {r : Int32} (hQ : Q = fr_Qi below args s g r τ) (hF : F_X8_walk a1 a2 σ = some (r, τ)) : fr_V p l e (fr_rm 3) s m args below meth c g Q 3 σ 0 [(0, .ref (g.2.1 59)), (1, .int a1), (2, .int a2)] [] := by
  unfold F_X8_walk at hF
  refine sv_aload_n (i := 0) X dX8_walk_0 rfl rfl ?_
  refine sv_iload_n (i := 1) X dX8_walk_1 rfl rfl ?_
  obtain ⟨b3, s2, hc1, hF⟩ := fr_bP_some hF
  refine sv_callVi X (c_X8_isPerson hc1) cd_X8_isPerson ml_X8_156 im_X8_isPerson se_X8_isPerson in_RX8 hd_X8_isPerson rfl rfl (by decide) rfl (Nat.le_of_ble_eq_true rfl) dX8_walk_2 rfl ?_
  refine sv_if_eq (tgt := 16) X dX8_walk_5 (by decide) (fun h25 => ?_) (fun h25 => ?_)
  · replace hF := fr_pos hF h25
    refine sv_ldc X kn_X8_73 dX8_walk_16 ?_
    exact sv_iret X hr hQ dX8_walk_18 hF
  · replace hF := fr_neg hF h25
    refine sv_aload_n (i := 0) X dX8_walk_8 rfl rfl ?_
    refine sv_iload_n (i := 2) X dX8_walk_9 rfl rfl ?_
    obtain ⟨b6, s5, hc4, hF⟩ := fr_bP_some hF
    refine sv_callVi X (c_X8_isRoad hc4) cd_X8_isRoad ml_X8_182 im_X8_isRoad se_X8_isRoad in_RX8 hd_X8_isRoad rfl rfl (by decide) rfl (Nat.le_of_ble_eq_true rfl) dX8_walk_10 rfl ?_
    refine sv_if_ne (tgt := 19) X dX8_walk_13 (by decide) (fun h24 => ?_) (fun h24 => ?_)
    · replace hF := fr_neg hF h24
      refine sv_aload_n (i := 0) X dX8_walk_19 rfl rfl ?_
      refine sv_iload_n (i := 2) X dX8_walk_20 rfl rfl ?_
      refine sv_aload_n (i := 0) X dX8_walk_21 rfl rfl ?_
      refine sv_getr X ix_X8 rfl 5 (by decide) rfl rfl fl_X8_19 dX8_walk_22 ?_
      refine sv_bipush (v := 6) X dX8_walk_25 (by decide) ?_
      refine sv_iload_n (i := 1) X dX8_walk_27 rfl rfl ?_
      refine sv_iadd X dX8_walk_28 ?_
      obtain ⟨hb7, hF⟩ := fr_chk hF
      refine sv_iald (j := (fr_ix ((6 : Int32) + a1))) X rfl hb7 rfl dX8_walk_29 ?_
      obtain ⟨r10, s9, hc8, hF⟩ := fr_bP_some hF
      refine sv_callVi X (c_X8_across hc8) cd_X8_across ml_X8_172 im_X8_across se_X8_across in_RX8 hd_X8_across rfl rfl (by decide) rfl (Nat.le_of_ble_eq_true rfl) dX8_walk_30 rfl ?_
      refine sv_if_lt (tgt := 49) X dX8_walk_33 (by decide) (fun h23 => ?_) (fun h23 => ?_)
      · replace hF := fr_pos hF h23
        refine sv_ldc X kn_X8_185 dX8_walk_49 ?_
        exact sv_iret X hr hQ dX8_walk_51 hF
      · replace hF := fr_neg hF h23
        refine sv_aload_n (i := 0) X dX8_walk_36 rfl rfl ?_
        refine sv_iload_n (i := 2) X dX8_walk_37 rfl rfl ?_
        refine sv_aload_n (i := 0) X dX8_walk_38 rfl rfl ?_
        refine sv_iload_n (i := 1) X dX8_walk_39 rfl rfl ?_
        obtain ⟨r13, s12, hc11, hF⟩ := fr_bP_some hF
        refine sv_callVi X (c_X8_soleOf hc11) cd_X8_soleOf ml_X8_175 im_X8_soleOf se_X8_soleOf in_RX8 hd_X8_soleOf rfl rfl (by decide) rfl (Nat.le_of_ble_eq_true rfl) dX8_walk_40 rfl ?_
        obtain ⟨b16, s15, hc14, hF⟩ := fr_bP_some hF
        refine sv_callVi X (c_X8_opens hc14) cd_X8_opens ml_X8_169 im_X8_opens se_X8_opens in_RX8 hd_X8_opens rfl rfl (by decide) rfl (Nat.le_of_ble_eq_true rfl) dX8_walk_43 rfl ?_
        refine sv_if_ne (tgt := 52) X dX8_walk_46 (by decide) (fun h22 => ?_) (fun h22 => ?_)
        · replace hF := fr_neg hF h22
          refine sv_aload_n (i := 0) X dX8_walk_52 rfl rfl ?_
          obtain ⟨s18, hc17, hF⟩ := fr_bS_some hF
          refine sv_callVv X (c_X8_note hc17) cd_X8_note ml_X8_186 im_X8_note se_X8_note in_RX8 hd_X8_note rfl rfl (by decide) rfl (Nat.le_of_ble_eq_true rfl) dX8_walk_53 rfl ?_
          refine sv_aload_n (i := 0) X dX8_walk_56 rfl rfl ?_
          refine sv_iload_n (i := 1) X dX8_walk_57 rfl rfl ?_
          refine sv_iload_n (i := 2) X dX8_walk_58 rfl rfl ?_
          obtain ⟨s20, hc19, hF⟩ := fr_bS_some hF
          refine sv_callVv X (c_X8_goOver hc19) cd_X8_goOver ml_X8_189 im_X8_goOver se_X8_goOver in_RX8 hd_X8_goOver rfl rfl (by decide) rfl (Nat.le_of_ble_eq_true rfl) dX8_walk_59 rfl ?_
          refine sv_aload_n (i := 0) X dX8_walk_62 rfl rfl ?_
          refine sv_getr X ix_X8 rfl 5 (by decide) rfl rfl fl_X8_19 dX8_walk_63 ?_
          refine sv_bipush (v := 6) X dX8_walk_66 (by decide) ?_
          refine sv_iload_n (i := 1) X dX8_walk_68 rfl rfl ?_
          refine sv_iadd X dX8_walk_69 ?_
          obtain ⟨hb21, hF⟩ := fr_chk hF
          refine sv_iald (j := (fr_ix ((6 : Int32) + a1))) X rfl hb21 rfl dX8_walk_70 ?_
          exact sv_iret X hr hQ dX8_walk_71 hF
        · replace hF := fr_pos hF h22
          refine sv_ldc X kn_X8_185 dX8_walk_49 ?_
          exact sv_iret X hr hQ dX8_walk_51 hF
    · replace hF := fr_pos hF h24
      refine sv_ldc X kn_X8_73 dX8_walk_16 ?_
      exact sv_iret X hr hQ dX8_walk_18 hF
theorem c_X8_walk {l : Launch} {g : fr_G} {a1 : Int32} {a2 : Int32}  {σ τ : fr_St} {r : Int32} (hF : F_X8_walk a1 a2 σ = some (r, τ)) : fr_Ci l g yX8_walk (fr_ws yX8_walk cX8_walk 3 (some .int)) 3 [.ref (g.2.1 59), .int a1, .int a2] σ r τ := fr_mi (by decide) (Nat.le_of_ble_eq_true rfl) (fun p e s m below meth c X hr => b_X8_walk X hr  rfl hF)
def F_X8_lead (a1 : Int32) (a2 : Int32) (a3 : Int32) (σ : fr_St) : Option (Int32 × fr_St) := fr_bP (F_X8_areTwo a1 a2 σ) (fun b3 s2 => if (fr_bi b3) = 0 then (some ((-1000001 : Int32), s2)) else (fr_bP (F_X8_isRoad a3 s2) (fun b6 s5 => if (fr_bi b6) = 0 then (some ((-1000001 : Int32), s5)) else (if fr_ib ((6 : Int32) + a1) 122 = true then if fr_ib ((6 : Int32) + a2) 122 = true then fr_bS (if (s5 63 (fr_ix ((6 : Int32) + a1))) = (s5 63 (fr_ix ((6 : Int32) + a2))) then (some ((1 : Int32))) else (some ((0 : Int32)))) (fun v9 => if v9 = 0 then (some ((-1000002 : Int32), s5)) else (if fr_ib ((6 : Int32) + a1) 122 = true then fr_bP (F_X8_across a3 (s5 63 (fr_ix ((6 : Int32) + a1))) s5) (fun r15 s14 => if r15 < 0 then (some ((-1000002 : Int32), s14)) else (fr_bP (F_X8_soleOf a1 s14) (fun r18 s17 => fr_bP (F_X8_opens a3 r18 s17) (fun b21 s20 => if (fr_bi b21) = 0 then (some ((-1000002 : Int32), s20)) else (fr_bS (F_X8_note s20) (fun s23 => fr_bS (F_X8_goOver a1 a3 s23) (fun s25 => fr_bS (F_X8_goOver a2 a3 s25) (fun s27 => if fr_ib ((6 : Int32) + a1) 122 = true then some ((s27 63 (fr_ix ((6 : Int32) + a1))), s27) else none)))))))) else none)) else none else none))))
set_option maxRecDepth 100000 in
set_option maxHeartbeats 4000000 in
theorem b_X8_lead {p : Program} {l : Launch} {e : Env} {s : State} {m : MethodId} {args : Array Value} {below : List Frame} {meth : Method} {c : Code} {g : fr_G} {Q : State → Prop} (X : fr_X p s m args meth c g cX8_lead RX8 5) (hr : meth.sig.returnType = (some .int)) {a1 : Int32} {a2 : Int32} {a3 : Int32}  {σ τ : fr_St} {r : Int32} (hQ : Q = fr_Qi below args s g r τ) (hF : F_X8_lead a1 a2 a3 σ = some (r, τ)) : fr_V p l e (fr_rm 3) s m args below meth c g Q 5 σ 0 [(0, .ref (g.2.1 59)), (1, .int a1), (2, .int a2), (3, .int a3)] [] := by
  unfold F_X8_lead at hF
  refine sv_aload_n (i := 0) X dX8_lead_0 rfl rfl ?_
  refine sv_iload_n (i := 1) X dX8_lead_1 rfl rfl ?_
  refine sv_iload_n (i := 2) X dX8_lead_2 rfl rfl ?_
  obtain ⟨b3, s2, hc1, hF⟩ := fr_bP_some hF
  refine sv_callVi X (c_X8_areTwo hc1) cd_X8_areTwo ml_X8_192 im_X8_areTwo se_X8_areTwo in_RX8 hd_X8_areTwo rfl rfl (by decide) rfl (Nat.le_of_ble_eq_true rfl) dX8_lead_3 rfl ?_
  refine sv_if_eq (tgt := 17) X dX8_lead_6 (by decide) (fun h34 => ?_) (fun h34 => ?_)
  · replace hF := fr_pos hF h34
    refine sv_ldc X kn_X8_73 dX8_lead_17 ?_
    exact sv_iret X hr hQ dX8_lead_19 hF
  · replace hF := fr_neg hF h34
    refine sv_aload_n (i := 0) X dX8_lead_9 rfl rfl ?_
    refine sv_iload_n (i := 3) X dX8_lead_10 rfl rfl ?_
    obtain ⟨b6, s5, hc4, hF⟩ := fr_bP_some hF
    refine sv_callVi X (c_X8_isRoad hc4) cd_X8_isRoad ml_X8_182 im_X8_isRoad se_X8_isRoad in_RX8 hd_X8_isRoad rfl rfl (by decide) rfl (Nat.le_of_ble_eq_true rfl) dX8_lead_11 rfl ?_
    refine sv_if_ne (tgt := 20) X dX8_lead_14 (by decide) (fun h33 => ?_) (fun h33 => ?_)
    · replace hF := fr_neg hF h33
      refine sv_aload_n (i := 0) X dX8_lead_20 rfl rfl ?_
      refine sv_getr X ix_X8 rfl 5 (by decide) rfl rfl fl_X8_19 dX8_lead_21 ?_
      refine sv_bipush (v := 6) X dX8_lead_24 (by decide) ?_
      refine sv_iload_n (i := 1) X dX8_lead_26 rfl rfl ?_
      refine sv_iadd X dX8_lead_27 ?_
      obtain ⟨hb7, hF⟩ := fr_chk hF
      refine sv_iald (j := (fr_ix ((6 : Int32) + a1))) X rfl hb7 rfl dX8_lead_28 ?_
      refine sv_aload_n (i := 0) X dX8_lead_29 rfl rfl ?_
      refine sv_getr X ix_X8 rfl 5 (by decide) rfl rfl fl_X8_19 dX8_lead_30 ?_
      refine sv_bipush (v := 6) X dX8_lead_33 (by decide) ?_
      refine sv_iload_n (i := 2) X dX8_lead_35 rfl rfl ?_
      refine sv_iadd X dX8_lead_36 ?_
      obtain ⟨hb8, hF⟩ := fr_chk hF
      refine sv_iald (j := (fr_ix ((6 : Int32) + a2))) X rfl hb8 rfl dX8_lead_37 ?_
      obtain ⟨v9, hM10, hF⟩ := fr_bS_some hF
      have K11 : fr_V p l e (fr_rm 3) s m args below meth c g Q 5 s5 46 [(0, .ref (g.2.1 59)), (1, .int a1), (2, .int a2), (3, .int a3)] [.int v9] := by
        refine sv_istore X dX8_lead_46 (by decide) rfl ?_
        refine sv_iload (i := 0) X dX8_lead_48 rfl ?_
        refine sv_if_eq (tgt := 83) X dX8_lead_50 (by decide) (fun h31 => ?_) (fun h31 => ?_)
        · replace hF := fr_pos hF h31
          refine sv_ldc X kn_X8_185 dX8_lead_83 ?_
          exact sv_iret X hr hQ dX8_lead_85 hF
        · replace hF := fr_neg hF h31
          refine sv_aload_n (i := 1) X dX8_lead_53 rfl rfl ?_
          refine sv_iload_n (i := 4) X dX8_lead_54 rfl rfl ?_
          refine sv_aload_n (i := 1) X dX8_lead_55 rfl rfl ?_
          refine sv_getr X ix_X8 rfl 5 (by decide) rfl rfl fl_X8_19 dX8_lead_56 ?_
          refine sv_bipush (v := 6) X dX8_lead_59 (by decide) ?_
          refine sv_iload_n (i := 2) X dX8_lead_61 rfl rfl ?_
          refine sv_iadd X dX8_lead_62 ?_
          obtain ⟨hb12, hF⟩ := fr_chk hF
          refine sv_iald (j := (fr_ix ((6 : Int32) + a1))) X rfl hb12 rfl dX8_lead_63 ?_
          obtain ⟨r15, s14, hc13, hF⟩ := fr_bP_some hF
          refine sv_callVi X (c_X8_across hc13) cd_X8_across ml_X8_172 im_X8_across se_X8_across in_RX8 hd_X8_across rfl rfl (by decide) rfl (Nat.le_of_ble_eq_true rfl) dX8_lead_64 rfl ?_
          refine sv_if_lt (tgt := 83) X dX8_lead_67 (by decide) (fun h30 => ?_) (fun h30 => ?_)
          · replace hF := fr_pos hF h30
            refine sv_ldc X kn_X8_185 dX8_lead_83 ?_
            exact sv_iret X hr hQ dX8_lead_85 hF
          · replace hF := fr_neg hF h30
            refine sv_aload_n (i := 1) X dX8_lead_70 rfl rfl ?_
            refine sv_iload_n (i := 4) X dX8_lead_71 rfl rfl ?_
            refine sv_aload_n (i := 1) X dX8_lead_72 rfl rfl ?_
            refine sv_iload_n (i := 2) X dX8_lead_73 rfl rfl ?_
            obtain ⟨r18, s17, hc16, hF⟩ := fr_bP_some hF
            refine sv_callVi X (c_X8_soleOf hc16) cd_X8_soleOf ml_X8_175 im_X8_soleOf se_X8_soleOf in_RX8 hd_X8_soleOf rfl rfl (by decide) rfl (Nat.le_of_ble_eq_true rfl) dX8_lead_74 rfl ?_
            obtain ⟨b21, s20, hc19, hF⟩ := fr_bP_some hF
            refine sv_callVi X (c_X8_opens hc19) cd_X8_opens ml_X8_169 im_X8_opens se_X8_opens in_RX8 hd_X8_opens rfl rfl (by decide) rfl (Nat.le_of_ble_eq_true rfl) dX8_lead_77 rfl ?_
            refine sv_if_ne (tgt := 86) X dX8_lead_80 (by decide) (fun h29 => ?_) (fun h29 => ?_)
            · replace hF := fr_neg hF h29
              refine sv_aload_n (i := 1) X dX8_lead_86 rfl rfl ?_
              obtain ⟨s23, hc22, hF⟩ := fr_bS_some hF
              refine sv_callVv X (c_X8_note hc22) cd_X8_note ml_X8_186 im_X8_note se_X8_note in_RX8 hd_X8_note rfl rfl (by decide) rfl (Nat.le_of_ble_eq_true rfl) dX8_lead_87 rfl ?_
              refine sv_aload_n (i := 1) X dX8_lead_90 rfl rfl ?_
              refine sv_iload_n (i := 2) X dX8_lead_91 rfl rfl ?_
              refine sv_iload_n (i := 4) X dX8_lead_92 rfl rfl ?_
              obtain ⟨s25, hc24, hF⟩ := fr_bS_some hF
              refine sv_callVv X (c_X8_goOver hc24) cd_X8_goOver ml_X8_189 im_X8_goOver se_X8_goOver in_RX8 hd_X8_goOver rfl rfl (by decide) rfl (Nat.le_of_ble_eq_true rfl) dX8_lead_93 rfl ?_
              refine sv_aload_n (i := 1) X dX8_lead_96 rfl rfl ?_
              refine sv_iload_n (i := 3) X dX8_lead_97 rfl rfl ?_
              refine sv_iload_n (i := 4) X dX8_lead_98 rfl rfl ?_
              obtain ⟨s27, hc26, hF⟩ := fr_bS_some hF
              refine sv_callVv X (c_X8_goOver hc26) cd_X8_goOver ml_X8_189 im_X8_goOver se_X8_goOver in_RX8 hd_X8_goOver rfl rfl (by decide) rfl (Nat.le_of_ble_eq_true rfl) dX8_lead_99 rfl ?_
              refine sv_aload_n (i := 1) X dX8_lead_102 rfl rfl ?_
              refine sv_getr X ix_X8 rfl 5 (by decide) rfl rfl fl_X8_19 dX8_lead_103 ?_
              refine sv_bipush (v := 6) X dX8_lead_106 (by decide) ?_
              refine sv_iload_n (i := 2) X dX8_lead_108 rfl rfl ?_
              refine sv_iadd X dX8_lead_109 ?_
              obtain ⟨hb28, hF⟩ := fr_chk hF
              refine sv_iald (j := (fr_ix ((6 : Int32) + a1))) X rfl hb28 rfl dX8_lead_110 ?_
              exact sv_iret X hr hQ dX8_lead_111 hF
            · replace hF := fr_pos hF h29
              refine sv_ldc X kn_X8_185 dX8_lead_83 ?_
              exact sv_iret X hr hQ dX8_lead_85 hF
      refine sv_icmp_ne (tgt := 45) X dX8_lead_38 (by decide) (fun h32 => ?_) (fun h32 => ?_)
      · replace hM10 := fr_neg hM10 h32
        refine sv_iconst (v := 0) X dX8_lead_45 (by decide) ?_
        obtain rfl := fr_i1 hM10
        exact K11
      · replace hM10 := fr_pos hM10 h32
        refine sv_iconst (v := 1) X dX8_lead_41 (by decide) ?_
        refine sv_goto (tgt := 46) X dX8_lead_42 (by decide) ?_
        obtain rfl := fr_i1 hM10
        exact K11
    · replace hF := fr_pos hF h33
      refine sv_ldc X kn_X8_73 dX8_lead_17 ?_
      exact sv_iret X hr hQ dX8_lead_19 hF
theorem c_X8_lead {l : Launch} {g : fr_G} {a1 : Int32} {a2 : Int32} {a3 : Int32}  {σ τ : fr_St} {r : Int32} (hF : F_X8_lead a1 a2 a3 σ = some (r, τ)) : fr_Ci l g yX8_lead (fr_ws yX8_lead cX8_lead 5 (some .int)) 3 [.ref (g.2.1 59), .int a1, .int a2, .int a3] σ r τ := fr_mi (by decide) (Nat.le_of_ble_eq_true rfl) (fun p e s m below meth c X hr => b_X8_lead X hr  rfl hF)
def F_X8_change (a1 : Int32) (a2 : Int32) (σ : fr_St) : Option (Int32 × fr_St) := fr_bP (F_X8_areTwo a1 a2 σ) (fun b3 s2 => if (fr_bi b3) = 0 then (some ((-1000001 : Int32), s2)) else (fr_bS (F_X8_note s2) (fun s5 => fr_bP (F_X8_soleOf a1 s5) (fun r8 s7 => fr_bP (F_X8_soleOf a2 s7) (fun r11 s10 => if fr_ib ((10 : Int32) + a1) 122 = true then fr_let (fr_up s10 63 (fr_ix ((10 : Int32) + a1)) r11) (fun s13 => if fr_ib ((10 : Int32) + a2) 122 = true then fr_let (fr_up s13 63 (fr_ix ((10 : Int32) + a2)) r8) (fun s15 => fr_bP (F_X8_soleOf a1 s15) (fun r18 s17 => some (r18, s17))) else none) else none)))))
set_option maxRecDepth 100000 in
set_option maxHeartbeats 4000000 in
theorem b_X8_change {p : Program} {l : Launch} {e : Env} {s : State} {m : MethodId} {args : Array Value} {below : List Frame} {meth : Method} {c : Code} {g : fr_G} {Q : State → Prop} (X : fr_X p s m args meth c g cX8_change RX8 4) (hr : meth.sig.returnType = (some .int)) {a1 : Int32} {a2 : Int32}  {σ τ : fr_St} {r : Int32} (hQ : Q = fr_Qi below args s g r τ) (hF : F_X8_change a1 a2 σ = some (r, τ)) : fr_V p l e (fr_rm 3) s m args below meth c g Q 4 σ 0 [(0, .ref (g.2.1 59)), (1, .int a1), (2, .int a2)] [] := by
  unfold F_X8_change at hF
  refine sv_aload_n (i := 0) X dX8_change_0 rfl rfl ?_
  refine sv_iload_n (i := 1) X dX8_change_1 rfl rfl ?_
  refine sv_iload_n (i := 2) X dX8_change_2 rfl rfl ?_
  obtain ⟨b3, s2, hc1, hF⟩ := fr_bP_some hF
  refine sv_callVi X (c_X8_areTwo hc1) cd_X8_areTwo ml_X8_192 im_X8_areTwo se_X8_areTwo in_RX8 hd_X8_areTwo rfl rfl (by decide) rfl (Nat.le_of_ble_eq_true rfl) dX8_change_3 rfl ?_
  refine sv_if_ne (tgt := 12) X dX8_change_6 (by decide) (fun h19 => ?_) (fun h19 => ?_)
  · replace hF := fr_neg hF h19
    refine sv_aload_n (i := 0) X dX8_change_12 rfl rfl ?_
    obtain ⟨s5, hc4, hF⟩ := fr_bS_some hF
    refine sv_callVv X (c_X8_note hc4) cd_X8_note ml_X8_186 im_X8_note se_X8_note in_RX8 hd_X8_note rfl rfl (by decide) rfl (Nat.le_of_ble_eq_true rfl) dX8_change_13 rfl ?_
    refine sv_aload_n (i := 0) X dX8_change_16 rfl rfl ?_
    refine sv_iload_n (i := 1) X dX8_change_17 rfl rfl ?_
    obtain ⟨r8, s7, hc6, hF⟩ := fr_bP_some hF
    refine sv_callVi X (c_X8_soleOf hc6) cd_X8_soleOf ml_X8_175 im_X8_soleOf se_X8_soleOf in_RX8 hd_X8_soleOf rfl rfl (by decide) rfl (Nat.le_of_ble_eq_true rfl) dX8_change_18 rfl ?_
    refine sv_istore_n X dX8_change_21 rfl (by decide) rfl ?_
    refine sv_aload_n (i := 1) X dX8_change_22 rfl rfl ?_
    refine sv_getr X ix_X8 rfl 5 (by decide) rfl rfl fl_X8_19 dX8_change_23 ?_
    refine sv_bipush (v := 10) X dX8_change_26 (by decide) ?_
    refine sv_iload_n (i := 2) X dX8_change_28 rfl rfl ?_
    refine sv_iadd X dX8_change_29 ?_
    refine sv_aload_n (i := 1) X dX8_change_30 rfl rfl ?_
    refine sv_iload_n (i := 3) X dX8_change_31 rfl rfl ?_
    obtain ⟨r11, s10, hc9, hF⟩ := fr_bP_some hF
    refine sv_callVi X (c_X8_soleOf hc9) cd_X8_soleOf ml_X8_175 im_X8_soleOf se_X8_soleOf in_RX8 hd_X8_soleOf rfl rfl (by decide) rfl (Nat.le_of_ble_eq_true rfl) dX8_change_32 rfl ?_
    obtain ⟨hb12, hF⟩ := fr_chk hF
    refine sv_iast (j := (fr_ix ((10 : Int32) + a1))) X rfl hb12 rfl dX8_change_35 ?_
    refine sv_sig (fun s13 es13 => ?_)
    replace hF := fr_lete hF es13
    refine sv_aload_n (i := 1) X dX8_change_36 rfl rfl ?_
    refine sv_getr X ix_X8 rfl 5 (by decide) rfl rfl fl_X8_19 dX8_change_37 ?_
    refine sv_bipush (v := 10) X dX8_change_40 (by decide) ?_
    refine sv_iload_n (i := 3) X dX8_change_42 rfl rfl ?_
    refine sv_iadd X dX8_change_43 ?_
    refine sv_iload_n (i := 0) X dX8_change_44 rfl rfl ?_
    obtain ⟨hb14, hF⟩ := fr_chk hF
    refine sv_iast (j := (fr_ix ((10 : Int32) + a2))) X rfl hb14 rfl dX8_change_45 ?_
    refine sv_sig (fun s15 es15 => ?_)
    replace hF := fr_lete hF es15
    refine sv_aload_n (i := 1) X dX8_change_46 rfl rfl ?_
    refine sv_iload_n (i := 2) X dX8_change_47 rfl rfl ?_
    obtain ⟨r18, s17, hc16, hF⟩ := fr_bP_some hF
    refine sv_callVi X (c_X8_soleOf hc16) cd_X8_soleOf ml_X8_175 im_X8_soleOf se_X8_soleOf in_RX8 hd_X8_soleOf rfl rfl (by decide) rfl (Nat.le_of_ble_eq_true rfl) dX8_change_48 rfl ?_
    exact sv_iret X hr hQ dX8_change_51 hF
  · replace hF := fr_pos hF h19
    refine sv_ldc X kn_X8_73 dX8_change_9 ?_
    exact sv_iret X hr hQ dX8_change_11 hF
theorem c_X8_change {l : Launch} {g : fr_G} {a1 : Int32} {a2 : Int32}  {σ τ : fr_St} {r : Int32} (hF : F_X8_change a1 a2 σ = some (r, τ)) : fr_Ci l g yX8_change (fr_ws yX8_change cX8_change 4 (some .int)) 3 [.ref (g.2.1 59), .int a1, .int a2] σ r τ := fr_mi (by decide) (Nat.le_of_ble_eq_true rfl) (fun p e s m below meth c X hr => b_X8_change X hr  rfl hF)
def L_X8_heels_19 (k1 : Int32) : Nat → Int32 → Int32 → fr_St → Option (Int32 × Int32 × fr_St)
  | 0, _, _, _ => none
  | n + 1, x2, x3, σ => if (σ 63 2) ≤ x3 then (some (x2, x3, σ)) else (fr_bP (F_X8_soleOf k1 σ) (fun r3 s2 => fr_let ((((4 : Int32) * x3) + r3)) (fun v4 => if fr_ib ((50 : Int32) + v4) 122 = true then fr_bS (if (s2 63 (fr_ix ((50 : Int32) + v4))) ≤ 0 then (some ((0 : Int32))) else (some ((1 : Int32)))) (fun v6 => fr_let ((x2 + v6)) (fun v9 => if fr_ib ((50 : Int32) + v4) 122 = true then fr_let (fr_up s2 63 (fr_ix ((50 : Int32) + v4)) (0 : Int32)) (fun s11 => if fr_ib ((86 : Int32) + v4) 122 = true then fr_let (fr_up s11 63 (fr_ix ((86 : Int32) + v4)) (-1000000 : Int32)) (fun s13 => fr_let (x3 + (1 : Int32)) (fun v14 => L_X8_heels_19 k1 n v9 v14 s13)) else none) else none)) else none)))
set_option maxRecDepth 100000 in
set_option maxHeartbeats 4000000 in
theorem wL_X8_heels_19 {p : Program} {l : Launch} {e : Env} {s : State} {m : MethodId} {args : Array Value} {below : List Frame} {meth : Method} {c : Code} {g : fr_G} {Q : State → Prop} (X : fr_X p s m args meth c g cX8_heels RX8 5)  (k1 : Int32) {y2 : Int32} {y3 : Int32} {τ : fr_St} (K : fr_V p l e (fr_rm 2) s m args below meth c g Q 5 τ 90 [(0, .ref (g.2.1 59)), (1, .int k1), (2, .int y2), (3, .int y3)] []) : ∀ (n : Nat) (x2 : Int32) (x3 : Int32) (σ : fr_St), L_X8_heels_19 k1 n x2 x3 σ = some (y2, y3, τ) → fr_V p l e (fr_rm 2) s m args below meth c g Q 5 σ 19 [(0, .ref (g.2.1 59)), (1, .int k1), (2, .int x2), (3, .int x3)] [] := by
  intro n
  induction n with
  | zero => intro x2 x3 σ hL; cases hL
  | succ n ih =>
    intro x2 x3 σ hL
    rw [L_X8_heels_19] at hL
    refine sv_iload_n (i := 3) X dX8_heels_19 rfl rfl ?_
    refine sv_aload_n (i := 0) X dX8_heels_20 rfl rfl ?_
    refine sv_getr X ix_X8 rfl 5 (by decide) rfl rfl fl_X8_19 dX8_heels_21 ?_
    refine sv_iconst (v := 2) X dX8_heels_24 (by decide) ?_
    refine sv_iald (j := 2) X rfl (by decide) (by decide) dX8_heels_25 ?_
    refine sv_icmp_ge (tgt := 90) X dX8_heels_26 (by decide) (fun h16 => ?_) (fun h16 => ?_)
    · replace hL := fr_pos hL h16
      obtain ⟨rfl, rfl, rfl⟩ := fr_i3 hL
      exact K
    · replace hL := fr_neg hL h16
      refine sv_iconst (v := 4) X dX8_heels_29 (by decide) ?_
      refine sv_iload_n (i := 3) X dX8_heels_30 rfl rfl ?_
      refine sv_imul X dX8_heels_31 ?_
      refine sv_aload_n (i := 0) X dX8_heels_32 rfl rfl ?_
      refine sv_iload_n (i := 1) X dX8_heels_33 rfl rfl ?_
      obtain ⟨r3, s2, hc1, hL⟩ := fr_bP_some hL
      refine sv_callVi X (c_X8_soleOf hc1) cd_X8_soleOf ml_X8_175 im_X8_soleOf se_X8_soleOf in_RX8 hd_X8_soleOf rfl rfl (by decide) rfl (Nat.le_of_ble_eq_true rfl) dX8_heels_34 rfl ?_
      refine sv_iadd X dX8_heels_37 ?_
      refine sv_topi (fun v4 ev4 => ?_)
      replace hL := fr_lete hL ev4
      refine sv_istore X dX8_heels_38 (by decide) rfl ?_
      refine sv_iload_n (i := 3) X dX8_heels_40 rfl rfl ?_
      refine sv_aload_n (i := 1) X dX8_heels_41 rfl rfl ?_
      refine sv_getr X ix_X8 rfl 5 (by decide) rfl rfl fl_X8_19 dX8_heels_42 ?_
      refine sv_bipush (v := 50) X dX8_heels_45 (by decide) ?_
      refine sv_iload (i := 0) X dX8_heels_47 rfl ?_
      refine sv_iadd X dX8_heels_49 ?_
      obtain ⟨hb5, hL⟩ := fr_chk hL
      refine sv_iald (j := (fr_ix ((50 : Int32) + v4))) X rfl hb5 rfl dX8_heels_50 ?_
      obtain ⟨v6, hM7, hL⟩ := fr_bS_some hL
      have K8 : fr_V p l e (fr_rm 2) s m args below meth c g Q 5 s2 59 [(0, .ref (g.2.1 59)), (1, .int k1), (2, .int x2), (3, .int x3), (4, .int v4)] [.int v6, .int x2] := by
        refine sv_iadd X dX8_heels_59 ?_
        refine sv_topi (fun v9 ev9 => ?_)
        replace hL := fr_lete hL ev9
        refine sv_istore_n X dX8_heels_60 rfl (by decide) rfl ?_
        refine sv_aload_n (i := 1) X dX8_heels_61 rfl rfl ?_
        refine sv_getr X ix_X8 rfl 5 (by decide) rfl rfl fl_X8_19 dX8_heels_62 ?_
        refine sv_bipush (v := 50) X dX8_heels_65 (by decide) ?_
        refine sv_iload (i := 4) X dX8_heels_67 rfl ?_
        refine sv_iadd X dX8_heels_69 ?_
        refine sv_iconst (v := 0) X dX8_heels_70 (by decide) ?_
        obtain ⟨hb10, hL⟩ := fr_chk hL
        refine sv_iast (j := (fr_ix ((50 : Int32) + v4))) X rfl hb10 rfl dX8_heels_71 ?_
        refine sv_sig (fun s11 es11 => ?_)
        replace hL := fr_lete hL es11
        refine sv_aload_n (i := 1) X dX8_heels_72 rfl rfl ?_
        refine sv_getr X ix_X8 rfl 5 (by decide) rfl rfl fl_X8_19 dX8_heels_73 ?_
        refine sv_bipush (v := 86) X dX8_heels_76 (by decide) ?_
        refine sv_iload (i := 4) X dX8_heels_78 rfl ?_
        refine sv_iadd X dX8_heels_80 ?_
        refine sv_ldc X kn_X8_134 dX8_heels_81 ?_
        obtain ⟨hb12, hL⟩ := fr_chk hL
        refine sv_iast (j := (fr_ix ((86 : Int32) + v4))) X rfl hb12 rfl dX8_heels_83 ?_
        refine sv_sig (fun s13 es13 => ?_)
        replace hL := fr_lete hL es13
        obtain ⟨v14, ev14⟩ : ∃ y : Int32, y = x3 + (1 : Int32) := ⟨_, rfl⟩
        replace hL := fr_lete hL ev14
        refine sv_iinc (i := 3) (v := v14) X dX8_heels_84 rfl (by rw [ev14]; rfl) (by decide) rfl ?_
        refine sv_goto (tgt := 19) X dX8_heels_87 (by decide) ?_
        exact sv_perm [2, 3, 1, 0] rfl (ih _ _ _ hL)
      refine sv_if_le (tgt := 58) X dX8_heels_51 (by decide) (fun h15 => ?_) (fun h15 => ?_)
      · replace hM7 := fr_pos hM7 h15
        refine sv_iconst (v := 0) X dX8_heels_58 (by decide) ?_
        obtain rfl := fr_i1 hM7
        exact sv_perm [1, 2, 3, 4, 0] rfl K8
      · replace hM7 := fr_neg hM7 h15
        refine sv_iconst (v := 1) X dX8_heels_54 (by decide) ?_
        refine sv_goto (tgt := 59) X dX8_heels_55 (by decide) ?_
        obtain rfl := fr_i1 hM7
        exact sv_perm [1, 2, 3, 4, 0] rfl K8
def F_X8_heels (a1 : Int32) (σ : fr_St) : Option (Int32 × fr_St) := fr_bP (F_X8_isPerson a1 σ) (fun b3 s2 => if (fr_bi b3) = 0 then (some ((-1000001 : Int32), s2)) else (fr_bS (F_X8_note s2) (fun s5 => fr_bP (L_X8_heels_19 a1 fr_fu (0 : Int32) (0 : Int32) s5) (fun v6 q10 => fr_pP q10 (fun v7 s8 => some (v6, s8))))))
set_option maxRecDepth 100000 in
set_option maxHeartbeats 4000000 in
theorem b_X8_heels {p : Program} {l : Launch} {e : Env} {s : State} {m : MethodId} {args : Array Value} {below : List Frame} {meth : Method} {c : Code} {g : fr_G} {Q : State → Prop} (X : fr_X p s m args meth c g cX8_heels RX8 5) (hr : meth.sig.returnType = (some .int)) {a1 : Int32}  {σ τ : fr_St} {r : Int32} (hQ : Q = fr_Qi below args s g r τ) (hF : F_X8_heels a1 σ = some (r, τ)) : fr_V p l e (fr_rm 2) s m args below meth c g Q 5 σ 0 [(0, .ref (g.2.1 59)), (1, .int a1)] [] := by
  unfold F_X8_heels at hF
  refine sv_aload_n (i := 0) X dX8_heels_0 rfl rfl ?_
  refine sv_iload_n (i := 1) X dX8_heels_1 rfl rfl ?_
  obtain ⟨b3, s2, hc1, hF⟩ := fr_bP_some hF
  refine sv_callVi X (c_X8_isPerson hc1) cd_X8_isPerson ml_X8_156 im_X8_isPerson se_X8_isPerson in_RX8 hd_X8_isPerson rfl rfl (by decide) rfl (Nat.le_of_ble_eq_true rfl) dX8_heels_2 rfl ?_
  refine sv_if_ne (tgt := 11) X dX8_heels_5 (by decide) (fun h11 => ?_) (fun h11 => ?_)
  · replace hF := fr_neg hF h11
    refine sv_aload_n (i := 0) X dX8_heels_11 rfl rfl ?_
    obtain ⟨s5, hc4, hF⟩ := fr_bS_some hF
    refine sv_callVv X (c_X8_note hc4) cd_X8_note ml_X8_186 im_X8_note se_X8_note in_RX8 hd_X8_note rfl rfl (by decide) rfl (Nat.le_of_ble_eq_true rfl) dX8_heels_12 rfl ?_
    refine sv_iconst (v := 0) X dX8_heels_15 (by decide) ?_
    refine sv_istore_n X dX8_heels_16 rfl (by decide) rfl ?_
    refine sv_iconst (v := 0) X dX8_heels_17 (by decide) ?_
    refine sv_istore_n X dX8_heels_18 rfl (by decide) rfl ?_
    refine sv_perm [2, 3, 1, 0] rfl ?_
    obtain ⟨v6, ⟨v7, s8⟩, hl9, hF⟩ := fr_bP_some hF
    dsimp only [fr_pP] at hF
    refine wL_X8_heels_19 X  a1 ?_ fr_fu _ _ _ hl9
    refine sv_iload_n (i := 2) X dX8_heels_90 rfl rfl ?_
    exact sv_iret X hr hQ dX8_heels_91 hF
  · replace hF := fr_pos hF h11
    refine sv_ldc X kn_X8_73 dX8_heels_8 ?_
    exact sv_iret X hr hQ dX8_heels_10 hF
theorem c_X8_heels {l : Launch} {g : fr_G} {a1 : Int32}  {σ τ : fr_St} {r : Int32} (hF : F_X8_heels a1 σ = some (r, τ)) : fr_Ci l g yX8_heels (fr_ws yX8_heels cX8_heels 5 (some .int)) 2 [.ref (g.2.1 59), .int a1] σ r τ := fr_mi (by decide) (Nat.le_of_ble_eq_true rfl) (fun p e s m below meth c X hr => b_X8_heels X hr  rfl hF)
