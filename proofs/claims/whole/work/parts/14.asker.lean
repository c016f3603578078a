def F_X1_askAnew (B : Int32 → Int32 → Int32 → fr_St → Option (Int32 × fr_St)) (a1 a2 a3 : Int32) (σ : fr_St) : Option (Int32 × fr_St) := fr_bP (F_X3_kindOf 15 a1 σ) (fun r3 s2 => fr_bP (F_X1_bodyFor r3 a2 s2) (fun r6 s5 => fr_bP (B r6 a1 (a3 + (1 : Int32)) s5) (fun r9 s8 => some (r9, s8))))
set_option maxRecDepth 100000 in
set_option maxHeartbeats 4000000 in
theorem b_X1_askAnew {p : Program} {l : Launch} {e : Env} {s : State} {m : MethodId} {args : Array Value} {below : List Frame} {meth : Method} {c : Code} {g : fr_G} {Q : State → Prop} (X : fr_X p s m args meth c g cX1_answer RX1 4) (hr : meth.sig.returnType = some .int) {B : Int32 → Int32 → Int32 → fr_St → Option (Int32 × fr_St)} {hb : Nat} (hB : ∀ (a1 a2 a3 : Int32) (σ : fr_St) (r : Int32) (τ : fr_St), B a1 a2 a3 σ = some (r, τ) → fr_Ci l g yX1_begin (fr_ws yX1_begin cX1_begin 5 (some .int)) hb [.ref (g.2.1 53), .int a1, .int a2, .int a3] σ r τ) (hh : 5 ≤ hb) {a1 a2 a3 : Int32} {σ τ : fr_St} {r : Int32} (hQ : Q = fr_Qi below args s g r τ) (hF : F_X1_askAnew B a1 a2 a3 σ = some (r, τ)) : fr_V p l e (fr_rm (hb + 1)) s m args below meth c g Q 4 σ 0 [(0, .ref (g.2.1 53)), (1, .int a1), (2, .int a2), (3, .int a3)] [] := by
  unfold F_X1_askAnew at hF
  refine sv_aload_n (i := 0) X dX1_answer_0 rfl rfl ?_
  refine sv_aload_n (i := 0) X dX1_answer_1 rfl rfl ?_
  refine sv_getr X ix_X1 rfl 0 (by decide) rfl rfl fl_X1_9 dX1_answer_2 ?_
  refine sv_iload_n (i := 1) X dX1_answer_5 rfl rfl ?_
  obtain ⟨r3, s2, hc1, hF⟩ := fr_bP_some hF
  refine sv_callVi X (c_X3_kindOf rfl rfl hc1) cd_X3_kindOf ml_X1_24 im_X3_kindOf se_X3_kindOf in_RX3 hd_X3_kindOf rfl rfl ⟨by omega, by decide⟩ rfl (Nat.le_of_ble_eq_true rfl) dX1_answer_6 rfl ?_
  refine sv_iload_n (i := 2) X dX1_answer_9 rfl rfl ?_
  obtain ⟨r6, s5, hc4, hF⟩ := fr_bP_some hF
  refine sv_callSi X (c_X1_bodyFor hc4) cd_X1_bodyFor ml_X1_30 sm_X1_bodyFor in_RX1 hd_X1_bodyFor ⟨by omega, by decide⟩ rfl (Nat.le_of_ble_eq_true rfl) dX1_answer_10 rfl ?_
  refine sv_iload_n (i := 1) X dX1_answer_13 rfl rfl ?_
  refine sv_iload_n (i := 3) X dX1_answer_14 rfl rfl ?_
  refine sv_iconst (v := 1) X dX1_answer_15 (by decide) ?_
  refine sv_iadd X dX1_answer_16 ?_
  obtain ⟨r9, s8, hc7, hF⟩ := fr_bP_some hF
  refine sv_callVi X (hB _ _ _ _ _ _ hc7) cd_X1_begin ml_X1_34 im_X1_begin se_X1_begin in_RX1 hd_X1_begin rfl rfl ⟨by omega, by decide⟩ rfl (Nat.le_of_ble_eq_true rfl) dX1_answer_17 rfl ?_
  exact sv_iret X hr hQ dX1_answer_20 hF
theorem c_X1_askAnew {l : Launch} {g : fr_G} {B : Int32 → Int32 → Int32 → fr_St → Option (Int32 × fr_St)} {hb : Nat} (hB : ∀ (a1 a2 a3 : Int32) (σ : fr_St) (r : Int32) (τ : fr_St), B a1 a2 a3 σ = some (r, τ) → fr_Ci l g yX1_begin (fr_ws yX1_begin cX1_begin 5 (some .int)) hb [.ref (g.2.1 53), .int a1, .int a2, .int a3] σ r τ) (hh : 5 ≤ hb) {a1 a2 a3 : Int32} {σ τ : fr_St} {r : Int32} (hF : F_X1_askAnew B a1 a2 a3 σ = some (r, τ)) : fr_Ci l g yX1_answer (fr_ws yX1_answer cX1_answer 4 (some .int)) (hb + 1) [.ref (g.2.1 53), .int a1, .int a2, .int a3] σ r τ := fr_mi (by decide) (Nat.le_of_ble_eq_true rfl) (fun p e s m below meth c X hr => b_X1_askAnew X hr hB hh rfl hF)
def F_X1_beginB (B : Int32 → Int32 → Int32 → fr_St → Option (Int32 × fr_St)) (a1 a2 a3 : Int32) (σ : fr_St) : Option (Int32 × fr_St) := if a3 ≤ (30 : Int32) then (fr_bS (F_X1_leave a1 σ) (fun s2 => fr_let ((a3 + (1 : Int32))) (fun v3 => if a1 = (10 : Int32) then (fr_bP (F_X3_longOf 15 a2 s2) (fun r7 s6 => some (r7, s6))) else (if a1 = (11 : Int32) then (fr_bP (B (10 : Int32) a2 v3 s2) (fun r11 s10 => fr_bP (F_X1_askAnew B a2 (1 : Int32) v3 s10) (fun r14 s13 => some ((r11 + r14), s13)))) else (if a1 = (12 : Int32) then (fr_bP (B (11 : Int32) a2 v3 s2) (fun r18 s17 => some ((-r18), s17))) else (if a1 = (13 : Int32) then (fr_bP (B (10 : Int32) a2 v3 s2) (fun r22 s21 => some ((r22 - (100 : Int32)), s21))) else (if a1 = (14 : Int32) then (fr_bP (B (13 : Int32) a2 v3 s2) (fun r26 s25 => some ((r26 * (2 : Int32)), s25))) else (if a1 = (15 : Int32) then (some ((0 : Int32), s2)) else (if a1 = (16 : Int32) then (some ((0 : Int32), s2)) else (if a1 = (17 : Int32) then (some ((0 : Int32), s2)) else (if a1 = (18 : Int32) then (some ((0 : Int32), s2)) else (if a1 = (19 : Int32) then (some ((0 : Int32), s2)) else (if a1 = (20 : Int32) then (some (a2, s2)) else (if a1 = (21 : Int32) then (fr_bP (B (20 : Int32) a2 v3 s2) (fun r36 s35 => fr_bP (F_X3_today 15 s35) (fun r39 s38 => fr_bP (F_X3_solesOf 15 a2 r39 s38) (fun r42 s41 => fr_bP (F_J6_bitCount_0f7a4 r42 s41) (fun r45 s44 => some ((r36 + r45), s44)))))) else (if a1 = (22 : Int32) then (fr_bP (B (21 : Int32) a2 v3 s2) (fun r49 s48 => some ((r49 - (1000 : Int32)), s48))) else (if a1 = (23 : Int32) then (fr_bP (B (20 : Int32) a2 v3 s2) (fun r53 s52 => fr_bP (F_X1_askAnew B a2 (0 : Int32) v3 s52) (fun r56 s55 => some ((r53 - r56), s55)))) else (if a1 = (24 : Int32) then (fr_bP (B (21 : Int32) a2 v3 s2) (fun r60 s59 => some ((r60 * (2 : Int32)), s59))) else (some ((0 : Int32), s2))))))))))))))))))) else (some ((0 : Int32), σ))
set_option maxRecDepth 100000 in
set_option maxHeartbeats 4000000 in
theorem b_X1_begin {p : Program} {l : Launch} {e : Env} {s : State} {m : MethodId} {args : Array Value} {below : List Frame} {meth : Method} {c : Code} {g : fr_G} {Q : State → Prop} (X : fr_X p s m args meth c g cX1_begin RX1 5) (hr : meth.sig.returnType = some .int) {B : Int32 → Int32 → Int32 → fr_St → Option (Int32 × fr_St)} {hb : Nat} (hB : ∀ (a1 a2 a3 : Int32) (σ : fr_St) (r : Int32) (τ : fr_St), B a1 a2 a3 σ = some (r, τ) → fr_Ci l g yX1_begin (fr_ws yX1_begin cX1_begin 5 (some .int)) hb [.ref (g.2.1 53), .int a1, .int a2, .int a3] σ r τ) (hh : 5 ≤ hb) {a1 a2 a3 : Int32} {σ τ : fr_St} {r : Int32} (hQ : Q = fr_Qi below args s g r τ) (hF : F_X1_beginB B a1 a2 a3 σ = some (r, τ)) : fr_V p l e (fr_rm (hb + 2)) s m args below meth c g Q 5 σ 0 [(0, .ref (g.2.1 53)), (1, .int a1), (2, .int a2), (3, .int a3)] [] := by
  unfold F_X1_beginB at hF
  refine sv_iload_n (i := 3) X dX1_begin_0 rfl rfl ?_
  refine sv_bipush (v := 30) X dX1_begin_1 (by decide) ?_
  refine sv_icmp_le (tgt := 8) X dX1_begin_3 (by decide) (fun h61 => ?_) (fun h61 => ?_)
  · replace hF := fr_pos hF h61
    refine sv_aload_n (i := 0) X dX1_begin_8 rfl rfl ?_
    refine sv_iload_n (i := 1) X dX1_begin_9 rfl rfl ?_
    obtain ⟨s2, hc1, hF⟩ := fr_bS_some hF
    refine sv_callVv X (c_X1_leave hc1) cd_X1_leave ml_X1_53 im_X1_leave se_X1_leave in_RX1 hd_X1_leave rfl rfl ⟨by omega, by decide⟩ rfl (Nat.le_of_ble_eq_true rfl) dX1_begin_10 rfl ?_
    refine sv_iload_n (i := 3) X dX1_begin_13 rfl rfl ?_
    refine sv_iconst (v := 1) X dX1_begin_14 (by decide) ?_
    refine sv_iadd X dX1_begin_15 ?_
    refine sv_topi (fun v3 ev3 => ?_)
    replace hF := fr_lete hF ev3
    refine sv_istore X dX1_begin_16 (by decide) rfl ?_
    refine sv_iload_n (i := 2) X dX1_begin_18 rfl rfl ?_
    by_cases h4 : a1 = (10 : Int32)
    · replace hF := fr_pos hF h4
      refine sv_tin (v := (10 : Int32)) (tgt := 92) X h4 (by decide) (by decide) rfl (by decide) dX1_begin_19 ?_
      refine sv_aload_n (i := 1) X dX1_begin_92 rfl rfl ?_
      refine sv_getr X ix_X1 rfl 0 (by decide) rfl rfl fl_X1_9 dX1_begin_93 ?_
      refine sv_iload_n (i := 3) X dX1_begin_96 rfl rfl ?_
      obtain ⟨r7, s6, hc5, hF⟩ := fr_bP_some hF
      refine sv_callVi X (c_X3_longOf rfl rfl hc5) cd_X3_longOf ml_X1_57 im_X3_longOf se_X3_longOf in_RX3 hd_X3_longOf rfl rfl ⟨by omega, by decide⟩ rfl (Nat.le_of_ble_eq_true rfl) dX1_begin_97 rfl ?_
      exact sv_iret X hr hQ dX1_begin_100 hF
    · replace hF := fr_neg hF h4
      by_cases h8 : a1 = (11 : Int32)
      · replace hF := fr_pos hF h8
        refine sv_tin (v := (11 : Int32)) (tgt := 101) X h8 (by decide) (by decide) rfl (by decide) dX1_begin_19 ?_
        refine sv_aload_n (i := 1) X dX1_begin_101 rfl rfl ?_
        refine sv_bipush (v := 10) X dX1_begin_102 (by decide) ?_
        refine sv_iload_n (i := 3) X dX1_begin_104 rfl rfl ?_
        refine sv_iload (i := 0) X dX1_begin_105 rfl ?_
        obtain ⟨r11, s10, hc9, hF⟩ := fr_bP_some hF
        refine sv_callVi X (hB _ _ _ _ _ _ hc9) cd_X1_begin ml_X1_34 im_X1_begin se_X1_begin in_RX1 hd_X1_begin rfl rfl ⟨by omega, by decide⟩ rfl (Nat.le_of_ble_eq_true rfl) dX1_begin_107 rfl ?_
        refine sv_aload_n (i := 1) X dX1_begin_110 rfl rfl ?_
        refine sv_iload_n (i := 3) X dX1_begin_111 rfl rfl ?_
        refine sv_iconst (v := 1) X dX1_begin_112 (by decide) ?_
        refine sv_iload (i := 0) X dX1_begin_113 rfl ?_
        obtain ⟨r14, s13, hc12, hF⟩ := fr_bP_some hF
        refine sv_callVi X (c_X1_askAnew hB hh hc12) cd_X1_answer ml_X1_60 im_X1_answer se_X1_answer in_RX1 hd_X1_answer rfl rfl ⟨by omega, by decide⟩ rfl (Nat.le_of_ble_eq_true rfl) dX1_begin_115 rfl ?_
        refine sv_iadd X dX1_begin_118 ?_
        exact sv_iret X hr hQ dX1_begin_119 hF
      · replace hF := fr_neg hF h8
        by_cases h15 : a1 = (12 : Int32)
        · replace hF := fr_pos hF h15
          refine sv_tin (v := (12 : Int32)) (tgt := 120) X h15 (by decide) (by decide) rfl (by decide) dX1_begin_19 ?_
          refine sv_aload_n (i := 1) X dX1_begin_120 rfl rfl ?_
          refine sv_bipush (v := 11) X dX1_begin_121 (by decide) ?_
          refine sv_iload_n (i := 3) X dX1_begin_123 rfl rfl ?_
          refine sv_iload (i := 0) X dX1_begin_124 rfl ?_
          obtain ⟨r18, s17, hc16, hF⟩ := fr_bP_some hF
          refine sv_callVi X (hB _ _ _ _ _ _ hc16) cd_X1_begin ml_X1_34 im_X1_begin se_X1_begin in_RX1 hd_X1_begin rfl rfl ⟨by omega, by decide⟩ rfl (Nat.le_of_ble_eq_true rfl) dX1_begin_126 rfl ?_
          refine sv_ineg X dX1_begin_129 ?_
          exact sv_iret X hr hQ dX1_begin_130 hF
        · replace hF := fr_neg hF h15
          by_cases h19 : a1 = (13 : Int32)
          · replace hF := fr_pos hF h19
            refine sv_tin (v := (13 : Int32)) (tgt := 131) X h19 (by decide) (by decide) rfl (by decide) dX1_begin_19 ?_
            refine sv_aload_n (i := 1) X dX1_begin_131 rfl rfl ?_
            refine sv_bipush (v := 10) X dX1_begin_132 (by decide) ?_
            refine sv_iload_n (i := 3) X dX1_begin_134 rfl rfl ?_
            refine sv_iload (i := 0) X dX1_begin_135 rfl ?_
            obtain ⟨r22, s21, hc20, hF⟩ := fr_bP_some hF
            refine sv_callVi X (hB _ _ _ _ _ _ hc20) cd_X1_begin ml_X1_34 im_X1_begin se_X1_begin in_RX1 hd_X1_begin rfl rfl ⟨by omega, by decide⟩ rfl (Nat.le_of_ble_eq_true rfl) dX1_begin_137 rfl ?_
            refine sv_bipush (v := 100) X dX1_begin_140 (by decide) ?_
            refine sv_isub X dX1_begin_142 ?_
            exact sv_iret X hr hQ dX1_begin_143 hF
          · replace hF := fr_neg hF h19
            by_cases h23 : a1 = (14 : Int32)
            · replace hF := fr_pos hF h23
              refine sv_tin (v := (14 : Int32)) (tgt := 144) X h23 (by decide) (by decide) rfl (by decide) dX1_begin_19 ?_
              refine sv_aload_n (i := 1) X dX1_begin_144 rfl rfl ?_
              refine sv_bipush (v := 13) X dX1_begin_145 (by decide) ?_
              refine sv_iload_n (i := 3) X dX1_begin_147 rfl rfl ?_
              refine sv_iload (i := 0) X dX1_begin_148 rfl ?_
              obtain ⟨r26, s25, hc24, hF⟩ := fr_bP_some hF
              refine sv_callVi X (hB _ _ _ _ _ _ hc24) cd_X1_begin ml_X1_34 im_X1_begin se_X1_begin in_RX1 hd_X1_begin rfl rfl ⟨by omega, by decide⟩ rfl (Nat.le_of_ble_eq_true rfl) dX1_begin_150 rfl ?_
              refine sv_iconst (v := 2) X dX1_begin_153 (by decide) ?_
              refine sv_imul X dX1_begin_154 ?_
              exact sv_iret X hr hQ dX1_begin_155 hF
            · replace hF := fr_neg hF h23
              by_cases h27 : a1 = (15 : Int32)
              · replace hF := fr_pos hF h27
                refine sv_tin (v := (15 : Int32)) (tgt := 232) X h27 (by decide) (by decide) rfl (by decide) dX1_begin_19 ?_
                refine sv_iconst (v := 0) X dX1_begin_232 (by decide) ?_
                exact sv_iret X hr hQ dX1_begin_233 hF
              · replace hF := fr_neg hF h27
                by_cases h28 : a1 = (16 : Int32)
                · replace hF := fr_pos hF h28
                  refine sv_tin (v := (16 : Int32)) (tgt := 232) X h28 (by decide) (by decide) rfl (by decide) dX1_begin_19 ?_
                  refine sv_iconst (v := 0) X dX1_begin_232 (by decide) ?_
                  exact sv_iret X hr hQ dX1_begin_233 hF
                · replace hF := fr_neg hF h28
                  by_cases h29 : a1 = (17 : Int32)
                  · replace hF := fr_pos hF h29
                    refine sv_tin (v := (17 : Int32)) (tgt := 232) X h29 (by decide) (by decide) rfl (by decide) dX1_begin_19 ?_
                    refine sv_iconst (v := 0) X dX1_begin_232 (by decide) ?_
                    exact sv_iret X hr hQ dX1_begin_233 hF
                  · replace hF := fr_neg hF h29
                    by_cases h30 : a1 = (18 : Int32)
                    · replace hF := fr_pos hF h30
                      refine sv_tin (v := (18 : Int32)) (tgt := 232) X h30 (by decide) (by decide) rfl (by decide) dX1_begin_19 ?_
                      refine sv_iconst (v := 0) X dX1_begin_232 (by decide) ?_
                      exact sv_iret X hr hQ dX1_begin_233 hF
                    · replace hF := fr_neg hF h30
                      by_cases h31 : a1 = (19 : Int32)
                      · replace hF := fr_pos hF h31
                        refine sv_tin (v := (19 : Int32)) (tgt := 232) X h31 (by decide) (by decide) rfl (by decide) dX1_begin_19 ?_
                        refine sv_iconst (v := 0) X dX1_begin_232 (by decide) ?_
                        exact sv_iret X hr hQ dX1_begin_233 hF
                      · replace hF := fr_neg hF h31
                        by_cases h32 : a1 = (20 : Int32)
                        · replace hF := fr_pos hF h32
                          refine sv_tin (v := (20 : Int32)) (tgt := 156) X h32 (by decide) (by decide) rfl (by decide) dX1_begin_19 ?_
                          refine sv_iload_n (i := 3) X dX1_begin_156 rfl rfl ?_
                          exact sv_iret X hr hQ dX1_begin_157 hF
                        · replace hF := fr_neg hF h32
                          by_cases h33 : a1 = (21 : Int32)
                          · replace hF := fr_pos hF h33
                            refine sv_tin (v := (21 : Int32)) (tgt := 158) X h33 (by decide) (by decide) rfl (by decide) dX1_begin_19 ?_
                            refine sv_aload_n (i := 1) X dX1_begin_158 rfl rfl ?_
                            refine sv_bipush (v := 20) X dX1_begin_159 (by decide) ?_
                            refine sv_iload_n (i := 3) X dX1_begin_161 rfl rfl ?_
                            refine sv_iload (i := 0) X dX1_begin_162 rfl ?_
                            obtain ⟨r36, s35, hc34, hF⟩ := fr_bP_some hF
                            refine sv_callVi X (hB _ _ _ _ _ _ hc34) cd_X1_begin ml_X1_34 im_X1_begin se_X1_begin in_RX1 hd_X1_begin rfl rfl ⟨by omega, by decide⟩ rfl (Nat.le_of_ble_eq_true rfl) dX1_begin_164 rfl ?_
                            refine sv_aload_n (i := 1) X dX1_begin_167 rfl rfl ?_
                            refine sv_getr X ix_X1 rfl 0 (by decide) rfl rfl fl_X1_9 dX1_begin_168 ?_
                            refine sv_iload_n (i := 3) X dX1_begin_171 rfl rfl ?_
                            refine sv_aload_n (i := 1) X dX1_begin_172 rfl rfl ?_
                            refine sv_getr X ix_X1 rfl 0 (by decide) rfl rfl fl_X1_9 dX1_begin_173 ?_
                            obtain ⟨r39, s38, hc37, hF⟩ := fr_bP_some hF
                            refine sv_callVi X (c_X3_today rfl rfl hc37) cd_X3_today ml_X1_63 im_X3_today se_X3_today in_RX3 hd_X3_today rfl rfl ⟨by omega, by decide⟩ rfl (Nat.le_of_ble_eq_true rfl) dX1_begin_176 rfl ?_
                            obtain ⟨r42, s41, hc40, hF⟩ := fr_bP_some hF
                            refine sv_callVi X (c_X3_solesOf rfl rfl hc40) cd_X3_solesOf ml_X1_67 im_X3_solesOf se_X3_solesOf in_RX3 hd_X3_solesOf rfl rfl ⟨by omega, by decide⟩ rfl (Nat.le_of_ble_eq_true rfl) dX1_begin_179 rfl ?_
                            obtain ⟨r45, s44, hc43, hF⟩ := fr_bP_some hF
                            refine sv_callSi X (c_J6_bitCount_0f7a4 hc43) cd_J6_bitCount_0f7a4 ml_X1_70 sm_J6_bitCount_0f7a4 in_RJ6 hd_J6_bitCount_0f7a4 ⟨by omega, by decide⟩ rfl (Nat.le_of_ble_eq_true rfl) dX1_begin_182 rfl ?_
                            refine sv_iadd X dX1_begin_185 ?_
                            exact sv_iret X hr hQ dX1_begin_186 hF
                          · replace hF := fr_neg hF h33
                            by_cases h46 : a1 = (22 : Int32)
                            · replace hF := fr_pos hF h46
                              refine sv_tin (v := (22 : Int32)) (tgt := 187) X h46 (by decide) (by decide) rfl (by decide) dX1_begin_19 ?_
                              refine sv_aload_n (i := 1) X dX1_begin_187 rfl rfl ?_
                              refine sv_bipush (v := 21) X dX1_begin_188 (by decide) ?_
                              refine sv_iload_n (i := 3) X dX1_begin_190 rfl rfl ?_
                              refine sv_iload (i := 0) X dX1_begin_191 rfl ?_
                              obtain ⟨r49, s48, hc47, hF⟩ := fr_bP_some hF
                              refine sv_callVi X (hB _ _ _ _ _ _ hc47) cd_X1_begin ml_X1_34 im_X1_begin se_X1_begin in_RX1 hd_X1_begin rfl rfl ⟨by omega, by decide⟩ rfl (Nat.le_of_ble_eq_true rfl) dX1_begin_193 rfl ?_
                              refine sv_sipush (v := 1000) X dX1_begin_196 (by decide) ?_
                              refine sv_isub X dX1_begin_199 ?_
                              exact sv_iret X hr hQ dX1_begin_200 hF
                            · replace hF := fr_neg hF h46
                              by_cases h50 : a1 = (23 : Int32)
                              · replace hF := fr_pos hF h50
                                refine sv_tin (v := (23 : Int32)) (tgt := 201) X h50 (by decide) (by decide) rfl (by decide) dX1_begin_19 ?_
                                refine sv_aload_n (i := 1) X dX1_begin_201 rfl rfl ?_
                                refine sv_bipush (v := 20) X dX1_begin_202 (by decide) ?_
                                refine sv_iload_n (i := 3) X dX1_begin_204 rfl rfl ?_
                                refine sv_iload (i := 0) X dX1_begin_205 rfl ?_
                                obtain ⟨r53, s52, hc51, hF⟩ := fr_bP_some hF
                                refine sv_callVi X (hB _ _ _ _ _ _ hc51) cd_X1_begin ml_X1_34 im_X1_begin se_X1_begin in_RX1 hd_X1_begin rfl rfl ⟨by omega, by decide⟩ rfl (Nat.le_of_ble_eq_true rfl) dX1_begin_207 rfl ?_
                                refine sv_aload_n (i := 1) X dX1_begin_210 rfl rfl ?_
                                refine sv_iload_n (i := 3) X dX1_begin_211 rfl rfl ?_
                                refine sv_iconst (v := 0) X dX1_begin_212 (by decide) ?_
                                refine sv_iload (i := 0) X dX1_begin_213 rfl ?_
                                obtain ⟨r56, s55, hc54, hF⟩ := fr_bP_some hF
                                refine sv_callVi X (c_X1_askAnew hB hh hc54) cd_X1_answer ml_X1_60 im_X1_answer se_X1_answer in_RX1 hd_X1_answer rfl rfl ⟨by omega, by decide⟩ rfl (Nat.le_of_ble_eq_true rfl) dX1_begin_215 rfl ?_
                                refine sv_isub X dX1_begin_218 ?_
                                exact sv_iret X hr hQ dX1_begin_219 hF
                              · replace hF := fr_neg hF h50
                                by_cases h57 : a1 = (24 : Int32)
                                · replace hF := fr_pos hF h57
                                  refine sv_tin (v := (24 : Int32)) (tgt := 220) X h57 (by decide) (by decide) rfl (by decide) dX1_begin_19 ?_
                                  refine sv_aload_n (i := 1) X dX1_begin_220 rfl rfl ?_
                                  refine sv_bipush (v := 21) X dX1_begin_221 (by decide) ?_
                                  refine sv_iload_n (i := 3) X dX1_begin_223 rfl rfl ?_
                                  refine sv_iload (i := 0) X dX1_begin_224 rfl ?_
                                  obtain ⟨r60, s59, hc58, hF⟩ := fr_bP_some hF
                                  refine sv_callVi X (hB _ _ _ _ _ _ hc58) cd_X1_begin ml_X1_34 im_X1_begin se_X1_begin in_RX1 hd_X1_begin rfl rfl ⟨by omega, by decide⟩ rfl (Nat.le_of_ble_eq_true rfl) dX1_begin_226 rfl ?_
                                  refine sv_iconst (v := 2) X dX1_begin_229 (by decide) ?_
                                  refine sv_imul X dX1_begin_230 ?_
                                  exact sv_iret X hr hQ dX1_begin_231 hF
                                · replace hF := fr_neg hF h57
                                  have hz : ¬ (a1).toInt = 10 ∧ ¬ (a1).toInt = 11 ∧ ¬ (a1).toInt = 12 ∧ ¬ (a1).toInt = 13 ∧ ¬ (a1).toInt = 14 ∧ ¬ (a1).toInt = 15 ∧ ¬ (a1).toInt = 16 ∧ ¬ (a1).toInt = 17 ∧ ¬ (a1).toInt = 18 ∧ ¬ (a1).toInt = 19 ∧ ¬ (a1).toInt = 20 ∧ ¬ (a1).toInt = 21 ∧ ¬ (a1).toInt = 22 ∧ ¬ (a1).toInt = 23 ∧ ¬ (a1).toInt = 24 := ⟨lv_neT h4 (k := (10 : Int32)) (a := 10) (by decide), lv_neT h8 (k := (11 : Int32)) (a := 11) (by decide), lv_neT h15 (k := (12 : Int32)) (a := 12) (by decide), lv_neT h19 (k := (13 : Int32)) (a := 13) (by decide), lv_neT h23 (k := (14 : Int32)) (a := 14) (by decide), lv_neT h27 (k := (15 : Int32)) (a := 15) (by decide), lv_neT h28 (k := (16 : Int32)) (a := 16) (by decide), lv_neT h29 (k := (17 : Int32)) (a := 17) (by decide), lv_neT h30 (k := (18 : Int32)) (a := 18) (by decide), lv_neT h31 (k := (19 : Int32)) (a := 19) (by decide), lv_neT h32 (k := (20 : Int32)) (a := 20) (by decide), lv_neT h33 (k := (21 : Int32)) (a := 21) (by decide), lv_neT h46 (k := (22 : Int32)) (a := 22) (by decide), lv_neT h50 (k := (23 : Int32)) (a := 23) (by decide), lv_neT h57 (k := (24 : Int32)) (a := 24) (by decide)⟩
                                  refine sv_tout (tgt := 232) X (by omega) (by decide) dX1_begin_19 ?_
                                  refine sv_iconst (v := 0) X dX1_begin_232 (by decide) ?_
                                  exact sv_iret X hr hQ dX1_begin_233 hF
  · replace hF := fr_neg hF h61
    refine sv_iconst (v := 0) X dX1_begin_6 (by decide) ?_
    exact sv_iret X hr hQ dX1_begin_7 hF
def F_X1_begin : Nat → Int32 → Int32 → Int32 → fr_St → Option (Int32 × fr_St)
  | 0, _, _, _, _ => none
  | d + 1, a1, a2, a3, σ => F_X1_beginB (F_X1_begin d) a1 a2 a3 σ
theorem c_X1_begin {l : Launch} {g : fr_G} : ∀ (d : Nat) (a1 a2 a3 : Int32) (σ : fr_St) (r : Int32) (τ : fr_St), F_X1_begin d a1 a2 a3 σ = some (r, τ) → fr_Ci l g yX1_begin (fr_ws yX1_begin cX1_begin 5 (some .int)) (5 + 2 * d) [.ref (g.2.1 53), .int a1, .int a2, .int a3] σ r τ := by
  intro d
  induction d with
  | zero => intro a1 a2 a3 σ r τ h; cases h
  | succ d ih =>
    intro a1 a2 a3 σ r τ h
    rw [F_X1_begin] at h
    exact fr_mi (h := 5 + 2 * d + 2) (by decide) (Nat.le_of_ble_eq_true rfl) (fun p e s m below meth c X hr => b_X1_begin X hr ih (by omega) rfl h)
def F_X1_answer (a1 a2 a3 : Int32) (σ : fr_St) : Option (Int32 × fr_St) := F_X1_askAnew (F_X1_begin 40) a1 a2 a3 σ
theorem c_X1_answer {l : Launch} {g : fr_G} {a1 a2 a3 : Int32} {σ τ : fr_St} {r : Int32} (hF : F_X1_answer a1 a2 a3 σ = some (r, τ)) : fr_Ci l g yX1_answer (fr_ws yX1_answer cX1_answer 4 (some .int)) 86 [.ref (g.2.1 53), .int a1, .int a2, .int a3] σ r τ := c_X1_askAnew (hb := 85) (c_X1_begin 40) (by omega) hF
