section LN2
variable {N : Nat} {σ s t : fr_St} {T : Nat → Nat} {m p : Nat} {z : Nat → Nat}
/-- the reference's reading behind the clearing -/
def refL (t : fr_St) : Option (Bool × fr_St) := fr_bP (F_X8_takes (102 : Int32) t) (fun b9 s8 => if (fr_bi b9) = 0 then (some (false, s8)) else (fr_bP (F_X8_takesNumber (1 : Int32) (30 : Int32) (0 : Int32) (44 : Int32) s8) (fun b12 s11 => if (fr_bi b12) = 0 then (some (false, s11)) else (fr_bP (F_X8_takesNumber (2 : Int32) (8 : Int32) (1 : Int32) (59 : Int32) s11) (fun b15 s14 => if (fr_bi b15) = 0 then (some (false, s14)) else (fr_bP (L_X8_readLand_80 fr_fu (1 : Int32) s14) (fun v16 s17 => if v16 = 0 then some (false, s17) else if v16 = 1 then some (true, s17) else none)))))))
def zlaw (f w : Nat) : Nat → Nat := zup (zup (fun _ => 0) 0 f) 1 w
theorem zlaw_o {f w x : Nat} (h : 2 ≤ x) : zlaw f w x = 0 := by
  unfold zlaw
  rw [zup_ne _ _ (by omega), zup_ne _ _ (by omega)]
theorem DW_law {f w : Nat} (hf : 1 ≤ f ∧ f ≤ 30) (hw : 2 ≤ w ∧ w ≤ 8) : DW (zlaw f w) := by
  have e0 : zlaw f w 0 = f := by unfold zlaw; rw [zup_ne _ _ (by omega), zup_at]
  have e1 : zlaw f w 1 = w := zup_at _ _ _
  refine ⟨?_, zlaw_o (by omega), zlaw_o (by omega), fun r q _ _ _ => zlaw_o (by omega)⟩
  unfold WFl
  rw [e0, e1, zlaw_o (show 2 ≤ 2 by omega), zlaw_o (show 2 ≤ 3 by omega), zlaw_o (show 2 ≤ 4 by omega)]
  refine ⟨hf.1, hf.2, hw.1, hw.2, by omega, by omega, by omega, fun k hk => by omega, fun q hq => by omega, fun j hj => ?_, fun k hk => ?_⟩
  · rw [zlaw_o (by omega), zlaw_o (by omega)]
    omega
  · rw [zlaw_o (by omega), zlaw_o (by omega), zlaw_o (by omega), zlaw_o (by omega)]
    omega
theorem RR_law {r : Nat → Int32} (h1 : ∀ k, k < 86 → r k = nI 0) (h2 : ∀ j, j < 36 → r (86 + j) = -1000000) (f w : Nat) : RR (zlaw f w) (upd (upd r 0 (nI f)) 1 (nI w)) := by
  refine ⟨fun k hk => uz Iff.rfl (uz Iff.rfl (h1 k hk)), fun _ j hj => ?_⟩
  rw [zlaw_o (by omega), if_pos rfl, upd_ne _ _ (by omega), upd_ne _ _ (by omega), h2 j hj]
theorem CR_0 {c : Nat → Int32} (h : ∀ k, k < 122 → c k = nI 0) : CR (fun _ => 0) c := ⟨fun k hk => h k (by omega), fun k hk => ⟨h _ (by omega), h _ (by omega), h _ (by omega), h _ (by omega)⟩, fun q hq => ⟨h _ (by omega), h _ (by omega)⟩, fun j hj => ⟨h _ (by omega), fun _ => h _ (by omega)⟩⟩
theorem cl_giveLaw (hc : CR (fun _ => 0) (s 18)) (f w : Nat) : ∃ s', F_X3_giveLaw 17 (nI f) (nI w) s = some s' ∧ (∀ x, x ≠ 18 → s' x = s x) ∧ CR (zlaw f w) (s' 18) := by
  have c1 := CR_upR hc (i := 0) (K := 0) f (by omega)
  have c2 := CR_upR c1 (i := 1) (K := 1) w (by omega)
  refine ⟨fr_up (fr_up s 18 0 (nI f)) 18 1 (nI w), rfl, fun x hx => by rw [fr_up_ne _ _ _ hx, fr_up_ne _ _ _ hx], ?_⟩
  rw [fr_up_at, fr_up_at]
  exact c2
/-- what the law's reading gives -/
theorem law_sim (hm : m ≤ 120) (hT : ∀ i, i < 120 → T i ≤ 255) (hp : p ≤ m) (he : EC T m s) (hs : s 13 2 = nI p) (hc : CR (fun _ => 0) (s 18)) (heR : ER T m t) (hk : K2 T m p t) (h1 : ∀ k, k < 86 → t 66 k = nI 0) (h2 : ∀ j, j < 36 → t 66 (86 + j) = -1000000) :
  (∃ f q, FailC s (F_X4_readLaw s) f q ∧ FailR t (refL t) f q) ∨ ∃ s' t' z' p', F_X4_readLaw s = some (true, s') ∧ refL t = fr_bP (L_X8_readLand_80 fr_fu (1 : Int32) t') (fun v16 s17 => if v16 = 0 then some (false, s17) else if v16 = 1 then some (true, s17) else none) ∧ Both T m s t s' t' z' p' ∧ z' 2 = 0 ∧ z' 3 = 0 := by
  have hq1 := nx_le (T := T) hp
  have hq2 := nx_le (T := T) hq1
  have hq3 := nx_le (T := T) hq2
  have hq4 := nx_le (T := T) hq3
  unfold refL F_X4_readLaw
  by_cases l0 : isL T m p 102
  · obtain ⟨s1, e1, f1, g1, v1⟩ := (cl_take hm hT hp he hs (c := 102) (by omega)).1 l0
    obtain ⟨t1, a1, b1, c1, d1⟩ := (rf_takes hm hT hp heR hk (c := 102) (by omega)).1 l0
    rw [show F_X4_take (102 : Int32) s = _ from e1, show F_X8_takes (102 : Int32) t = _ from a1, fr_bP_mk, fr_bP_mk, if_neg fr_nb, if_neg fr_nb]
    have C1 := cl_takeN hm hT hq1 (he.fr f1) v1 (lo := 1) (hi := 30) (by omega) (by omega) (-1)
    have R1 := rf_takesN hm hT hq1 (heR.fr b1) d1 (lo := 1) (hi := 30) (a := 0) (c := 44) (by omega) (by omega) (by omega) (by omega)
    by_cases n1 : isN T m (nx T m p) 1 30
    · obtain ⟨s2, e2, f2, g2, v2, w2⟩ := C1.1 ⟨n1, nI_n1 (ty_en n1.1)⟩
      have F2 := f1.trans f2
      rw [show F_X4_takeNumber (1 : Int32) (30 : Int32) (-1 : Int32) s1 = _ from e2, fr_bP_mk, if_neg fr_nb, fr_let_eq, w2]
      have C2 := cl_take hm hT hq2 (he.fr F2) v2 (c := 44) (by omega)
      by_cases l2 : isL T m (nx T m (nx T m p)) 44
      · obtain ⟨s3, e3, f3, g3, v3⟩ := C2.1 l2
        obtain ⟨t3, a3, b3, c3, d3⟩ := R1.1 ⟨n1, l2⟩
        have F3 := F2.trans f3
        have G3 := b1.trans b3
        rw [show F_X4_take (44 : Int32) s2 = _ from e3, fr_bP_mk, if_neg fr_nb, show F_X8_takesNumber (1 : Int32) (30 : Int32) (0 : Int32) (44 : Int32) t1 = _ from a3, fr_bP_mk, if_neg fr_nb]
        have C3 := cl_takeN hm hT hq3 (he.fr F3) v3 (lo := 2) (hi := 8) (by omega) (by omega) (-1)
        have R3 := rf_takesN hm hT hq3 (heR.fr G3) d3 (lo := 2) (hi := 8) (a := 1) (c := 59) (by omega) (by omega) (by omega) (by omega)
        by_cases n3 : isN T m (nx T m (nx T m (nx T m p))) 2 8
        · obtain ⟨s4, e4, f4, g4, v4, w4⟩ := C3.1 ⟨n3, nI_n1 (ty_en n3.1)⟩
          have F4 := F3.trans f4
          have hc4 : CR (fun _ => 0) (s4 18) := by rw [g4, g3, g2, g1]; exact hc
          obtain ⟨s5, e5, g5, c5⟩ := cl_giveLaw hc4 (vl T m (nx T m p)) (vl T m (nx T m (nx T m (nx T m p))))
          have f5 : FC s4 s5 := ⟨fun x _ h => g5 x h, by rw [g5 13 (by omega)]⟩
          have F5 := F4.trans f5
          have v5 : s5 13 2 = nI (nx T m (nx T m (nx T m (nx T m p)))) := by rw [g5 13 (by omega)]; exact v4
          rw [show F_X4_takeNumber (2 : Int32) (8 : Int32) (-1 : Int32) s3 = _ from e4, fr_bP_mk, if_neg fr_nb, w4, e5, fr_bS_mk]
          have C5 := cl_take hm hT hq4 (he.fr F5) v5 (c := 59) (by omega)
          by_cases l4 : isL T m (nx T m (nx T m (nx T m (nx T m p)))) 59
          · obtain ⟨s6, e6, f6, g6, v6⟩ := C5.1 l4
            obtain ⟨t6, a6, b6, c6, d6⟩ := R3.1 ⟨n3, l4⟩
            rw [show F_X4_take (59 : Int32) s5 = _ from e6, fr_bP_mk, show F_X8_takesNumber (2 : Int32) (8 : Int32) (1 : Int32) (59 : Int32) t3 = _ from a6, fr_bP_mk, if_neg fr_nb]
            refine Or.inr ⟨s6, t6, _, _, rfl, rfl, ⟨F5.trans f6, v6, by rw [g6]; exact c5, G3.trans b6, d6, ?_, DW_law ⟨n1.2.1, n1.2.2⟩ ⟨n3.2.1, n3.2.2⟩, nx_le hq4⟩, zlaw_o (by omega), zlaw_o (by omega)⟩
            rw [c6, c3, c1]
            exact RR_law h1 h2 _ _
          · obtain ⟨s6, e6, f6, v6, w6⟩ := C5.2 l4
            obtain ⟨t6, a6, b6, c6, d6⟩ := R3.2.1 ⟨n3, l4⟩
            rw [show F_X4_take (59 : Int32) s5 = _ from e6, show F_X8_takesNumber (2 : Int32) (8 : Int32) (1 : Int32) (59 : Int32) t3 = _ from a6]
            exact Or.inl ⟨_, _, ⟨s6, rfl, F5.trans f6, v6, w6⟩, ⟨t6, rfl, G3.trans b6, c6, d6⟩⟩
        · obtain ⟨s4, e4, f4, v4, w4⟩ := C3.2 (fun q => n3 q.1)
          obtain ⟨t4, a4, b4, c4, d4⟩ := R3.2.2 n3
          rw [show F_X4_takeNumber (2 : Int32) (8 : Int32) (-1 : Int32) s3 = _ from e4, show F_X8_takesNumber (2 : Int32) (8 : Int32) (1 : Int32) (59 : Int32) t3 = _ from a4]
          exact Or.inl ⟨_, _, ⟨s4, rfl, F3.trans f4, v4, w4⟩, ⟨t4, rfl, G3.trans b4, c4, d4⟩⟩
      · obtain ⟨s3, e3, f3, v3, w3⟩ := C2.2 l2
        obtain ⟨t3, a3, b3, c3, d3⟩ := R1.2.1 ⟨n1, l2⟩
        rw [show F_X4_take (44 : Int32) s2 = _ from e3, show F_X8_takesNumber (1 : Int32) (30 : Int32) (0 : Int32) (44 : Int32) t1 = _ from a3]
        exact Or.inl ⟨_, _, ⟨s3, rfl, F2.trans f3, v3, w3⟩, ⟨t3, rfl, b1.trans b3, c3, d3⟩⟩
    · obtain ⟨s2, e2, f2, v2, w2⟩ := C1.2 (fun q => n1 q.1)
      obtain ⟨t3, a3, b3, c3, d3⟩ := R1.2.2 n1
      rw [show F_X4_takeNumber (1 : Int32) (30 : Int32) (-1 : Int32) s1 = _ from e2, show F_X8_takesNumber (1 : Int32) (30 : Int32) (0 : Int32) (44 : Int32) t1 = _ from a3]
      exact Or.inl ⟨_, _, ⟨s2, rfl, f1.trans f2, v2, w2⟩, ⟨t3, rfl, b1.trans b3, c3, d3⟩⟩
  · obtain ⟨s1, e1, f1, v1, w1⟩ := (cl_take hm hT hp he hs (c := 102) (by omega)).2 l0
    obtain ⟨t1, a1, b1, c1, d1⟩ := (rf_takes hm hT hp heR hk (c := 102) (by omega)).2 l0
    rw [show F_X4_take (102 : Int32) s = _ from e1, show F_X8_takes (102 : Int32) t = _ from a1]
    exact Or.inl ⟨_, _, ⟨s1, rfl, f1, v1, w1⟩, ⟨t1, rfl, b1, c1, d1⟩⟩
def clsR (s4 : fr_St) : Option (Bool × fr_St) := fr_bP (F_X4_readLaw s4) (fun b7 s6 => fr_bP (if (fr_bi b7) = 0 then (some ((0 : Int32), s6)) else (fr_bP (F_X4_readRoads s6) (fun b14 s13 => if (fr_bi b14) = 0 then (some ((0 : Int32), s13)) else (fr_bP (F_X4_readPeople s13) (fun b17 s16 => if (fr_bi b17) = 0 then (some ((0 : Int32), s16)) else (fr_bP (F_X4_readEnd s16) (fun b20 s19 => if (fr_bi b20) = 0 then (some ((0 : Int32), s19)) else (some ((1 : Int32), s19))))))))) (fun v8 s9 => if v8 = 0 then some (false, s9) else if v8 = 1 then some (true, s9) else none))
theorem read_sim (hm : m ≤ 120) (hT : ∀ i, i < 120 → T i ≤ 255) (hp : p ≤ m) (he : EC T m s) (hs : s 13 2 = nI p) (hc : CR (fun _ => 0) (s 18)) (heR : ER T m t) (hk : K2 T m p t) (h1 : ∀ k, k < 86 → t 66 k = nI 0) (h2 : ∀ j, j < 36 → t 66 (86 + j) = -1000000) :
  (∃ f q, FailC s (clsR s) f q ∧ FailR t (refL t) f q) ∨ ∃ s' t' z', clsR s = some (true, s') ∧ refL t = some (true, t') ∧ FC s s' ∧ FR t t' ∧ CR z' (s' 18) ∧ RR z' (t' 66) ∧ DW z' := by
  have hfu := fr_fu_big
  rcases law_sim hm hT hp he hs hc heR hk h1 h2 with ⟨f, q, ⟨s', a1, a2, a3, a4⟩, hR⟩ | ⟨s1, t1, z1, p1, a1, b1, ⟨q1, q2, q3, q4, q5, q6, q7, q8⟩, q9, q10⟩
  · refine Or.inl ⟨f, q, ⟨s', ?_, a2, a3, a4⟩, hR⟩
    unfold clsR
    rw [a1]
    rfl
  have hX1 : clsR s = fr_bP (fr_bP (F_X4_readRoads s1) (fun b14 s13 => if (fr_bi b14) = 0 then (some ((0 : Int32), s13)) else (fr_bP (F_X4_readPeople s13) (fun b17 s16 => if (fr_bi b17) = 0 then (some ((0 : Int32), s16)) else (fr_bP (F_X4_readEnd s16) (fun b20 s19 => if (fr_bi b20) = 0 then (some ((0 : Int32), s19)) else (some ((1 : Int32), s19)))))))) (fun v8 s9 => if v8 = 0 then some (false, s9) else if v8 = 1 then some (true, s9) else none) := by
    unfold clsR
    rw [a1, fr_bP_mk, if_neg fr_nb]
  rcases roads_sim hm hT 30 9 fr_fu fr_fu p1 s1 t1 z1 (by omega) q10 (by omega) (by omega) q8 (he.fr q1) q2 q3 (heR.fr q4) q5 q6 q7 with ⟨f, q, ⟨s', c1, c2, c3, c4⟩, ⟨t', d1, d2, d3, d4⟩⟩ | ⟨s2, t2, z2, p2, n2, c1, d1, d0, ⟨r1, r2, r3, r4, r5, r6, r7, r8⟩, r9, r10⟩
  · rw [q9] at c1
    refine Or.inl ⟨f, q, ⟨s', ?_, q1.trans c2, c3, c4⟩, ⟨t', ?_, q4.trans d2, d3, d4⟩⟩
    · rw [hX1]
      unfold F_X4_readRoads
      rw [show L_X4_readRoads_2 fr_fu (0 : Int32) s1 = _ from c1]
      rfl
    · rw [b1, d1]
      rfl
  rw [q9] at c1
  have Q2 := q1.trans r1
  have S2 := q4.trans r4
  have hX2 : clsR s = fr_bP (fr_bP (F_X4_readPeople s2) (fun b17 s16 => if (fr_bi b17) = 0 then (some ((0 : Int32), s16)) else (fr_bP (F_X4_readEnd s16) (fun b20 s19 => if (fr_bi b20) = 0 then (some ((0 : Int32), s19)) else (some ((1 : Int32), s19)))))) (fun v8 s9 => if v8 = 0 then some (false, s9) else if v8 = 1 then some (true, s9) else none) := by
    rw [hX1]
    unfold F_X4_readRoads
    rw [show L_X4_readRoads_2 fr_fu (0 : Int32) s1 = _ from c1, fr_bR_l, fr_bP_mk, if_neg fr_nb]
  rcases people_sim hm hT 10 4 fr_fu n2 p2 s2 t2 z2 (by omega) (by omega) (by omega) r8 (he.fr Q2) r2 r3 (heR.fr S2) r5 r6 r7 (fun _ => r10) with ⟨f, q, ⟨s', e1, e2, e3, e4⟩, ⟨t', f1, f2, f3, f4⟩⟩ | ⟨s3, t3, z3, p3, n3, e1, f1, f0, ⟨w1, w2, w3, w4, w5, w6, w7, w8⟩, w9, w10⟩
  · rw [r9] at e1
    refine Or.inl ⟨f, q, ⟨s', ?_, Q2.trans e2, e3, e4⟩, ⟨t', ?_, S2.trans f2, f3, f4⟩⟩
    · rw [hX2]
      unfold F_X4_readPeople
      rw [show L_X4_readPeople_2 fr_fu (0 : Int32) s2 = _ from e1]
      rfl
    · rw [b1, d1, f1]
      rfl
  rw [r9] at e1
  have Q3 := Q2.trans w1
  have S3 := S2.trans w4
  have hX3 : clsR s = fr_bP (fr_bP (F_X4_readEnd s3) (fun b20 s19 => if (fr_bi b20) = 0 then (some ((0 : Int32), s19)) else (some ((1 : Int32), s19)))) (fun v8 s9 => if v8 = 0 then some (false, s9) else if v8 = 1 then some (true, s9) else none) := by
    rw [hX2]
    unfold F_X4_readPeople
    rw [show L_X4_readPeople_2 fr_fu (0 : Int32) s2 = _ from e1, fr_bR_l, fr_bP_mk, if_neg fr_nb]
  obtain ⟨n3, rfl⟩ : ∃ k, n3 = k + 1 + 1 := ⟨n3 - 2, by omega⟩
  rcases end_sim hm hT w8 (he.fr Q3) w2 w3 w5 w6 w7 w9 w10 n3 with ⟨f, q, ⟨s', g1, g2, g3, g4⟩, ⟨t', h1, h2, h3, h4⟩⟩ | ⟨s', g1, g2, g3, h1⟩
  · refine Or.inl ⟨f, q, ⟨s', ?_, Q3.trans g2, g3, g4⟩, ⟨t', ?_, S3.trans h2, h3, h4⟩⟩
    · rw [hX3, g1]
      rfl
    · rw [b1, d1, f1, h1]
      rfl
  · refine Or.inr ⟨s', t3, z3, ?_, ?_, Q3.trans g2, S3, by rw [g3]; exact w3, w6, w7⟩
    · rw [hX3, g1]
      rfl
    · rw [b1, d1, f1, h1]
      rfl
theorem rl_init (t : fr_St) : L_X8_readLand_7 fr_fu 0 t = some (nI 122, fr_row t 66 (blk (t 66) 0 122 (fun k => if 86 ≤ k then -1000000 else 0))) := by
  refine wr_loop0 L_X8_readLand_7 66 0 122 (fun k => if 86 ≤ k then -1000000 else 0) t (by omega) (fun n τ => by rw [L_X8_readLand_7, if_pos (show (122 : Int32) ≤ nI 122 by decide)]) (fun n j f hj => ?_)
  have e : (if (86 : Int32) ≤ nI j then some (-1000000 : Int32) else some (0 : Int32)) = some (if 86 ≤ j then -1000000 else 0) := by
    by_cases q : 86 ≤ j
    · rw [if_pos q, if_pos (show (86 : Int32) ≤ nI j from (i_le (a := 86) (by omega) (by omega)).mpr q)]
    · rw [if_neg q, if_neg (show ¬ (86 : Int32) ≤ nI j from fun w => q ((i_le (a := 86) (by omega) (by omega)).mp w))]
  rw [L_X8_readLand_7, if_neg (show ¬ (122 : Int32) ≤ nI j from fun q => absurd ((i_le (a := 122) (by omega) (by omega)).mp q) (by omega)), e, fr_bS_mk, i_chk hj (by omega), fr_let_eq, fr_let_eq, i_ix (by omega), fr_up_row, nI_1, Nat.zero_add]
theorem rl_copy (t : fr_St) : L_X8_land_32 fr_fu 0 t = some (nI 122, fr_row t 63 (blk (t 63) 0 122 (t 66))) := by
  refine wr_loop0 L_X8_land_32 63 0 122 (t 66) t (by omega) (fun n τ => by rw [L_X8_land_32, if_pos (show (122 : Int32) ≤ nI 122 by decide)]) (fun n j f hj => ?_)
  rw [L_X8_land_32, if_neg (show ¬ (122 : Int32) ≤ nI j from fun q => absurd ((i_le (a := 122) (by omega) (by omega)).mp q) (by omega)), i_chk hj (by omega), i_chk hj (by omega), fr_let_eq, fr_let_eq, i_ix (by omega), fr_up_row, fr_row_ne _ _ (show 66 ≠ 63 by omega), nI_1, Nat.zero_add]
theorem st_land (h : Rel N σ) : Ok N F_X7_land F_X8_land σ := by
  obtain ⟨m, hm, em, em', hby⟩ := h.2.2.1
  obtain ⟨T, hTb⟩ : ∃ T : Nat → Nat, ∀ i, i < 120 → T i ≤ 255 ∧ σ 14 i = nI (T i) ∧ σ 65 i = nI (T i) := by
    refine ⟨fun i => (σ 14 i).toInt.toNat, fun i hi => ?_⟩
    obtain ⟨b, hb, e1, e2⟩ := hby i hi
    have : (σ 14 i).toInt.toNat = b := by rw [e1, i_toInt (by omega)]; omega
    show (σ 14 i).toInt.toNat ≤ 255 ∧ σ 14 i = nI ((σ 14 i).toInt.toNat) ∧ σ 65 i = nI ((σ 14 i).toInt.toNat)
    rw [this]
    exact ⟨hb, e1, e2⟩
  have hT : ∀ i, i < 120 → T i ≤ 255 := fun i hi => (hTb i hi).1
  -- the class begins
  let s2 := fr_up (fr_up σ 13 2 0) 13 6 0
  let s4 := fr_row s2 18 (blk (s2 18) 0 122 (fun _ => 0))
  have F0 : FC σ s4 := ⟨fun a h1 h2 => by
    show fr_row s2 18 _ a = σ a
    rw [fr_row_ne _ _ h2]
    show fr_up (fr_up σ 13 2 0) 13 6 0 a = σ a
    rw [fr_up_ne _ _ _ h1, fr_up_ne _ _ _ h1], by
    show fr_row s2 18 _ 13 1 = σ 13 1
    rw [fr_row_ne _ _ (by omega)]
    show fr_up (fr_up σ 13 2 0) 13 6 0 13 1 = σ 13 1
    rw [fr_up_at, upd_ne _ _ (by omega), fr_up_at, upd_ne _ _ (by omega)]⟩
  have he : EC T m s4 := EC.fr ⟨em, fun i hi => (hTb i hi).2.1⟩ F0
  have hs : s4 13 2 = nI 0 := by
    show fr_row s2 18 _ 13 2 = nI 0
    rw [fr_row_ne _ _ (by omega)]
    show fr_up (fr_up σ 13 2 0) 13 6 0 13 2 = nI 0
    rw [fr_up_at, upd_ne _ _ (by omega), fr_up_at, upd_at]
    rfl
  have hc : CR (fun _ => 0) (s4 18) := CR_0 (fun k hk => by
    show fr_row s2 18 _ 18 k = nI 0
    rw [fr_row_same, blk_in0 hk]
    rfl)
  have hX0 : F_X4_readInto σ = clsR s4 := by
    unfold F_X4_readInto F_X3_clear
    rw [fr_let_eq, fr_let_eq, fill_eq (17 + 1) 122 0 _ (by omega), fr_bS_mk, fr_bS_mk]
    rfl
  have ref0 : ∀ S : fr_St, S 59 = σ 59 → S 65 = σ 65 → ∃ t, F_X8_readLand S = refL t ∧ FR S t ∧ ER T m t ∧ K2 T m 0 t ∧ (∀ k, k < 86 → t 66 k = nI 0) ∧ ∀ j, j < 36 → t 66 (86 + j) = -1000000 := by
    intro s h59 h65
    have heR : ER T m s := ⟨by rw [h59]; exact em', fun i hi => by rw [h65]; exact (hTb i hi).2.2⟩
    let t1 := fr_up s 59 10 0
    let t2 := fr_row t1 66 (blk (t1 66) 0 122 (fun k => if 86 ≤ k then -1000000 else 0))
    have G1 : FR s t2 := ⟨fun a h1 h2 => by
      show fr_row t1 66 _ a = s a
      rw [fr_row_ne _ _ h2]
      exact fr_up_ne _ _ _ h1, fun j hj => by
      show fr_row t1 66 _ 59 j = s 59 j
      rw [fr_row_ne _ _ (by omega)]
      show fr_up s 59 10 0 59 j = s 59 j
      rw [fr_up_at, upd_ne _ _ (by omega)]⟩
    have h10 : t2 59 10 = nI 0 := by
      show fr_row t1 66 _ 59 10 = nI 0
      rw [fr_row_ne _ _ (by omega)]
      show fr_up s 59 10 0 59 10 = nI 0
      rw [fr_up_at, upd_at]
      rfl
    have h66 : ∀ k, k < 122 → t2 66 k = if 86 ≤ k then -1000000 else 0 := fun k hk => by
      show fr_row t1 66 _ 66 k = _
      rw [fr_row_same, blk_in0 hk]
    obtain ⟨t, g1, g2, g3, g4⟩ := rf_next hm hT (Nat.zero_le m) (heR.fr G1) h10
    have G2 : FR t2 t := ⟨fun a h1 _ => g2 a h1, fun j hj => g3 j (by omega)⟩
    refine ⟨t, ?_, G1.trans G2, (heR.fr G1).fr G2, g4, fun k hk => ?_, fun j hj => ?_⟩
    · unfold F_X8_readLand
      rw [fr_let_eq, rl_init, fr_bP_mk, show F_X8_nextToken _ = some t from g1, fr_bS_mk]
      rfl
    · rw [g2 66 (by omega), h66 k (by omega), if_neg (by omega)]
      rfl
    · rw [g2 66 (by omega), h66 _ (by omega), if_pos (by omega)]
  obtain ⟨t0, y1, y2, y3, y4, y5, y6⟩ := ref0 σ rfl rfl
  have first : ∃ b s', clsR s4 = some (b, s') ∧ FC s4 s' := by
    rcases read_sim hm hT (Nat.zero_le m) he hs hc y3 y4 y5 y6 with ⟨f, q, ⟨s', a1, a2, _, _⟩, _⟩ | ⟨s', t', z', a1, _, a2, _⟩
    · exact ⟨_, _, a1, a2⟩
    · exact ⟨_, _, a1, a2⟩
  obtain ⟨b, s', a1, a2⟩ := first
  have A2 := F0.trans a2
  cases b
  · -- refused
    have hS : ∀ a, a ≠ 0 → a ≠ 13 → (fr_up (fr_up s' 13 1 0) 0 9 (s' 13 6)) a = s' a := fun a h1 h2 => by rw [fr_up_ne _ _ _ h1, fr_up_ne _ _ _ h2]
    generalize eS : fr_up (fr_up s' 13 1 0) 0 9 (s' 13 6) = S at hS
    obtain ⟨t, y1, y2, y3, y4, y5, y6⟩ := ref0 S (by rw [hS 59 (by omega) (by omega), A2.1 59 (by omega) (by omega)]) (by rw [hS 65 (by omega) (by omega), A2.1 65 (by omega) (by omega)])
    rcases read_sim hm hT (Nat.zero_le m) he hs hc y3 y4 y5 y6 with ⟨f, q, ⟨s'', c1, c2, c3, c4⟩, ⟨t', d1, d2, d3, d4⟩⟩ | ⟨s'', t', z', c1, _⟩
    · rw [a1] at c1
      obtain rfl : s' = s'' := congrArg Prod.snd (Option.some.inj c1)
      have D := y2.trans d2
      have e : ∀ a, a ≠ 0 → a ≠ 13 → a ≠ 18 → a ≠ 59 → a ≠ 66 → (fr_up (fr_up t' 59 8 0) 59 9 (nI f)) a = σ a := fun a h0 h1 h2 h3 h4 => by rw [fr_up_ne _ _ _ h3, fr_up_ne _ _ _ h3, D.1 a h3 h4, hS a h0 h1, A2.1 a h1 h2]
      have e59 : ∀ j, j < 8 ∨ 14 < j → (fr_up (fr_up t' 59 8 0) 59 9 (nI f)) 59 j = σ 59 j := fun j hj => by rw [fr_up_at, upd_ne _ _ (by omega), fr_up_at, upd_ne _ _ (by omega), D.2 j (by omega), hS 59 (by omega) (by omega), A2.1 59 (by omega) (by omega)]
      have e0 : (fr_up (fr_up t' 59 8 0) 59 9 (nI f)) 0 = upd (σ 0) 9 (nI f) := by rw [fr_up_ne _ _ _ (by omega), fr_up_ne _ _ _ (by omega), D.1 0 (by omega) (by omega), ← eS, fr_up_at, fr_up_ne _ _ _ (by omega), A2.1 0 (by omega) (by omega), c4]
      have e13 : (fr_up (fr_up t' 59 8 0) 59 9 (nI f)) 13 1 = nI 0 := by
        rw [fr_up_ne _ _ _ (by omega), fr_up_ne _ _ _ (by omega), D.1 13 (by omega) (by omega), ← eS, fr_up_ne _ _ _ (by omega), fr_up_at, upd_at]
        rfl
      refine ⟨-1000100 - nI q, S, fr_up (fr_up t' 59 8 0) 59 9 (nI f), ?_, ?_, Rel.mono ⟨h.1.fr fun a ha => e a (by omega) (by omega) (by omega) (by omega) (by omega), ⟨?_, ?_⟩, ⟨0, by omega, e13, ?_, ?_⟩, h.2.2.2.1.fr ⟨e 16 (by omega) (by omega) (by omega) (by omega) (by omega), e 63 (by omega) (by omega) (by omega) (by omega) (by omega), e59 4 (by omega)⟩, h.2.2.2.2.1.fr ⟨by rw [e 19 (by omega) (by omega) (by omega) (by omega) (by omega)], by rw [e 19 (by omega) (by omega) (by omega) (by omega) (by omega)], e59 17 (by omega), e 67 (by omega) (by omega) (by omega) (by omega) (by omega), fun a ha => e a (by omega) (by omega) (by omega) (by omega) (by omega)⟩, h.2.2.2.2.2.1.fr ⟨e 58 (by omega) (by omega) (by omega) (by omega) (by omega), e 72 (by omega) (by omega) (by omega) (by omega) (by omega), e 73 (by omega) (by omega) (by omega) (by omega) (by omega), e 56 (by omega) (by omega) (by omega) (by omega) (by omega), e 57 (by omega) (by omega) (by omega) (by omega) (by omega)⟩, h.2.2.2.2.2.2.fr ⟨by rw [e 53 (by omega) (by omega) (by omega) (by omega) (by omega)], e59 25 (by omega), e 54 (by omega) (by omega) (by omega) (by omega) (by omega), e 74 (by omega) (by omega) (by omega) (by omega) (by omega)⟩ (Or.inl ⟨e59 4 (by omega), e59 17 (by omega), e 72 (by omega) (by omega) (by omega) (by omega) (by omega)⟩)⟩⟩
      · unfold F_X7_land
        rw [hX0, a1, fr_bP_mk, fr_let_eq]
        unfold F_X4_clearTape F_X4_faultNumber F_X4_faultPlace
        rw [fr_let_eq, fr_bS_mk, if_pos (show fr_bi false = 0 from rfl), fr_bP_mk, fr_let_eq, fr_bP_mk, fr_up_at, upd_ne _ _ (show 6 ≠ 1 by omega), fr_up_ne _ _ _ (show 13 ≠ 0 by omega), fr_up_at, upd_ne _ _ (show 2 ≠ 1 by omega), c3, ← eS]
      · have e14 : fr_up t' 59 8 0 59 14 = nI f := by rw [fr_up_at, upd_ne _ _ (by omega), d4]
        unfold F_X8_land
        rw [y1, d1, fr_bP_mk, fr_let_eq, fr_let_eq, if_pos (show fr_bi false = 0 from rfl), fr_let_eq, e14, fr_up_at, upd_ne _ _ (show 13 ≠ 9 by omega), fr_up_at, upd_ne _ _ (show 13 ≠ 8 by omega), d3]
      · rw [e0, e59 3 (by omega), upd_ne _ _ (by omega)]
        exact h.2.1.1
      · rw [e0, upd_at, fr_up_at, upd_at]
      · rw [fr_up_at, upd_ne _ _ (by omega), fr_up_at, upd_at]
        rfl
      · intro i hi
        rw [e 14 (by omega) (by omega) (by omega) (by omega) (by omega), e 65 (by omega) (by omega) (by omega) (by omega) (by omega)]
        exact hby i hi
    · rw [a1] at c1
      exact absurd (show false = true from congrArg Prod.fst (Option.some.inj c1)) (by decide)
  · -- read
    have hS : ∀ a, a ≠ 13 → a ≠ 16 → a ≠ 19 → (fr_up (fr_row (fr_up s' 13 1 0) 16 (va_cpy (s' 18) (s' 16) (fr_ix (0 : Int32)) (fr_ix (0 : Int32)) (fr_ix (122 : Int32)))) 19 2 0) a = s' a := fun a h1 h2 h3 => by rw [fr_up_ne _ _ _ h3, fr_row_ne _ _ h2, fr_up_ne _ _ _ h1]
    have hS16 : ∀ k, k < 122 → (fr_up (fr_row (fr_up s' 13 1 0) 16 (va_cpy (s' 18) (s' 16) (fr_ix (0 : Int32)) (fr_ix (0 : Int32)) (fr_ix (122 : Int32)))) 19 2 0) 16 k = s' 18 k := fun k hk => by rw [fr_up_ne _ _ _ (by omega), fr_row_same, cpy122 _ _ hk]
    have hS19 : ∀ j, (fr_up (fr_row (fr_up s' 13 1 0) 16 (va_cpy (s' 18) (s' 16) (fr_ix (0 : Int32)) (fr_ix (0 : Int32)) (fr_ix (122 : Int32)))) 19 2 0) 19 j = if j = 2 then 0 else σ 19 j := fun j => by
      rw [fr_up_at]
      by_cases q : j = 2
      · rw [if_pos q, q, upd_at]
      · rw [if_neg q, upd_ne _ _ q, fr_row_ne _ _ (by omega), fr_up_ne _ _ _ (by omega), A2.1 19 (by omega) (by omega)]
    have hS13 : (fr_up (fr_row (fr_up s' 13 1 0) 16 (va_cpy (s' 18) (s' 16) (fr_ix (0 : Int32)) (fr_ix (0 : Int32)) (fr_ix (122 : Int32)))) 19 2 0) 13 1 = nI 0 := by
      rw [fr_up_ne _ _ _ (by omega), fr_row_ne _ _ (by omega), fr_up_at, upd_at]
      rfl
    generalize eS : fr_up (fr_row (fr_up s' 13 1 0) 16 (va_cpy (s' 18) (s' 16) (fr_ix (0 : Int32)) (fr_ix (0 : Int32)) (fr_ix (122 : Int32)))) 19 2 0 = S at hS hS16 hS19 hS13
    obtain ⟨t, y1, y2, y3, y4, y5, y6⟩ := ref0 S (by rw [hS 59 (by omega) (by omega) (by omega), A2.1 59 (by omega) (by omega)]) (by rw [hS 65 (by omega) (by omega) (by omega), A2.1 65 (by omega) (by omega)])
    rcases read_sim hm hT (Nat.zero_le m) he hs hc y3 y4 y5 y6 with ⟨f, q, ⟨s'', c1, _⟩, _⟩ | ⟨s'', t', z', c1, d1, c2, d2, c3, d3, w0⟩
    · rw [a1] at c1
      exact absurd (show true = false from congrArg Prod.fst (Option.some.inj c1)) (by decide)
    · rw [a1] at c1
      obtain rfl : s' = s'' := congrArg Prod.snd (Option.some.inj c1)
      have D := y2.trans d2
      have hcS : CR z' (S 16) := c3.congr hS16
      have hz0 : z' 0 ≠ 0 := by have := w0.1.1; omega
      let τ := fr_up (fr_up (fr_row (fr_up t' 59 8 0) 63 (blk (t' 63) 0 122 (t' 66))) 59 4 1) 59 17 0
      have e : ∀ a, a ≠ 59 → a ≠ 63 → a ≠ 66 → τ a = S a := fun a h1 h2 h3 => by
        show fr_up (fr_up (fr_row (fr_up t' 59 8 0) 63 _) 59 4 1) 59 17 0 a = S a
        rw [fr_up_ne _ _ _ h1, fr_up_ne _ _ _ h1, fr_row_ne _ _ h2, fr_up_ne _ _ _ h1, D.1 a h1 h3]
      have e' : ∀ a, a ≠ 13 → a ≠ 16 → a ≠ 18 → a ≠ 19 → a ≠ 59 → a ≠ 63 → a ≠ 66 → τ a = σ a := fun a h1 h2 h3 h4 h5 h6 h7 => by rw [e a h5 h6 h7, hS a h1 h2 h4, A2.1 a h1 h3]
      have e63 : ∀ k, k < 122 → τ 63 k = t' 66 k := fun k hk => by
        show fr_up (fr_up (fr_row (fr_up t' 59 8 0) 63 _) 59 4 1) 59 17 0 63 k = _
        rw [fr_up_ne _ _ _ (by omega), fr_up_ne _ _ _ (by omega), fr_row_same, blk_in0 hk]
      have e59 : ∀ j, τ 59 j = if j = 17 then 0 else if j = 4 then 1 else if j = 8 then 0 else t' 59 j := fun j => by
        show fr_up (fr_up (fr_row (fr_up t' 59 8 0) 63 _) 59 4 1) 59 17 0 59 j = _
        rw [fr_up_at]
        by_cases q1 : j = 17
        · rw [if_pos q1, q1, upd_at]
        · rw [if_neg q1, upd_ne _ _ q1, fr_up_at]
          by_cases q2 : j = 4
          · rw [if_pos q2, q2, upd_at]
          · rw [if_neg q2, upd_ne _ _ q2, fr_row_ne _ _ (by omega), fr_up_at]
            by_cases q3 : j = 8
            · rw [if_pos q3, q3, upd_at]
            · rw [if_neg q3, upd_ne _ _ q3]
      have e59' : ∀ j, j ≠ 17 → j ≠ 4 → j ≠ 8 → j < 10 ∨ 14 < j → τ 59 j = σ 59 j := fun j h1 h2 h3 h4 => by rw [e59 j, if_neg h1, if_neg h2, if_neg h3, D.2 j h4, hS 59 (by omega) (by omega) (by omega), A2.1 59 (by omega) (by omega)]
      have hrS : RR z' (τ 63) := d3.congr e63
      have h19 : ∀ j, τ 19 j = if j = 2 then 0 else σ 19 j := fun j => by rw [e 19 (by omega) (by omega) (by omega), hS19 j]
      obtain ⟨ac, nx', k1, k2, k3, k4, k5, k6⟩ := h.2.2.2.2.1
      refine ⟨nI (z' 3), S, τ, ?_, ?_, h.1.fr fun a ha => e' a (by omega) (by omega) (by omega) (by omega) (by omega) (by omega) (by omega), ⟨?_, ?_⟩, ⟨0, by omega, by rw [e 13 (by omega) (by omega) (by omega), hS13], by rw [e59 8]; rfl, ?_⟩, ⟨z', Or.inl (w0.1.mono (by omega)), by rw [e 16 (by omega) (by omega) (by omega)]; exact hcS, hrS, by rw [e59 4, if_neg hz0]; rfl⟩, ⟨0, nx', by omega, k2, by rw [h19 2]; rfl, by rw [h19 1]; exact k4, by rw [e59 17]; rfl, fun j hj => by omega⟩, (h.2.2.2.2.2.1.fr ⟨e' 58 (by omega) (by omega) (by omega) (by omega) (by omega) (by omega) (by omega), e' 72 (by omega) (by omega) (by omega) (by omega) (by omega) (by omega) (by omega), e' 73 (by omega) (by omega) (by omega) (by omega) (by omega) (by omega) (by omega), e' 56 (by omega) (by omega) (by omega) (by omega) (by omega) (by omega) (by omega), e' 57 (by omega) (by omega) (by omega) (by omega) (by omega) (by omega) (by omega)⟩).mono, h.2.2.2.2.2.2.fr ⟨by rw [e' 53 (by omega) (by omega) (by omega) (by omega) (by omega) (by omega) (by omega)], e59' 25 (by omega) (by omega) (by omega) (by omega), e' 54 (by omega) (by omega) (by omega) (by omega) (by omega) (by omega) (by omega), e' 74 (by omega) (by omega) (by omega) (by omega) (by omega) (by omega) (by omega)⟩ (Or.inr (by rw [e59 4]; rfl))⟩
      · unfold F_X7_land
        rw [hX0, a1, fr_bP_mk, fr_let_eq]
        unfold F_X4_clearTape F_X3_takeFrom F_X0_forgetAll
        rw [fr_let_eq, fr_bS_mk, if_neg fr_nb, fr_let_eq, fr_bS_mk, fr_let_eq, fr_bS_mk]
        have eS' : fr_up (fr_row (fr_up s' 13 1 0) (15 + 1) (va_cpy ((fr_up s' 13 1 0) 18) ((fr_up s' 13 1 0) (15 + 1)) (fr_ix (0 : Int32)) (fr_ix (0 : Int32)) (fr_ix (122 : Int32)))) 19 2 0 = S := by
          rw [fr_up_ne _ _ _ (show 18 ≠ 13 by omega), fr_up_ne _ _ _ (show 15 + 1 ≠ 13 by omega)]
          exact eS
        rw [eS', cl_people (o := 15) hcS]
        rfl
      · unfold F_X8_land
        rw [y1, d1, fr_bP_mk, fr_let_eq, fr_let_eq, if_neg fr_nb, rl_copy, fr_bP_mk, fr_let_eq, fr_let_eq, fr_up_ne _ _ _ (show 63 ≠ 59 by omega), fr_up_ne _ _ _ (show 66 ≠ 59 by omega)]
        have := hrS.1 3 (by omega)
        show some (τ 63 3, τ) = some (nI (z' 3), τ)
        rw [this]
      · rw [e' 0 (by omega) (by omega) (by omega) (by omega) (by omega) (by omega) (by omega), e59' 3 (by omega) (by omega) (by omega) (by omega)]
        exact h.2.1.1
      · rw [e' 0 (by omega) (by omega) (by omega) (by omega) (by omega) (by omega) (by omega), e59' 9 (by omega) (by omega) (by omega) (by omega)]
        exact h.2.1.2
      · intro i hi
        rw [e' 14 (by omega) (by omega) (by omega) (by omega) (by omega) (by omega) (by omega), e' 65 (by omega) (by omega) (by omega) (by omega) (by omega) (by omega) (by omega)]
        exact hby i hi
end LN2
