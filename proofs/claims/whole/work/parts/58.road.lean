section RRD
variable {s t : fr_St} {T : Nat → Nat} {m p : Nat} {z : Nat → Nat}
def FailC (s : fr_St) (X : Option (Bool × fr_St)) (f q : Nat) : Prop := ∃ s', X = some (false, s') ∧ FC s s' ∧ s' 13 2 = nI q ∧ s' 13 6 = nI f
def FailR (t : fr_St) (Y : Option (Bool × fr_St)) (f q : Nat) : Prop := ∃ t', Y = some (false, t') ∧ FR t t' ∧ t' 59 13 = nI q ∧ t' 59 14 = nI f
/-- a land as it is being read -/
def DW (z : Nat → Nat) : Prop := WFl z 2 ∧ z 4 = 0 ∧ z 5 = 0 ∧ ∀ r q, r < 9 → q < 4 → z 3 ≤ q → z (50 + (r * 4 + q)) = 0
theorem zup_comm (z : Nat → Nat) {a b : Nat} (u v : Nat) (h : a ≠ b) : zup (zup z a u) b v = zup (zup z b v) a u := by
  funext x
  unfold zup
  by_cases h1 : x = b
  · rw [if_pos h1, if_neg (by omega), if_pos h1]
  · rw [if_neg h1]
    by_cases h2 : x = a
    · rw [if_pos h2, if_pos h2]
    · rw [if_neg h2, if_neg h2, if_neg h1]
theorem zup_zup (z : Nat → Nat) (a u v : Nat) : zup (zup z a u) a v = zup z a v := by
  funext x
  unfold zup
  split <;> rfl
theorem zup_self {z : Nat → Nat} {a v : Nat} (h : z a = v) : zup z a v = z := by
  funext x
  unfold zup
  split
  · rename_i e; rw [e, h]
  · rfl
theorem CR_upR {z : Nat → Nat} {c : Nat → Int32} (h : CR z c) {i K : Nat} (v : Nat) (hik : (i = K ∧ K < 4) ∨ (14 ≤ K ∧ K < 50 ∧ i + 8 = K)) : CR (zup z K v) (upd c i (nI v)) := by
  refine ⟨fun k hk => uz (by omega) (h.1 k hk), fun k hk => ?_, fun q hq => ?_, fun j hj => ?_⟩
  · obtain ⟨a1, a2, a3, a4⟩ := h.2.1 k hk
    exact ⟨uz (by omega) a1, uz (by omega) a2, uz (by omega) a3, uz (by omega) a4⟩
  · obtain ⟨a1, a2⟩ := h.2.2.1 q hq
    exact ⟨uz (by omega) a1, uz (by omega) a2⟩
  · obtain ⟨a1, a2⟩ := h.2.2.2 j hj
    refine ⟨uz (by omega) a1, fun hz => uz (by omega) (a2 ?_)⟩
    rw [zup_ne _ _ (by omega)] at hz
    exact hz
theorem nI_n1 {v : Nat} (hv : v ≤ 1000) : ¬ nI v = (-1 : Int32) := fun q => by
  have := (i_eq_iff _ _).mp q
  rw [i_toInt (by omega)] at this
  have e : (-1 : Int32).toInt = -1 := rfl
  omega
def zrd (z : Nat → Nat) (kd a b L : Nat) : Nat → Nat := zup (zup (zup (zup (zup z (14 + z 2) kd) (23 + z 2) a) (32 + z 2) b) (41 + z 2) L) 2 (z 2 + 1)
theorem cl_addRoad (hc : CR z (s 18)) (h9 : z 2 < 9) (kd a b L : Nat) : ∃ s', F_X3_addRoad 17 (nI kd) (nI a) (nI b) (nI L) s = some s' ∧ (∀ x, x ≠ 18 → s' x = s x) ∧ CR (zrd z kd a b L) (s' 18) := by
  have c1 := CR_upR hc (i := 6 + z 2) (K := 14 + z 2) kd (by omega)
  have c2 := CR_upR c1 (i := 15 + z 2) (K := 23 + z 2) a (by omega)
  have c3 := CR_upR c2 (i := 24 + z 2) (K := 32 + z 2) b (by omega)
  have c4 := CR_upR c3 (i := 33 + z 2) (K := 41 + z 2) L (by omega)
  have c5 := CR_upR c4 (i := 2) (K := 2) (z 2 + 1) (by omega)
  refine ⟨fr_up (fr_up (fr_up (fr_up (fr_up s 18 (6 + z 2) (nI kd)) 18 (15 + z 2) (nI a)) 18 (24 + z 2) (nI b)) 18 (33 + z 2) (nI L)) 18 2 (nI (z 2 + 1)), ?_, fun x hx => by rw [fr_up_ne _ _ _ hx, fr_up_ne _ _ _ hx, fr_up_ne _ _ _ hx, fr_up_ne _ _ _ hx, fr_up_ne _ _ _ hx], ?_⟩
  · unfold F_X3_addRoad
    have e2 : (fr_up (fr_up (fr_up (fr_up s 18 (6 + z 2) (nI kd)) 18 (15 + z 2) (nI a)) 18 (24 + z 2) (nI b)) 18 (33 + z 2) (nI L)) 18 2 = nI (z 2) := by
      rw [fr_up_at, upd_ne _ _ (by omega), fr_up_at, upd_ne _ _ (by omega), fr_up_at, upd_ne _ _ (by omega), fr_up_at, upd_ne _ _ (by omega), hc.1 2 (by omega)]
    rw [cl_roads (o := 17) hc, fr_bP_mk, if_pos (show nI (z 2) < (9 : Int32) from (i_lt (b := 9) (by omega) (by omega)).mpr h9), show (6 : Int32) = nI 6 from rfl, show (15 : Int32) = nI 15 from rfl, show (24 : Int32) = nI 24 from rfl, show (33 : Int32) = nI 33 from rfl, i_add, i_add, i_add, i_add, i_chk (by omega) (by omega), i_ix (by omega), fr_let_eq, i_chk (by omega) (by omega), i_ix (by omega), fr_let_eq, i_chk (by omega) (by omega), i_ix (by omega), fr_let_eq, i_chk (by omega) (by omega), i_ix (by omega), fr_let_eq, fr_let_eq]
    show some (fr_up _ 18 2 ((fr_up (fr_up (fr_up (fr_up s 18 (6 + z 2) (nI kd)) 18 (15 + z 2) (nI a)) 18 (24 + z 2) (nI b)) 18 (33 + z 2) (nI L)) 18 2 + (1 : Int32))) = _
    rw [e2, nI_1]
  · rw [fr_up_at, fr_up_at, fr_up_at, fr_up_at, fr_up_at]
    exact c5
theorem DW_zrd (h : DW z) (h9 : z 2 < 9) (h3 : z 3 = 0) {kd a b L : Nat} (k1 : 1 ≤ kd ∧ kd ≤ 5) (ha : a < z 1) (hb : b < z 1) (hab : a ≠ b) (hL : 1 ≤ L ∧ L ≤ 9) : DW (zrd z kd a b L) ∧ zrd z kd a b L 2 = z 2 + 1 ∧ zrd z kd a b L 3 = 0 ∧ zrd z kd a b L 1 = z 1 := by
  obtain ⟨⟨a0, b0, c0, d0, e0, f0, g0, i0, j0, m0, l0⟩, h4, h5, h6⟩ := h
  have lo : ∀ x, x ≠ 2 → (x < 14 ∨ 50 ≤ x) → zrd z kd a b L x = z x := fun x h2 hx => by
    unfold zrd
    rw [zup_ne _ _ h2, zup_ne _ _ (by omega), zup_ne _ _ (by omega), zup_ne _ _ (by omega), zup_ne _ _ (by omega)]
  have v2 : zrd z kd a b L 2 = z 2 + 1 := zup_at _ _ _
  have r14 : ∀ k, k < 9 → zrd z kd a b L (14 + k) = if k = z 2 then kd else z (14 + k) := fun k hk => by
    unfold zrd
    rw [zup_ne _ _ (by omega), zup_ne _ _ (by omega), zup_ne _ _ (by omega), zup_ne _ _ (by omega)]
    by_cases e : k = z 2
    · rw [if_pos e, e, zup_at]
    · rw [if_neg e, zup_ne _ _ (by omega)]
  have r23 : ∀ k, k < 9 → zrd z kd a b L (23 + k) = if k = z 2 then a else z (23 + k) := fun k hk => by
    unfold zrd
    rw [zup_ne _ _ (by omega), zup_ne _ _ (by omega), zup_ne _ _ (by omega)]
    by_cases e : k = z 2
    · rw [if_pos e, e, zup_at]
    · rw [if_neg e, zup_ne _ _ (by omega), zup_ne _ _ (by omega)]
  have r32 : ∀ k, k < 9 → zrd z kd a b L (32 + k) = if k = z 2 then b else z (32 + k) := fun k hk => by
    unfold zrd
    rw [zup_ne _ _ (by omega), zup_ne _ _ (by omega)]
    by_cases e : k = z 2
    · rw [if_pos e, e, zup_at]
    · rw [if_neg e, zup_ne _ _ (by omega), zup_ne _ _ (by omega), zup_ne _ _ (by omega)]
  have r41 : ∀ k, k < 9 → zrd z kd a b L (41 + k) = if k = z 2 then L else z (41 + k) := fun k hk => by
    unfold zrd
    rw [zup_ne _ _ (by omega)]
    by_cases e : k = z 2
    · rw [if_pos e, e, zup_at]
    · rw [if_neg e, zup_ne _ _ (by omega), zup_ne _ _ (by omega), zup_ne _ _ (by omega), zup_ne _ _ (by omega)]
  refine ⟨⟨?_, by rw [lo 4 (by omega) (by omega)]; exact h4, by rw [lo 5 (by omega) (by omega)]; exact h5, fun r q hr hq h => ?_⟩, v2, by rw [lo 3 (by omega) (by omega)]; exact h3, lo 1 (by omega) (by omega)⟩
  · unfold WFl
    rw [v2, lo 0 (by omega) (by omega), lo 1 (by omega) (by omega), lo 3 (by omega) (by omega), lo 4 (by omega) (by omega)]
    refine ⟨a0, b0, c0, d0, by omega, f0, g0, fun k hk => ?_, fun q hq => by omega, fun j hj => ?_, fun k hk => ?_⟩
    · rw [r14 k (by omega), r23 k (by omega), r32 k (by omega), r41 k (by omega)]
      by_cases e : k = z 2
      · rw [if_pos e, if_pos e, if_pos e, if_pos e]
        omega
      · rw [if_neg e, if_neg e, if_neg e, if_neg e]
        exact i0 k (by omega)
    · rw [lo (50 + j) (by omega) (by omega), lo (86 + j) (by omega) (by omega)]
      exact m0 j hj
    · rw [r14 k (by omega), r23 k (by omega), r32 k (by omega), r41 k (by omega)]
      by_cases e : k = z 2
      · rw [if_pos e, if_pos e, if_pos e, if_pos e]
        omega
      · rw [if_neg e, if_neg e, if_neg e, if_neg e]
        exact l0 k hk
  · rw [lo 3 (by omega) (by omega)] at h
    rw [lo (50 + (r * 4 + q)) (by omega) (by omega)]
    exact h6 r q hr hq h
/-- the reference's readRoad, from the other end on -/
def rdC (v1 : Int32) (s14 : fr_St) : Option (Bool × fr_St) := fr_let (fr_up s14 66 2 ((s14 66 2) + (1 : Int32))) (fun s16 => fr_bP (F_X8_takesNumber (0 : Int32) ((s16 66 1) - (1 : Int32)) ((32 : Int32) + v1) (44 : Int32) s16) (fun b19 s18 => fr_bP (if (fr_bi b19) = 0 then (some ((0 : Int32), s18)) else (fr_bP (F_X8_takesNumber (1 : Int32) (9 : Int32) ((41 : Int32) + v1) (59 : Int32) s18) (fun b26 s25 => if (fr_bi b26) = 0 then (some ((0 : Int32), s25)) else (some ((1 : Int32), s25))))) (fun v20 s21 => if v20 = 0 then some (false, s21) else if v20 = 1 then some (true, s21) else none)))
theorem rd_cls (hm : m ≤ 120) (hT : ∀ i, i < 120 → T i ≤ 255) (hp : p ≤ m) (he : EC T m s) (h2 : s 13 2 = nI p) (hc : CR z (s 18)) (hd : DW z) (h9 : z 2 < 9) (kd : Nat) :
  (¬ isN T m p 0 (z 1 - 1) → FailC s (F_X4_readRoad (nI kd) s) (nf T m p) p) ∧
  (isN T m p 0 (z 1 - 1) → (¬ isL T m (nx T m p) 44 → FailC s (F_X4_readRoad (nI kd) s) 1 (nx T m p)) ∧
  (isL T m (nx T m p) 44 → (¬ (isN T m (nx T m (nx T m p)) 0 (z 1 - 1) ∧ ¬ vl T m (nx T m (nx T m p)) = vl T m p) → FailC s (F_X4_readRoad (nI kd) s) (nf T m (nx T m (nx T m p))) (nx T m (nx T m p))) ∧
  (isN T m (nx T m (nx T m p)) 0 (z 1 - 1) ∧ ¬ vl T m (nx T m (nx T m p)) = vl T m p → (¬ isL T m (nx T m (nx T m (nx T m p))) 44 → FailC s (F_X4_readRoad (nI kd) s) 1 (nx T m (nx T m (nx T m p)))) ∧
  (isL T m (nx T m (nx T m (nx T m p))) 44 → (¬ isN T m (nx T m (nx T m (nx T m (nx T m p)))) 1 9 → FailC s (F_X4_readRoad (nI kd) s) (nf T m (nx T m (nx T m (nx T m (nx T m p))))) (nx T m (nx T m (nx T m (nx T m p))))) ∧
  (isN T m (nx T m (nx T m (nx T m (nx T m p)))) 1 9 → (¬ isL T m (nx T m (nx T m (nx T m (nx T m (nx T m p))))) 59 → FailC s (F_X4_readRoad (nI kd) s) 1 (nx T m (nx T m (nx T m (nx T m (nx T m p)))))) ∧
  (isL T m (nx T m (nx T m (nx T m (nx T m (nx T m p))))) 59 → ∃ s', F_X4_readRoad (nI kd) s = some (true, s') ∧ FC s s' ∧ s' 13 2 = nI (nx T m (nx T m (nx T m (nx T m (nx T m (nx T m p)))))) ∧ CR (zrd z kd (vl T m p) (vl T m (nx T m (nx T m p))) (vl T m (nx T m (nx T m (nx T m (nx T m p)))))) (s' 18))))))) := by
  obtain ⟨hw, -, -, -⟩ := hd
  have hW1 := hw.2.2.1
  have hW2 := hw.2.2.2.1
  have hq2 := nx_le (T := T) hp
  have hq3 := nx_le (T := T) hq2
  have hq4 := nx_le (T := T) hq3
  have hq5 := nx_le (T := T) hq4
  have hq6 := nx_le (T := T) hq5
  have hW : nI (z 1) - (1 : Int32) = nI (z 1 - 1) := i_sub (b := 1) (by omega)
  refine ⟨fun n1 => ?_, fun n1 => ?_⟩
  · obtain ⟨s1, e1, f1, f2, f3⟩ := (cl_takeN hm hT hp he h2 (lo := 0) (hi := z 1 - 1) (by omega) (by omega) (-1)).2 (fun q => n1 q.1)
    have e1 : F_X4_takeNumber (0 : Int32) (nI (z 1 - 1)) (-1 : Int32) s = some (false, s1) := e1
    refine ⟨s1, ?_, f1, f2, f3⟩
    unfold F_X4_readRoad
    rw [cl_places (o := 17) hc, fr_bP_mk, fr_let_eq, hW, e1]
    rfl
  obtain ⟨s1, e1, f1, g1, h21, v1⟩ := (cl_takeN hm hT hp he h2 (lo := 0) (hi := z 1 - 1) (by omega) (by omega) (-1)).1 ⟨n1, nI_n1 (ty_en n1.1)⟩
  have e1 : F_X4_takeNumber (0 : Int32) (nI (z 1 - 1)) (-1 : Int32) s = some (true, s1) := e1
  refine ⟨fun l2 => ?_, fun l2 => ?_⟩
  · obtain ⟨s2, e2, f2, f3, f4⟩ := (cl_take hm hT hq2 (he.fr f1) h21 (c := 44) (by omega)).2 l2
    have e2 : F_X4_take (44 : Int32) s1 = some (false, s2) := e2
    refine ⟨s2, ?_, f1.trans f2, f3, f4⟩
    unfold F_X4_readRoad
    rw [cl_places (o := 17) hc, fr_bP_mk, fr_let_eq, hW, e1, fr_bP_mk, if_neg fr_nb, fr_let_eq, e2]
    rfl
  obtain ⟨s2, e2, f2, g2, h22⟩ := (cl_take hm hT hq2 (he.fr f1) h21 (c := 44) (by omega)).1 l2
  have e2 : F_X4_take (44 : Int32) s1 = some (true, s2) := e2
  have F2 := f1.trans f2
  have ek : ¬ vl T m (nx T m (nx T m p)) = vl T m p → isN T m (nx T m (nx T m p)) 0 (z 1 - 1) → ¬ nI (vl T m (nx T m (nx T m p))) = nI (vl T m p) := fun h n q => h ((i_eq (by have := ty_en n.1; omega) (by have := ty_en n1.1; omega)).mp q)
  refine ⟨fun n3 => ?_, fun n3 => ?_⟩
  · obtain ⟨s3, e3, f3, f4, f5⟩ := (cl_takeN hm hT hq3 (he.fr F2) h22 (lo := 0) (hi := z 1 - 1) (by omega) (by omega) (nI (vl T m p))).2 (fun q => n3 ⟨q.1, fun w => q.2 (by rw [w])⟩)
    have e3 : F_X4_takeNumber (0 : Int32) (nI (z 1 - 1)) (nI (vl T m p)) s2 = some (false, s3) := e3
    refine ⟨s3, ?_, F2.trans f3, f4, f5⟩
    unfold F_X4_readRoad
    rw [cl_places (o := 17) hc, fr_bP_mk, fr_let_eq, hW, e1, fr_bP_mk, if_neg fr_nb, fr_let_eq, e2, fr_bP_mk, if_neg fr_nb, v1, e3]
    rfl
  obtain ⟨s3, e3, f3, g3, h23, v3⟩ := (cl_takeN hm hT hq3 (he.fr F2) h22 (lo := 0) (hi := z 1 - 1) (by omega) (by omega) (nI (vl T m p))).1 ⟨n3.1, ek n3.2 n3.1⟩
  have e3 : F_X4_takeNumber (0 : Int32) (nI (z 1 - 1)) (nI (vl T m p)) s2 = some (true, s3) := e3
  have F3 := F2.trans f3
  refine ⟨fun l4 => ?_, fun l4 => ?_⟩
  · obtain ⟨s4, e4, f4, f5, f6⟩ := (cl_take hm hT hq4 (he.fr F3) h23 (c := 44) (by omega)).2 l4
    have e4 : F_X4_take (44 : Int32) s3 = some (false, s4) := e4
    refine ⟨s4, ?_, F3.trans f4, f5, f6⟩
    unfold F_X4_readRoad
    rw [cl_places (o := 17) hc, fr_bP_mk, fr_let_eq, hW, e1, fr_bP_mk, if_neg fr_nb, fr_let_eq, e2, fr_bP_mk, if_neg fr_nb, v1, e3, fr_bP_mk, if_neg fr_nb, fr_let_eq, e4]
    rfl
  obtain ⟨s4, e4, f4, g4, h24⟩ := (cl_take hm hT hq4 (he.fr F3) h23 (c := 44) (by omega)).1 l4
  have e4 : F_X4_take (44 : Int32) s3 = some (true, s4) := e4
  have F4 := F3.trans f4
  refine ⟨fun n5 => ?_, fun n5 => ?_⟩
  · obtain ⟨s5, e5, f5, f6, f7⟩ := (cl_takeN hm hT hq5 (he.fr F4) h24 (lo := 1) (hi := 9) (by omega) (by omega) (-1)).2 (fun q => n5 q.1)
    have e5 : F_X4_takeNumber (1 : Int32) (9 : Int32) (-1 : Int32) s4 = some (false, s5) := e5
    refine ⟨s5, ?_, F4.trans f5, f6, f7⟩
    unfold F_X4_readRoad
    rw [cl_places (o := 17) hc, fr_bP_mk, fr_let_eq, hW, e1, fr_bP_mk, if_neg fr_nb, fr_let_eq, e2, fr_bP_mk, if_neg fr_nb, v1, e3, fr_bP_mk, if_neg fr_nb, fr_let_eq, e4, fr_bP_mk, if_neg fr_nb, e5]
    rfl
  obtain ⟨s5, e5, f5, g5, h25, v5⟩ := (cl_takeN hm hT hq5 (he.fr F4) h24 (lo := 1) (hi := 9) (by omega) (by omega) (-1)).1 ⟨n5, nI_n1 (ty_en n5.1)⟩
  have e5 : F_X4_takeNumber (1 : Int32) (9 : Int32) (-1 : Int32) s4 = some (true, s5) := e5
  have F5 := F4.trans f5
  have hc5 : CR z (s5 18) := by rw [g5, g4, g3, g2, g1]; exact hc
  obtain ⟨s6, a1, a2, a3⟩ := cl_addRoad hc5 h9 kd (vl T m p) (vl T m (nx T m (nx T m p))) (vl T m (nx T m (nx T m (nx T m (nx T m p)))))
  have f6 : FC s5 s6 := ⟨fun x _ h => a2 x h, by rw [a2 13 (by omega)]⟩
  have F6 := F5.trans f6
  have h26 : s6 13 2 = nI (nx T m (nx T m (nx T m (nx T m (nx T m p))))) := by rw [a2 13 (by omega)]; exact h25
  refine ⟨fun l6 => ?_, fun l6 => ?_⟩
  · obtain ⟨s7, e7, f7, f8, f9⟩ := (cl_take hm hT hq6 (he.fr F6) h26 (c := 59) (by omega)).2 l6
    have e7 : F_X4_take (59 : Int32) s6 = some (false, s7) := e7
    refine ⟨s7, ?_, F6.trans f7, f8, f9⟩
    unfold F_X4_readRoad
    rw [cl_places (o := 17) hc, fr_bP_mk, fr_let_eq, hW, e1, fr_bP_mk, if_neg fr_nb, fr_let_eq, e2, fr_bP_mk, if_neg fr_nb, v1, e3, fr_bP_mk, if_neg fr_nb, fr_let_eq, e4, fr_bP_mk, if_neg fr_nb, e5, fr_bP_mk, if_neg fr_nb, v3, v5, a1, fr_bS_mk, e7]
    rfl
  obtain ⟨s7, e7, f7, g7, h27⟩ := (cl_take hm hT hq6 (he.fr F6) h26 (c := 59) (by omega)).1 l6
  have e7 : F_X4_take (59 : Int32) s6 = some (true, s7) := e7
  refine ⟨s7, ?_, F6.trans f7, h27, by rw [g7]; exact a3⟩
  unfold F_X4_readRoad
  rw [cl_places (o := 17) hc, fr_bP_mk, fr_let_eq, hW, e1, fr_bP_mk, if_neg fr_nb, fr_let_eq, e2, fr_bP_mk, if_neg fr_nb, v1, e3, fr_bP_mk, if_neg fr_nb, fr_let_eq, e4, fr_bP_mk, if_neg fr_nb, e5, fr_bP_mk, if_neg fr_nb, v3, v5, a1, fr_bS_mk, e7]
  rfl
/-- the reference: t has looked at the road's letter at p0; p is what follows -/
theorem rd_ref {p0 : Nat} (hm : m ≤ 120) (hT : ∀ i, i < 120 → T i ≤ 255) (hp0 : p0 ≤ m) (hpe : p = nx T m p0) (he : ER T m t) (hk : K2 T m p0 t) (hr : RR z (t 66)) (hd : DW z) (h9 : z 2 < 9) (h3 : z 3 = 0) (kd : Nat) :
  (¬ isN T m p 0 (z 1 - 1) → FailR t (F_X8_readRoad (nI kd) t) (nf T m p) p) ∧
  (isN T m p 0 (z 1 - 1) → (¬ isL T m (nx T m p) 44 → FailR t (F_X8_readRoad (nI kd) t) 1 (nx T m p)) ∧
  (isL T m (nx T m p) 44 → (¬ (isN T m (nx T m (nx T m p)) 0 (z 1 - 1) ∧ ¬ vl T m (nx T m (nx T m p)) = vl T m p) → FailR t (F_X8_readRoad (nI kd) t) (nf T m (nx T m (nx T m p))) (nx T m (nx T m p))) ∧
  (isN T m (nx T m (nx T m p)) 0 (z 1 - 1) ∧ ¬ vl T m (nx T m (nx T m p)) = vl T m p → (¬ isL T m (nx T m (nx T m (nx T m p))) 44 → FailR t (F_X8_readRoad (nI kd) t) 1 (nx T m (nx T m (nx T m p)))) ∧
  (isL T m (nx T m (nx T m (nx T m p))) 44 → (¬ isN T m (nx T m (nx T m (nx T m (nx T m p)))) 1 9 → FailR t (F_X8_readRoad (nI kd) t) (nf T m (nx T m (nx T m (nx T m (nx T m p))))) (nx T m (nx T m (nx T m (nx T m p))))) ∧
  (isN T m (nx T m (nx T m (nx T m (nx T m p)))) 1 9 → (¬ isL T m (nx T m (nx T m (nx T m (nx T m (nx T m p))))) 59 → FailR t (F_X8_readRoad (nI kd) t) 1 (nx T m (nx T m (nx T m (nx T m (nx T m p)))))) ∧
  (isL T m (nx T m (nx T m (nx T m (nx T m (nx T m p))))) 59 → ∃ t', F_X8_readRoad (nI kd) t = some (true, t') ∧ FR t t' ∧ K2 T m (nx T m (nx T m (nx T m (nx T m (nx T m (nx T m p)))))) t' ∧ RR (zrd z kd (vl T m p) (vl T m (nx T m (nx T m p))) (vl T m (nx T m (nx T m (nx T m (nx T m p)))))) (t' 66))))))) := by
  obtain ⟨hw, -, -, -⟩ := hd
  have hW1 := hw.2.2.1
  have hW2 := hw.2.2.2.1
  have hp : p ≤ m := by rw [hpe]; exact nx_le hp0
  have hq2 := nx_le (T := T) hp
  have hq3 := nx_le (T := T) hq2
  have hq4 := nx_le (T := T) hq3
  have hq5 := nx_le (T := T) hq4
  have hW : nI (z 1) - (1 : Int32) = nI (z 1 - 1) := i_sub (b := 1) (by omega)
  obtain ⟨u, u1, u2, u3, u4⟩ := rf_next2 hm hT hp0 he hk
  rw [← hpe] at u4
  have f1 : FR u (fr_up u 66 (14 + z 2) (nI kd)) := ⟨fun x _ h => fr_up_ne _ _ _ h, fun j _ => by rw [fr_up_ne _ _ _ (by omega)]⟩
  have F1 := u2.trans f1
  have k1 : K2 T m p (fr_up u 66 (14 + z 2) (nI kd)) := by unfold K2; rw [fr_up_ne _ _ _ (by omega)]; exact u4
  have r1 : RR (zup z (14 + z 2) kd) ((fr_up u 66 (14 + z 2) (nI kd)) 66) := by rw [fr_up_at, u3]; exact RR_up hr _ (by omega)
  generalize ht1 : fr_up u 66 (14 + z 2) (nI kd) = t1 at F1 k1 r1
  have hst : F_X8_readRoad (nI kd) t = fr_bP (F_X8_takesNumber (0 : Int32) (nI (z 1 - 1)) (nI (23 + z 2)) (44 : Int32) t1) (fun b15 s14 => if (fr_bi b15) = 0 then (some (false, s14)) else (if (s14 59 11) = (2 : Int32) then (if fr_ib (nI (23 + z 2)) 122 = true then if (s14 59 12) = (s14 66 (fr_ix (nI (23 + z 2)))) then (fr_bP (F_X8_faults (2 : Int32) s14) (fun b45 s44 => some (b45, s44))) else rdC (nI (z 2)) s14 else none) else rdC (nI (z 2)) s14)) := by
    unfold F_X8_readRoad
    rw [hr.1 2 (by omega), hr.1 3 (by omega), h3, fr_let_eq, if_neg (show ¬ nI (z 2) = (9 : Int32) from fun q => absurd ((i_eq (b := 9) (by omega) (by omega)).mp q) (by omega)), if_pos (show nI 0 ≤ (0 : Int32) by decide), u1, fr_bS_mk, show (14 : Int32) = nI 14 from rfl, show (23 : Int32) = nI 23 from rfl, i_add, i_add, i_chk (by omega) (by omega), i_ix (show 14 + z 2 < 2147483648 by omega), fr_let_eq, ht1, r1.1 1 (by omega), zup_ne _ _ (by omega), hW]
    rfl
  rw [hst]
  have N1 := rf_takesN hm hT hp (he.fr F1) k1 (lo := 0) (hi := z 1 - 1) (a := 23 + z 2) (c := 44) (by omega) (by omega) (by omega) (by omega)
  refine ⟨fun n1 => ?_, fun n1 => ?_⟩
  · obtain ⟨t2, e2, f2, f3, f4⟩ := N1.2.2 n1
    have e2 : F_X8_takesNumber (0 : Int32) (nI (z 1 - 1)) (nI (23 + z 2)) (44 : Int32) t1 = _ := e2
    exact ⟨t2, by rw [e2]; rfl, F1.trans f2, f3, f4⟩
  refine ⟨fun l2 => ?_, fun l2 => ?_⟩
  · obtain ⟨t2, e2, f2, f3, f4⟩ := N1.2.1 ⟨n1, l2⟩
    have e2 : F_X8_takesNumber (0 : Int32) (nI (z 1 - 1)) (nI (23 + z 2)) (44 : Int32) t1 = _ := e2
    exact ⟨t2, by rw [e2]; rfl, F1.trans f2, f3, f4⟩
  obtain ⟨t2, e2, f2, g2, k2⟩ := N1.1 ⟨n1, l2⟩
  have e2 : F_X8_takesNumber (0 : Int32) (nI (z 1 - 1)) (nI (23 + z 2)) (44 : Int32) t1 = _ := e2
  have F2 := F1.trans f2
  have r2 : RR (zup (zup z (14 + z 2) kd) (23 + z 2) (vl T m p)) (t2 66) := by rw [g2]; exact RR_up r1 _ (by omega)
  have f3 : FR t2 (fr_up t2 66 2 (nI (z 2 + 1))) := ⟨fun x _ h => fr_up_ne _ _ _ h, fun j _ => by rw [fr_up_ne _ _ _ (by omega)]⟩
  have F3 := F2.trans f3
  have k3 : K2 T m (nx T m (nx T m p)) (fr_up t2 66 2 (nI (z 2 + 1))) := by unfold K2; rw [fr_up_ne _ _ _ (by omega)]; exact k2
  have r3 : RR (zup (zup (zup z (14 + z 2) kd) (23 + z 2) (vl T m p)) 2 (z 2 + 1)) ((fr_up t2 66 2 (nI (z 2 + 1))) 66) := by rw [fr_up_at]; exact RR_up r2 _ (by omega)
  have e66 : t2 66 2 = nI (z 2) := by rw [r2.1 2 (by omega), zup_ne _ _ (by omega), zup_ne _ _ (by omega)]
  generalize ht3 : fr_up t2 66 2 (nI (z 2 + 1)) = t3 at F3 k3 r3
  have hC : rdC (nI (z 2)) t2 = fr_bP (F_X8_takesNumber (0 : Int32) (nI (z 1 - 1)) (nI (32 + z 2)) (44 : Int32) t3) (fun b19 s18 => fr_bP (if (fr_bi b19) = 0 then (some ((0 : Int32), s18)) else (fr_bP (F_X8_takesNumber (1 : Int32) (9 : Int32) (nI (41 + z 2)) (59 : Int32) s18) (fun b26 s25 => if (fr_bi b26) = 0 then (some ((0 : Int32), s25)) else (some ((1 : Int32), s25))))) (fun v20 s21 => if v20 = 0 then some (false, s21) else if v20 = 1 then some (true, s21) else none)) := by
    unfold rdC
    rw [e66, nI_1, fr_let_eq, ht3, r3.1 1 (by omega), zup_ne _ _ (by omega), zup_ne _ _ (by omega), zup_ne _ _ (by omega), hW, show (32 : Int32) = nI 32 from rfl, show (41 : Int32) = nI 41 from rfl, i_add, i_add]
  have N3 := rf_takesN hm hT hq3 (he.fr F3) k3 (lo := 0) (hi := z 1 - 1) (a := 32 + z 2) (c := 44) (by omega) (by omega) (by omega) (by omega)
  have hgo : ¬ (ty T m (nx T m (nx T m p)) = 2 ∧ vl T m (nx T m (nx T m p)) = vl T m p) → ∀ (X : Option (Bool × fr_St)), rdC (nI (z 2)) t2 = X → fr_bP (F_X8_takesNumber (0 : Int32) (nI (z 1 - 1)) (nI (23 + z 2)) (44 : Int32) t1) (fun b15 s14 => if (fr_bi b15) = 0 then (some (false, s14)) else (if (s14 59 11) = (2 : Int32) then (if fr_ib (nI (23 + z 2)) 122 = true then if (s14 59 12) = (s14 66 (fr_ix (nI (23 + z 2)))) then (fr_bP (F_X8_faults (2 : Int32) s14) (fun b45 s44 => some (b45, s44))) else rdC (nI (z 2)) s14 else none) else rdC (nI (z 2)) s14)) = X := by
    intro h X hX
    have ht3 := ty_3 (T := T) (m := m) (p := (nx T m (nx T m p)))
    rw [e2, fr_bP_mk, if_neg fr_nb, k2.2.1]
    by_cases ty2 : ty T m (nx T m (nx T m p)) = 2
    · rw [if_pos (show nI (ty T m (nx T m (nx T m p))) = (2 : Int32) by rw [ty2]; rfl), k2.2.2.2.1 ty2, i_chk (by omega) (by omega), i_ix (by omega), r2.1 (23 + z 2) (by omega), zup_at, if_neg (fun q => h ⟨ty2, (i_eq (by have := ty_en ty2; omega) (by have := ty_en n1.1; omega)).mp q⟩), hX]
    · rw [if_neg (show ¬ nI (ty T m (nx T m (nx T m p))) = (2 : Int32) from fun q => ty2 ((i_eq (b := 2) (by omega) (by omega)).mp q)), hX]
  refine ⟨fun n3 => ?_, fun n3 => ?_⟩
  · by_cases hq : ty T m (nx T m (nx T m p)) = 2 ∧ vl T m (nx T m (nx T m p)) = vl T m p
    · obtain ⟨t4, e4, f4, f5, f6⟩ := rf_fault (p := (nx T m (nx T m p))) t2 2 k2.1
      have hnf : nf T m (nx T m (nx T m p)) = 2 := if_pos hq.1
      refine ⟨t4, ?_, F2.trans f4, f5, by rw [hnf]; exact f6⟩
      rw [e2, fr_bP_mk, if_neg fr_nb, k2.2.1, if_pos (show nI (ty T m (nx T m (nx T m p))) = (2 : Int32) by rw [hq.1]; rfl), k2.2.2.2.1 hq.1, i_chk (by omega) (by omega), i_ix (by omega), r2.1 (23 + z 2) (by omega), zup_at, if_pos (by rw [hq.2]), show F_X8_faults (2 : Int32) t2 = _ from e4]
      rfl
    · have n3' : ¬ isN T m (nx T m (nx T m p)) 0 (z 1 - 1) := fun q => n3 ⟨q, fun w => hq ⟨q.1, w⟩⟩
      obtain ⟨t4, e4, f4, f5, f6⟩ := N3.2.2 n3'
      refine ⟨t4, hgo hq _ ?_, F3.trans f4, f5, f6⟩
      rw [hC, show F_X8_takesNumber (0 : Int32) (nI (z 1 - 1)) (nI (32 + z 2)) (44 : Int32) t3 = _ from e4]
      rfl
  have hq : ¬ (ty T m (nx T m (nx T m p)) = 2 ∧ vl T m (nx T m (nx T m p)) = vl T m p) := fun q => n3.2 q.2
  refine ⟨fun l4 => ?_, fun l4 => ?_⟩
  · obtain ⟨t4, e4, f4, f5, f6⟩ := N3.2.1 ⟨n3.1, l4⟩
    refine ⟨t4, hgo hq _ ?_, F3.trans f4, f5, f6⟩
    rw [hC, show F_X8_takesNumber (0 : Int32) (nI (z 1 - 1)) (nI (32 + z 2)) (44 : Int32) t3 = _ from e4]
    rfl
  obtain ⟨t4, e4, f4, g4, k4⟩ := N3.1 ⟨n3.1, l4⟩
  have F4 := F3.trans f4
  have r4 : RR (zup (zup (zup (zup z (14 + z 2) kd) (23 + z 2) (vl T m p)) 2 (z 2 + 1)) (32 + z 2) (vl T m (nx T m (nx T m p)))) (t4 66) := by rw [g4]; exact RR_up r3 _ (by omega)
  have N5 := rf_takesN hm hT hq5 (he.fr F4) k4 (lo := 1) (hi := 9) (a := 41 + z 2) (c := 59) (by omega) (by omega) (by omega) (by omega)
  refine ⟨fun n5 => ?_, fun n5 => ?_⟩
  · obtain ⟨t5, e5, f5, f6, f7⟩ := N5.2.2 n5
    refine ⟨t5, hgo hq _ ?_, F4.trans f5, f6, f7⟩
    rw [hC, show F_X8_takesNumber (0 : Int32) (nI (z 1 - 1)) (nI (32 + z 2)) (44 : Int32) t3 = _ from e4, fr_bP_mk, if_neg fr_nb, show F_X8_takesNumber (1 : Int32) (9 : Int32) (nI (41 + z 2)) (59 : Int32) t4 = _ from e5]
    rfl
  refine ⟨fun l6 => ?_, fun l6 => ?_⟩
  · obtain ⟨t5, e5, f5, f6, f7⟩ := N5.2.1 ⟨n5, l6⟩
    refine ⟨t5, hgo hq _ ?_, F4.trans f5, f6, f7⟩
    rw [hC, show F_X8_takesNumber (0 : Int32) (nI (z 1 - 1)) (nI (32 + z 2)) (44 : Int32) t3 = _ from e4, fr_bP_mk, if_neg fr_nb, show F_X8_takesNumber (1 : Int32) (9 : Int32) (nI (41 + z 2)) (59 : Int32) t4 = _ from e5]
    rfl
  obtain ⟨t5, e5, f5, g5, k5⟩ := N5.1 ⟨n5, l6⟩
  refine ⟨t5, hgo hq _ ?_, F4.trans f5, k5, ?_⟩
  · rw [hC, show F_X8_takesNumber (0 : Int32) (nI (z 1 - 1)) (nI (32 + z 2)) (44 : Int32) t3 = _ from e4, fr_bP_mk, if_neg fr_nb, show F_X8_takesNumber (1 : Int32) (9 : Int32) (nI (41 + z 2)) (59 : Int32) t4 = _ from e5]
    rfl
  · rw [g5]
    have r5 := RR_up r4 (K := 41 + z 2) (vl T m (nx T m (nx T m (nx T m (nx T m p))))) (by omega)
    unfold zrd
    rw [zup_comm _ _ _ (show 41 + z 2 ≠ 2 by omega), zup_comm _ _ _ (show 32 + z 2 ≠ 2 by omega)]
    exact r5
end RRD
