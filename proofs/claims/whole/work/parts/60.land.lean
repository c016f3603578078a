section LND
variable {N : Nat} {σ s t : fr_St} {T : Nat → Nat} {m p : Nat} {z : Nat → Nat}
/-- both have read so far -/
def Both (T : Nat → Nat) (m : Nat) (s t s' t' : fr_St) (z' : Nat → Nat) (p' : Nat) : Prop := FC s s' ∧ s' 13 2 = nI p' ∧ CR z' (s' 18) ∧ FR t t' ∧ K2 T m p' t' ∧ RR z' (t' 66) ∧ DW z' ∧ p' ≤ m
theorem rd_both {p0 : Nat} (hm : m ≤ 120) (hT : ∀ i, i < 120 → T i ≤ 255) (hp0 : p0 ≤ m) (hpe : p = nx T m p0) (he : EC T m s) (h2 : s 13 2 = nI p) (hc : CR z (s 18)) (heR : ER T m t) (hk : K2 T m p0 t) (hr : RR z (t 66)) (hd : DW z) (h9 : z 2 < 9) (h3 : z 3 = 0) {kd : Nat} (k1 : 1 ≤ kd ∧ kd ≤ 5) :
  (∃ f q, FailC s (F_X4_readRoad (nI kd) s) f q ∧ FailR t (F_X8_readRoad (nI kd) t) f q) ∨ ∃ s' t' z' p', F_X4_readRoad (nI kd) s = some (true, s') ∧ F_X8_readRoad (nI kd) t = some (true, t') ∧ Both T m s t s' t' z' p' ∧ z' 2 = z 2 + 1 ∧ z' 3 = 0 := by
  have hp : p ≤ m := by rw [hpe]; exact nx_le hp0
  have W1 := hd.1.2.2.1
  have A := rd_cls hm hT hp he h2 hc hd h9 kd
  have R := rd_ref hm hT hp0 hpe heR hk hr hd h9 h3 kd
  by_cases n1 : isN T m p 0 (z 1 - 1)
  · have A := A.2 n1
    have R := R.2 n1
    by_cases l2 : isL T m (nx T m p) 44
    · have A := A.2 l2
      have R := R.2 l2
      by_cases n3 : isN T m (nx T m (nx T m p)) 0 (z 1 - 1) ∧ ¬ vl T m (nx T m (nx T m p)) = vl T m p
      · have A := A.2 n3
        have R := R.2 n3
        by_cases l4 : isL T m (nx T m (nx T m (nx T m p))) 44
        · have A := A.2 l4
          have R := R.2 l4
          by_cases n5 : isN T m (nx T m (nx T m (nx T m (nx T m p)))) 1 9
          · have A := A.2 n5
            have R := R.2 n5
            by_cases l6 : isL T m (nx T m (nx T m (nx T m (nx T m (nx T m p))))) 59
            · obtain ⟨s', a1, a2, a3, a4⟩ := A.2 l6
              obtain ⟨t', b1, b2, b3, b4⟩ := R.2 l6
              obtain ⟨d1, d2, d3, d4⟩ := DW_zrd hd h9 h3 (a := vl T m p) (b := vl T m (nx T m (nx T m p))) (L := vl T m (nx T m (nx T m (nx T m (nx T m p))))) k1 (by have := n1.2.2; omega) (by have := n3.1.2.2; omega) (fun q => n3.2 q.symm) n5.2
              exact Or.inr ⟨s', t', _, _, a1, b1, ⟨a2, a3, a4, b2, b3, b4, d1, nx_le (nx_le (nx_le (nx_le (nx_le (nx_le hp)))))⟩, d2, d3⟩
            · exact Or.inl ⟨_, _, A.1 l6, R.1 l6⟩
          · exact Or.inl ⟨_, _, A.1 n5, R.1 n5⟩
        · exact Or.inl ⟨_, _, A.1 l4, R.1 l4⟩
      · exact Or.inl ⟨_, _, A.1 n3, R.1 n3⟩
    · exact Or.inl ⟨_, _, A.1 l2, R.1 l2⟩
  · exact Or.inl ⟨_, _, A.1 n1, R.1 n1⟩
theorem pe_both {p0 : Nat} (hm : m ≤ 120) (hT : ∀ i, i < 120 → T i ≤ 255) (hp0 : p0 ≤ m) (hpe : p = nx T m p0) (he : EC T m s) (h2 : s 13 2 = nI p) (hc : CR z (s 18)) (heR : ER T m t) (hk : K2 T m p0 t) (hr : RR z (t 66)) (hd : DW z) (h4 : z 3 < 4) :
  (∃ f q, FailC s (F_X4_readPerson s) f q ∧ FailR t (F_X8_readPerson t) f q) ∨ ∃ s' t' z' p', F_X4_readPerson s = some (true, s') ∧ F_X8_readPerson t = some (true, t') ∧ Both T m s t s' t' z' p' ∧ z' 3 = z 3 + 1 := by
  have hp : p ≤ m := by rw [hpe]; exact nx_le hp0
  have W1 := hd.1.2.2.1
  have A := pe_cls hm hT hp he h2 hc hd h4
  have R := pe_ref hm hT hp0 hpe heR hk hr hd h4
  by_cases n1 : isN T m p 0 (z 1 - 1)
  · have A := A.2 n1
    have R := R.2 n1
    by_cases l2 : isL T m (nx T m p) 44
    · have A := A.2 l2
      have R := R.2 l2
      by_cases n3 : isN T m (nx T m (nx T m p)) 0 (2 ^ z 2 - 1)
      · have A := A.2 n3
        have R := R.2 n3
        by_cases l4 : isL T m (nx T m (nx T m (nx T m p))) 59
        · obtain ⟨s', a1, a2, a3, a4⟩ := A.2 l4
          obtain ⟨t', b1, b2, b3, b4⟩ := R.2 l4
          obtain ⟨d1, d2, d3, d4⟩ := DW_zpe hd h4 (a := vl T m p) (K := vl T m (nx T m (nx T m p))) (by have := n1.2.2; omega)
          exact Or.inr ⟨s', t', _, _, a1, b1, ⟨a2, a3, a4, b2, b3, b4, d1, nx_le (nx_le (nx_le (nx_le hp)))⟩, d2⟩
        · exact Or.inl ⟨_, _, A.1 l4, R.1 l4⟩
      · exact Or.inl ⟨_, _, A.1 n3, R.1 n3⟩
    · exact Or.inl ⟨_, _, A.1 l2, R.1 l2⟩
  · exact Or.inl ⟨_, _, A.1 n1, R.1 n1⟩
/-- the kind of road that the token at p begins; 0: none -/
def kdt (x : Nat) : Nat := if x = 108 then 1 else if x = 110 then 2 else if x = 111 then 3 else if x = 104 then 4 else if x = 114 then 5 else 0
def kdl (T : Nat → Nat) (m p : Nat) : Nat := if ty T m p = 1 then kdt (T p) else 0
theorem kdt_5 (x : Nat) : kdt x ≤ 5 := by unfold kdt; repeat (first | omega | split)
theorem kdl_5 : kdl T m p ≤ 5 := by
  have := kdt_5 (T p)
  unfold kdl
  split <;> omega
def kI (k : Nat) : Int32 := if k = 0 then -1 else nI k
theorem cl_ofL (hT : ∀ i, i < 120 → T i ≤ 255) (hm : m ≤ 120) (σ : fr_St) : F_X2_ofLetter (tcd T m p) σ = some (kI (kdl T m p), σ) := by
  have key : ∀ x, x < 256 → (if nI x = (104 : Int32) then (4 : Int32) else (if nI x = (105 : Int32) then (-1 : Int32) else (if nI x = (106 : Int32) then (-1 : Int32) else (if nI x = (107 : Int32) then (-1 : Int32) else (if nI x = (108 : Int32) then (1 : Int32) else (if nI x = (109 : Int32) then (-1 : Int32) else (if nI x = (110 : Int32) then (2 : Int32) else (if nI x = (111 : Int32) then (3 : Int32) else (if nI x = (112 : Int32) then (-1 : Int32) else (if nI x = (113 : Int32) then (-1 : Int32) else (if nI x = (114 : Int32) then (5 : Int32) else (-1 : Int32)))))))))))) = kI (kdt x) := by decide +kernel
  have pull : ∀ a : Int32, F_X2_ofLetter a σ = some ((if a = (104 : Int32) then (4 : Int32) else (if a = (105 : Int32) then (-1 : Int32) else (if a = (106 : Int32) then (-1 : Int32) else (if a = (107 : Int32) then (-1 : Int32) else (if a = (108 : Int32) then (1 : Int32) else (if a = (109 : Int32) then (-1 : Int32) else (if a = (110 : Int32) then (2 : Int32) else (if a = (111 : Int32) then (3 : Int32) else (if a = (112 : Int32) then (-1 : Int32) else (if a = (113 : Int32) then (-1 : Int32) else (if a = (114 : Int32) then (5 : Int32) else (-1 : Int32)))))))))))), σ) := by
    intro a
    unfold F_X2_ofLetter
    repeat (first | rfl | split)
  have h3 := ty_3 (T := T) (m := m) (p := p)
  unfold tcd kdl
  rcases (show ty T m p = 0 ∨ ty T m p = 1 ∨ ty T m p = 2 ∨ ty T m p = 3 by omega) with e | e | e | e
  · rw [e]; rfl
  · have := ty_lt e
    have hTp := hT p (by omega)
    rw [e, if_neg (by omega), if_neg (by omega), if_pos rfl, if_pos rfl, pull, key (T p) (by omega)]
  · rw [e]; rfl
  · rw [e]; rfl
theorem rf_kd (hT : ∀ i, i < 120 → T i ≤ 255) (hm : m ≤ 120) (hk : K2 T m p t) {α : Type} (f : Int32 → fr_St → Option α) : fr_bP (F_X8_isLetter (108 : Int32) t) (fun b3 s2 => fr_bP (if (fr_bi b3) = 0 then (fr_bP (F_X8_isLetter (110 : Int32) s2) (fun b28 s27 => if (fr_bi b28) = 0 then (fr_bP (F_X8_isLetter (111 : Int32) s27) (fun b31 s30 => if (fr_bi b31) = 0 then (fr_bP (F_X8_isLetter (104 : Int32) s30) (fun b34 s33 => if (fr_bi b34) = 0 then (fr_bP (F_X8_isLetter (114 : Int32) s33) (fun b37 s36 => if (fr_bi b37) = 0 then (some ((0 : Int32), s36)) else (some ((5 : Int32), s36)))) else (some ((4 : Int32), s33)))) else (some ((3 : Int32), s30)))) else (some ((2 : Int32), s27)))) else (some ((1 : Int32), s2))) f) = f (nI (kdl T m p)) t := by
  have L : ∀ c : Nat, c ≤ 255 → F_X8_isLetter (nI c) t = some (decide (ty T m p = 1 ∧ T p = c), t) := fun c hc => rf_isL hT hm hk hc
  rw [show F_X8_isLetter (108 : Int32) t = _ from L 108 (by omega), fr_bP_mk, show F_X8_isLetter (110 : Int32) t = _ from L 110 (by omega), fr_bP_mk, show F_X8_isLetter (111 : Int32) t = _ from L 111 (by omega), fr_bP_mk, show F_X8_isLetter (104 : Int32) t = _ from L 104 (by omega), fr_bP_mk, show F_X8_isLetter (114 : Int32) t = _ from L 114 (by omega), fr_bP_mk]
  unfold kdl kdt
  by_cases e : ty T m p = 1
  · rw [if_pos e]
    by_cases c1 : T p = 108
    · rw [if_pos c1, decide_eq_true ⟨e, c1⟩]; rfl
    · rw [if_neg c1, decide_eq_false (fun q => c1 q.2), if_pos (show fr_bi false = 0 from rfl)]
      by_cases c2 : T p = 110
      · rw [if_pos c2, decide_eq_true ⟨e, c2⟩]; rfl
      · rw [if_neg c2, decide_eq_false (fun q => c2 q.2), if_pos (show fr_bi false = 0 from rfl)]
        by_cases c3 : T p = 111
        · rw [if_pos c3, decide_eq_true ⟨e, c3⟩]; rfl
        · rw [if_neg c3, decide_eq_false (fun q => c3 q.2), if_pos (show fr_bi false = 0 from rfl)]
          by_cases c4 : T p = 104
          · rw [if_pos c4, decide_eq_true ⟨e, c4⟩]; rfl
          · rw [if_neg c4, decide_eq_false (fun q => c4 q.2), if_pos (show fr_bi false = 0 from rfl)]
            by_cases c5 : T p = 114
            · rw [if_pos c5, decide_eq_true ⟨e, c5⟩]; rfl
            · rw [if_neg c5, decide_eq_false (fun q => c5 q.2)]; rfl
  · rw [if_neg e, decide_eq_false (fun q => e q.1), decide_eq_false (fun q => e q.1), decide_eq_false (fun q => e q.1), decide_eq_false (fun q => e q.1), decide_eq_false (fun q => e q.1)]
    rfl
/-- one turn of the reference's loop -/
theorem rl_step (hT : ∀ i, i < 120 → T i ≤ 255) (hm : m ≤ 120) (hk : K2 T m p t) (h3 : ty T m p ≠ 3) (n : Nat) : L_X8_readLand_80 (n + 1) 1 t = fr_bP (if nI (kdl T m p) ≤ 0 then (fr_bP (F_X8_isLetter (112 : Int32) t) (fun b14 s13 => if (fr_bi b14) = 0 then (fr_bP (F_X8_faults (1 : Int32) s13) (fun b17 s16 => some ((fr_bi b17), s16))) else (fr_bP (F_X8_readPerson s13) (fun b20 s19 => some ((fr_bi b20), s19))))) else (fr_bP (F_X8_readRoad (nI (kdl T m p)) t) (fun b24 s23 => some ((fr_bi b24), s23)))) (fun v8 s9 => L_X8_readLand_80 n v8 s9) := by
  have ht := ty_3 (T := T) (m := m) (p := p)
  rw [L_X8_readLand_80, if_neg (show ¬ (1 : Int32) = 0 by decide), hk.2.1, if_neg (show ¬ nI (ty T m p) = (3 : Int32) from fun q => h3 ((i_eq (b := 3) (by omega) (by omega)).mp q)), rf_kd hT hm hk]
theorem rl_zero (n : Nat) (t : fr_St) : L_X8_readLand_80 (n + 1) 0 t = some (0, t) := by rw [L_X8_readLand_80, if_pos rfl]
def FailL (t : fr_St) (Y : Option (Int32 × fr_St)) (f q : Nat) : Prop := ∃ t', Y = some (0, t') ∧ FR t t' ∧ t' 59 13 = nI q ∧ t' 59 14 = nI f
theorem kdl_1 (h : kdl T m p ≠ 0) : ty T m p = 1 := by
  unfold kdl at h
  split at h
  · assumption
  · exact absurd rfl h
theorem rl_road (hT : ∀ i, i < 120 → T i ≤ 255) (hm : m ≤ 120) (hk : K2 T m p t) (h : kdl T m p ≠ 0) (n : Nat) : L_X8_readLand_80 (n + 1) 1 t = fr_bP (F_X8_readRoad (nI (kdl T m p)) t) (fun b24 s23 => L_X8_readLand_80 n (fr_bi b24) s23) := by
  have h5 := kdl_5 (T := T) (m := m) (p := p)
  rw [rl_step hT hm hk (by have := kdl_1 h; omega), if_neg (show ¬ nI (kdl T m p) ≤ (0 : Int32) from fun q => absurd ((i_le (b := 0) (by omega) (by omega)).mp q) (by omega))]
  cases F_X8_readRoad (nI (kdl T m p)) t <;> rfl
theorem roads_sim (hm : m ≤ 120) (hT : ∀ i, i < 120 → T i ≤ 255) (c : Nat) : ∀ (d n n' p : Nat) (s t : fr_St) (z : Nat → Nat), z 2 + d = 9 → z 3 = 0 → d < n → d + 1 + c < n' → p ≤ m → EC T m s → s 13 2 = nI p → CR z (s 18) → ER T m t → K2 T m p t → RR z (t 66) → DW z →
  (∃ f q, (∃ s', L_X4_readRoads_2 n (nI (z 2)) s = some (.inl (false, s')) ∧ FC s s' ∧ s' 13 2 = nI q ∧ s' 13 6 = nI f) ∧ FailL t (L_X8_readLand_80 n' 1 t) f q) ∨ ∃ s' t' z' p' n'', L_X4_readRoads_2 n (nI (z 2)) s = some (.inl (true, s')) ∧ L_X8_readLand_80 n' 1 t = L_X8_readLand_80 n'' 1 t' ∧ c < n'' ∧ Both T m s t s' t' z' p' ∧ z' 3 = 0 ∧ kdl T m p' = 0 := by
  intro d
  induction d with
  | zero =>
    intro n n' p s t z h2 h3 hn hn' hp he hs hc heR hk hr hd
    obtain ⟨n, rfl⟩ : ∃ k, n = k + 1 := ⟨n - 1, by omega⟩
    obtain ⟨n', rfl⟩ : ∃ k, n' = k + 1 + 1 := ⟨n' - 2, by omega⟩
    obtain ⟨s1, g1, g2, g3, g4, g5, g6⟩ := cl_look hm hT hp he hs
    have f1 : FC s s1 := ⟨fun a h1 _ => g2 a h1, g3 1 (by omega) (by omega) (by omega)⟩
    have hs1 : s1 13 2 = nI p := by rw [g3 2 (by omega) (by omega) (by omega), hs]
    have hc1 : CR z (s1 18) := by rw [g2 18 (by omega)]; exact hc
    have h5 := kdl_5 (T := T) (m := m) (p := p)
    have hz2 : z 2 = 9 := by omega
    have hL : L_X4_readRoads_2 (n + 1) (nI (z 2)) s = fr_bP (F_X2_hasNumber (kI (kdl T m p)) s1) (fun b8 s7 => if (fr_bi b8) = 0 then (some (.inl (true, s7))) else (if nI (z 2) = (9 : Int32) then (fr_bP (F_X4_refuse (3 : Int32) s7) (fun b20 s19 => some (.inl (b20, s19)))) else (fr_bP (F_X4_take (s7 13 3) s7) (fun b11 s10 => if (fr_bi b11) = 0 then (some (.inl (false, s10))) else (fr_bP (F_X4_readRoad (kI (kdl T m p)) s10) (fun b14 s13 => if (fr_bi b14) = 0 then (some (.inl (false, s13))) else (fr_let (nI (z 2) + (1 : Int32)) (fun v15 => L_X4_readRoads_2 n v15 s13)))))))) := by
      rw [L_X4_readRoads_2, if_neg (show ¬ (9 : Int32) < nI (z 2) from fun q => absurd ((i_lt (a := 9) (by omega) (by omega)).mp q) (by omega)), g1, fr_bS_mk, g4, cl_ofL hT hm, fr_bP_mk]
    by_cases h0 : kdl T m p = 0
    · refine Or.inr ⟨s1, t, z, p, n' + 1 + 1, ?_, rfl, by omega, ⟨f1, hs1, hc1, FR.refl t, hk, hr, hd, hp⟩, h3, h0⟩
      rw [hL, h0, k_has]
      rfl
    · refine Or.inl ⟨3, p, ⟨fr_up s1 13 6 3, ?_, f1.trans ⟨fun a h1 _ => fr_up_ne _ _ _ h1, by rw [fr_up_at, upd_ne _ _ (by omega)]⟩, by rw [fr_up_at, upd_ne _ _ (by omega), hs1], by rw [fr_up_at, upd_at]; rfl⟩, ?_⟩
      · have hk0 : kI (kdl T m p) = nI (kdl T m p) := if_neg h0
        rw [hL, hk0, k_has, k_ib (by omega) (by omega), fr_bP_mk, if_neg fr_nb, if_pos (by rw [hz2]; rfl)]
        rfl
      · obtain ⟨t1, e1, f2, f3, f4⟩ := rf_fault (p := p) t 3 hk.1
        refine ⟨t1, ?_, f2, f3, f4⟩
        rw [rl_road hT hm hk h0]
        unfold F_X8_readRoad
        rw [hr.1 2 (by omega), hr.1 3 (by omega), h3, hz2, fr_let_eq, if_pos (show nI 9 = (9 : Int32) from rfl), if_pos (show nI 0 ≤ (0 : Int32) by decide), fr_bS_mk, show F_X8_faults (3 : Int32) t = _ from e1, fr_bP_mk, fr_bP_mk]
        exact rl_zero _ _
  | succ d ih =>
    intro n n' p s t z h2 h3 hn hn' hp he hs hc heR hk hr hd
    obtain ⟨n, rfl⟩ : ∃ k, n = k + 1 := ⟨n - 1, by omega⟩
    obtain ⟨n', rfl⟩ : ∃ k, n' = k + 1 + 1 := ⟨n' - 2, by omega⟩
    obtain ⟨s1, g1, g2, g3, g4, g5, g6⟩ := cl_look hm hT hp he hs
    have f1 : FC s s1 := ⟨fun a h1 _ => g2 a h1, g3 1 (by omega) (by omega) (by omega)⟩
    have hs1 : s1 13 2 = nI p := by rw [g3 2 (by omega) (by omega) (by omega), hs]
    have hc1 : CR z (s1 18) := by rw [g2 18 (by omega)]; exact hc
    have h5 := kdl_5 (T := T) (m := m) (p := p)
    have hL : L_X4_readRoads_2 (n + 1) (nI (z 2)) s = fr_bP (F_X2_hasNumber (kI (kdl T m p)) s1) (fun b8 s7 => if (fr_bi b8) = 0 then (some (.inl (true, s7))) else (if nI (z 2) = (9 : Int32) then (fr_bP (F_X4_refuse (3 : Int32) s7) (fun b20 s19 => some (.inl (b20, s19)))) else (fr_bP (F_X4_take (s7 13 3) s7) (fun b11 s10 => if (fr_bi b11) = 0 then (some (.inl (false, s10))) else (fr_bP (F_X4_readRoad (kI (kdl T m p)) s10) (fun b14 s13 => if (fr_bi b14) = 0 then (some (.inl (false, s13))) else (fr_let (nI (z 2) + (1 : Int32)) (fun v15 => L_X4_readRoads_2 n v15 s13)))))))) := by
      rw [L_X4_readRoads_2, if_neg (show ¬ (9 : Int32) < nI (z 2) from fun q => absurd ((i_lt (a := 9) (by omega) (by omega)).mp q) (by omega)), g1, fr_bS_mk, g4, cl_ofL hT hm, fr_bP_mk]
    by_cases h0 : kdl T m p = 0
    · refine Or.inr ⟨s1, t, z, p, n' + 1 + 1, ?_, rfl, by omega, ⟨f1, hs1, hc1, FR.refl t, hk, hr, hd, hp⟩, h3, h0⟩
      rw [hL, h0, k_has]
      rfl
    · have hk0 : kI (kdl T m p) = nI (kdl T m p) := if_neg h0
      have ht1 := kdl_1 h0
      have hTp := hT p (by have := ty_lt ht1; omega)
      have htc : s1 13 3 = nI (T p) := by rw [g4]; exact (tcd_eq hT hm hTp).mpr ⟨ht1, rfl⟩
      obtain ⟨s2, e2, f2, g7, h22⟩ := (cl_take hm hT hp (he.fr f1) hs1 (c := T p) hTp).1 ⟨ht1, rfl⟩
      have F2 := f1.trans f2
      have hL2 : L_X4_readRoads_2 (n + 1) (nI (z 2)) s = fr_bP (F_X4_readRoad (nI (kdl T m p)) s2) (fun b14 s13 => if (fr_bi b14) = 0 then (some (.inl (false, s13))) else (fr_let (nI (z 2) + (1 : Int32)) (fun v15 => L_X4_readRoads_2 n v15 s13))) := by
        rw [hL, hk0, k_has, k_ib (by omega) (by omega), fr_bP_mk, if_neg fr_nb, if_neg (show ¬ nI (z 2) = (9 : Int32) from fun q => absurd ((i_eq (b := 9) (by omega) (by omega)).mp q) (by omega)), htc, e2, fr_bP_mk, if_neg fr_nb]
      rcases rd_both hm hT hp rfl (he.fr F2) h22 (by rw [g7]; exact hc1) heR hk hr hd (by omega) h3 (kd := kdl T m p) (by omega) with ⟨f, q, ⟨s', a1, a2, a3, a4⟩, ⟨t', b1, b2, b3, b4⟩⟩ | ⟨s', t', z', p', a1, b1, ⟨q1, q2, q3, q4, q5, q6, q7, q8⟩, q9, q10⟩
      · refine Or.inl ⟨f, q, ⟨s', ?_, F2.trans a2, a3, a4⟩, ⟨t', ?_, b2, b3, b4⟩⟩
        · rw [hL2, a1]
          rfl
        · rw [rl_road hT hm hk h0, b1]
          exact rl_zero _ _
      · have F3 := F2.trans q1
        have hL3 : L_X4_readRoads_2 (n + 1) (nI (z 2)) s = L_X4_readRoads_2 n (nI (z' 2)) s' := by
          rw [hL2, a1, fr_bP_mk, if_neg fr_nb, fr_let_eq, nI_1, q9]
        have hR3 : L_X8_readLand_80 (n' + 1 + 1) 1 t = L_X8_readLand_80 (n' + 1) 1 t' := by
          rw [rl_road hT hm hk h0, b1]
          rfl
        rcases ih n (n' + 1) p' s' t' z' (by omega) q10 (by omega) (by omega) q8 (he.fr F3) q2 q3 (heR.fr q4) q5 q6 q7 with ⟨f, q, ⟨s'', a1, a2, a3, a4⟩, ⟨t'', b1, b2, b3, b4⟩⟩ | ⟨s'', t'', z'', p'', n'', a1, b1, b0, ⟨r1, r2, r3, r4, r5, r6, r7, r8⟩, r9, r10⟩
        · exact Or.inl ⟨f, q, ⟨s'', by rw [hL3, a1], F3.trans a2, a3, a4⟩, ⟨t'', by rw [hR3, b1], q4.trans b2, b3, b4⟩⟩
        · exact Or.inr ⟨s'', t'', z'', p'', n'', by rw [hL3, a1], by rw [hR3, b1], b0, ⟨F3.trans r1, r2, r3, q4.trans r4, r5, r6, r7, r8⟩, r9, r10⟩
theorem isL_kd (h : isL T m p 112) : kdl T m p = 0 := by
  unfold kdl
  rw [if_pos h.1, h.2]
  rfl
theorem rl_person (hT : ∀ i, i < 120 → T i ≤ 255) (hm : m ≤ 120) (hk : K2 T m p t) (h : isL T m p 112) (n : Nat) : L_X8_readLand_80 (n + 1) 1 t = fr_bP (F_X8_readPerson t) (fun b24 s23 => L_X8_readLand_80 n (fr_bi b24) s23) := by
  rw [rl_step hT hm hk (by have := h.1; omega), isL_kd h, if_pos (show nI 0 ≤ (0 : Int32) by decide), show F_X8_isLetter (112 : Int32) t = _ from rf_isL hT hm hk (c := 112) (by omega), fr_bP_mk, decide_eq_true (show ty T m p = 1 ∧ T p = 112 from h), if_neg fr_nb]
  cases F_X8_readPerson t <;> rfl
theorem people_sim (hm : m ≤ 120) (hT : ∀ i, i < 120 → T i ≤ 255) (c : Nat) : ∀ (d n n' p : Nat) (s t : fr_St) (z : Nat → Nat), z 3 + d = 4 → d < n → d + 1 + c < n' → p ≤ m → EC T m s → s 13 2 = nI p → CR z (s 18) → ER T m t → K2 T m p t → RR z (t 66) → DW z → (z 3 = 0 → kdl T m p = 0) →
  (∃ f q, (∃ s', L_X4_readPeople_2 n (nI (z 3)) s = some (.inl (false, s')) ∧ FC s s' ∧ s' 13 2 = nI q ∧ s' 13 6 = nI f) ∧ FailL t (L_X8_readLand_80 n' 1 t) f q) ∨ ∃ s' t' z' p' n'', L_X4_readPeople_2 n (nI (z 3)) s = some (.inl (true, s')) ∧ L_X8_readLand_80 n' 1 t = L_X8_readLand_80 n'' 1 t' ∧ c < n'' ∧ Both T m s t s' t' z' p' ∧ ¬ isL T m p' 112 ∧ (z' 3 = 0 → kdl T m p' = 0) := by
  intro d
  induction d with
  | zero =>
    intro n n' p s t z h2 hn hn' hp he hs hc heR hk hr hd hkd
    obtain ⟨n, rfl⟩ : ∃ k, n = k + 1 := ⟨n - 1, by omega⟩
    obtain ⟨n', rfl⟩ : ∃ k, n' = k + 1 + 1 := ⟨n' - 2, by omega⟩
    obtain ⟨s1, g1, g2, g3, g4, g5, g6⟩ := cl_look hm hT hp he hs
    have f1 : FC s s1 := ⟨fun a h1 _ => g2 a h1, g3 1 (by omega) (by omega) (by omega)⟩
    have hs1 : s1 13 2 = nI p := by rw [g3 2 (by omega) (by omega) (by omega), hs]
    have hc1 : CR z (s1 18) := by rw [g2 18 (by omega)]; exact hc
    have hz3 : z 3 = 4 := by omega
    by_cases h0 : isL T m p 112
    · refine Or.inl ⟨3, p, ⟨fr_up s1 13 6 3, ?_, f1.trans ⟨fun a h1 _ => fr_up_ne _ _ _ h1, by rw [fr_up_at, upd_ne _ _ (by omega)]⟩, by rw [fr_up_at, upd_ne _ _ (by omega), hs1], by rw [fr_up_at, upd_at]; rfl⟩, ?_⟩
      · rw [L_X4_readPeople_2, if_neg (show ¬ (4 : Int32) < nI (z 3) from fun q => absurd ((i_lt (a := 4) (by omega) (by omega)).mp q) (by omega)), g1, fr_bS_mk, g4, if_pos (show tcd T m p = (112 : Int32) from (tcd_eq hT hm (c := 112) (by omega)).mpr h0), if_pos (by rw [hz3]; rfl)]
        rfl
      · obtain ⟨t1, e1, f2, f3, f4⟩ := rf_fault (p := p) t 3 hk.1
        refine ⟨t1, ?_, f2, f3, f4⟩
        rw [rl_person hT hm hk h0]
        unfold F_X8_readPerson
        rw [hr.1 3 (by omega), hz3, fr_let_eq, if_pos (show nI 4 = (4 : Int32) from rfl), show F_X8_faults (3 : Int32) t = _ from e1, fr_bP_mk, fr_bP_mk]
        exact rl_zero _ _
    · refine Or.inr ⟨s1, t, z, p, n' + 1 + 1, ?_, rfl, by omega, ⟨f1, hs1, hc1, FR.refl t, hk, hr, hd, hp⟩, h0, hkd⟩
      rw [L_X4_readPeople_2, if_neg (show ¬ (4 : Int32) < nI (z 3) from fun q => absurd ((i_lt (a := 4) (by omega) (by omega)).mp q) (by omega)), g1, fr_bS_mk, g4, if_neg (show ¬ tcd T m p = (112 : Int32) from fun q => h0 ((tcd_eq hT hm (c := 112) (by omega)).mp q))]
  | succ d ih =>
    intro n n' p s t z h2 hn hn' hp he hs hc heR hk hr hd hkd
    obtain ⟨n, rfl⟩ : ∃ k, n = k + 1 := ⟨n - 1, by omega⟩
    obtain ⟨n', rfl⟩ : ∃ k, n' = k + 1 + 1 := ⟨n' - 2, by omega⟩
    obtain ⟨s1, g1, g2, g3, g4, g5, g6⟩ := cl_look hm hT hp he hs
    have f1 : FC s s1 := ⟨fun a h1 _ => g2 a h1, g3 1 (by omega) (by omega) (by omega)⟩
    have hs1 : s1 13 2 = nI p := by rw [g3 2 (by omega) (by omega) (by omega), hs]
    have hc1 : CR z (s1 18) := by rw [g2 18 (by omega)]; exact hc
    by_cases h0 : isL T m p 112
    · obtain ⟨s2, e2, f2, g7, h22⟩ := (cl_take hm hT hp (he.fr f1) hs1 (c := 112) (by omega)).1 h0
      have F2 := f1.trans f2
      have hL2 : L_X4_readPeople_2 (n + 1) (nI (z 3)) s = fr_bP (F_X4_readPerson s2) (fun b8 s7 => if (fr_bi b8) = 0 then (some (.inl (false, s7))) else (fr_let (nI (z 3) + (1 : Int32)) (fun v9 => L_X4_readPeople_2 n v9 s7))) := by
        rw [L_X4_readPeople_2, if_neg (show ¬ (4 : Int32) < nI (z 3) from fun q => absurd ((i_lt (a := 4) (by omega) (by omega)).mp q) (by omega)), g1, fr_bS_mk, g4, if_pos (show tcd T m p = (112 : Int32) from (tcd_eq hT hm (c := 112) (by omega)).mpr h0), if_neg (show ¬ nI (z 3) = (4 : Int32) from fun q => absurd ((i_eq (b := 4) (by omega) (by omega)).mp q) (by omega)), show F_X4_take (112 : Int32) s1 = _ from e2, fr_bP_mk, if_neg fr_nb]
      rcases pe_both hm hT hp rfl (he.fr F2) h22 (by rw [g7]; exact hc1) heR hk hr hd (by omega) with ⟨f, q, ⟨s', a1, a2, a3, a4⟩, ⟨t', b1, b2, b3, b4⟩⟩ | ⟨s', t', z', p', a1, b1, ⟨q1, q2, q3, q4, q5, q6, q7, q8⟩, q9⟩
      · refine Or.inl ⟨f, q, ⟨s', ?_, F2.trans a2, a3, a4⟩, ⟨t', ?_, b2, b3, b4⟩⟩
        · rw [hL2, a1]
          rfl
        · rw [rl_person hT hm hk h0, b1]
          exact rl_zero _ _
      · have F3 := F2.trans q1
        have hL3 : L_X4_readPeople_2 (n + 1) (nI (z 3)) s = L_X4_readPeople_2 n (nI (z' 3)) s' := by
          rw [hL2, a1, fr_bP_mk, if_neg fr_nb, fr_let_eq, nI_1, q9]
        have hR3 : L_X8_readLand_80 (n' + 1 + 1) 1 t = L_X8_readLand_80 (n' + 1) 1 t' := by
          rw [rl_person hT hm hk h0, b1]
          rfl
        rcases ih n (n' + 1) p' s' t' z' (by omega) (by omega) (by omega) q8 (he.fr F3) q2 q3 (heR.fr q4) q5 q6 q7 (fun q => by omega) with ⟨f, q, ⟨s'', a1, a2, a3, a4⟩, ⟨t'', b1, b2, b3, b4⟩⟩ | ⟨s'', t'', z'', p'', n'', a1, b1, b0, ⟨r1, r2, r3, r4, r5, r6, r7, r8⟩, r9, r10⟩
        · exact Or.inl ⟨f, q, ⟨s'', by rw [hL3, a1], F3.trans a2, a3, a4⟩, ⟨t'', by rw [hR3, b1], q4.trans b2, b3, b4⟩⟩
        · exact Or.inr ⟨s'', t'', z'', p'', n'', by rw [hL3, a1], by rw [hR3, b1], b0, ⟨F3.trans r1, r2, r3, q4.trans r4, r5, r6, r7, r8⟩, r9, r10⟩
    · refine Or.inr ⟨s1, t, z, p, n' + 1 + 1, ?_, rfl, by omega, ⟨f1, hs1, hc1, FR.refl t, hk, hr, hd, hp⟩, h0, hkd⟩
      rw [L_X4_readPeople_2, if_neg (show ¬ (4 : Int32) < nI (z 3) from fun q => absurd ((i_lt (a := 4) (by omega) (by omega)).mp q) (by omega)), g1, fr_bS_mk, g4, if_neg (show ¬ tcd T m p = (112 : Int32) from fun q => h0 ((tcd_eq hT hm (c := 112) (by omega)).mp q))]
theorem tcd_3 (hT : ∀ i, i < 120 → T i ≤ 255) (hm : m ≤ 120) : tcd T m p = -1 ↔ ty T m p = 3 := by
  have h3 := ty_3 (T := T) (m := m) (p := p)
  unfold tcd
  rcases (show ty T m p = 0 ∨ ty T m p = 1 ∨ ty T m p = 2 ∨ ty T m p = 3 by omega) with e | e | e | e
  · rw [e, if_neg (by omega), if_neg (by omega), if_neg (by omega)]
    exact ⟨fun q => absurd q (by decide), fun q => by omega⟩
  · have := ty_lt e
    rw [e, if_neg (by omega), if_neg (by omega), if_pos rfl]
    exact ⟨fun q => absurd q.symm (neg_ne (hT p (by omega))).1, fun q => by omega⟩
  · rw [e, if_pos rfl]
    exact ⟨fun q => absurd q (by decide), fun q => by omega⟩
  · rw [e, if_neg (by omega), if_pos rfl]
    exact ⟨fun _ => rfl, fun _ => rfl⟩
theorem end_sim (hm : m ≤ 120) (hT : ∀ i, i < 120 → T i ≤ 255) (hp : p ≤ m) (he : EC T m s) (hs : s 13 2 = nI p) (hc : CR z (s 18)) (hk : K2 T m p t) (hr : RR z (t 66)) (hd : DW z) (h112 : ¬ isL T m p 112) (hkd : z 3 = 0 → kdl T m p = 0) (n : Nat) :
  (∃ f q, FailC s (F_X4_readEnd s) f q ∧ FailL t (L_X8_readLand_80 (n + 1 + 1) 1 t) f q) ∨ ∃ s', F_X4_readEnd s = some (true, s') ∧ FC s s' ∧ s' 18 = s 18 ∧ L_X8_readLand_80 (n + 1 + 1) 1 t = some (1, t) := by
  obtain ⟨s1, g1, g2, g3, g4, g5, g6⟩ := cl_look hm hT hp he hs
  have f1 : FC s s1 := ⟨fun a h1 _ => g2 a h1, g3 1 (by omega) (by omega) (by omega)⟩
  have hs1 : s1 13 2 = nI p := by rw [g3 2 (by omega) (by omega) (by omega), hs]
  have h5 := kdl_5 (T := T) (m := m) (p := p)
  by_cases h3 : ty T m p = 3
  · refine Or.inr ⟨s1, ?_, f1, g2 18 (by omega), ?_⟩
    · unfold F_X4_readEnd
      rw [g1, fr_bS_mk, g4, if_pos ((tcd_3 hT hm).mpr h3)]
      rfl
    · rw [L_X8_readLand_80, if_neg (show ¬ (1 : Int32) = 0 by decide), hk.2.1, if_pos (show nI (ty T m p) = (3 : Int32) by rw [h3]; rfl)]
  · refine Or.inl ⟨1, p, ⟨fr_up s1 13 6 1, ?_, f1.trans ⟨fun a h1 _ => fr_up_ne _ _ _ h1, by rw [fr_up_at, upd_ne _ _ (by omega)]⟩, by rw [fr_up_at, upd_ne _ _ (by omega), hs1], by rw [fr_up_at, upd_at]; rfl⟩, ?_⟩
    · unfold F_X4_readEnd
      rw [g1, fr_bS_mk, g4, if_neg (fun q => h3 ((tcd_3 hT hm).mp q))]
      rfl
    · obtain ⟨t1, e1, f2, f3, f4⟩ := rf_fault (p := p) t 1 hk.1
      refine ⟨t1, ?_, f2, f3, f4⟩
      by_cases h0 : kdl T m p = 0
      · rw [rl_step hT hm hk h3, h0, if_pos (show nI 0 ≤ (0 : Int32) by decide), show F_X8_isLetter (112 : Int32) t = _ from rf_isL hT hm hk (c := 112) (by omega), fr_bP_mk, decide_eq_false (show ¬ (ty T m p = 1 ∧ T p = 112) from h112), if_pos (show fr_bi false = 0 from rfl), show F_X8_faults (1 : Int32) t = _ from e1, fr_bP_mk, fr_bP_mk]
        exact rl_zero _ _
      · have hz3 : z 3 ≠ 0 := fun q => h0 (hkd q)
        have hz4 := hd.1.2.2.2.2.2.1
        have hz2 := hd.1.2.2.2.2.1
        rw [rl_road hT hm hk h0]
        unfold F_X8_readRoad
        have hle : ¬ nI (z 3) ≤ (0 : Int32) := fun q => absurd ((i_le (b := 0) (by omega) (by omega)).mp q) (by omega)
        rw [hr.1 2 (by omega), hr.1 3 (by omega), fr_let_eq, if_neg hle, if_neg hle]
        have : (if nI (z 2) = (9 : Int32) then fr_bS (some (1 : Int32)) (fun v2 => fr_bP (F_X8_faults v2 t) (fun b7 s6 => some (b7, s6))) else fr_bS (some (1 : Int32)) (fun v49 => fr_bP (F_X8_faults v49 t) (fun b54 s53 => some (b54, s53)))) = some (false, t1) := by
          rw [fr_bS_mk, show F_X8_faults (1 : Int32) t = _ from e1]
          split <;> rfl
        rw [this, fr_bP_mk]
        exact rl_zero _ _
end LND
