/-! ===== tokens of a tape ===== -/
def fg (T : Nat → Nat) (m p : Nat) : Bool := decide (p < m ∧ 48 ≤ T p ∧ T p ≤ 57)
def en (T : Nat → Nat) (m : Nat) : Nat → Nat → Nat
  | 0, p => p
  | d + 1, p => if fg T m p then en T m d (p + 1) else p
def vC (T : Nat → Nat) (m : Nat) : Nat → Nat → Nat → Nat
  | 0, _, v => v
  | d + 1, p, v => if fg T m p then vC T m d (p + 1) (if 1000 < v * 10 + T p - 48 then 1000 else v * 10 + T p - 48) else v
def vR (T : Nat → Nat) (m : Nat) : Nat → Nat → Nat → Nat
  | 0, _, v => v
  | d + 1, p, v => if fg T m p then vR T m d (p + 1) (if v ≤ 999 then 10 * v + T p - 48 else v) else v
def ltr (x : Nat) : Bool := decide ((97 ≤ x ∧ x ≤ 122) ∨ x = 44 ∨ x = 59)
def ty (T : Nat → Nat) (m p : Nat) : Nat := if p < en T m 120 p then (if en T m 120 p - p ≤ 3 then 2 else 0) else if m ≤ p then 3 else if ltr (T p) then 1 else 0
def nx (T : Nat → Nat) (m p : Nat) : Nat := if p < en T m 120 p then en T m 120 p else if m ≤ p then p else p + 1
def vl (T : Nat → Nat) (m p : Nat) : Nat := if p < en T m 120 p then vC T m 120 p 0 else T p
def tcd (T : Nat → Nat) (m p : Nat) : Int32 := if ty T m p = 2 then -3 else if ty T m p = 3 then -1 else if ty T m p = 1 then nI (T p) else -2
section TAP
variable {σ s t : fr_St} {T : Nat → Nat} {m p : Nat}
theorem en_ge : ∀ d p, p ≤ en T m d p
  | 0, p => Nat.le_refl p
  | d + 1, p => by
    have := en_ge d (p + 1)
    show p ≤ (if fg T m p then en T m d (p + 1) else p)
    split <;> omega
theorem en_le : ∀ d p, p ≤ m → en T m d p ≤ m
  | 0, p, h => h
  | d + 1, p, h => by
    show (if fg T m p then en T m d (p + 1) else p) ≤ m
    split
    · rename_i hf
      have := of_decide_eq_true hf
      exact en_le d (p + 1) (by omega)
    · exact h
theorem nx_le (hp : p ≤ m) : nx T m p ≤ m := by
  have := en_le (T := T) 120 p hp
  unfold nx
  split
  · exact this
  · split <;> omega
theorem vC_le : ∀ d p v, v ≤ 1000 → vC T m d p v ≤ 1000
  | 0, _, _, h => h
  | d + 1, p, v, h => by
    show (if fg T m p then vC T m d (p + 1) _ else v) ≤ 1000
    split
    · exact vC_le d (p + 1) _ (by split <;> omega)
    · exact h
theorem v_eq : ∀ d p v j, v < 10 ^ j → j + (en T m d p - p) ≤ 3 → vC T m d p v = vR T m d p v
  | 0, _, _, _, _, _ => rfl
  | d + 1, p, v, j, hv, hj => by
    show (if fg T m p then vC T m d (p + 1) _ else v) = (if fg T m p then vR T m d (p + 1) _ else v)
    cases hf : fg T m p
    · rfl
    · have hf' := of_decide_eq_true hf
      have he := en_ge (T := T) (m := m) d (p + 1)
      have hj' : j + (en T m d (p + 1) - p) ≤ 3 := by
        have : en T m (d + 1) p = en T m d (p + 1) := by
          show (if fg T m p then en T m d (p + 1) else p) = _
          rw [hf]; rfl
        rw [this] at hj
        exact hj
      have hj2 : j ≤ 2 := by omega
      have hp : 10 ^ j ≤ 10 ^ 2 := Nat.pow_le_pow_right (by omega) hj2
      have hs : 10 ^ (j + 1) = 10 ^ j * 10 := Nat.pow_succ 10 j
      simp only [if_true]
      rw [if_neg (show ¬ 1000 < v * 10 + T p - 48 by omega), if_pos (show v ≤ 999 by omega), show 10 * v = v * 10 by omega]
      exact v_eq d (p + 1) _ (j + 1) (by omega) (by omega)
def EC (T : Nat → Nat) (m : Nat) (s : fr_St) : Prop := s 13 1 = nI m ∧ ∀ i, i < 120 → s 14 i = nI (T i)
def ER (T : Nat → Nat) (m : Nat) (t : fr_St) : Prop := t 59 8 = nI m ∧ ∀ i, i < 120 → t 65 i = nI (T i)
theorem tp_fig {x : Nat} (hx : x ≤ 255) (σ : fr_St) : F_X4_isFigure (nI x) σ = some (decide (48 ≤ x ∧ x ≤ 57), σ) := by
  unfold F_X4_isFigure
  by_cases h1 : x < 48
  · rw [if_pos (show nI x < (48 : Int32) from (i_lt (b := 48) (by omega) (by omega)).mpr h1), decide_eq_false (by omega)]
    rfl
  · rw [if_neg (show ¬ nI x < (48 : Int32) from fun q => h1 ((i_lt (b := 48) (by omega) (by omega)).mp q))]
    by_cases h2 : 57 < x
    · rw [if_pos (show (57 : Int32) < nI x from (i_lt (a := 57) (by omega) (by omega)).mpr h2), decide_eq_false (by omega)]
      rfl
    · rw [if_neg (show ¬ (57 : Int32) < nI x from fun q => h2 ((i_lt (a := 57) (by omega) (by omega)).mp q)), decide_eq_true (by omega)]
      rfl
theorem tp_ltr {x : Nat} (hx : x ≤ 255) (σ : fr_St) : F_X4_isLetterOrSign (nI x) σ = some (ltr x, σ) := by
  have key : ∀ x, x < 256 → (if nI x < (97 : Int32) then (if nI x = (44 : Int32) then (some ((1 : Int32))) else (if nI x = (59 : Int32) then (some ((1 : Int32))) else (some ((0 : Int32))))) else (if nI x ≤ (122 : Int32) then (some ((1 : Int32))) else (if nI x = (44 : Int32) then (some ((1 : Int32))) else (if nI x = (59 : Int32) then (some ((1 : Int32))) else (some ((0 : Int32))))))) = some (fr_bi (ltr x)) := by decide +kernel
  unfold F_X4_isLetterOrSign
  rw [key x (by omega), fr_bS_mk]
  cases ltr x <;> rfl
theorem rf_inN {x a b : Nat} (hx : x < 2147483648) {A B : Int64} (ha : A.toInt = (a : Int)) (hb : B.toInt = (b : Int)) (σ : fr_St) : F_X8_in (nI x).toInt64 A B σ = some (decide (a ≤ x ∧ x ≤ b), σ) := by
  rw [rf_in, Int32.toInt_toInt64, i_toInt hx, ha, hb]
  congr 2
  congr 1
  apply propext
  omega
theorem lk_loop (hm : m ≤ 120) (hT : ∀ i, i < 120 → T i ≤ 255) : ∀ (d b v n : Nat) (s : fr_St), m ≤ b + d → d < n → b ≤ m → v ≤ 1000 → EC T m s → s 13 5 = nI b → s 13 4 = nI v → ∃ s', L_X4_look_13 n s = some s' ∧ (∀ a, a ≠ 13 → s' a = s a) ∧ (∀ j, j ≠ 4 → j ≠ 5 → s' 13 j = s 13 j) ∧ s' 13 5 = nI (en T m d b) ∧ s' 13 4 = nI (vC T m d b v) := by
  intro d
  induction d with
  | zero =>
    intro b v n s hd hn hb hv he h5 h4
    obtain ⟨n, rfl⟩ : ∃ m, n = m + 1 := ⟨n - 1, by omega⟩
    refine ⟨s, ?_, fun a _ => rfl, fun j _ _ => rfl, h5, h4⟩
    rw [L_X4_look_13, h5, he.1, if_pos ((i_le (by omega) (by omega)).mpr (by omega))]
  | succ d ih =>
    intro b v n s hd hn hb hv he h5 h4
    obtain ⟨n, rfl⟩ : ∃ m, n = m + 1 := ⟨n - 1, by omega⟩
    show ∃ s', L_X4_look_13 (n + 1) s = some s' ∧ _ ∧ _ ∧ s' 13 5 = nI (if fg T m b then en T m d (b + 1) else b) ∧ s' 13 4 = nI (if fg T m b then vC T m d (b + 1) (if 1000 < v * 10 + T b - 48 then 1000 else v * 10 + T b - 48) else v)
    by_cases hbm : b < m
    · have hTb := hT b (by omega)
      rw [L_X4_look_13, h5, he.1, if_neg (fun q => absurd ((i_le (by omega) (by omega)).mp q) (by omega)), i_chk (by omega) (by omega), i_ix (by omega), he.2 b (by omega), tp_fig hTb, fr_bP_mk]
      by_cases hf : 48 ≤ T b ∧ T b ≤ 57
      · have hfg : fg T m b = true := decide_eq_true ⟨hbm, hf⟩
        rw [decide_eq_true hf, if_neg fr_nb, h5, i_chk (by omega) (by omega), i_ix (by omega), he.2 b (by omega), h4, show (10 : Int32) = nI 10 from rfl, show (48 : Int32) = nI 48 from rfl, i_mul, i_add, i_sub (by omega), hfg]
        simp only [if_true]
        have ev : (if (1000 : Int32) < nI (v * 10 + T b - 48) then (1000 : Int32) else nI (v * 10 + T b - 48)) = nI (if 1000 < v * 10 + T b - 48 then 1000 else v * 10 + T b - 48) := by
          by_cases q : 1000 < v * 10 + T b - 48
          · rw [if_pos q, if_pos (show (1000 : Int32) < nI (v * 10 + T b - 48) from (i_lt (a := 1000) (by omega) (by omega)).mpr q)]
            rfl
          · rw [if_neg q, if_neg (show ¬ (1000 : Int32) < nI (v * 10 + T b - 48) from fun w => q ((i_lt (a := 1000) (by omega) (by omega)).mp w))]
        have hv' : (if 1000 < v * 10 + T b - 48 then 1000 else v * 10 + T b - 48) ≤ 1000 := by split <;> omega
        rw [ev]
        generalize (if 1000 < v * 10 + T b - 48 then 1000 else v * 10 + T b - 48) = v' at hv' ⊢
        obtain ⟨s', g1, g2, g3, g4, g5⟩ := ih (b + 1) v' n (fr_up (fr_up s 13 4 (nI v')) 13 5 (nI (b + 1))) (by omega) (by omega) (by omega) hv' ⟨by rw [fr_up_at, upd_ne _ _ (by omega), fr_up_at, upd_ne _ _ (by omega)]; exact he.1, fun i hi => by rw [fr_up_ne _ _ _ (by omega), fr_up_ne _ _ _ (by omega)]; exact he.2 i hi⟩ (by rw [fr_up_at, upd_at]) (by rw [fr_up_at, upd_ne _ _ (by omega), fr_up_at, upd_at])
        refine ⟨s', ?_, fun a ha => by rw [g2 a ha, fr_up_ne _ _ _ ha, fr_up_ne _ _ _ ha], fun j h1 h2 => by rw [g3 j h1 h2, fr_up_at, upd_ne _ _ h2, fr_up_at, upd_ne _ _ h1], g4, g5⟩
        rw [fr_let_eq, fr_let_eq, fr_up_at, upd_ne _ _ (by omega), h5, nI_1]
        exact g1
      · have hfg : fg T m b = false := decide_eq_false (fun q => hf q.2)
        rw [decide_eq_false hf, if_pos (show fr_bi false = 0 from rfl), hfg]
        exact ⟨s, rfl, fun a _ => rfl, fun j _ _ => rfl, h5, h4⟩
    · have hfg : fg T m b = false := decide_eq_false (fun q => hbm q.1)
      rw [L_X4_look_13, h5, he.1, if_pos ((i_le (by omega) (by omega)).mpr (by omega)), hfg]
      exact ⟨s, rfl, fun a _ => rfl, fun j _ _ => rfl, h5, h4⟩
theorem cl_look (hm : m ≤ 120) (hT : ∀ i, i < 120 → T i ≤ 255) (hp : p ≤ m) (he : EC T m s) (h2 : s 13 2 = nI p) : ∃ s', F_X4_look s = some s' ∧ (∀ a, a ≠ 13 → s' a = s a) ∧ (∀ j, j ≠ 3 → j ≠ 4 → j ≠ 5 → s' 13 j = s 13 j) ∧ s' 13 3 = tcd T m p ∧ s' 13 5 = nI (nx T m p) ∧ (ty T m p = 2 → s' 13 4 = nI (vl T m p)) := by
  have hge := en_ge (T := T) (m := m) 120 p
  have hle := en_le (T := T) 120 p hp
  obtain ⟨s1, g1, g2, g3, g4, g5⟩ := lk_loop hm hT 120 p 0 fr_fu (fr_up (fr_up s 13 5 (nI p)) 13 4 (nI 0)) (by omega) (by have := fr_fu_big; omega) hp (by omega) ⟨by rw [fr_up_at, upd_ne _ _ (by omega), fr_up_at, upd_ne _ _ (by omega)]; exact he.1, fun i hi => by rw [fr_up_ne _ _ _ (by omega), fr_up_ne _ _ _ (by omega)]; exact he.2 i hi⟩ (by rw [fr_up_at, upd_ne _ _ (by omega), fr_up_at, upd_at]) (by rw [fr_up_at, upd_at])
  have hs : ∀ j, j ≠ 4 → j ≠ 5 → s1 13 j = s 13 j := fun j h1 h2 => by rw [g3 j h1 h2, fr_up_at, upd_ne _ _ h1, fr_up_at, upd_ne _ _ h2]
  have ha : ∀ a, a ≠ 13 → s1 a = s a := fun a h => by rw [g2 a h, fr_up_ne _ _ _ h, fr_up_ne _ _ _ h]
  have e2 : s1 13 2 = nI p := by rw [hs 2 (by omega) (by omega), h2]
  have e1 : s1 13 1 = nI m := by rw [hs 1 (by omega) (by omega), he.1]
  have hF : F_X4_look s = fr_bS (L_X4_look_13 fr_fu (fr_up (fr_up s 13 5 (s 13 2)) 13 4 0)) _ := rfl
  rw [hF, h2, show L_X4_look_13 fr_fu (fr_up (fr_up s 13 5 (nI p)) 13 4 (0 : Int32)) = some s1 from g1, fr_bS_mk]
  simp only [fr_let_eq, e2, e1, g4]
  rw [i_sub hge]
  unfold tcd
  by_cases hpe : p < en T m 120 p
  · rw [if_neg (show ¬ nI (en T m 120 p - p) ≤ (0 : Int32) from fun q => absurd ((i_le (b := 0) (by omega) (by omega)).mp q) (by omega))]
    have hnx : nx T m p = en T m 120 p := by unfold nx; rw [if_pos hpe]
    have hvl : vl T m p = vC T m 120 p 0 := by unfold vl; rw [if_pos hpe]
    rw [hnx, hvl]
    by_cases h3 : en T m 120 p - p ≤ 3
    · have hty : ty T m p = 2 := by unfold ty; rw [if_pos hpe, if_pos h3]
      rw [hty, if_neg (show ¬ (3 : Int32) < nI (en T m 120 p - p) from fun q => absurd ((i_lt (a := 3) (by omega) (by omega)).mp q) (by omega))]
      refine ⟨fr_up s1 13 3 (-3), rfl, fun a h => by rw [fr_up_ne _ _ _ h, ha a h], fun j j3 j4 j5 => by rw [fr_up_at, upd_ne _ _ j3, hs j j4 j5], by rw [fr_up_at, upd_at]; rfl, by rw [fr_up_at, upd_ne _ _ (by omega), g4], fun _ => by rw [fr_up_at, upd_ne _ _ (by omega), g5]⟩
    · have hty : ty T m p = 0 := by unfold ty; rw [if_pos hpe, if_neg h3]
      rw [hty, if_pos (show (3 : Int32) < nI (en T m 120 p - p) from (i_lt (a := 3) (by omega) (by omega)).mpr (by omega))]
      refine ⟨fr_up s1 13 3 (-2), rfl, fun a h => by rw [fr_up_ne _ _ _ h, ha a h], fun j j3 j4 j5 => by rw [fr_up_at, upd_ne _ _ j3, hs j j4 j5], by rw [fr_up_at, upd_at]; rfl, by rw [fr_up_at, upd_ne _ _ (by omega), g4], fun q => by omega⟩
  · have e0 : en T m 120 p = p := by omega
    rw [if_pos (show nI (en T m 120 p - p) ≤ (0 : Int32) from (i_le (b := 0) (by omega) (by omega)).mpr (by omega))]
    by_cases hpm : p < m
    · have hTp := hT p (by omega)
      have hnx : nx T m p = p + 1 := by unfold nx; rw [if_neg hpe, if_neg (by omega)]
      rw [if_pos ((i_lt (by omega) (by omega)).mpr hpm), i_chk (by omega) (by omega), i_ix (by omega), ha 14 (by omega), he.2 p (by omega), tp_ltr hTp, fr_bP_mk, hnx]
      cases hl : ltr (T p)
      · have hty : ty T m p = 0 := by unfold ty; rw [if_neg hpe, if_neg (by omega), hl]; rfl
        rw [hty, if_pos (show fr_bi false = 0 from rfl)]
        refine ⟨fr_up (fr_up s1 13 3 (-2)) 13 5 (nI (p + 1)), ?_, fun a h => by rw [fr_up_ne _ _ _ h, fr_up_ne _ _ _ h, ha a h], fun j j3 j4 j5 => by rw [fr_up_at, upd_ne _ _ j5, fr_up_at, upd_ne _ _ j3, hs j j4 j5], by rw [fr_up_at, upd_ne _ _ (by omega), fr_up_at, upd_at]; rfl, by rw [fr_up_at, upd_at], fun q => by omega⟩
        rw [fr_bS_mk, fr_up_at, upd_ne _ _ (by omega), e2, nI_1]
        rfl
      · have hty : ty T m p = 1 := by unfold ty; rw [if_neg hpe, if_neg (by omega), hl]; rfl
        rw [hty, if_neg fr_nb, e2, i_chk (by omega) (by omega), i_ix (by omega), ha 14 (by omega), he.2 p (by omega)]
        refine ⟨fr_up (fr_up s1 13 3 (nI (T p))) 13 5 (nI (p + 1)), ?_, fun a h => by rw [fr_up_ne _ _ _ h, fr_up_ne _ _ _ h, ha a h], fun j j3 j4 j5 => by rw [fr_up_at, upd_ne _ _ j5, fr_up_at, upd_ne _ _ j3, hs j j4 j5], by rw [fr_up_at, upd_ne _ _ (by omega), fr_up_at, upd_at]; rfl, by rw [fr_up_at, upd_at], fun q => by omega⟩
        rw [fr_bS_mk, fr_up_at, upd_ne _ _ (by omega), e2, nI_1]
        rfl
    · have hty : ty T m p = 3 := by unfold ty; rw [if_neg hpe, if_pos (by omega)]
      have hnx : nx T m p = p := by unfold nx; rw [if_neg hpe, if_pos (by omega)]
      rw [if_neg (fun q => absurd ((i_lt (by omega) (by omega)).mp q) (by omega)), hty, hnx]
      refine ⟨fr_up s1 13 3 (-1), rfl, fun a h => by rw [fr_up_ne _ _ _ h, ha a h], fun j j3 j4 j5 => by rw [fr_up_at, upd_ne _ _ j3, hs j j4 j5], by rw [fr_up_at, upd_at]; rfl, by rw [fr_up_at, upd_ne _ _ (by omega), g4, e0], fun q => by omega⟩
theorem nt_loop (hm : m ≤ 120) (hT : ∀ i, i < 120 → T i ≤ 255) : ∀ (d b v n : Nat) (s : fr_St), m ≤ b + d → d < n → b ≤ m → v ≤ 20000 → ER T m s → s 59 10 = nI b → s 59 12 = nI v → ∃ s', L_X8_nextToken_33 n s = some s' ∧ (∀ a, a ≠ 59 → s' a = s a) ∧ (∀ j, j ≠ 10 → j ≠ 12 → s' 59 j = s 59 j) ∧ s' 59 10 = nI (en T m d b) ∧ s' 59 12 = nI (vR T m d b v) := by
  intro d
  induction d with
  | zero =>
    intro b v n s hd hn hb hv he h5 h4
    obtain ⟨n, rfl⟩ : ∃ m, n = m + 1 := ⟨n - 1, by omega⟩
    refine ⟨s, ?_, fun a _ => rfl, fun j _ _ => rfl, h5, h4⟩
    rw [L_X8_nextToken_33, h5, he.1, if_pos ((i_le (by omega) (by omega)).mpr (by omega))]
  | succ d ih =>
    intro b v n s hd hn hb hv he h5 h4
    obtain ⟨n, rfl⟩ : ∃ m, n = m + 1 := ⟨n - 1, by omega⟩
    show ∃ s', L_X8_nextToken_33 (n + 1) s = some s' ∧ _ ∧ _ ∧ s' 59 10 = nI (if fg T m b then en T m d (b + 1) else b) ∧ s' 59 12 = nI (if fg T m b then vR T m d (b + 1) (if v ≤ 999 then 10 * v + T b - 48 else v) else v)
    by_cases hbm : b < m
    · have hTb := hT b (by omega)
      rw [L_X8_nextToken_33, h5, he.1, if_neg (fun q => absurd ((i_le (by omega) (by omega)).mp q) (by omega)), i_chk (by omega) (by omega), i_ix (by omega), he.2 b (by omega), rf_inN (a := 48) (b := 57) (by omega) rfl rfl, fr_bP_mk]
      by_cases hf : 48 ≤ T b ∧ T b ≤ 57
      · have hfg : fg T m b = true := decide_eq_true ⟨hbm, hf⟩
        rw [decide_eq_true hf, if_neg fr_nb, h5, i_chk (by omega) (by omega), i_ix (by omega), he.2 b (by omega), h4, show (10 : Int32) = nI 10 from rfl, show (48 : Int32) = nI 48 from rfl, i_mul, i_add, i_sub (by omega), hfg]
        simp only [if_true]
        have ev : (if nI v ≤ (999 : Int32) then some (nI (10 * v + T b - 48)) else some (nI v)) = some (nI (if v ≤ 999 then 10 * v + T b - 48 else v)) := by
          by_cases q : v ≤ 999
          · rw [if_pos q, if_pos (show nI v ≤ (999 : Int32) from (i_le (b := 999) (by omega) (by omega)).mpr q)]
          · rw [if_neg q, if_neg (show ¬ nI v ≤ (999 : Int32) from fun w => q ((i_le (b := 999) (by omega) (by omega)).mp w))]
        have hv' : (if v ≤ 999 then 10 * v + T b - 48 else v) ≤ 20000 := by split <;> omega
        rw [ev]
        generalize (if v ≤ 999 then 10 * v + T b - 48 else v) = v' at hv' ⊢
        obtain ⟨s', g1, g2, g3, g4, g5⟩ := ih (b + 1) v' n (fr_up (fr_up s 59 12 (nI v')) 59 10 (nI (b + 1))) (by omega) (by omega) (by omega) hv' ⟨by rw [fr_up_at, upd_ne _ _ (by omega), fr_up_at, upd_ne _ _ (by omega)]; exact he.1, fun i hi => by rw [fr_up_ne _ _ _ (by omega), fr_up_ne _ _ _ (by omega)]; exact he.2 i hi⟩ (by rw [fr_up_at, upd_at]) (by rw [fr_up_at, upd_ne _ _ (by omega), fr_up_at, upd_at])
        refine ⟨s', ?_, fun a ha => by rw [g2 a ha, fr_up_ne _ _ _ ha, fr_up_ne _ _ _ ha], fun j h1 h2 => by rw [g3 j h1 h2, fr_up_at, upd_ne _ _ h1, fr_up_at, upd_ne _ _ h2], g4, g5⟩
        rw [fr_bS_mk, fr_let_eq, fr_let_eq, fr_up_at, upd_ne _ _ (by omega), h5, nI_1]
        exact g1
      · have hfg : fg T m b = false := decide_eq_false (fun q => hf q.2)
        rw [decide_eq_false hf, if_pos (show fr_bi false = 0 from rfl), hfg]
        exact ⟨s, rfl, fun a _ => rfl, fun j _ _ => rfl, h5, h4⟩
    · have hfg : fg T m b = false := decide_eq_false (fun q => hbm q.1)
      rw [L_X8_nextToken_33, h5, he.1, if_pos ((i_le (by omega) (by omega)).mpr (by omega)), hfg]
      exact ⟨s, rfl, fun a _ => rfl, fun j _ _ => rfl, h5, h4⟩
/-- the reference has looked at the token at p -/
def K2 (T : Nat → Nat) (m p : Nat) (t : fr_St) : Prop := t 59 13 = nI p ∧ t 59 11 = nI (ty T m p) ∧ (ty T m p = 1 → t 59 12 = nI (T p)) ∧ (ty T m p = 2 → t 59 12 = nI (vl T m p)) ∧ t 59 10 = nI (nx T m p)
theorem rf_next (hm : m ≤ 120) (hT : ∀ i, i < 120 → T i ≤ 255) (hp : p ≤ m) (he : ER T m t) (h2 : t 59 10 = nI p) : ∃ t', F_X8_nextToken t = some t' ∧ (∀ a, a ≠ 59 → t' a = t a) ∧ (∀ j, j < 10 ∨ 13 < j → t' 59 j = t 59 j) ∧ K2 T m p t' := by
  have hge := en_ge (T := T) (m := m) 120 p
  have hle := en_le (T := T) 120 p hp
  have e3 : (if nI p = nI m then some (3 : Int32) else some (0 : Int32)) = some (nI (if p = m then 3 else 0)) := by
    by_cases q : p = m
    · rw [if_pos q, if_pos (by rw [q])]
      rfl
    · rw [if_neg q, if_neg (fun w => q ((i_eq (by omega) (by omega)).mp w))]
      rfl
  obtain ⟨s1, g1, g2, g3, g4, g5⟩ := nt_loop hm hT 120 p 0 fr_fu (fr_up (fr_up (fr_up t 59 13 (nI p)) 59 11 (nI (if p = m then 3 else 0))) 59 12 (nI 0)) (by omega) (by have := fr_fu_big; omega) hp (by omega) ⟨by rw [fr_up_at, upd_ne _ _ (by omega), fr_up_at, upd_ne _ _ (by omega), fr_up_at, upd_ne _ _ (by omega)]; exact he.1, fun i hi => by rw [fr_up_ne _ _ _ (by omega), fr_up_ne _ _ _ (by omega), fr_up_ne _ _ _ (by omega)]; exact he.2 i hi⟩ (by rw [fr_up_at, upd_ne _ _ (by omega), fr_up_at, upd_ne _ _ (by omega), fr_up_at, upd_ne _ _ (by omega), h2]) (by rw [fr_up_at, upd_at])
  have hs : ∀ j, j < 10 ∨ 13 < j → s1 59 j = t 59 j := fun j hj => by rw [g3 j (by omega) (by omega), fr_up_at, upd_ne _ _ (by omega), fr_up_at, upd_ne _ _ (by omega), fr_up_at, upd_ne _ _ (by omega)]
  have ha : ∀ a, a ≠ 59 → s1 a = t a := fun a h => by rw [g2 a h, fr_up_ne _ _ _ h, fr_up_ne _ _ _ h, fr_up_ne _ _ _ h]
  have e13 : s1 59 13 = nI p := by rw [g3 13 (by omega) (by omega), fr_up_at, upd_ne _ _ (by omega), fr_up_at, upd_ne _ _ (by omega), fr_up_at, upd_at]
  have e11 : s1 59 11 = nI (if p = m then 3 else 0) := by rw [g3 11 (by omega) (by omega), fr_up_at, upd_ne _ _ (by omega), fr_up_at, upd_at]
  unfold F_X8_nextToken
  rw [fr_let_eq, h2, fr_up_at, upd_ne _ _ (show 10 ≠ 13 by omega), upd_ne _ _ (show 8 ≠ 13 by omega), h2, he.1, e3, fr_bS_mk, fr_let_eq, fr_let_eq, show L_X8_nextToken_33 fr_fu (fr_up (fr_up (fr_up t 59 13 (nI p)) 59 11 (nI (if p = m then 3 else 0))) 59 12 (0 : Int32)) = some s1 from g1, fr_bS_mk, g4, e13, e11]
  by_cases hpe : p < en T m 120 p
  · have hnx : nx T m p = en T m 120 p := by unfold nx; rw [if_pos hpe]
    have hvl : vl T m p = vC T m 120 p 0 := by unfold vl; rw [if_pos hpe]
    rw [if_neg (fun q => absurd ((i_le (by omega) (by omega)).mp q) (by omega)), i_sub hge]
    unfold K2
    rw [hnx, hvl]
    by_cases h3 : en T m 120 p - p ≤ 3
    · have hty : ty T m p = 2 := by unfold ty; rw [if_pos hpe, if_pos h3]
      rw [hty, if_pos (show nI (en T m 120 p - p) ≤ (3 : Int32) from (i_le (b := 3) (by omega) (by omega)).mpr h3)]
      refine ⟨fr_up s1 59 11 2, rfl, fun a h => by rw [fr_up_ne _ _ _ h, ha a h], fun j hj => by rw [fr_up_at, upd_ne _ _ (by omega), hs j hj], by rw [fr_up_at, upd_ne _ _ (by omega), e13], by rw [fr_up_at, upd_at]; rfl, fun q => by omega, fun _ => by rw [fr_up_at, upd_ne _ _ (by omega), g5, v_eq 120 p 0 0 (by decide) (by omega)], by rw [fr_up_at, upd_ne _ _ (by omega), g4]⟩
    · have hty : ty T m p = 0 := by unfold ty; rw [if_pos hpe, if_neg h3]
      rw [hty, if_neg (show ¬ nI (en T m 120 p - p) ≤ (3 : Int32) from fun q => h3 ((i_le (b := 3) (by omega) (by omega)).mp q))]
      refine ⟨fr_up s1 59 11 0, rfl, fun a h => by rw [fr_up_ne _ _ _ h, ha a h], fun j hj => by rw [fr_up_at, upd_ne _ _ (by omega), hs j hj], by rw [fr_up_at, upd_ne _ _ (by omega), e13], by rw [fr_up_at, upd_at]; rfl, fun q => by omega, fun q => by omega, by rw [fr_up_at, upd_ne _ _ (by omega), g4]⟩
  · have e0 : en T m 120 p = p := by omega
    rw [if_pos ((i_le (by omega) (by omega)).mpr (by omega))]
    by_cases hpm : p < m
    · have hTp := hT p (by omega)
      have hnx : nx T m p = p + 1 := by unfold nx; rw [if_neg hpe, if_neg (by omega)]
      have ht0 : (if p = m then 3 else 0) = 0 := by rw [if_neg (by omega)]
      have hty : ty T m p = if ltr (T p) then 1 else 0 := by unfold ty; rw [if_neg hpe, if_neg (by omega)]
      have hin : (fr_up s1 59 12 (nI (T p))) 59 12 = nI (T p) := by rw [fr_up_at, upd_at]
      have h10 : s1 59 10 = nI p := by rw [g4, e0]
      rw [ht0, if_pos (show nI 0 = (0 : Int32) from rfl), e0, i_chk (by omega) (by omega), i_ix (by omega), ha 65 (by omega), he.2 p (by omega), fr_let_eq, hin, rf_inN (a := 97) (b := 122) (by omega) rfl rfl, fr_bP_mk, hin]
      have ek : (if fr_bi (decide (97 ≤ T p ∧ T p ≤ 122)) = 0 then (if nI (T p) = (44 : Int32) then some (1 : Int32) else if nI (T p) = (59 : Int32) then some (1 : Int32) else some (0 : Int32)) else some (1 : Int32)) = some (nI (ty T m p)) := by
        rw [hty]
        have key : ∀ x, x < 256 → (if fr_bi (decide (97 ≤ x ∧ x ≤ 122)) = 0 then (if nI x = (44 : Int32) then some (1 : Int32) else if nI x = (59 : Int32) then some (1 : Int32) else some (0 : Int32)) else some (1 : Int32)) = some (nI (if ltr x then 1 else 0)) := by decide +kernel
        exact key (T p) (by omega)
      rw [ek, fr_bS_mk, fr_let_eq, fr_let_eq, fr_up_at, upd_ne _ _ (show 10 ≠ 11 by omega), fr_up_at, upd_ne _ _ (show 10 ≠ 12 by omega), h10, nI_1]
      unfold K2
      rw [hnx]
      refine ⟨_, rfl, fun a h => by rw [fr_up_ne _ _ _ h, fr_up_ne _ _ _ h, fr_up_ne _ _ _ h, ha a h], fun j hj => by rw [fr_up_at, upd_ne _ _ (by omega), fr_up_at, upd_ne _ _ (by omega), fr_up_at, upd_ne _ _ (by omega), hs j hj], by rw [fr_up_at, upd_ne _ _ (by omega), fr_up_at, upd_ne _ _ (by omega), fr_up_at, upd_ne _ _ (by omega), e13], by rw [fr_up_at, upd_ne _ _ (by omega), fr_up_at, upd_at], fun _ => by rw [fr_up_at, upd_ne _ _ (by omega), fr_up_at, upd_ne _ _ (by omega), hin], fun q => ?_, by rw [fr_up_at, upd_at]⟩
      rw [hty] at q
      split at q <;> omega
    · have hty : ty T m p = 3 := by unfold ty; rw [if_neg hpe, if_pos (by omega)]
      have hnx : nx T m p = p := by unfold nx; rw [if_neg hpe, if_pos (by omega)]
      rw [if_pos (show p = m by omega), if_neg (show ¬ nI 3 = (0 : Int32) by decide)]
      unfold K2
      rw [hty, hnx]
      exact ⟨s1, rfl, ha, hs, e13, by rw [e11, if_pos (by omega)], fun q => by omega, fun q => by omega, by rw [g4, e0]⟩
end TAP
