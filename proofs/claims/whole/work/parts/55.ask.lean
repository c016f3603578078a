section ASK
variable {N : Nat} {σ : fr_St} {z : Nat → Nat} {B : Nat}
/-- a trace, the latest first -/
def tw (g : Nat → Int32) : List Nat → (Nat → Int32)
  | [] => g
  | b :: l => upd (tw g l) l.length (nI b)
theorem tw_eq {g h : Nat → Int32} (e : ∀ i, i < 16 → g i = h i) : ∀ (l : List Nat) (i : Nat), i < 16 → tw g l i = tw h l i
  | [], i, hi => e i hi
  | b :: l, i, hi => by
    show upd (tw g l) l.length (nI b) i = upd (tw h l) l.length (nI b) i
    unfold upd
    split
    · rfl
    · exact tw_eq e l i hi
def TC (σ0 : fr_St) (l : List Nat) (σ : fr_St) : Prop := σ 53 2 = nI l.length ∧ σ 54 = tw (σ0 54) l ∧ ∀ b, b ≠ 53 → b ≠ 54 → σ b = σ0 b
def TM (σ0 : fr_St) (l : List Nat) (σ : fr_St) : Prop := σ 59 25 = nI l.length ∧ σ 74 = tw (σ0 74) l ∧ (∀ b, b ≠ 59 → b ≠ 74 → σ b = σ0 b) ∧ ∀ j, j ≠ 25 → σ 59 j = σ0 59 j
def RunG (T : List Nat → fr_St → Prop) (X : fr_St → Option (Int32 × fr_St)) (v : Int32) (add : List Nat) : Prop := ∀ l σ, T l σ → l.length + add.length ≤ 16 → ∃ σ', X σ = some (v, σ') ∧ T (add ++ l) σ'
theorem rg_map {T : List Nat → fr_St → Prop} {Y : fr_St → Option (Int32 × fr_St)} {v : Int32} {add : List Nat} (f : Int32 → Int32) (h : RunG T Y v add) : RunG T (fun s => fr_bP (Y s) (fun r s' => some (f r, s'))) (f v) add := by
  intro l σ hT hl
  obtain ⟨s, e, h2⟩ := h l σ hT hl
  exact ⟨s, by show fr_bP (Y σ) _ = _; rw [e]; rfl, h2⟩
theorem rg_seq {T : List Nat → fr_St → Prop} {Y W : fr_St → Option (Int32 × fr_St)} {v w : Int32} {a1 a2 : List Nat} (f : Int32 → Int32 → Int32) (h : RunG T Y v a1) (k : RunG T W w a2) : RunG T (fun s => fr_bP (Y s) (fun r s' => fr_bP (W s') (fun r2 s2 => some (f r r2, s2)))) (f v w) (a2 ++ a1) := by
  intro l σ hT hl
  rw [List.length_append] at hl
  obtain ⟨s, e, h2⟩ := h l σ hT (by omega)
  obtain ⟨s', e', h2'⟩ := k (a1 ++ l) s h2 (by rw [List.length_append]; omega)
  refine ⟨s', ?_, by rw [List.append_assoc]; exact h2'⟩
  show fr_bP (Y σ) _ = _
  rw [e, fr_bP_mk, e']
  rfl
theorem rg_pre {T : List Nat → fr_St → Prop} {P : fr_St → Option fr_St} {Y : fr_St → Option (Int32 × fr_St)} {v : Int32} {add : List Nat} {b : Nat} (hP : ∀ l σ, T l σ → l.length < 16 → ∃ σ', P σ = some σ' ∧ T (b :: l) σ') (h : RunG T Y v add) : RunG T (fun s => fr_bS (P s) (fun s2 => Y s2)) v (add ++ [b]) := by
  intro l σ hT hl
  rw [List.length_append] at hl
  have hl1 : ([b] : List Nat).length = 1 := rfl
  obtain ⟨s, e, h2⟩ := hP l σ hT (by omega)
  obtain ⟨s', e', h2'⟩ := h (b :: l) s h2 (by rw [List.length_cons]; omega)
  refine ⟨s', ?_, by rw [List.append_assoc]; exact h2'⟩
  show fr_bS (P σ) _ = _
  rw [e, fr_bS_mk, e']
theorem rg_congr {T : List Nat → fr_St → Prop} {X Y : fr_St → Option (Int32 × fr_St)} {v : Int32} {add : List Nat} (e : ∀ l σ, T l σ → X σ = Y σ) (h : RunG T Y v add) : RunG T X v add := by
  intro l σ hT hl
  obtain ⟨s, e', h2⟩ := h l σ hT hl
  exact ⟨s, by rw [e l σ hT, e'], h2⟩
theorem rg_pure {T : List Nat → fr_St → Prop} {X : fr_St → Option (Int32 × fr_St)} {v : Int32} (e : ∀ l σ, T l σ → X σ = some (v, σ)) : RunG T X v [] := fun l σ hT _ => ⟨σ, e l σ hT, hT⟩
theorem tc_leave {σ0 : fr_St} (b : Nat) : ∀ l σ, TC σ0 l σ → l.length < 16 → ∃ σ', F_X1_leave (nI b) σ = some σ' ∧ TC σ0 (b :: l) σ' := by
  intro l σ hT hl
  obtain ⟨h1, h2, h3⟩ := hT
  refine ⟨fr_up (fr_up σ 54 l.length (nI b)) 53 2 (nI (l.length + 1)), ?_, ?_, ?_, fun a ha hb => by rw [fr_up_ne _ _ _ ha, fr_up_ne _ _ _ hb, h3 a ha hb]⟩
  · unfold F_X1_leave
    rw [h1, if_neg (show ¬ (16 : Int32) ≤ nI l.length from fun q => absurd ((i_le (a := 16) (by omega) (by omega)).mp q) (by omega)), i_chk hl (by omega), i_ix (by omega), fr_let_eq, fr_let_eq, fr_up_ne _ _ _ (show 53 ≠ 54 by omega), h1, nI_1]
    rfl
  · rw [fr_up_at, upd_at]
    rfl
  · rw [fr_up_ne _ _ _ (by omega), fr_up_at, h2]
    rfl
theorem tm_begin {σ0 : fr_St} (b : Nat) : ∀ l σ, TM σ0 l σ → l.length < 16 → ∃ σ', F_X8_begin (nI b) σ = some σ' ∧ TM σ0 (b :: l) σ' := by
  intro l σ hT hl
  obtain ⟨h1, h2, h3, h4⟩ := hT
  refine ⟨fr_up (fr_up σ 74 l.length (nI b)) 59 25 (nI (l.length + 1)), ?_, ?_, ?_, fun a ha hb => by rw [fr_up_ne _ _ _ ha, fr_up_ne _ _ _ hb, h3 a ha hb], fun j hj => by rw [fr_up_at, upd_ne _ _ hj, fr_up_ne _ _ _ (by omega), h4 j hj]⟩
  · unfold F_X8_begin
    rw [h1, if_neg (show ¬ (16 : Int32) ≤ nI l.length from fun q => absurd ((i_le (a := 16) (by omega) (by omega)).mp q) (by omega)), i_chk hl (by omega), i_ix (by omega), fr_let_eq, fr_let_eq, fr_up_ne _ _ _ (show 59 ≠ 74 by omega), h1, nI_1]
    rfl
  · rw [fr_up_at, upd_at]
    rfl
  · rw [fr_up_ne _ _ _ (by omega), fr_up_at, h2]
    rfl
def bgI (B : Int32 → Int32 → Int32 → fr_St → Option (Int32 × fr_St)) (a1 a2 v3 : Int32) (s2 : fr_St) : Option (Int32 × fr_St) := if a1 = (10 : Int32) then (fr_bP (F_X3_longOf 15 a2 s2) (fun r7 s6 => some (r7, s6))) else (if a1 = (11 : Int32) then (fr_bP (B (10 : Int32) a2 v3 s2) (fun r11 s10 => fr_bP (F_X1_askAnew B a2 (1 : Int32) v3 s10) (fun r14 s13 => some ((r11 + r14), s13)))) else (if a1 = (12 : Int32) then (fr_bP (B (11 : Int32) a2 v3 s2) (fun r18 s17 => some ((-r18), s17))) else (if a1 = (13 : Int32) then (fr_bP (B (10 : Int32) a2 v3 s2) (fun r22 s21 => some ((r22 - (100 : Int32)), s21))) else (if a1 = (14 : Int32) then (fr_bP (B (13 : Int32) a2 v3 s2) (fun r26 s25 => some ((r26 * (2 : Int32)), s25))) else (if a1 = (15 : Int32) then (some ((0 : Int32), s2)) else (if a1 = (16 : Int32) then (some ((0 : Int32), s2)) else (if a1 = (17 : Int32) then (some ((0 : Int32), s2)) else (if a1 = (18 : Int32) then (some ((0 : Int32), s2)) else (if a1 = (19 : Int32) then (some ((0 : Int32), s2)) else (if a1 = (20 : Int32) then (some (a2, s2)) else (if a1 = (21 : Int32) then (fr_bP (B (20 : Int32) a2 v3 s2) (fun r36 s35 => fr_bP (F_X3_today 15 s35) (fun r39 s38 => fr_bP (F_X3_solesOf 15 a2 r39 s38) (fun r42 s41 => fr_bP (F_J6_bitCount_0f7a4 r42 s41) (fun r45 s44 => some ((r36 + r45), s44)))))) else (if a1 = (22 : Int32) then (fr_bP (B (21 : Int32) a2 v3 s2) (fun r49 s48 => some ((r49 - (1000 : Int32)), s48))) else (if a1 = (23 : Int32) then (fr_bP (B (20 : Int32) a2 v3 s2) (fun r53 s52 => fr_bP (F_X1_askAnew B a2 (0 : Int32) v3 s52) (fun r56 s55 => some ((r53 - r56), s55)))) else (if a1 = (24 : Int32) then (fr_bP (B (21 : Int32) a2 v3 s2) (fun r60 s59 => some ((r60 * (2 : Int32)), s59))) else (some ((0 : Int32), s2))))))))))))))))
theorem bg_run {σ0 : fr_St} {Y : fr_St → Option (Int32 × fr_St)} {v : Int32} {add : List Nat} {b d k dp : Nat} (hdp : dp ≤ 30) (e : ∀ s, bgI (F_X1_begin d) (nI b) (nI k) (nI (dp + 1)) s = Y s) (h : RunG (TC σ0) Y v add) : RunG (TC σ0) (F_X1_begin (d + 1) (nI b) (nI k) (nI dp)) v (add ++ [b]) := by
  refine rg_congr (fun l σ _ => ?_) (rg_pre (tc_leave b) h)
  show F_X1_beginB (F_X1_begin d) (nI b) (nI k) (nI dp) σ = _
  have e' : (fun s => bgI (F_X1_begin d) (nI b) (nI k) (nI (dp + 1)) s) = Y := funext e
  rw [← e', ← nI_1]
  unfold F_X1_beginB
  rw [if_pos (show nI dp ≤ (30 : Int32) from (i_le (b := 30) (by omega) (by omega)).mpr hdp)]
  rfl
theorem bf_step {kd st w : Nat} (hk : kd ≤ 5) (hs : st ≤ 5) (n : Nat) (σ : fr_St) : L_X1_bodyFor_4 (nI w) (n + 1) (nI kd) (nI st) σ = if (if nI w = 0 then fr_cS kd else fr_cM kd) = 0 then L_X1_bodyFor_4 (nI w) n (fr_cA kd) (nI (st + 1)) σ else some (.inl (if nI w = 0 then fr_cS kd else fr_cM kd, σ)) := by
  rw [L_X1_bodyFor_4, if_neg (show ¬ (5 : Int32) < nI st from fun w => absurd ((i_lt (a := 5) (by omega) (by omega)).mp w) (by omega)), k_has, k_ib (by omega) (by omega), fr_bP_mk, if_neg fr_nb, if_pos rfl, if_pos rfl, i_ix (by omega), k_above hk, fr_bP_mk, fr_let_eq, nI_1]
  by_cases e : nI w = 0
  · rw [if_pos e, if_pos e, fr_bS_mk]
  · rw [if_neg e, if_neg e, fr_bS_mk]
def bfT (kd w : Nat) : Nat := if w = 0 then (if kd = 1 then 11 else if kd = 2 then 12 else if kd = 3 then 11 else if kd = 4 then 13 else 14) else (if kd = 1 then 21 else if kd = 2 then 24 else if kd = 3 then 22 else 23)
theorem bf_eq {kd w : Nat} (h1 : 1 ≤ kd) (h5 : kd ≤ 5) (hw : w ≤ 1) (σ : fr_St) : F_X1_bodyFor (nI kd) (nI w) σ = some (nI (bfT kd w), σ) := by
  unfold F_X1_bodyFor
  obtain ⟨m, hm⟩ : ∃ m, fr_fu = m + 1 + 1 := ⟨999999999998, rfl⟩
  rw [hm, show (0 : Int32) = nI 0 from rfl, bf_step h5 (by omega)]
  rcases (show w = 0 ∨ w = 1 by omega) with rfl | rfl <;> rcases (show kd = 1 ∨ kd = 2 ∨ kd = 3 ∨ kd = 4 ∨ kd = 5 by omega) with rfl | rfl | rfl | rfl | rfl
  · rfl
  · rfl
  · rw [if_pos (by decide), show fr_cA 3 = nI 1 from rfl, bf_step (by omega) (by omega)]
    rfl
  · rfl
  · rfl
  · rfl
  · rfl
  · rfl
  · rfl
  · rw [if_pos (by decide), show fr_cA 5 = nI 4 from rfl, bf_step (by omega) (by omega)]
    rfl
theorem an_run {σ0 : fr_St} (hc : CR z (σ0 16)) {v : Int32} {add : List Nat} {d k kd w b dp : Nat} (hk : k < 9) (hkd : z (14 + k) = kd) (h1 : 1 ≤ kd) (h5 : kd ≤ 5) (hw : w ≤ 1) (hb : bfT kd w = b) (h : RunG (TC σ0) (F_X1_begin d (nI b) (nI k) (nI (dp + 1))) v add) : RunG (TC σ0) (F_X1_askAnew (F_X1_begin d) (nI k) (nI w) (nI dp)) v add := by
  refine rg_congr (fun l σ hT => ?_) (rg_map id h)
  have hc' : CR z (σ 16) := by rw [hT.2.2 16 (by omega) (by omega)]; exact hc
  unfold F_X1_askAnew
  rw [cl_kindOf (o := 15) hc' hk, fr_bP_mk, hkd, bf_eq h1 h5 hw, fr_bP_mk, hb, nI_1]
  rfl
theorem bg10 {σ0 : fr_St} (hc : CR z (σ0 16)) {d k dp : Nat} (hk : k < 9) (hdp : dp ≤ 30) : RunG (TC σ0) (F_X1_begin (d + 1) (nI 10) (nI k) (nI dp)) (nI (z (41 + k))) [10] :=
  bg_run (b := 10) (add := []) hdp (fun s => rfl) (rg_pure (fun l σ hT => by
    have hc' : CR z (σ 16) := by rw [hT.2.2 16 (by omega) (by omega)]; exact hc
    show fr_bP (F_X3_longOf 15 (nI k) σ) _ = _
    rw [cl_longOf (o := 15) hc' hk]
    rfl))
theorem bg20 {σ0 : fr_St} {d k dp : Nat} (hdp : dp ≤ 30) : RunG (TC σ0) (F_X1_begin (d + 1) (nI 20) (nI k) (nI dp)) (nI k) [20] :=
  bg_run (b := 20) (add := []) hdp (fun s => rfl) (rg_pure (fun l σ hT => rfl))
theorem bg13 {σ0 : fr_St} (hc : CR z (σ0 16)) {d k dp : Nat} (hk : k < 9) (hdp : dp ≤ 29) : RunG (TC σ0) (F_X1_begin (d + 2) (nI 13) (nI k) (nI dp)) (nI (z (41 + k)) - 100) [10, 13] :=
  bg_run (b := 13) (d := d + 1) (add := [10]) (by omega) (fun s => rfl) (rg_map (fun r => r - 100) (bg10 hc hk (by omega)))
theorem bg14 {σ0 : fr_St} (hc : CR z (σ0 16)) {d k dp : Nat} (hk : k < 9) (hdp : dp ≤ 28) : RunG (TC σ0) (F_X1_begin (d + 3) (nI 14) (nI k) (nI dp)) ((nI (z (41 + k)) - 100) * 2) [10, 13, 14] :=
  bg_run (b := 14) (d := d + 2) (add := [10, 13]) (by omega) (fun s => rfl) (rg_map (fun r => r * 2) (bg13 hc hk (by omega)))
/-- how many soles open it today -/
def pso (z : Nat → Nat) (k : Nat) : Nat := pop (msk (fun s => opn z k s (z 4)) (z 3))
theorem pso_lt (hw : WFl z B) (k : Nat) : msk (fun s => opn z k s (z 4)) (z 3) < 512 := by
  have h3 := hw.2.2.2.2.2.1
  have h := msk_lt (fun s => opn z k s (z 4)) (z 3)
  have : 2 ^ z 3 ≤ 2 ^ 4 := Nat.pow_le_pow_right (by omega) h3
  omega
theorem bg21 {σ0 : fr_St} (hc : CR z (σ0 16)) (hw : WFl z B) (hB : B ≤ 100000) {d k dp : Nat} (hk : k < 9) (hdp : dp ≤ 29) : RunG (TC σ0) (F_X1_begin (d + 2) (nI 21) (nI k) (nI dp)) (nI k + nI (pso z k)) [20, 21] := by
  have hd4 := hw.2.2.2.2.2.2.1
  refine bg_run (b := 21) (d := d + 1) (add := [20]) (Y := fun s => fr_bP (F_X1_begin (d + 1) (nI 20) (nI k) (nI (dp + 1)) s) (fun r s' => fr_bP (fr_bP (F_X3_today 15 s') (fun r39 s38 => fr_bP (F_X3_solesOf 15 (nI k) r39 s38) (fun r42 s41 => F_J6_bitCount_0f7a4 r42 s41))) (fun r2 s2 => some (r + r2, s2)))) (by omega) (fun s => ?_) (rg_seq (a1 := [20]) (a2 := []) (fun r r2 => r + r2) (bg20 (by omega)) (rg_pure (fun l σ hT => ?_)))
  · show fr_bP (F_X1_begin (d + 1) (nI 20) (nI k) (nI (dp + 1)) s) _ = _
    cases F_X1_begin (d + 1) (nI 20) (nI k) (nI (dp + 1)) s with
    | none => rfl
    | some q =>
      obtain ⟨r, s'⟩ := q
      rw [fr_bP_mk, fr_bP_mk]
      cases F_X3_today 15 s' with
      | none => rfl
      | some q =>
        obtain ⟨r3, s3⟩ := q
        rw [fr_bP_mk, fr_bP_mk]
        cases F_X3_solesOf 15 (nI k) r3 s3 <;> rfl
  · have hc' : CR z (σ 16) := by rw [hT.2.2 16 (by omega) (by omega)]; exact hc
    rw [cl_today (o := 15) hc', fr_bP_mk, cl_solesOf (o := 15) hc' hw hB hk (by omega), fr_bP_mk, bc_eq (pso_lt hw k)]
    rfl
theorem bg22 {σ0 : fr_St} (hc : CR z (σ0 16)) (hw : WFl z B) (hB : B ≤ 100000) {d k dp : Nat} (hk : k < 9) (hdp : dp ≤ 28) : RunG (TC σ0) (F_X1_begin (d + 3) (nI 22) (nI k) (nI dp)) (nI k + nI (pso z k) - 1000) [20, 21, 22] :=
  bg_run (b := 22) (d := d + 2) (add := [20, 21]) (by omega) (fun s => rfl) (rg_map (fun r => r - 1000) (bg21 hc hw hB hk (by omega)))
theorem bg24 {σ0 : fr_St} (hc : CR z (σ0 16)) (hw : WFl z B) (hB : B ≤ 100000) {d k dp : Nat} (hk : k < 9) (hdp : dp ≤ 28) : RunG (TC σ0) (F_X1_begin (d + 3) (nI 24) (nI k) (nI dp)) ((nI k + nI (pso z k)) * 2) [20, 21, 24] :=
  bg_run (b := 24) (d := d + 2) (add := [20, 21]) (by omega) (fun s => rfl) (rg_map (fun r => r * 2) (bg21 hc hw hB hk (by omega)))
/-- size of a highway or river; mark; size: value and trace -/
def vH (z : Nat → Nat) (k : Nat) : Int32 := if z (14 + k) = 5 then (nI (z (41 + k)) - 100) * 2 else nI (z (41 + k)) - 100
def lH (z : Nat → Nat) (k : Nat) : List Nat := if z (14 + k) = 5 then [10, 13, 14] else [10, 13]
def vM (z : Nat → Nat) (k : Nat) : Int32 := if z (14 + k) = 1 then nI k + nI (pso z k) else if z (14 + k) = 2 then (nI k + nI (pso z k)) * 2 else if z (14 + k) = 3 then nI k + nI (pso z k) - 1000 else nI k - vH z k
def lM (z : Nat → Nat) (k : Nat) : List Nat := if z (14 + k) = 1 then [20, 21] else if z (14 + k) = 2 then [20, 21, 24] else if z (14 + k) = 3 then [20, 21, 22] else lH z k ++ [20] ++ [23]
def vS (z : Nat → Nat) (k : Nat) : Int32 := if z (14 + k) < 4 then (if z (14 + k) = 2 then -(nI (z (41 + k)) + vM z k) else nI (z (41 + k)) + vM z k) else vH z k
def lS (z : Nat → Nat) (k : Nat) : List Nat := if z (14 + k) < 4 then (if z (14 + k) = 2 then lM z k ++ [10] ++ [11] ++ [12] else lM z k ++ [10] ++ [11]) else lH z k
theorem cH {σ0 : fr_St} (hc : CR z (σ0 16)) {d k dp : Nat} (hk : k < 9) (h4 : 4 ≤ z (14 + k)) (h5 : z (14 + k) ≤ 5) (hdp : dp ≤ 20) : RunG (TC σ0) (F_X1_askAnew (F_X1_begin (d + 3)) (nI k) (nI 0) (nI dp)) (vH z k) (lH z k) := by
  unfold vH lH
  rcases (show z (14 + k) = 4 ∨ z (14 + k) = 5 by omega) with e | e
  · rw [e, if_neg (by omega), if_neg (by omega)]
    exact an_run hc hk e (by omega) (by omega) (by omega) (b := 13) rfl (bg13 (d := d + 1) hc hk (by omega))
  · rw [e, if_pos rfl, if_pos rfl]
    exact an_run hc hk e (by omega) (by omega) (by omega) (b := 14) rfl (bg14 hc hk (by omega))
theorem cM {σ0 : fr_St} (hc : CR z (σ0 16)) (hw : WFl z B) (hB : B ≤ 100000) {d k dp : Nat} (hk : k < 9) (h1 : 1 ≤ z (14 + k)) (h5 : z (14 + k) ≤ 5) (hdp : dp ≤ 15) : RunG (TC σ0) (F_X1_askAnew (F_X1_begin (d + 4)) (nI k) (nI 1) (nI dp)) (vM z k) (lM z k) := by
  unfold vM lM
  have h23 : 4 ≤ z (14 + k) → RunG (TC σ0) (F_X1_askAnew (F_X1_begin (d + 4)) (nI k) (nI 1) (nI dp)) (nI k - vH z k) (lH z k ++ [20] ++ [23]) := fun h4 =>
    an_run hc hk rfl h1 h5 (by omega) (b := 23) (by unfold bfT; rw [if_neg (by omega), if_neg (by omega), if_neg (by omega), if_neg (by omega)]) (bg_run (b := 23) (d := d + 3) (by omega) (fun s => rfl) (rg_seq (fun r r2 => r - r2) (bg20 (d := d + 2) (by omega)) (cH hc hk h4 h5 (by omega))))
  rcases (show z (14 + k) = 1 ∨ z (14 + k) = 2 ∨ z (14 + k) = 3 ∨ 4 ≤ z (14 + k) by omega) with e | e | e | e
  · rw [if_pos e, if_pos e]
    exact an_run hc hk e (by omega) (by omega) (by omega) (b := 21) rfl (bg21 (d := d + 2) hc hw hB hk (by omega))
  · rw [if_neg (by omega), if_pos e, if_neg (by omega), if_pos e]
    exact an_run hc hk e (by omega) (by omega) (by omega) (b := 24) rfl (bg24 (d := d + 1) hc hw hB hk (by omega))
  · rw [if_neg (by omega), if_neg (by omega), if_pos e, if_neg (by omega), if_neg (by omega), if_pos e]
    exact an_run hc hk e (by omega) (by omega) (by omega) (b := 22) rfl (bg22 (d := d + 1) hc hw hB hk (by omega))
  · rw [if_neg (by omega), if_neg (by omega), if_neg (by omega), if_neg (by omega), if_neg (by omega), if_neg (by omega)]
    exact h23 e
theorem cS {σ0 : fr_St} (hc : CR z (σ0 16)) (hw : WFl z B) (hB : B ≤ 100000) {d k dp : Nat} (hk : k < 9) (h1 : 1 ≤ z (14 + k)) (h5 : z (14 + k) ≤ 5) (hdp : dp ≤ 10) : RunG (TC σ0) (F_X1_askAnew (F_X1_begin (d + 6)) (nI k) (nI 0) (nI dp)) (vS z k) (lS z k) := by
  unfold vS lS
  have h11 : ∀ {d dp : Nat}, dp ≤ 13 → RunG (TC σ0) (F_X1_begin (d + 5) (nI 11) (nI k) (nI dp)) (nI (z (41 + k)) + vM z k) (lM z k ++ [10] ++ [11]) := fun hdp => bg_run (b := 11) (by omega) (fun s => rfl) (rg_seq (fun r r2 => r + r2) (bg10 hc hk (by omega)) (cM hc hw hB hk h1 h5 (by omega)))
  by_cases h4 : z (14 + k) < 4
  · rw [if_pos h4, if_pos h4]
    by_cases e : z (14 + k) = 2
    · rw [if_pos e, if_pos e]
      exact an_run hc hk e (by omega) (by omega) (by omega) (b := 12) rfl (bg_run (b := 12) (d := d + 5) (by omega) (fun s => rfl) (rg_map (fun r => -r) (h11 (by omega))))
    · rw [if_neg e, if_neg e]
      refine an_run hc hk rfl h1 h5 (by omega) (b := 11) ?_ (h11 (d := d + 1) (by omega))
      unfold bfT
      rw [if_pos rfl]
      rcases (show z (14 + k) = 1 ∨ z (14 + k) = 3 by omega) with q | q <;> rw [q] <;> rfl
  · rw [if_neg h4, if_neg h4]
    exact cH hc hk (by omega) h5 (by omega)
/-! the reference -/
theorem rL {σ0 : fr_St} (hr : RR z (σ0 63)) {k : Nat} (hk : k < 9) : RunG (TM σ0) (F_X8_lent (nI k) (nI 10)) (nI (z (41 + k))) [10] :=
  rg_pre (b := 10) (add := []) (Y := fun s2 => fr_bS (if nI 10 = (10 : Int32) then (if fr_ib ((41 : Int32) + nI k) 122 = true then some ((s2 63 (fr_ix ((41 : Int32) + nI k)))) else none) else (some (nI k))) (fun v3 => some (v3, s2))) (tm_begin 10) (rg_pure (fun l σ hT => by
    rw [if_pos (show nI 10 = (10 : Int32) from rfl), show (41 : Int32) = nI 41 from rfl, i_add, i_chk (by omega) (by omega), i_ix (by omega), hT.2.2.1 63 (by omega) (by omega), hr.1 (41 + k) (by omega)]
    rfl))
theorem rN {σ0 : fr_St} {k : Nat} : RunG (TM σ0) (F_X8_lent (nI k) (nI 20)) (nI k) [20] :=
  rg_pre (b := 20) (add := []) (Y := fun s2 => fr_bS (if nI 20 = (10 : Int32) then (if fr_ib ((41 : Int32) + nI k) 122 = true then some ((s2 63 (fr_ix ((41 : Int32) + nI k)))) else none) else (some (nI k))) (fun v3 => some (v3, s2))) (tm_begin 20) (rg_pure (fun l σ hT => by
    rw [if_neg (show ¬ nI 20 = (10 : Int32) by decide)]
    rfl))
theorem rLM {σ0 : fr_St} (hr : RR z (σ0 63)) (hw : WFl z B) (hB : B ≤ 100000) {k : Nat} (hk : k < 9) : RunG (TM σ0) (F_X8_laneMark (nI k)) (nI k + nI (pso z k)) [20, 21] := by
  refine rg_congr (Y := fun s => fr_bS (F_X8_begin (nI 21) s) (fun s2 => fr_bP (F_X8_lent (nI k) (nI 20) s2) (fun r s' => fr_bP (fr_bP (F_X8_solesOf (nI k) s') (fun r8 s7 => F_X8_ones r8 s7)) (fun r2 s2 => some (r + r2, s2))))) (fun l σ hT => ?_) (rg_pre (b := 21) (add := [20]) (Y := fun s2 => fr_bP (F_X8_lent (nI k) (nI 20) s2) (fun r s' => fr_bP (fr_bP (F_X8_solesOf (nI k) s') (fun r8 s7 => F_X8_ones r8 s7)) (fun r2 s2 => some (r + r2, s2)))) (tm_begin 21) (rg_seq (a1 := [20]) (a2 := []) (W := fun s' => fr_bP (F_X8_solesOf (nI k) s') (fun r8 s7 => F_X8_ones r8 s7)) (fun r r2 => r + r2) rN (rg_pure (fun l σ hT => ?_))))
  · unfold F_X8_laneMark
    show fr_bS (F_X8_begin (nI 21) σ) _ = fr_bS (F_X8_begin (nI 21) σ) _
    cases F_X8_begin (nI 21) σ with
    | none => rfl
    | some s2 =>
      show fr_bP (F_X8_lent (nI k) (nI 20) s2) _ = fr_bP (F_X8_lent (nI k) (nI 20) s2) _
      cases F_X8_lent (nI k) (nI 20) s2 with
      | none => rfl
      | some q =>
        obtain ⟨r, s'⟩ := q
        show fr_bP (F_X8_solesOf (nI k) s') _ = fr_bP (fr_bP (F_X8_solesOf (nI k) s') _) _
        cases F_X8_solesOf (nI k) s' <;> rfl
  · have hr' : RR z (σ 63) := by rw [hT.2.2.1 63 (by omega) (by omega)]; exact hr
    rw [rf_solesOf hr' hw hB hk, fr_bP_mk, on_eq (pso_lt hw k)]
    rfl
theorem rHS {σ0 : fr_St} (hr : RR z (σ0 63)) {k : Nat} (hk : k < 9) : RunG (TM σ0) (F_X8_highSize (nI k)) (nI (z (41 + k)) - 100) [10, 13] :=
  rg_pre (b := 13) (add := [10]) (Y := fun s2 => fr_bP (F_X8_lent (nI k) (nI 10) s2) (fun r s' => some (r - 100, s'))) (tm_begin 13) (rg_map (fun r => r - 100) (rL hr hk))
theorem rk {σ0 : fr_St} (hr : RR z (σ0 63)) {k : Nat} (hk : k < 9) {l : List Nat} {σ : fr_St} (hT : TM σ0 l σ) : σ 63 (fr_ix ((14 : Int32) + nI k)) = nI (z (14 + k)) := by
  rw [show (14 : Int32) = nI 14 from rfl, i_add, i_ix (by omega), hT.2.2.1 63 (by omega) (by omega), hr.1 (14 + k) (by omega)]
theorem rkb {k : Nat} (hk : k < 9) : fr_ib ((14 : Int32) + nI k) 122 = true := by
  rw [show (14 : Int32) = nI 14 from rfl, i_add, k_ib (by omega) (by omega)]
theorem rH {σ0 : fr_St} (hr : RR z (σ0 63)) {k : Nat} (hk : k < 9) (h4 : 4 ≤ z (14 + k)) (h5 : z (14 + k) ≤ 5) : RunG (TM σ0) (F_X8_sizeOfHigh (nI k)) (vH z k) (lH z k) := by
  unfold vH lH
  by_cases e : z (14 + k) = 5
  · rw [if_pos e, if_pos e, Int32.mul_comm]
    refine rg_congr (fun l σ hT => ?_) (rg_pre (b := 14) (add := [10, 13]) (tm_begin 14) (rg_map (fun r => 2 * r) (rHS hr hk)))
    unfold F_X8_sizeOfHigh
    rw [if_pos (rkb hk), rk hr hk hT, if_pos (by rw [e]; rfl)]
    rfl
  · rw [if_neg e, if_neg e]
    refine rg_congr (fun l σ hT => ?_) (rg_map id (rHS hr hk))
    unfold F_X8_sizeOfHigh
    rw [if_pos (rkb hk), rk hr hk hT, if_neg (show ¬ nI (z (14 + k)) = (5 : Int32) from fun q => e ((i_eq (b := 5) (by omega) (by omega)).mp q))]
    rfl
theorem rM {σ0 : fr_St} (hr : RR z (σ0 63)) (hw : WFl z B) (hB : B ≤ 100000) {k : Nat} (hk : k < 9) (h1 : 1 ≤ z (14 + k)) (h5 : z (14 + k) ≤ 5) : RunG (TM σ0) (F_X8_markOf (nI k)) (vM z k) (lM z k) := by
  unfold vM lM
  have ne : ∀ {c : Nat}, c ≤ 5 → z (14 + k) ≠ c → ¬ nI (z (14 + k)) = nI c := fun hc h q => h ((i_eq (by omega) (by omega)).mp q)
  rcases (show z (14 + k) = 1 ∨ z (14 + k) = 2 ∨ z (14 + k) = 3 ∨ 4 ≤ z (14 + k) by omega) with e | e | e | e
  · rw [if_pos e, if_pos e]
    refine rg_congr (fun l σ hT => ?_) (rg_map id (rLM hr hw hB hk))
    unfold F_X8_markOf
    rw [if_pos (rkb hk), rk hr hk hT, fr_let_eq, if_neg (show ¬ nI (z (14 + k)) = (2 : Int32) from ne (c := 2) (by omega) (by omega)), if_neg (show ¬ nI (z (14 + k)) = (3 : Int32) from ne (c := 3) (by omega) (by omega)), if_pos (by rw [e]; rfl)]
    rfl
  · rw [if_neg (by omega), if_pos e, if_neg (by omega), if_pos e, Int32.mul_comm]
    refine rg_congr (fun l σ hT => ?_) (rg_pre (b := 24) (add := [20, 21]) (tm_begin 24) (rg_map (fun r => 2 * r) (rLM hr hw hB hk)))
    unfold F_X8_markOf
    rw [if_pos (rkb hk), rk hr hk hT, fr_let_eq, if_pos (by rw [e]; rfl)]
    rfl
  · rw [if_neg (by omega), if_neg (by omega), if_pos e, if_neg (by omega), if_neg (by omega), if_pos e]
    refine rg_congr (fun l σ hT => ?_) (rg_pre (b := 22) (add := [20, 21]) (tm_begin 22) (rg_map (fun r => r - 1000) (rLM hr hw hB hk)))
    unfold F_X8_markOf
    rw [if_pos (rkb hk), rk hr hk hT, fr_let_eq, if_neg (show ¬ nI (z (14 + k)) = (2 : Int32) from ne (c := 2) (by omega) (by omega)), if_pos (by rw [e]; rfl)]
    rfl
  · rw [if_neg (by omega), if_neg (by omega), if_neg (by omega), if_neg (by omega), if_neg (by omega), if_neg (by omega)]
    refine rg_congr (fun l σ hT => ?_) (rg_pre (b := 23) (tm_begin 23) (rg_seq (fun r r2 => r - r2) rN (rH hr hk e h5)))
    unfold F_X8_markOf
    rw [if_pos (rkb hk), rk hr hk hT, fr_let_eq, if_neg (show ¬ nI (z (14 + k)) = (2 : Int32) from ne (c := 2) (by omega) (by omega)), if_neg (show ¬ nI (z (14 + k)) = (3 : Int32) from ne (c := 3) (by omega) (by omega)), if_neg (show ¬ nI (z (14 + k)) = (1 : Int32) from ne (c := 1) (by omega) (by omega))]
    rfl
theorem rLS {σ0 : fr_St} (hr : RR z (σ0 63)) (hw : WFl z B) (hB : B ≤ 100000) {k : Nat} (hk : k < 9) (h1 : 1 ≤ z (14 + k)) (h5 : z (14 + k) ≤ 5) : RunG (TM σ0) (F_X8_laneSize (nI k)) (nI (z (41 + k)) + vM z k) (lM z k ++ [10] ++ [11]) :=
  rg_congr (fun l σ hT => rfl) (rg_pre (b := 11) (tm_begin 11) (rg_seq (fun r r2 => r + r2) (rL hr hk) (rM hr hw hB hk h1 h5)))
theorem rS {σ0 : fr_St} (hr : RR z (σ0 63)) (hw : WFl z B) (hB : B ≤ 100000) {k : Nat} (hk : k < 9) (h1 : 1 ≤ z (14 + k)) (h5 : z (14 + k) ≤ 5) : RunG (TM σ0) (F_X8_sizeOf (nI k)) (vS z k) (lS z k) := by
  unfold vS lS
  by_cases h4 : z (14 + k) < 4
  · rw [if_pos h4, if_pos h4]
    by_cases e : z (14 + k) = 2
    · rw [if_pos e, if_pos e]
      refine rg_congr (fun l σ hT => ?_) (rg_pre (b := 12) (tm_begin 12) (rg_map (fun r => -r) (rLS hr hw hB hk h1 h5)))
      unfold F_X8_sizeOf
      rw [if_pos (rkb hk), rk hr hk hT, fr_let_eq, if_pos (by rw [e]; rfl)]
      rfl
    · rw [if_neg e, if_neg e]
      refine rg_congr (fun l σ hT => ?_) (rg_map id (rLS hr hw hB hk h1 h5))
      unfold F_X8_sizeOf
      rw [if_pos (rkb hk), rk hr hk hT, fr_let_eq, if_neg (show ¬ nI (z (14 + k)) = (2 : Int32) from fun q => e ((i_eq (b := 2) (by omega) (by omega)).mp q)), if_pos (show nI (z (14 + k)) < (4 : Int32) from (i_lt (b := 4) (by omega) (by omega)).mpr h4)]
      show fr_bP (fr_bP (F_X8_laneSize (nI k) σ) _) _ = _
      cases F_X8_laneSize (nI k) σ <;> rfl
  · rw [if_neg h4, if_neg h4]
    refine rg_congr (fun l σ hT => ?_) (rg_map id (rH hr hk (by omega) h5))
    unfold F_X8_sizeOf
    rw [if_pos (rkb hk), rk hr hk hT, fr_let_eq, if_neg (show ¬ nI (z (14 + k)) = (2 : Int32) from fun q => absurd ((i_eq (b := 2) (by omega) (by omega)).mp q) (by omega)), if_neg (show ¬ nI (z (14 + k)) < (4 : Int32) from fun q => h4 ((i_lt (b := 4) (by omega) (by omega)).mp q))]
    show fr_bP (fr_bP (F_X8_sizeOfHigh (nI k) σ) _) _ = _
    cases F_X8_sizeOfHigh (nI k) σ <;> rfl
theorem lH_le (k : Nat) : (lH z k).length ≤ 3 := by unfold lH; split <;> decide
theorem lM_le (k : Nat) : (lM z k).length ≤ 5 := by
  have := lH_le (z := z) k
  unfold lM
  split
  · decide
  · split
    · decide
    · split
      · decide
      · rw [List.length_append, List.length_append]
        show _ + 1 + 1 ≤ 5
        omega
theorem lS_le (k : Nat) : (lS z k).length ≤ 8 := by
  have := lH_le (z := z) k
  have := lM_le (z := z) k
  unfold lS
  split
  · split
    · rw [List.length_append, List.length_append, List.length_append]
      show _ + 1 + 1 + 1 ≤ 8
      omega
    · rw [List.length_append, List.length_append]
      show _ + 1 + 1 ≤ 8
      omega
  · omega
theorem ask_fin (h : Rel N σ) {s t : fr_St} {l : List Nat} (hl : l.length ≤ 16) (hs : TC σ l s) (ht : TM s l t) : Rel (N + 1) t := by
  obtain ⟨a1, a2, a3⟩ := hs
  obtain ⟨c1, c2, c3, c4⟩ := ht
  have e : ∀ b, b ≠ 53 → b ≠ 54 → b ≠ 59 → b ≠ 74 → t b = σ b := fun b h1 h2 h3 h4 => by rw [c3 b h3 h4, a3 b h1 h2]
  have e59 : ∀ j, j ≠ 25 → t 59 j = σ 59 j := fun j hj => by rw [c4 j hj, a3 59 (by omega) (by omega)]
  refine Rel.mono ⟨h.1.fr fun a ha => e a (by omega) (by omega) (by omega) (by omega), h.2.1.fr ⟨by rw [e 0 (by omega) (by omega) (by omega) (by omega)], by rw [e 0 (by omega) (by omega) (by omega) (by omega)], e59 3 (by omega), e59 9 (by omega)⟩, h.2.2.1.fr ⟨by rw [e 13 (by omega) (by omega) (by omega) (by omega)], e59 8 (by omega), e 14 (by omega) (by omega) (by omega) (by omega), e 65 (by omega) (by omega) (by omega) (by omega)⟩, h.2.2.2.1.fr ⟨e 16 (by omega) (by omega) (by omega) (by omega), e 63 (by omega) (by omega) (by omega) (by omega), e59 4 (by omega)⟩, h.2.2.2.2.1.fr ⟨by rw [e 19 (by omega) (by omega) (by omega) (by omega)], by rw [e 19 (by omega) (by omega) (by omega) (by omega)], e59 17 (by omega), e 67 (by omega) (by omega) (by omega) (by omega), fun a ha => e a (by omega) (by omega) (by omega) (by omega)⟩, h.2.2.2.2.2.1.fr ⟨e 58 (by omega) (by omega) (by omega) (by omega), e 72 (by omega) (by omega) (by omega) (by omega), e 73 (by omega) (by omega) (by omega) (by omega), e 56 (by omega) (by omega) (by omega) (by omega), e 57 (by omega) (by omega) (by omega) (by omega)⟩, ?_, ?_⟩
  · obtain ⟨u, hu, f1, f2, f3⟩ := h.2.2.2.2.2.2.1
    refine ⟨l.length, hl, by rw [c3 53 (by omega) (by omega)]; exact a1, c1, fun i hi => ?_⟩
    rw [c3 54 (by omega) (by omega), a2, c2, a3 74 (by omega) (by omega)]
    exact tw_eq f3 l i hi
  · rw [e59 4 (by omega), e59 17 (by omega), e 72 (by omega) (by omega) (by omega) (by omega)]
    exact h.2.2.2.2.2.2.2
theorem st_ask (hN : N ≤ 1000) (h : Rel N σ) (a1 a2 : Int32) : Ok N (F_X7_ask a1 a2) (F_X8_ask a1 a2) σ := by
  obtain ⟨z, hz, hc, hr, h4⟩ := h.2.2.2.1
  obtain ⟨b0, b1, b2, b3, b4⟩ := hz.b
  cases hi : fr_ib a1 (z 2)
  · refine ⟨-1000001, σ, σ, ?_, ?_, h.mono⟩
    · unfold F_X7_ask
      rw [cl_hasRoad (o := 15) hc b2, hi]
      rfl
    · unfold F_X8_ask
      rw [rf_isRoad hr b2, hi]
      rfl
  · cases h3 : fr_ib a2 2
    · refine ⟨-1000001, σ, σ, ?_, ?_, h.mono⟩
      · unfold F_X7_ask
        rw [cl_hasRoad (o := 15) hc b2, hi, fr_bP_mk, if_neg fr_nb, cl_zo, h3]
        rfl
      · unfold F_X8_ask
        rw [rf_isRoad hr b2, hi, fr_bP_mk, if_neg fr_nb, rf_in0 (n := 2) a2 rfl, h3]
        rfl
    · obtain ⟨k, hk, rfl⟩ := ib_nI hi
      have hw := hz.wf 2 (by omega)
      have hkd := hw.2.2.2.2.2.2.2.1 k hk
      have hB : 2 * N + 2 ≤ 100000 := by omega
      have hT0 : TC σ [] (fr_up σ 53 2 0) := ⟨by rw [fr_up_at, upd_at]; rfl, fr_up_ne _ _ _ (by omega), fun b hb _ => fr_up_ne _ _ _ hb⟩
      have hM0 : ∀ s : fr_St, TM s [] (fr_up s 59 25 0) := fun s => ⟨by rw [fr_up_at, upd_at]; rfl, fr_up_ne _ _ _ (by omega), fun b hb _ => fr_up_ne _ _ _ hb, fun j hj => by rw [fr_up_at, upd_ne _ _ hj]⟩
      have hX0 : F_X7_ask (nI k) a2 σ = fr_bP (F_X1_answer (nI k) a2 (0 : Int32) (fr_up σ 53 2 0)) (fun r11 s10 => some (r11, s10)) := by
        unfold F_X7_ask
        rw [cl_hasRoad (o := 15) hc b2, hi, fr_bP_mk, if_neg fr_nb, cl_zo, h3]
        rfl
      have hR0 : ∀ s : fr_St, RR z (s 63) → F_X8_ask (nI k) a2 s = fr_bP (if a2 = 0 then (fr_bP (F_X8_sizeOf (nI k) (fr_up s 59 25 0)) (fun r17 s16 => some (r17, s16))) else (fr_bP (F_X8_markOf (nI k) (fr_up s 59 25 0)) (fun r14 s13 => some (r14, s13)))) (fun v8 s9 => some (v8, s9)) := by
        intro s hs
        unfold F_X8_ask
        rw [rf_isRoad hs b2, hi, fr_bP_mk, if_neg fr_nb, rf_in0 (n := 2) a2 rfl, h3]
        rfl
      rcases ib01 h3 with rfl | rfl
      · have hl := lS_le (z := z) k
        obtain ⟨s, e1, t1⟩ := cS (d := 34) (dp := 0) hc hw hB (by omega) hkd.1 hkd.2.1 (by omega) [] _ hT0 (by rw [List.length_nil]; omega)
        rw [List.append_nil] at t1
        have hr1 : RR z (s 63) := by rw [t1.2.2 63 (by omega) (by omega)]; exact hr
        obtain ⟨t, e2, t2⟩ := rS hr1 hw hB (k := k) (by omega) hkd.1 hkd.2.1 [] _ (hM0 s) (by rw [List.length_nil]; omega)
        rw [List.append_nil] at t2
        refine ⟨vS z k, s, t, ?_, ?_, ask_fin h (by omega) t1 t2⟩
        · rw [hX0]
          unfold F_X1_answer
          rw [show F_X1_askAnew (F_X1_begin 40) (nI k) (nI 0) (0 : Int32) _ = _ from e1]
          rfl
        · rw [hR0 s hr1, if_pos (show nI 0 = (0 : Int32) from rfl), e2]
          rfl
      · have hl := lM_le (z := z) k
        obtain ⟨s, e1, t1⟩ := cM (d := 36) (dp := 0) hc hw hB (by omega) hkd.1 hkd.2.1 (by omega) [] _ hT0 (by rw [List.length_nil]; omega)
        rw [List.append_nil] at t1
        have hr1 : RR z (s 63) := by rw [t1.2.2 63 (by omega) (by omega)]; exact hr
        obtain ⟨t, e2, t2⟩ := rM hr1 hw hB (k := k) (by omega) hkd.1 hkd.2.1 [] _ (hM0 s) (by rw [List.length_nil]; omega)
        rw [List.append_nil] at t2
        refine ⟨vM z k, s, t, ?_, ?_, ask_fin h (by omega) t1 t2⟩
        · rw [hX0]
          unfold F_X1_answer
          rw [show F_X1_askAnew (F_X1_begin 40) (nI k) (nI 1) (0 : Int32) _ = _ from e1]
          rfl
        · rw [hR0 s hr1, if_neg (show ¬ nI 1 = (0 : Int32) by decide), e2]
          rfl
end ASK
