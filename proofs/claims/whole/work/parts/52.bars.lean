section BAR
variable {N : Nat} {σ : fr_St} {z : Nat → Nat} {B : Nat}
/-- how many bits, below 512 -/
def pop (w : Nat) : Nat := cnt (fun k => w.testBit k) 9
theorem pop_le (w : Nat) : pop w ≤ 9 := cnt_le _ 9
def bcv (a1 : Int32) : Int32 := fr_let ((a1 - (((a1.toUInt32 >>> ((1 : Int32).toUInt32 &&& Int32.toUInt32 31)).toInt32) &&& (1431655765 : Int32)))) (fun v1 => fr_let (((v1 &&& (858993459 : Int32)) + (((v1.toUInt32 >>> ((2 : Int32).toUInt32 &&& Int32.toUInt32 31)).toInt32) &&& (858993459 : Int32)))) (fun v2 => fr_let (((v2 + ((v2.toUInt32 >>> ((4 : Int32).toUInt32 &&& Int32.toUInt32 31)).toInt32)) &&& (252645135 : Int32))) (fun v3 => fr_let ((v3 + ((v3.toUInt32 >>> ((8 : Int32).toUInt32 &&& Int32.toUInt32 31)).toInt32))) (fun v4 => fr_let ((v4 + ((v4.toUInt32 >>> ((16 : Int32).toUInt32 &&& Int32.toUInt32 31)).toInt32))) (fun v5 => (v5 &&& (63 : Int32)))))))
theorem bcv_eq : ∀ w, w < 512 → bcv (nI w) = nI (pop w) := by decide +kernel
theorem bc_eq {w : Nat} (hw : w < 512) (σ : fr_St) : F_J6_bitCount_0f7a4 (nI w) σ = some (nI (pop w), σ) := by
  rw [← bcv_eq w hw]
  rfl
theorem on_step : ∀ w, w < 512 → w ≠ 0 → (nI w &&& (nI w - 1)) = nI (w &&& (w - 1)) ∧ pop (w &&& (w - 1)) + 1 = pop w := by decide +kernel
theorem pop_0 : ∀ w, w < 512 → pop w = 0 → w = 0 := by decide +kernel
theorem on_loop (σ : fr_St) : ∀ (m n c w : Nat), w < 512 → pop w = m → m < n → L_X8_ones_4 n (nI c) (nI w) σ = some (nI (c + m), nI 0, σ) := by
  intro m
  induction m with
  | zero =>
    intro n c w hw hp hn
    obtain ⟨n, rfl⟩ : ∃ m, n = m + 1 := ⟨n - 1, by omega⟩
    have := pop_0 w hw hp
    subst this
    rw [L_X8_ones_4, if_pos (show nI 0 = (0 : Int32) from rfl)]
    rfl
  | succ m ih =>
    intro n c w hw hp hn
    obtain ⟨n, rfl⟩ : ∃ m, n = m + 1 := ⟨n - 1, by omega⟩
    have h0 : w ≠ 0 := by
      rintro rfl
      rw [show pop 0 = 0 by decide +kernel] at hp
      omega
    obtain ⟨k1, k2⟩ := on_step w hw h0
    rw [L_X8_ones_4, if_neg (show ¬ nI w = (0 : Int32) from fun q => h0 ((i_eq (b := 0) (by omega) (by omega)).mp q)), fr_let_eq, fr_let_eq, k1, nI_1, ih n (c + 1) _ (Nat.lt_of_le_of_lt Nat.and_le_left hw) (by omega) (by omega), show c + 1 + m = c + (m + 1) by omega]
theorem on_eq {w : Nat} (hw : w < 512) (σ : fr_St) : F_X8_ones (nI w) σ = some (nI (pop w), σ) := by
  unfold F_X8_ones
  have := on_loop σ (pop w) fr_fu 0 w hw rfl (by have := pop_le w; have := fr_fu_big; omega)
  rw [Nat.zero_add] at this
  rw [show L_X8_ones_4 fr_fu (0 : Int32) (nI w) σ = _ from this]
  rfl
/-- the set x without U -/
def sdf (x U : Nat) : Nat := msk (fun k => x.testBit k && !U.testBit k) 9
theorem tb_512 {x : Nat} (hx : x < 512) {i : Nat} (hi : 9 ≤ i) : x.testBit i = false := Nat.testBit_lt_two_pow (Nat.lt_of_lt_of_le hx (by have : 2 ^ 9 ≤ 2 ^ i := Nat.pow_le_pow_right (by omega) hi; omega))
theorem sdf_bit {x U : Nat} (hx : x < 512) (i : Nat) : (sdf x U).testBit i = (x.testBit i && !U.testBit i) := by
  unfold sdf
  rw [msk_bit]
  by_cases h : i < 9
  · simp [h]
  · rw [tb_512 hx (by omega)]
    simp
theorem sdf_lt (x U : Nat) : sdf x U < 512 := msk_lt _ 9
theorem i_andn {x U : Nat} (hx : x < 512) : nI x &&& (nI U ^^^ (-1 : Int32)) = nI (sdf x U) := by
  apply Int32.toBitVec_inj.mp
  show BitVec.ofNat 32 x &&& (BitVec.ofNat 32 U ^^^ BitVec.allOnes 32) = BitVec.ofNat 32 (sdf x U)
  apply BitVec.eq_of_getLsbD_eq
  intro i hi
  rw [BitVec.getLsbD_and, BitVec.getLsbD_xor, BitVec.getLsbD_ofNat, BitVec.getLsbD_ofNat, BitVec.getLsbD_ofNat, BitVec.getLsbD_allOnes, sdf_bit hx]
  simp [hi]
theorem sdf_0 {x U : Nat} (hx : x < 512) : sdf x U = 0 ↔ x &&& U = x := by
  constructor
  · intro h
    apply Nat.eq_of_testBit_eq
    intro i
    have := sdf_bit (U := U) hx i
    rw [h, Nat.zero_testBit] at this
    rw [Nat.testBit_and]
    revert this
    cases x.testBit i <;> cases U.testBit i <;> decide
  · intro h
    apply Nat.eq_of_testBit_eq
    intro i
    rw [sdf_bit hx, Nat.zero_testBit]
    have := congrArg (fun w => w.testBit i) h
    simp only [Nat.testBit_and] at this
    revert this
    cases x.testBit i <;> cases U.testBit i <;> decide
theorem sdf_and {x U : Nat} (hU : U < 512) : sdf U (x &&& U) = sdf U x := by
  apply Nat.eq_of_testBit_eq
  intro i
  rw [sdf_bit hU, sdf_bit hU, Nat.testBit_and]
  cases x.testBit i <;> cases U.testBit i <;> rfl
theorem sdf_lt2 {U x M : Nat} (hU : U < 2 ^ M) (hU9 : U < 512) : sdf U x < 2 ^ M := by
  apply Nat.lt_pow_two_of_testBit
  intro i hi
  rw [sdf_bit hU9, Nat.testBit_lt_two_pow (Nat.lt_of_lt_of_le hU (Nat.pow_le_pow_right (by omega) hi))]
  rfl
theorem cnt_mono {f h : Nat → Bool} (e : ∀ k, f k = true → h k = true) : ∀ n, cnt f n ≤ cnt h n
  | 0 => Nat.le_refl _
  | n + 1 => by
    have := cnt_mono e n
    have e' := e n
    show cnt f n + (if f n then 1 else 0) ≤ cnt h n + (if h n then 1 else 0)
    cases hf : f n
    · cases h n <;> simp <;> omega
    · rw [e' hf]
      simp
      omega
theorem pop_and (x U : Nat) : pop (x &&& U) ≤ pop x := cnt_mono (fun k h => by rw [Nat.testBit_and] at h; revert h; cases x.testBit k <;> cases U.testBit k <;> decide) 9
/-- does barring x keep p out of reach of f -/
def cut (z : Nat → Nat) (U f p x : Nat) : Bool := !(rch z (sdf U x) f).testBit p
def popn (b : Nat) : Nat := if b = 512 then 10 else pop b
theorem popn_le (b : Nat) : popn b ≤ 10 := by unfold popn; have := pop_le b; split <;> omega
/-- the best of the sets below x; 512: none -/
def bb (z : Nat → Nat) (U f p : Nat) : Nat → Nat
  | 0 => 512
  | x + 1 => if pop x < popn (bb z U f p x) ∧ cut z U f p x = true then x else bb z U f p x
theorem bb_s (U f p x : Nat) : bb z U f p (x + 1) = if pop x < popn (bb z U f p x) ∧ cut z U f p x = true then x else bb z U f p x := rfl
theorem bb_y {U f p x : Nat} (h : pop x < popn (bb z U f p x) ∧ cut z U f p x = true) : bb z U f p (x + 1) = x := by rw [bb_s, if_pos h]
theorem bb_n {U f p x : Nat} (h : ¬ (pop x < popn (bb z U f p x) ∧ cut z U f p x = true)) : bb z U f p (x + 1) = bb z U f p x := by rw [bb_s, if_neg h]
theorem cut_and {U f p x : Nat} (hU : U < 512) : cut z U f p (x &&& U) = cut z U f p x := by unfold cut; rw [sdf_and hU]
theorem bb_inv {U f p : Nat} : ∀ x, x ≤ 512 → (∀ y, y < x → cut z U f p y = true → popn (bb z U f p x) ≤ pop y) ∧ (bb z U f p x = 512 ∨ bb z U f p x < x)
  | 0, _ => ⟨fun y hy => by omega, Or.inl rfl⟩
  | x + 1, hx => by
    obtain ⟨h1, h2⟩ := bb_inv (U := U) (f := f) (p := p) x (by omega)
    rw [bb_s]
    by_cases e : pop x < popn (bb z U f p x) ∧ cut z U f p x = true
    · rw [if_pos e]
      refine ⟨fun y hy hc => ?_, Or.inr (by omega)⟩
      have ex : popn x = pop x := by unfold popn; rw [if_neg (by omega)]
      rw [ex]
      by_cases hyx : y = x
      · rw [hyx]; exact Nat.le_refl _
      · have := h1 y (by omega) hc
        omega
    · rw [if_neg e]
      refine ⟨fun y hy hc => ?_, h2.imp id (fun q => by omega)⟩
      by_cases hyx : y = x
      · rw [hyx] at hc ⊢
        exact Nat.le_of_not_lt (fun q => e ⟨q, hc⟩)
      · exact h1 y (by omega) hc
theorem bb_sub {U f p x : Nat} (hU : U < 512) (hx : x < 512) (h1 : pop x < popn (bb z U f p x)) (h2 : cut z U f p x = true) : sdf x U = 0 := by
  rw [sdf_0 hx]
  apply Decidable.byContradiction
  intro h
  have hl : x &&& U ≤ x := Nat.and_le_left
  have := (bb_inv (z := z) (U := U) (f := f) (p := p) x (by omega)).1 (x &&& U) (by omega) (by rw [cut_and hU]; exact h2)
  have := pop_and x U
  omega
theorem rch_lt (hw : WFl z B) {U f : Nat} (hf : f < 8) : rch z U f < 256 := rdI_lt hw hw.2.2.2.2.1 (by have : 2 ^ f ≤ 2 ^ 7 := Nat.pow_le_pow_right (by omega) (by omega); omega) 8
theorem cl_reaches (hc : CR z (σ 16)) (hw : WFl z B) (hE : ∀ k, k < z 2 → σ 46 k = nI (2 ^ z (23 + k) ||| 2 ^ z (32 + k))) {U f p : Nat} (hU : U < 512) (hf : f < 8) (hp : p < 8) : F_X5_reaches (nI f) (nI U) (nI p) σ = some ((rch z U f).testBit p, σ) := by
  have hl := rch_lt hw (U := U) hf
  unfold F_X5_reaches
  rw [cl_flood hc hw hE hU hf, fr_bP_mk]
  have e := i_bit (w := rch z U f) (a := p) (by omega) (by omega)
  by_cases h : (rch z U f).testBit p = true
  · rw [if_pos (show (nI (rdI z U (z 2) (2 ^ f) 8) >>> (nI p &&& 31)) &&& (1 : Int32) = 1 from e.mpr h), h]
    rfl
  · rw [if_neg (show ¬ (nI (rdI z U (z 2) (2 ^ f) 8) >>> (nI p &&& 31)) &&& (1 : Int32) = 1 from fun q => h (e.mp q)), Bool.eq_false_iff.mpr h]
    rfl
theorem br_cls (hc : CR z (σ 16)) (hw : WFl z B) (hE : ∀ k, k < z 2 → σ 46 k = nI (2 ^ z (23 + k) ||| 2 ^ z (32 + k))) {U f p : Nat} (hU : U < 512) (hf : f < 8) (hp : p < 8) : ∀ (m x n : Nat), x + m = 2 ^ z 2 → m < n → L_X5_barsAgainst_34 (nI p) (nI f) (nI U) n (if bb z U f p x = 512 then nI U else nI (bb z U f p x)) (nI (popn (bb z U f p x))) (nI x) σ = some (if bb z U f p (2 ^ z 2) = 512 then nI U else nI (bb z U f p (2 ^ z 2)), nI (popn (bb z U f p (2 ^ z 2))), nI (2 ^ z 2), σ) := by
  have h2 := hw.2.2.2.2.1
  have hM : 2 ^ z 2 ≤ 2 ^ 9 := Nat.pow_le_pow_right (by omega) h2
  intro m
  induction m with
  | zero =>
    intro x n hj hn
    obtain ⟨n, rfl⟩ : ∃ m, n = m + 1 := ⟨n - 1, by omega⟩
    have hj : x = 2 ^ z 2 := by omega
    rw [L_X5_barsAgainst_34, cl_roads (o := 15) hc, fr_bP_mk, show (1 : Int32) <<< (nI (z 2) &&& 31) = nI (2 ^ z 2) from i_shl (by omega), hj, if_pos ((i_le (by omega) (by omega)).mpr (Nat.le_refl _))]
  | succ m ih =>
    intro x n hj hn
    obtain ⟨n, rfl⟩ : ∃ m, n = m + 1 := ⟨n - 1, by omega⟩
    have hx : x < 512 := by omega
    have hpl := popn_le (bb z U f p x)
    have hpx := pop_le x
    rw [← ih (x + 1) n (by omega) (by omega), L_X5_barsAgainst_34, cl_roads (o := 15) hc, fr_bP_mk, show (1 : Int32) <<< (nI (z 2) &&& 31) = nI (2 ^ z 2) from i_shl (by omega), if_neg (fun q => absurd ((i_le (by omega) (by omega)).mp q) (by omega)), i_andn hx, i_andn hU]
    have hsl := sdf_lt x U
    by_cases e0 : sdf x U = 0
    · rw [if_pos (show nI (sdf x U) = (0 : Int32) by rw [e0]; rfl), bc_eq hx, fr_bP_mk]
      by_cases e1 : pop x < popn (bb z U f p x)
      · rw [if_neg (fun q => absurd ((i_le (by omega) (by omega)).mp q) (by omega)), fr_bP_mk, if_neg (show ¬ (1 : Int32) = 0 by decide), cl_reaches hc hw hE (sdf_lt U x) hf hp, fr_bP_mk]
        cases e2 : (rch z (sdf U x) f).testBit p
        · have ec : cut z U f p x = true := by unfold cut; rw [e2]; rfl
          rw [if_pos (show fr_bi false = 0 from rfl), bc_eq hx, fr_bP_mk, fr_bP_mk, fr_pP_mk, fr_let_eq, nI_1, bb_y ⟨e1, ec⟩, if_neg (show ¬ x = 512 by omega)]
          unfold popn
          rw [if_neg (show ¬ x = 512 by omega)]
        · have ec : ¬ cut z U f p x = true := by unfold cut; rw [e2]; decide
          rw [if_neg fr_nb, fr_bP_mk, fr_pP_mk, fr_let_eq, nI_1, bb_n (fun q => ec q.2)]
      · rw [if_pos ((i_le (by omega) (by omega)).mpr (by omega)), fr_bP_mk, if_pos rfl, fr_bP_mk, fr_pP_mk, fr_let_eq, nI_1, bb_n (fun q => e1 q.1)]
    · rw [if_neg (show ¬ nI (sdf x U) = (0 : Int32) from fun q => e0 ((i_eq (b := 0) (by omega) (by omega)).mp q)), fr_bP_mk, if_pos rfl, fr_bP_mk, fr_pP_mk, fr_let_eq, nI_1, bb_n (fun q => e0 (bb_sub hU hx q.1 q.2))]
theorem br_ref (hr : RR z (σ 63)) (hw : WFl z B) {U q p : Nat} (hU : U < 2 ^ z 2) (hq : q < 4) (hf : z (6 + q) < 8) (hp : p < 8) : ∀ (m x n : Nat), x + m = 2 ^ z 2 → m < n → L_X8_bars_62 (nI q) (nI p) (nI U) n (if bb z U (z (6 + q)) p x = 512 then -1 else nI (bb z U (z (6 + q)) p x)) (nI x) σ = some (if bb z U (z (6 + q)) p (2 ^ z 2) = 512 then -1 else nI (bb z U (z (6 + q)) p (2 ^ z 2)), nI (2 ^ z 2), σ) := by
  have h2 := hw.2.2.2.2.1
  have hM : 2 ^ z 2 ≤ 2 ^ 9 := Nat.pow_le_pow_right (by omega) h2
  intro m
  induction m with
  | zero =>
    intro x n hj hn
    obtain ⟨n, rfl⟩ : ∃ m, n = m + 1 := ⟨n - 1, by omega⟩
    have hj : x = 2 ^ z 2 := by omega
    rw [L_X8_bars_62, hr.1 2 (by omega), show (1 : Int32) <<< (nI (z 2) &&& 31) = nI (2 ^ z 2) from i_shl (by omega), hj, if_pos ((i_le (by omega) (by omega)).mpr (Nat.le_refl _))]
  | succ m ih =>
    intro x n hj hn
    obtain ⟨n, rfl⟩ : ∃ m, n = m + 1 := ⟨n - 1, by omega⟩
    have hx : x < 512 := by omega
    have hU9 : U < 512 := by omega
    have hb := (bb_inv (z := z) (U := U) (f := z (6 + q)) (p := p) x (by omega)).2
    rw [← ih (x + 1) n (by omega) (by omega), L_X8_bars_62, hr.1 2 (by omega), show (1 : Int32) <<< (nI (z 2) &&& 31) = nI (2 ^ z 2) from i_shl (by omega), if_neg (fun q => absurd ((i_le (by omega) (by omega)).mp q) (by omega)), i_andn hU9, show (6 : Int32) = nI 6 from rfl, i_add]
    have e1 : (if (if bb z U (z (6 + q)) p x = 512 then (-1 : Int32) else nI (bb z U (z (6 + q)) p x)) < 0 then some ((1 : Int32), σ) else fr_bP (F_X8_ones (nI x) σ) (fun r21 s20 => fr_bP (F_X8_ones (if bb z U (z (6 + q)) p x = 512 then (-1 : Int32) else nI (bb z U (z (6 + q)) p x)) s20) (fun r24 s23 => if r24 ≤ r21 then (some ((0 : Int32), s23)) else (some ((1 : Int32), s23))))) = some (if pop x < popn (bb z U (z (6 + q)) p x) then (1 : Int32) else 0, σ) := by
      have hpx := pop_le x
      by_cases eb : bb z U (z (6 + q)) p x = 512
      · rw [if_pos eb, if_pos (by decide), eb, if_pos (show pop x < popn 512 by show pop x < 10; omega)]
      · have hpb := pop_le (bb z U (z (6 + q)) p x)
        have ep : popn (bb z U (z (6 + q)) p x) = pop (bb z U (z (6 + q)) p x) := by unfold popn; rw [if_neg eb]
        rw [if_neg eb, if_neg (show ¬ nI (bb z U (z (6 + q)) p x) < (0 : Int32) from fun q => absurd ((i_lt (b := 0) (by omega) (by omega)).mp q) (by omega)), on_eq hx, fr_bP_mk, on_eq (by omega), fr_bP_mk, ep]
        by_cases el : pop x < pop (bb z U (z (6 + q)) p x)
        · rw [if_neg (fun q => absurd ((i_le (by omega) (by omega)).mp q) (by omega)), if_pos el]
        · rw [if_pos ((i_le (by omega) (by omega)).mpr (by omega)), if_neg el]
    rw [e1, fr_bP_mk]
    by_cases el : pop x < popn (bb z U (z (6 + q)) p x)
    · have hl := rch_lt hw (U := sdf U x) hf
      rw [if_pos el, if_neg (show ¬ (1 : Int32) = 0 by decide), i_chk (by omega) (by omega), i_ix (by omega), hr.1 (6 + q) (by omega), rf_reachBy hr hw (sdf_lt2 hU hU9) hf, fr_bP_mk, rf_has (by omega) (by omega), fr_bP_mk]
      cases e2 : (rch z (sdf U x) (z (6 + q))).testBit p
      · have ec : cut z U (z (6 + q)) p x = true := by unfold cut; rw [e2]; rfl
        rw [if_pos (show fr_bi false = 0 from rfl), fr_bP_mk, fr_let_eq, nI_1, bb_y ⟨el, ec⟩, if_neg (show ¬ x = 512 by omega)]
      · have ec : ¬ cut z U (z (6 + q)) p x = true := by unfold cut; rw [e2]; decide
        rw [if_neg fr_nb, fr_bP_mk, fr_let_eq, nI_1, bb_n (fun q => ec q.2)]
    · rw [if_neg el, if_pos rfl, fr_bP_mk, fr_let_eq, nI_1, bb_n (fun q => el q.1)]
theorem rdn_z (w : Nat) : ∀ j, rdn z 0 w j = w
  | 0 => rfl
  | j + 1 => by
    show rs z 0 (rdn z 0 w j) j = w
    rw [rdn_z w j]
    unfold rs
    rw [Nat.zero_testBit]
    rfl
theorem rdI_z (w M : Nat) : ∀ n, rdI z 0 M w n = w
  | 0 => rfl
  | n + 1 => by
    show rdn z 0 (rdI z 0 M w n) M = w
    rw [rdI_z w M n, rdn_z]
theorem bb_some {U f p M : Nat} (hM : M ≤ 9) (hU : U < 2 ^ M) (hne : f ≠ p) : bb z U f p (2 ^ M) < 512 := by
  have hM2 : 2 ^ M ≤ 2 ^ 9 := Nat.pow_le_pow_right (by omega) hM
  have hi := bb_inv (z := z) (U := U) (f := f) (p := p) (2 ^ M) (by omega)
  have h0 : sdf U U = 0 := by rw [sdf_0 (by omega), Nat.and_self]
  have hc : cut z U f p U = true := by
    unfold cut rch
    rw [h0, rdI_z, Nat.testBit_two_pow_of_ne hne]
    rfl
  have := hi.1 U hU hc
  have hp := pop_le U
  rcases hi.2 with e | e
  · rw [e, show popn 512 = 10 from rfl] at this
    omega
  · omega
theorem st_bars (hN : N ≤ 1000) (h : Rel N σ) (a1 a2 a3 : Int32) : Ok N (F_X7_bars a1 a2 a3) (F_X8_bars a1 a2 a3) σ := by
  obtain ⟨z, hz, hc, hr, h4⟩ := h.2.2.2.1
  obtain ⟨b0, b1, b2, b3, b4⟩ := hz.b
  cases hi : fr_ib a1 (z 3)
  · refine ⟨-1000001, σ, σ, ?_, ?_, h.mono⟩
    · unfold F_X7_bars
      rw [cl_hasPerson (o := 15) hc b3, hi]
      rfl
    · unfold F_X8_bars
      rw [rf_isPerson hr b3, hi]
      rfl
  · cases hj : fr_ib a2 (z 1)
    · refine ⟨-1000001, σ, σ, ?_, ?_, h.mono⟩
      · unfold F_X7_bars
        rw [cl_hasPerson (o := 15) hc b3, hi, fr_bP_mk, if_neg fr_nb, cl_hasPlace (o := 15) hc b1, hj]
        rfl
      · unfold F_X8_bars
        rw [rf_isPerson hr b3, hi, fr_bP_mk, if_neg fr_nb, rf_isPlace hr b1, hj]
        rfl
    · cases h3 : fr_ib a3 2
      · refine ⟨-1000001, σ, σ, ?_, ?_, h.mono⟩
        · unfold F_X7_bars
          rw [cl_hasPerson (o := 15) hc b3, hi, fr_bP_mk, if_neg fr_nb, cl_hasPlace (o := 15) hc b1, hj, fr_bP_mk, if_neg fr_nb, cl_zo, h3]
          rfl
        · unfold F_X8_bars
          rw [rf_isPerson hr b3, hi, fr_bP_mk, if_neg fr_nb, rf_isPlace hr b1, hj, fr_bP_mk, if_neg fr_nb, rf_in0 (n := 2) a3 rfl, h3]
          rfl
      · obtain ⟨q, hq, rfl⟩ := ib_nI hi
        obtain ⟨p, hp, rfl⟩ := ib_nI hj
        have hw := hz.wf 3 (by omega)
        have hb := hw.2.2.2.2.2.2.2.2.1 q hq
        have hU2 : opm z q < 2 ^ z 2 := opm_lt
        have hM9 : 2 ^ z 2 ≤ 2 ^ 9 := Nat.pow_le_pow_right (by omega) b2
        have hU : opm z q < 512 := Nat.lt_of_lt_of_le opm_lt (Nat.pow_le_pow_right (by omega) b2)
        by_cases hne : z (6 + q) = p
        · refine ⟨-1000000, σ, σ, ?_, ?_, h.mono⟩
          · unfold F_X7_bars
            rw [cl_hasPerson (o := 15) hc b3, hi, fr_bP_mk, if_neg fr_nb, cl_hasPlace (o := 15) hc b1, hj, fr_bP_mk, if_neg fr_nb, cl_zo, h3, fr_bP_mk, if_neg fr_nb, cl_placeOf (o := 15) hc (by omega), fr_bP_mk, if_pos (by rw [hne])]
          · unfold F_X8_bars
            rw [rf_isPerson hr b3, hi, fr_bP_mk, if_neg fr_nb, rf_isPlace hr b1, hj, fr_bP_mk, if_neg fr_nb, rf_in0 (n := 2) a3 rfl, h3, fr_bP_mk, if_neg fr_nb, show (6 : Int32) = nI 6 from rfl, i_add, i_chk (by omega) (by omega), i_ix (by omega), hr.1 (6 + q) (by omega), if_pos (by rw [hne])]
        · obtain ⟨s, k1, k2, k3⟩ := cl_noteEnds hc hw
          have hc1 : CR z (s 16) := by rw [k2 16 (by omega)]; exact hc
          have hr1 : RR z (s 63) := by rw [k2 63 (by omega)]; exact hr
          have hl1 := br_cls hc1 hw k3 (U := opm z q) (f := z (6 + q)) (p := p) hU (by omega) (by omega) (2 ^ z 2) 0 fr_fu (by omega) (by have := fr_fu_big; omega)
          have hl2 := br_ref hr1 hw (U := opm z q) (q := q) (p := p) hU2 (by omega) (by omega) (by omega) (2 ^ z 2) 0 fr_fu (by omega) (by have := fr_fu_big; omega)
          have hbs := bb_some (z := z) (U := opm z q) (f := z (6 + q)) (p := p) b2 hU2 hne
          have hb0 : bb z (opm z q) (z (6 + q)) p 0 = 512 := rfl
          rw [hb0, if_pos rfl, if_neg (show ¬ bb z (opm z q) (z (6 + q)) p (2 ^ z 2) = 512 by omega)] at hl1 hl2
          refine ⟨if a3 = 0 then nI (pop (bb z (opm z q) (z (6 + q)) p (2 ^ z 2))) else nI (bb z (opm z q) (z (6 + q)) p (2 ^ z 2)), s, s, ?_, ?_, (Rel_scr h (fun a ha => k2 a (fun q => ha (by unfold scr; omega)))).mono⟩
          · unfold F_X7_bars F_X5_barsAgainst
            rw [cl_hasPerson (o := 15) hc b3, hi, fr_bP_mk, if_neg fr_nb, cl_hasPlace (o := 15) hc b1, hj, fr_bP_mk, if_neg fr_nb, cl_zo, h3, fr_bP_mk, if_neg fr_nb, cl_placeOf (o := 15) hc (by omega), fr_bP_mk, if_neg (fun q => hne ((i_eq (by omega) (by omega)).mp q)), cl_placeOf (o := 15) hc (by omega), fr_bP_mk, cl_openTo (o := 15) hc hw (by omega) hq, fr_bP_mk, k1, fr_bS_mk, show L_X5_barsAgainst_34 (nI p) (nI (z (6 + q))) (nI (opm z q)) fr_fu (nI (opm z q)) (10 : Int32) (0 : Int32) s = _ from hl1, fr_bP_mk, fr_pP_mk, fr_pP_mk, fr_bP_mk, bc_eq hbs]
            rcases ib01 h3 with rfl | rfl <;> rfl
          · unfold F_X8_bars
            rw [rf_isPerson hr1 b3, hi, fr_bP_mk, if_neg fr_nb, rf_isPlace hr1 b1, hj, fr_bP_mk, if_neg fr_nb, rf_in0 (n := 2) a3 rfl, h3, fr_bP_mk, if_neg fr_nb, show (6 : Int32) = nI 6 from rfl, i_add, i_chk (by omega) (by omega), i_ix (by omega), hr1.1 (6 + q) (by omega), if_neg (fun q => hne ((i_eq (by omega) (by omega)).mp q)), rf_soleOf hr1 (by omega), fr_bP_mk, rf_openTo hr1 hw (by omega) (by omega), fr_bP_mk]
            rw [show L_X8_bars_62 (nI q) (nI p) (nI (msk (fun k => opn z k (z (10 + q)) (z 4)) (z 2))) fr_fu (-1 : Int32) (0 : Int32) s = _ from hl2, fr_bP_mk, fr_pP_mk, on_eq hbs]
            rcases ib01 h3 with rfl | rfl <;> rfl
end BAR
