/-! ===== round: the reference's loops ===== -/
def rrB (k3 x5 v2 v4 v8 : Int32) (s9 : fr_St) : Option (Int32 × fr_St) := if v8 < 0 then (some (x5, s9)) else (if fr_ib v4 4096 = true then if (100000 : Int32) ≤ (s9 69 (fr_ix v4)) then (some (x5, s9)) else (fr_let ((((512 : Int32) * v8) + ((v4 - v4 / (512 : Int32) * (512 : Int32)) ||| (((1 : Int32) <<< (v2 &&& 31)) &&& k3)))) (fun v18 => if fr_ib v4 4096 = true then if fr_ib ((41 : Int32) + v2) 122 = true then fr_let (((s9 69 (fr_ix v4)) + (s9 63 (fr_ix ((41 : Int32) + v2))))) (fun v21 => fr_bS (if x5 = 0 then (if fr_ib v18 4096 = true then if (s9 69 (fr_ix v18)) ≤ v21 then (some ((0 : Int32))) else (some ((1 : Int32))) else none) else (some ((1 : Int32)))) (fun v22 => if fr_ib v18 4096 = true then fr_bS (if (s9 69 (fr_ix v18)) ≤ v21 then (if fr_ib v18 4096 = true then some ((s9 69 (fr_ix v18))) else none) else (some (v21))) (fun v26 => if fr_ib v18 4096 = true then fr_let (fr_up s9 69 (fr_ix v18) v26) (fun s30 => some (v22, s30)) else none) else none)) else none else none)) else none)
theorem rr_unf (k2 k3 : Int32) (n : Nat) (x5 x6 : Int32) (σ : fr_St) : L_X8_round_138 k2 k3 (n + 1) x5 x6 σ = if ((4096 : Int32) * (σ 63 2)) ≤ x6 then (some (x5, x6, σ)) else (if (σ 63 2) = 0 then none else fr_let ((x6 - x6 / (σ 63 2) * (σ 63 2))) (fun v2 => if (σ 63 2) = 0 then none else fr_let ((x6 / (σ 63 2))) (fun v4 => fr_bP (F_X8_has k2 v2 σ) (fun b7 s6 => fr_bP (if (fr_bi b7) = 0 then (some ((-1 : Int32), s6)) else (fr_bP (F_X8_across v2 (v4 / (512 : Int32)) s6) (fun r40 s39 => some (r40, s39)))) (fun v8 s9 => fr_bP (rrB k3 x5 v2 v4 v8 s9) (fun v12 s13 => fr_let (x6 + (1 : Int32)) (fun v16 => L_X8_round_138 k2 k3 n v12 v16 s13))))))) := by
  rw [L_X8_round_138]
  rfl
section RMR
variable {N : Nat} {σ : fr_St} {z : Nat → Nat} {B : Nat}
def R69 (σ : fr_St) (R : Nat → Nat) : Prop := ∀ i, i < 4096 → σ 69 i = nI (R i)
theorem rrB_eq (hr : RR z (σ 63)) (hw : WFl z B) {U : Nat} {R : Nat → Nat} (hR : R69 σ R) (hRb : ∀ i, R i ≤ 100000) {r at' to : Nat} (hr2 : r < z 2) (ha : at' < 4096) (hto : to < 8) (b : Bool) : rrB (nI (dueM z U)) (fr_bi b) (nI r) (nI at') (nI to) σ = if 100000 ≤ R at' then some (fr_bi b, σ) else some (fr_bi (b || decide (R at' + z (41 + r) < R (512 * to + (at' % 512 ||| (2 ^ r &&& dueM z U))))), fr_up σ 69 (512 * to + (at' % 512 ||| (2 ^ r &&& dueM z U))) (nI (mn (R (512 * to + (at' % 512 ||| (2 ^ r &&& dueM z U)))) (R at' + z (41 + r))))) := by
  have h2 := hw.2.2.2.2.1
  have hl := hw.2.2.2.2.2.2.2.1 r hr2
  have hm : (at' % 512 ||| (2 ^ r &&& dueM z U)) < 512 := Nat.or_lt_two_pow (n := 9) (Nat.mod_lt _ (by omega)) (Nat.lt_of_le_of_lt Nat.and_le_right (due_lt hw U))
  generalize he : (at' % 512 ||| (2 ^ r &&& dueM z U)) = mm at hm ⊢
  have b1 := hRb at'
  have b2 := hRb (512 * to + mm)
  unfold rrB
  rw [if_neg (show ¬ nI to < (0 : Int32) from fun q => absurd ((i_lt (b := 0) (by omega) (by omega)).mp q) (by omega)), i_chk ha (by omega), i_ix (by omega), hR at' ha]
  by_cases hn : 100000 ≤ R at'
  · rw [if_pos (show (100000 : Int32) ≤ nI (R at') from (i_le (a := 100000) (by omega) (by omega)).mpr hn), if_pos hn]
  · rw [if_neg (show ¬ (100000 : Int32) ≤ nI (R at') from fun q => hn ((i_le (a := 100000) (by omega) (by omega)).mp q)), if_neg hn]
    have e1 : ((512 : Int32) * nI to) + ((nI at' - nI at' / (512 : Int32) * (512 : Int32)) ||| (((1 : Int32) <<< (nI r &&& 31)) &&& nI (dueM z U))) = nI (512 * to + mm) := by
      rw [show (512 : Int32) = nI 512 from rfl, i_rem (by omega) (by omega) (by omega), show (1 : Int32) = nI 1 from rfl, show (31 : Int32) = nI 31 from rfl, i_shl (by omega), i_and, i_or, i_mul, i_add, he]
    rw [e1]
    simp only [show (41 : Int32) = nI 41 from rfl, fr_let_eq, i_add, i_chk ha (show 4096 < 2147483648 by decide), i_chk (show 41 + r < 122 by omega) (show 122 < 2147483648 by decide), i_chk (show 512 * to + mm < 4096 by omega) (show 4096 < 2147483648 by decide), i_ix (show 41 + r < 2147483648 by omega), i_ix (show 512 * to + mm < 2147483648 by omega), hr.1 (41 + r) (by omega), hR (512 * to + mm) (by omega)]
    by_cases hi : R at' + z (41 + r) < R (512 * to + mm)
    · have em : mn (R (512 * to + mm)) (R at' + z (41 + r)) = R at' + z (41 + r) := by unfold mn; rw [if_pos hi]
      simp only [if_neg (show ¬ nI (R (512 * to + mm)) ≤ nI (R at' + z (41 + r)) from fun q => absurd ((i_le (by omega) (by omega)).mp q) (by omega)), fr_bS_mk, em, decide_eq_true hi, Bool.or_true]
      cases b
      · rfl
      · rfl
    · have em : mn (R (512 * to + mm)) (R at' + z (41 + r)) = R (512 * to + mm) := by unfold mn; rw [if_neg hi]
      simp only [if_pos (show nI (R (512 * to + mm)) ≤ nI (R at' + z (41 + r)) from (i_le (by omega) (by omega)).mpr (by omega)), fr_bS_mk, em, decide_eq_false hi, Bool.or_false]
      cases b
      · rfl
      · rfl
/-- the road j % M doesn't make what lies behind j / M nearer -/
def NI (z : Nat → Nat) (U : Nat) (R : Nat → Nat) (j : Nat) : Prop := U.testBit (j % z 2) = true → ∀ to, (j / z 2 / 512 = z (23 + j % z 2) ∧ to = z (32 + j % z 2)) ∨ (j / z 2 / 512 = z (32 + j % z 2) ∧ to = z (23 + j % z 2)) → R (j / z 2) < 100000 → R (512 * to + (j / z 2 % 512 ||| (2 ^ (j % z 2) &&& dueM z U))) ≤ R (j / z 2) + z (41 + j % z 2)
/-- what a nearer way keeps -/
def PS (z : Nat → Nat) (U : Nat) (P : (Nat → Nat) → Prop) : Prop := (∀ R, P R → ∀ i, R i ≤ 100000) ∧ ∀ R x r to, x < 4096 → r < z 2 → U.testBit r = true → ((x / 512 = z (23 + r) ∧ to = z (32 + r)) ∨ (x / 512 = z (32 + r) ∧ to = z (23 + r))) → R x < 100000 → R x + z (41 + r) < R (512 * to + (x % 512 ||| (2 ^ r &&& dueM z U))) → P R → P (zup R (512 * to + (x % 512 ||| (2 ^ r &&& dueM z U))) (R x + z (41 + r)))
theorem rr_step (hr : RR z (σ 63)) (hw : WFl z B) {U : Nat} (hU : U < 512) {P : (Nat → Nat) → Prop} (hP : PS z U P) {R : Nat → Nat} (hR : R69 σ R) (hPR : P R) {j : Nat} (hj : j < 4096 * z 2) (b : Bool) (n : Nat) : ∃ (τ : fr_St) (R' : Nat → Nat) (b' : Bool), L_X8_round_138 (nI U) (nI (dueM z U)) (n + 1) (fr_bi b) (nI j) σ = L_X8_round_138 (nI U) (nI (dueM z U)) n (fr_bi b') (nI (j + 1)) τ ∧ (∀ x, x ≠ 69 → τ x = σ x) ∧ R69 τ R' ∧ P R' ∧ ((R' = R ∧ b' = b ∧ NI z U R j) ∨ (b' = true ∧ sumN R' 4096 < sumN R 4096)) := by
  have h1 := hw.2.2.2.1
  have h2 := hw.2.2.2.2.1
  have hM : 0 < z 2 := by
    rcases Nat.eq_zero_or_pos (z 2) with q | q
    · rw [q] at hj; omega
    · exact q
  have hrm : j % z 2 < z 2 := Nat.mod_lt _ hM
  have hat : j / z 2 < 4096 := (Nat.div_lt_iff_lt_mul hM).mpr hj
  have hj2 : j < 4096 * 9 := Nat.lt_of_lt_of_le hj (Nat.mul_le_mul_left 4096 h2)
  have hm4 : 4096 * z 2 ≤ 4096 * 9 := Nat.mul_le_mul_left 4096 h2
  have hl := hw.2.2.2.2.2.2.2.1 (j % z 2) hrm
  have hRb := hP.1 R hPR
  rw [rr_unf, hr.1 2 (by omega), show (4096 : Int32) = nI 4096 from rfl, i_mul, if_neg (fun q => absurd ((i_le (by omega) (by omega)).mp q) (by omega)), if_neg (show ¬ nI (z 2) = (0 : Int32) from fun q => absurd ((i_eq (b := 0) (by omega) (by omega)).mp q) (by omega)), i_rem (by omega) hM (by omega), fr_let_eq, if_neg (show ¬ nI (z 2) = (0 : Int32) from fun q => absurd ((i_eq (b := 0) (by omega) (by omega)).mp q) (by omega)), i_div (by omega) hM (by omega), fr_let_eq, rf_has hU (by omega), fr_bP_mk]
  have go : ∀ to, to < 8 → ((j / z 2 / 512 = z (23 + j % z 2) ∧ to = z (32 + j % z 2)) ∨ (j / z 2 / 512 = z (32 + j % z 2) ∧ to = z (23 + j % z 2))) → U.testBit (j % z 2) = true → ∃ (τ : fr_St) (R' : Nat → Nat) (b' : Bool), (fr_bP (rrB (nI (dueM z U)) (fr_bi b) (nI (j % z 2)) (nI (j / z 2)) (nI to) σ) (fun v12 s13 => fr_let (nI j + (1 : Int32)) (fun v16 => L_X8_round_138 (nI U) (nI (dueM z U)) n v12 v16 s13))) = L_X8_round_138 (nI U) (nI (dueM z U)) n (fr_bi b') (nI (j + 1)) τ ∧ (∀ x, x ≠ 69 → τ x = σ x) ∧ R69 τ R' ∧ P R' ∧ ((R' = R ∧ b' = b ∧ NI z U R j) ∨ (b' = true ∧ sumN R' 4096 < sumN R 4096)) := by
    intro to hto hab hUb
    rw [rrB_eq (U := U) hr hw hR hRb hrm hat hto b]
    have huni : ∀ to', ((j / z 2 / 512 = z (23 + j % z 2) ∧ to' = z (32 + j % z 2)) ∨ (j / z 2 / 512 = z (32 + j % z 2) ∧ to' = z (23 + j % z 2))) → to' = to := by
      intro to' h'
      have := hl.2.2.2.2.1
      omega
    by_cases hn : 100000 ≤ R (j / z 2)
    · rw [if_pos hn, fr_bP_mk, fr_let_eq, nI_1]
      exact ⟨σ, R, b, rfl, fun _ _ => rfl, hR, hPR, Or.inl ⟨rfl, rfl, fun _ _ _ q => absurd q (by omega)⟩⟩
    · rw [if_neg hn, fr_bP_mk, fr_let_eq, nI_1]
      have hm : (j / z 2 % 512 ||| (2 ^ (j % z 2) &&& dueM z U)) < 512 := Nat.or_lt_two_pow (n := 9) (Nat.mod_lt _ (by omega)) (Nat.lt_of_le_of_lt Nat.and_le_right (due_lt hw U))
      by_cases hi : R (j / z 2) + z (41 + j % z 2) < R (512 * to + (j / z 2 % 512 ||| (2 ^ (j % z 2) &&& dueM z U)))
      · refine ⟨fr_up σ 69 (512 * to + (j / z 2 % 512 ||| (2 ^ (j % z 2) &&& dueM z U))) (nI (mn (R (512 * to + (j / z 2 % 512 ||| (2 ^ (j % z 2) &&& dueM z U)))) (R (j / z 2) + z (41 + j % z 2)))), zup R (512 * to + (j / z 2 % 512 ||| (2 ^ (j % z 2) &&& dueM z U))) (R (j / z 2) + z (41 + j % z 2)), true, ?_, fun x hx => fr_up_ne _ _ _ hx, fun i hx => ?_, hP.2 R _ _ to hat hrm hUb hab (by omega) hi hPR, Or.inr ⟨rfl, ?_⟩⟩
        · rw [decide_eq_true hi, Bool.or_true]
        · rw [fr_up_at]
          have em : mn (R (512 * to + (j / z 2 % 512 ||| (2 ^ (j % z 2) &&& dueM z U)))) (R (j / z 2) + z (41 + j % z 2)) = R (j / z 2) + z (41 + j % z 2) := by unfold mn; rw [if_pos hi]
          rw [em]
          exact uz Iff.rfl (hR i hx)
        · refine sumN_strict (i := 512 * to + (j / z 2 % 512 ||| (2 ^ (j % z 2) &&& dueM z U))) (fun k => ?_) ?_ 4096 (by omega)
          · unfold zup
            split
            · rename_i q; rw [q]; omega
            · exact Nat.le_refl _
          · rw [zup_at]; exact hi
      · refine ⟨fr_up σ 69 (512 * to + (j / z 2 % 512 ||| (2 ^ (j % z 2) &&& dueM z U))) (nI (mn (R (512 * to + (j / z 2 % 512 ||| (2 ^ (j % z 2) &&& dueM z U)))) (R (j / z 2) + z (41 + j % z 2)))), R, b, ?_, fun x hx => fr_up_ne _ _ _ hx, fun i hx => ?_, hPR, Or.inl ⟨rfl, rfl, fun _ to' h' _ => ?_⟩⟩
        · rw [decide_eq_false hi, Bool.or_false]
        · have em : mn (R (512 * to + (j / z 2 % 512 ||| (2 ^ (j % z 2) &&& dueM z U)))) (R (j / z 2) + z (41 + j % z 2)) = R (512 * to + (j / z 2 % 512 ||| (2 ^ (j % z 2) &&& dueM z U))) := by unfold mn; rw [if_neg hi]
          rw [fr_up_at, em, ← hR _ (by omega)]
          unfold upd
          split
          · rename_i q; rw [← q]; exact hR i hx
          · exact hR i hx
        · rw [huni to' h']
          omega
  have skip : (U.testBit (j % z 2) = true → ∀ to, ¬ ((j / z 2 / 512 = z (23 + j % z 2) ∧ to = z (32 + j % z 2)) ∨ (j / z 2 / 512 = z (32 + j % z 2) ∧ to = z (23 + j % z 2)))) → ∃ (τ : fr_St) (R' : Nat → Nat) (b' : Bool), (fr_bP (rrB (nI (dueM z U)) (fr_bi b) (nI (j % z 2)) (nI (j / z 2)) (-1 : Int32) σ) (fun v12 s13 => fr_let (nI j + (1 : Int32)) (fun v16 => L_X8_round_138 (nI U) (nI (dueM z U)) n v12 v16 s13))) = L_X8_round_138 (nI U) (nI (dueM z U)) n (fr_bi b') (nI (j + 1)) τ ∧ (∀ x, x ≠ 69 → τ x = σ x) ∧ R69 τ R' ∧ P R' ∧ ((R' = R ∧ b' = b ∧ NI z U R j) ∨ (b' = true ∧ sumN R' 4096 < sumN R 4096)) := by
    intro hno
    unfold rrB
    rw [if_pos (show (-1 : Int32) < 0 by decide), fr_bP_mk, fr_let_eq, nI_1]
    exact ⟨σ, R, b, rfl, fun _ _ => rfl, hR, hPR, Or.inl ⟨rfl, rfl, fun q to h' => absurd h' (hno q to)⟩⟩
  cases hb : U.testBit (j % z 2)
  · rw [if_pos (show fr_bi false = 0 from rfl), fr_bP_mk]
    exact skip (fun q => by rw [hb] at q; cases q)
  · rw [if_neg fr_nb, show (512 : Int32) = nI 512 from rfl, i_div (by omega) (by omega) (by omega), rf_across hr hw (by omega) (by omega), fr_bP_mk, fr_bP_mk]
    by_cases e1 : z (23 + j % z 2) = j / z 2 / 512
    · rw [if_pos e1]
      exact go _ (by omega) (Or.inl ⟨e1.symm, rfl⟩) hb
    · rw [if_neg e1]
      by_cases e2 : z (32 + j % z 2) = j / z 2 / 512
      · rw [if_pos e2]
        exact go _ (by omega) (Or.inr ⟨e2.symm, rfl⟩) hb
      · rw [if_neg e2]
        exact skip (fun _ to h' => by omega)
theorem rr_sweep (hw : WFl z B) {U : Nat} (hU : U < 512) {P : (Nat → Nat) → Prop} (hP : PS z U P) (R0 : Nat → Nat) : ∀ (m j n : Nat) (σ : fr_St) (R : Nat → Nat) (b : Bool), j + m = 4096 * z 2 → m < n → RR z (σ 63) → R69 σ R → P R → (b = false → R = R0 ∧ ∀ i, i < j → NI z U R0 i) → (b = true → sumN R 4096 < sumN R0 4096) → ∃ (τ : fr_St) (R' : Nat → Nat) (b' : Bool) (y : Int32), L_X8_round_138 (nI U) (nI (dueM z U)) n (fr_bi b) (nI j) σ = some (fr_bi b', y, τ) ∧ (∀ x, x ≠ 69 → τ x = σ x) ∧ R69 τ R' ∧ P R' ∧ (b' = false → R' = R0 ∧ ∀ i, i < 4096 * z 2 → NI z U R0 i) ∧ (b' = true → sumN R' 4096 < sumN R0 4096) := by
  have h2 := hw.2.2.2.2.1
  have hm4 : 4096 * z 2 ≤ 4096 * 9 := Nat.mul_le_mul_left 4096 h2
  intro m
  induction m with
  | zero =>
    intro j n σ R b hj hn hr hR hPR hf ht
    obtain ⟨n, rfl⟩ : ∃ m, n = m + 1 := ⟨n - 1, by omega⟩
    have hj : j = 4096 * z 2 := by omega
    subst hj
    refine ⟨σ, R, b, nI (4096 * z 2), ?_, fun _ _ => rfl, hR, hPR, hf, ht⟩
    rw [rr_unf, hr.1 2 (by omega), show (4096 : Int32) = nI 4096 from rfl, i_mul, if_pos ((i_le (by omega) (by omega)).mpr (Nat.le_refl _))]
  | succ m ih =>
    intro j n σ R b hj hn hr hR hPR hf ht
    obtain ⟨n, rfl⟩ : ∃ m, n = m + 1 := ⟨n - 1, by omega⟩
    obtain ⟨s, R1, b1, r1, r2, r3, r4, r5⟩ := rr_step hr hw hU hP hR hPR (show j < 4096 * z 2 by omega) b n
    obtain ⟨τ, R', b', y, q1, q2, q3⟩ := ih (j + 1) n s R1 b1 (by omega) (by omega) (by rw [r2 63 (by omega)]; exact hr) r3 r4 (fun e => by
      rcases r5 with ⟨a1, a2, a3⟩ | ⟨a1, _⟩
      · obtain ⟨c1, c2⟩ := hf (by rw [← a2, e])
        refine ⟨by rw [a1, c1], fun i hi => ?_⟩
        by_cases q : i = j
        · rw [q, ← c1]; exact a3
        · exact c2 i (by omega)
      · rw [a1] at e; cases e) (fun e => by
      rcases r5 with ⟨a1, a2, a3⟩ | ⟨_, a2⟩
      · rw [a1]; exact ht (by rw [← a2, e])
      · cases b
        · rw [← (hf rfl).1]; exact a2
        · have := ht rfl
          omega)
    exact ⟨τ, R', b', y, by rw [r1]; exact q1, fun x hx => by rw [q2 x hx, r2 x hx], q3⟩
theorem rr_outer (hw : WFl z B) {U : Nat} (hU : U < 512) {P : (Nat → Nat) → Prop} (hP : PS z U P) : ∀ (s n : Nat) (σ : fr_St) (R : Nat → Nat), sumN R 4096 < s → s < n → RR z (σ 63) → R69 σ R → P R → ∃ (τ : fr_St) (R' : Nat → Nat), L_X8_round_127 (nI U) (nI (dueM z U)) n 1 σ = some (0, τ) ∧ (∀ x, x ≠ 69 → τ x = σ x) ∧ R69 τ R' ∧ P R' ∧ ∀ i, i < 4096 * z 2 → NI z U R' i := by
  have h2 := hw.2.2.2.2.1
  have hm4 : 4096 * z 2 ≤ 4096 * 9 := Nat.mul_le_mul_left 4096 h2
  intro s
  induction s with
  | zero => intro n σ R h; omega
  | succ s ih =>
    intro n σ R hs hn hr hR hPR
    obtain ⟨n, rfl⟩ : ∃ m, n = m + 1 := ⟨n - 1, by omega⟩
    obtain ⟨t, R1, b1, y, r1, r2, r3, r4, r5, r6⟩ := rr_sweep hw hU hP R (4096 * z 2) 0 fr_fu σ R false (by omega) (by have := fr_fu_big; omega) hr hR hPR (fun _ => ⟨rfl, fun i hi => absurd hi (Nat.not_lt_zero _)⟩) (fun e => by cases e)
    rw [L_X8_round_127, if_neg (show ¬ (1 : Int32) = 0 by decide), show L_X8_round_138 (nI U) (nI (dueM z U)) fr_fu (0 : Int32) (0 : Int32) σ = _ from r1, fr_bP_mk, fr_pP_mk]
    cases b1
    · obtain ⟨c1, c2⟩ := r5 rfl
      subst c1
      obtain ⟨n, rfl⟩ : ∃ m, n = m + 1 := ⟨n - 1, by omega⟩
      exact ⟨t, R1, by rw [L_X8_round_127, if_pos (show fr_bi false = 0 from rfl)]; rfl, r2, r3, r4, c2⟩
    · have := r6 rfl
      obtain ⟨τ, R', q1, q2, q3⟩ := ih n t R1 (by omega) (by omega) (by rw [r2 63 (by omega)]; exact hr) r3 r4
      exact ⟨τ, R', q1, fun x hx => by rw [q2 x hx, r2 x hx], q3⟩
theorem rr_due (hr : RR z (σ 63)) (hw : WFl z B) {U : Nat} (hU : U < 512) : L_X8_round_26 (nI U) fr_fu 0 0 σ = some (nI (dueM z U), nI (z 2), σ) := by
  have h2 := hw.2.2.2.2.1
  have key := msk_loop (L_X8_round_26 (nI U)) (fun k => U.testBit k && decide (z (14 + k) < 4)) (z 2) σ (fun n acc => by
    rw [L_X8_round_26, hr.1 2 (by omega), if_pos ((i_le (by omega) (by omega)).mpr (Nat.le_refl _))]) (fun n acc j hj => by
    rw [L_X8_round_26, hr.1 2 (by omega), if_neg (fun q => absurd ((i_le (by omega) (by omega)).mp q) (by omega)), rf_has hU (by omega), fr_bP_mk]
    cases hb : U.testBit j
    · rw [if_pos (show fr_bi false = 0 from rfl), fr_bP_mk, fr_let_eq, fr_let_eq, show (0 : Int32) = nI 0 from rfl, i_or, Nat.or_zero, nI_1]
      rfl
    · rw [if_neg fr_nb, rf_isByFeet hr hw (by omega), fr_bP_mk]
      by_cases hk : z (14 + j) < 4
      · rw [decide_eq_true hk, if_neg fr_nb, fr_bP_mk, fr_let_eq, fr_let_eq, show (1 : Int32) = nI 1 from rfl, show (31 : Int32) = nI 31 from rfl, i_shl (by omega), i_or, i_add]
        rfl
      · rw [decide_eq_false hk, if_pos (show fr_bi false = 0 from rfl), fr_bP_mk, fr_let_eq, fr_let_eq, show (0 : Int32) = nI 0 from rfl, i_or, Nat.or_zero, nI_1]
        rfl) (z 2) 0 fr_fu (by omega) (by have := fr_fu_big; omega)
  exact key
theorem rr_init (σ : fr_St) {f : Nat} (hf : f < 8) : L_X8_round_86 (nI f) fr_fu 0 σ = some (nI 4096, fr_row σ 69 (blk (σ 69) 0 4096 (fun i => nI (if i = 512 * f then 0 else 100000)))) := by
  refine wr_loop0 (L_X8_round_86 (nI f)) 69 0 4096 (fun i => nI (if i = 512 * f then 0 else 100000)) σ (by omega) (fun n s => ?_) (fun n j g hj => ?_)
  · rw [L_X8_round_86, if_pos (show (4096 : Int32) ≤ nI 4096 by decide)]
  · rw [L_X8_round_86, if_neg (show ¬ (4096 : Int32) ≤ nI j from fun q => absurd ((i_le (a := 4096) (by omega) (by omega)).mp q) (by omega))]
    have e : (if nI j = (512 : Int32) * nI f then some (0 : Int32) else some (100000 : Int32)) = some (nI (if j = 512 * f then 0 else 100000)) := by
      rw [show (512 : Int32) = nI 512 from rfl, i_mul]
      by_cases q : j = 512 * f
      · rw [if_pos (by rw [q]), if_pos q]; rfl
      · rw [if_neg (fun w => q ((i_eq (by omega) (by omega)).mp w)), if_neg q]; rfl
    rw [e, fr_bS_mk, i_chk hj (by omega), fr_let_eq, fr_let_eq, i_ix (by omega), fr_up_row, nI_1, Nat.zero_add]
theorem rr_RC {U : Nat} (hw : WFl z B) {R : Nat → Nat} (hRb : ∀ i, R i ≤ 100000) (h : ∀ i, i < 4096 * z 2 → NI z U R i) : RC z U R := by
  refine ⟨hRb, fun r hr hU m hm => ?_⟩
  have h1 := hw.2.2.2.1
  have hl := hw.2.2.2.2.2.2.2.1 r hr
  have key : ∀ a, a < 8 → (z 2 * (512 * a + m) + r) < 4096 * z 2 ∧ (z 2 * (512 * a + m) + r) % z 2 = r ∧ (z 2 * (512 * a + m) + r) / z 2 = 512 * a + m := by
    intro a ha
    refine ⟨?_, ?_, ?_⟩
    · have : z 2 * (512 * a + m) + z 2 ≤ z 2 * 4096 := by
        have := Nat.mul_le_mul_left (z 2) (show 512 * a + m + 1 ≤ 4096 by omega)
        rw [Nat.mul_add, Nat.mul_one] at this
        exact this
      rw [Nat.mul_comm 4096]
      omega
    · rw [Nat.mul_add_mod, Nat.mod_eq_of_lt hr]
    · rw [Nat.mul_add_div (by omega), Nat.div_eq_of_lt hr, Nat.add_zero]
  have hd : ∀ a, (512 * a + m) / 512 = a ∧ (512 * a + m) % 512 = m := fun a => by omega
  constructor
  · intro hlt
    obtain ⟨a1, a2, a3⟩ := key (z (23 + r)) (by omega)
    have := h _ a1
    unfold NI at this
    rw [a2, a3, (hd _).1, (hd _).2] at this
    exact this hU _ (Or.inl ⟨rfl, rfl⟩) hlt
  · intro hlt
    obtain ⟨a1, a2, a3⟩ := key (z (32 + r)) (by omega)
    have := h _ a1
    unfold NI at this
    rw [a2, a3, (hd _).1, (hd _).2] at this
    exact this hU _ (Or.inr ⟨rfl, rfl⟩) hlt
theorem rr_orN {x : Nat} (hx : x ≤ 100000) (σ : fr_St) : F_X8_orNone (nI x) σ = some (if x < 100000 then nI x else -1000000, σ) := by
  unfold F_X8_orNone
  by_cases e : x < 100000
  · rw [if_pos (show nI x < (100000 : Int32) from (i_lt (b := 100000) (by omega) (by omega)).mpr e), if_pos e]
    rfl
  · rw [if_neg (show ¬ nI x < (100000 : Int32) from fun q => e ((i_lt (b := 100000) (by omega) (by omega)).mp q)), if_neg e]
    rfl
theorem rf_round (hr : RR z (σ 63)) (hw : WFl z B) (hB : B ≤ 100000) {q : Nat} (hq : q < z 3) {w : Nat → Nat} {c : Nat} {C : Nat → Nat} (hN : WN z (opm z q) w c) (hcl : ∀ d k r, d < 2 ^ c → k < c → d.testBit k = false → r < z 1 → cl1 z (opm z q) w C d k r) (hC0 : C (z (6 + q)) = 0) : ∃ (τ : fr_St) (R : Nat → Nat), F_X8_round (nI q) σ = some (if R (512 * z (6 + q) + dueM z (opm z q)) < 100000 then nI (R (512 * z (6 + q) + dueM z (opm z q))) else -1000000, τ) ∧ (∀ x, x ≠ 69 → τ x = σ x) ∧ RC z (opm z q) R ∧ R (512 * z (6 + q)) = 0 ∧ (R (512 * z (6 + q) + dueM z (opm z q)) = 100000 ∨ VI z (opm z q) w c C (z (6 + q)) (dueM z (opm z q)) (R (512 * z (6 + q) + dueM z (opm z q)))) := by
  have h1 := hw.2.2.2.1
  have h2 := hw.2.2.2.2.1
  have h3 := hw.2.2.2.2.2.1
  have hp := hw.2.2.2.2.2.2.2.2.1 q hq
  have hU : opm z q < 512 := Nat.lt_of_lt_of_le opm_lt (Nat.pow_le_pow_right (by omega) h2)
  have hdl := due_lt hw (opm z q)
  generalize hUe : opm z q = U at *
  have hPS : PS z U (fun R => (∀ i, R i ≤ 100000) ∧ R (512 * z (6 + q)) = 0 ∧ ∀ i, i < 4096 → R i = 100000 ∨ VI z U w c C (i / 512) (i % 512) (R i)) := by
    refine ⟨fun R h => h.1, fun R x r to hx hr2 hUb hab hlt hi h => ⟨fun i => ?_, ?_, fun i hi4 => ?_⟩⟩
    · unfold zup
      split
      · have := h.1 (512 * to + (x % 512 ||| (2 ^ r &&& dueM z U)))
        omega
      · exact h.1 i
    · unfold zup
      split
      · rename_i e
        rw [← e, h.2.1] at hi
        omega
      · exact h.2.1
    · by_cases e : i = 512 * to + (x % 512 ||| (2 ^ r &&& dueM z U))
      · have hm : (x % 512 ||| (2 ^ r &&& dueM z U)) < 512 := Nat.or_lt_two_pow (n := 9) (Nat.mod_lt _ (by omega)) (Nat.lt_of_le_of_lt Nat.and_le_right hdl)
        rw [e, zup_at]
        refine Or.inr ?_
        rw [show (512 * to + (x % 512 ||| (2 ^ r &&& dueM z U))) / 512 = to by omega, show (512 * to + (x % 512 ||| (2 ^ r &&& dueM z U))) % 512 = (x % 512 ||| (2 ^ r &&& dueM z U)) by omega]
        rcases h.2.2 x hx with v | v
        · omega
        · exact V_step hw hN hcl hr2 hUb hab v
      · rw [zup_ne _ _ e]
        exact h.2.2 i hi4
  have hr1 : RR z ((fr_row σ 69 (blk (σ 69) 0 4096 (fun i => nI (if i = 512 * z (6 + q) then 0 else 100000)))) 63) := by rw [fr_row_ne _ _ (by omega)]; exact hr
  have hsum : sumN (fun i => if i = 512 * z (6 + q) then 0 else 100000) 4096 ≤ 4096 * 100000 := sumN_le (fun x => by show (if x = 512 * z (6 + q) then 0 else 100000) ≤ 100000; split <;> omega) 4096
  obtain ⟨τ, R, r1, r2, r3, r4, r5⟩ := rr_outer hw hU hPS (4096 * 100000 + 1) fr_fu (fr_row σ 69 (blk (σ 69) 0 4096 (fun i => nI (if i = 512 * z (6 + q) then 0 else 100000)))) (fun i => if i = 512 * z (6 + q) then 0 else 100000) (by omega) (by have := fr_fu_big; omega) hr1 (fun i hi => by rw [fr_row_same, blk_in0 hi]) ⟨fun i => by show (if i = 512 * z (6 + q) then 0 else 100000) ≤ 100000; split <;> omega, if_pos rfl, fun i hi => by
    show (if i = 512 * z (6 + q) then 0 else 100000) = 100000 ∨ VI z U w c C (i / 512) (i % 512) (if i = 512 * z (6 + q) then 0 else 100000)
    by_cases e : i = 512 * z (6 + q)
    · rw [if_pos e, e]
      refine Or.inr ⟨z (6 + q), hp.1, ?_⟩
      have e0 : ixm w c (512 * z (6 + q) % 512) = 0 := by
        rw [show 512 * z (6 + q) % 512 = 0 by omega]
        apply Nat.eq_of_testBit_eq
        intro j
        unfold ixm
        rw [msk_bit, Nat.zero_testBit, Nat.zero_testBit, Bool.and_false]
      rw [e0, show 512 * z (6 + q) / 512 = z (6 + q) by omega, dst_self, show 0 * 8 + z (6 + q) = z (6 + q) by omega, hC0]
      exact Nat.le_refl _
    · exact Or.inl (if_neg e)⟩
  have hRb := r4.1 (512 * z (6 + q) + dueM z U)
  refine ⟨τ, R, ?_, fun x hx => by rw [r2 x hx, fr_row_ne _ _ hx], rr_RC hw r4.1 r5, r4.2.1, ?_⟩
  · unfold F_X8_round
    rw [rf_isPerson hr (by omega), k_ib hq (by omega), fr_bP_mk, if_neg fr_nb, rf_soleOf hr (by omega), fr_bP_mk, rf_openTo hr hw hB (by omega), fr_bP_mk, show msk (fun k => opn z k (z (10 + q)) (z 4)) (z 2) = U from hUe, rr_due hr hw hU, fr_bP_mk, fr_pP_mk, show (6 : Int32) = nI 6 from rfl, i_add, i_chk (by omega) (by omega), fr_let_eq, i_ix (by omega), hr.1 (6 + q) (by omega), rr_init σ (by omega), fr_bP_mk, r1, fr_bP_mk, show (512 : Int32) = nI 512 from rfl, i_mul, i_add, i_chk (by omega) (by omega), i_ix (by omega), r3 _ (by omega), rr_orN hRb, fr_bP_mk]
  · have := r4.2.2 (512 * z (6 + q) + dueM z U) (by omega)
    rw [show (512 * z (6 + q) + dueM z U) / 512 = z (6 + q) by omega, show (512 * z (6 + q) + dueM z U) % 512 = dueM z U by omega] at this
    exact this
theorem st_round (hN : N ≤ 1000) (h : Rel N σ) (a1 : Int32) : Ok N (F_X7_round a1) (F_X8_round a1) σ := by
  obtain ⟨z, hz, hc, hr, h4⟩ := h.2.2.2.1
  obtain ⟨b0, b1, b2, b3, b4⟩ := hz.b
  cases hi : fr_ib a1 (z 3)
  · refine ⟨-1000001, σ, σ, ?_, ?_, h.mono⟩
    · unfold F_X7_round
      rw [cl_hasPerson (o := 15) hc b3, hi]
      rfl
    · unfold F_X8_round
      rw [rf_isPerson hr b3, hi]
      rfl
  · obtain ⟨q, hq, rfl⟩ := ib_nI hi
    have hw := hz.wf 3 (by omega)
    obtain ⟨s, w, c, C, k1, k2, k3, k4, k5, k6⟩ := cl_round hc hw (by omega) hq
    have hr1 : RR z (s 63) := by rw [k2 63 (by unfold scr; omega)]; exact hr
    obtain ⟨t, R, r1, r2, r3, r4, r5⟩ := rf_round hr1 hw (by omega) hq k3 k4 k6
    have hX : F_X7_round (nI q) σ = some (orN (mnl (fun r => C ((2 ^ c - 1) * 8 + r) + dst z (opm z q) 0 r (z (6 + q))) 1000000 (z 1)), s) := by
      unfold F_X7_round
      rw [cl_hasPerson (o := 15) hc b3, hi, fr_bP_mk, if_neg fr_nb, k1]
      rfl
    have hM : F_X8_round (nI q) s = some (orN (mnl (fun r => C ((2 ^ c - 1) * 8 + r) + dst z (opm z q) 0 r (z (6 + q))) 1000000 (z 1)), t) := by
      rw [r1]
      unfold orN
      rcases ro_eq hw k3 r3 (k5 R r3 r4) r5 with ⟨e1, e2⟩ | ⟨e1, e2⟩
      · rw [e1, e2, if_neg (by omega), if_neg (by omega)]
      · rw [e1, if_pos e2, if_pos (by omega)]
    exact ⟨_, s, t, hX, hM, Rel_sc2 h k2 (fun a ha => r2 a (fun q => ha (by unfold scr; omega)))⟩
end RMR
