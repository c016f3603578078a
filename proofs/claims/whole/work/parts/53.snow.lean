def nL (n : Nat) : Int64 := Int64.ofNat n
theorem l_toInt {a : Nat} (ha : a < 9223372036854775808) : (nL a).toInt = (a : Int) := Int64.toInt_ofNat_of_lt ha
theorem l_add (a b : Nat) : nL a + nL b = nL (a + b) := (Int64.ofNat_add a b).symm
theorem l_mul (a b : Nat) : nL a * nL b = nL (a * b) := (Int64.ofNat_mul a b).symm
theorem l_sub {a b : Nat} (h : b ≤ a) : nL a - nL b = nL (a - b) := (Int64.ofNat_sub a b h).symm
theorem l_eq {a b : Nat} (ha : a < 9223372036854775808) (hb : b < 9223372036854775808) : nL a = nL b ↔ a = b := by
  rw [← Int64.toInt_inj, l_toInt ha, l_toInt hb]
  omega
theorem l_div {a b : Nat} (ha : a < 9223372036854775808) (hb : b < 9223372036854775808) : nL a / nL b = nL (a / b) := by
  have h : a / b ≤ a := Nat.div_le_self a b
  rw [← Int64.toInt_inj, Int64.toInt_div, l_toInt ha, l_toInt hb, l_toInt (by omega), Int.tdiv_eq_ediv_of_nonneg (by omega), ← Int.natCast_ediv]
  generalize a / b = d at h
  exact Int.bmod_eq_of_le (by omega) (by omega)
theorem l_rem {a b : Nat} (ha : a < 9223372036854775808) (hb : b < 9223372036854775808) : nL a - nL a / nL b * nL b = nL (a % b) := by
  have h : a / b * b ≤ a := Nat.div_mul_le_self a b
  rw [l_div ha hb, l_mul, l_sub h]
  congr 1
  have := Nat.div_add_mod a b
  rw [Nat.mul_comm] at this
  omega
theorem l_of {a : Nat} (ha : a < 2147483648) : (Int32.ofNat a).toInt64 = nL a := by
  rw [← Int64.toInt_inj, Int32.toInt_toInt64, l_toInt (by omega)]
  exact Int32.toInt_ofNat_of_lt ha
/-- steps of the greatest common divisor -/
theorem gcd_step (a b k : Nat) : Nat.gcd (a * k) (b * k) = Nat.gcd a b * k := Nat.gcd_mul_right a k b
def sumN (f : Nat → Nat) : Nat → Nat
  | 0 => 0
  | n + 1 => sumN f n + f n
theorem sumN_add (f : Nat → Nat) (m : Nat) : ∀ n, sumN f (m + n) = sumN f m + sumN (fun x => f (m + x)) n
  | 0 => rfl
  | n + 1 => by
    show sumN f (m + n) + f (m + n) = sumN f m + (sumN (fun x => f (m + x)) n + f (m + n))
    rw [sumN_add f m n]
    omega
theorem sumN_congr {f h : Nat → Nat} : ∀ {n : Nat}, (∀ x, x < n → f x = h x) → sumN f n = sumN h n
  | 0, _ => rfl
  | n + 1, e => by
    show sumN f n + f n = sumN h n + h n
    rw [sumN_congr (fun x hx => e x (by omega)), e n (by omega)]
theorem sumN_mul (f : Nat → Nat) (k : Nat) : ∀ n, sumN (fun x => f x * k) n = sumN f n * k
  | 0 => (Nat.zero_mul k).symm
  | n + 1 => by
    show sumN (fun x => f x * k) n + f n * k = (sumN f n + f n) * k
    rw [sumN_mul f k n, Nat.add_mul]
/-- the weights: of the reference, of the class, and what the class leaves out -/
def wR (a c x : Nat) : Nat → Nat
  | 0 => 1
  | r + 1 => wR a c x r * (if x.testBit r then a else c)
def wC (a c U x : Nat) : Nat → Nat
  | 0 => 1
  | r + 1 => wC a c U x r * (if U.testBit r then (if x.testBit r then a else c) else (if x.testBit r then 0 else 1))
def wO (U : Nat) : Nat → Nat
  | 0 => 1
  | r + 1 => wO U r * (if U.testBit r then 1 else 10)
theorem wR_congr {a c x y : Nat} : ∀ {M : Nat}, (∀ r, r < M → x.testBit r = y.testBit r) → wR a c x M = wR a c y M
  | 0, _ => rfl
  | r + 1, e => by
    show wR a c x r * _ = wR a c y r * _
    rw [wR_congr (fun q hq => e q (by omega)), e r (by omega)]
theorem wC_congr {a c U x y : Nat} : ∀ {M : Nat}, (∀ r, r < M → x.testBit r = y.testBit r) → wC a c U x M = wC a c U y M
  | 0, _ => rfl
  | r + 1, e => by
    show wC a c U x r * _ = wC a c U y r * _
    rw [wC_congr (fun q hq => e q (by omega)), e r (by omega)]
theorem tb_lo {M x r : Nat} (hr : r < M) : (2 ^ M + x).testBit r = x.testBit r := Nat.testBit_two_pow_add_gt hr x
theorem tb_top {M x : Nat} (hx : x < 2 ^ M) : (2 ^ M + x).testBit M = true := by
  rw [Nat.testBit_two_pow_add_eq, Nat.testBit_lt_two_pow hx]; rfl
theorem tb_hi {M x r : Nat} (hx : x < 2 ^ M) (hr : M < r) : (2 ^ M + x).testBit r = false := by
  apply Nat.testBit_lt_two_pow
  have : 2 ^ (M + 1) ≤ 2 ^ r := Nat.pow_le_pow_right (by omega) (by omega)
  rw [Nat.pow_succ] at this
  omega
theorem and_top {U M x : Nat} (hx : x < 2 ^ M) (hU : U.testBit M = true) : U &&& (2 ^ M + x) = 2 ^ M + (U &&& x) := by
  have hl : U &&& x < 2 ^ M := Nat.lt_of_le_of_lt Nat.and_le_right hx
  apply Nat.eq_of_testBit_eq
  intro r
  rw [Nat.testBit_and]
  rcases Nat.lt_trichotomy r M with h | h | h
  · rw [tb_lo h, tb_lo h, Nat.testBit_and]
  · subst h
    rw [tb_top hx, tb_top hl, hU]; rfl
  · rw [tb_hi hx h, tb_hi hl h, Bool.and_false]
theorem and_ntop {U M x : Nat} (hx : x < 2 ^ M) (hU : U.testBit M = false) : U &&& (2 ^ M + x) = U &&& x := by
  apply Nat.eq_of_testBit_eq
  intro r
  rw [Nat.testBit_and, Nat.testBit_and]
  rcases Nat.lt_trichotomy r M with h | h | h
  · rw [tb_lo h]
  · subst h
    rw [hU]; rfl
  · rw [tb_hi hx h, Nat.testBit_lt_two_pow (Nat.lt_of_lt_of_le hx (Nat.pow_le_pow_right (by omega) (by omega)))]
theorem pow_two_s (M : Nat) : 2 ^ (M + 1) = 2 ^ M + 2 ^ M := by rw [Nat.pow_succ]; omega
theorem sum_eq (a c U : Nat) (hac : a + c = 10) : ∀ (M : Nat) (φ : Nat → Nat), sumN (fun x => wR a c x M * φ (U &&& x)) (2 ^ M) = sumN (fun y => wC a c U y M * φ y) (2 ^ M) * wO U M
  | 0, φ => by
    show 0 + 1 * φ (U &&& 0) = (0 + 1 * φ 0) * 1
    rw [Nat.and_zero, Nat.mul_one]
  | M + 1, φ => by
    have low : ∀ x, x < 2 ^ M → x.testBit M = false := fun x hx => Nat.testBit_lt_two_pow hx
    rw [pow_two_s, sumN_add, sumN_add]
    have e1 : sumN (fun x => wR a c x (M + 1) * φ (U &&& x)) (2 ^ M) = sumN (fun x => wR a c x M * φ (U &&& x)) (2 ^ M) * c := by
      rw [← sumN_mul]
      refine sumN_congr (fun x hx => ?_)
      show wR a c x M * (if x.testBit M then a else c) * _ = _
      rw [low x hx]
      simp [Nat.mul_right_comm]
    rw [e1]
    cases hU : U.testBit M
    · have e2 : sumN (fun x => wR a c (2 ^ M + x) (M + 1) * φ (U &&& (2 ^ M + x))) (2 ^ M) = sumN (fun x => wR a c x M * φ (U &&& x)) (2 ^ M) * a := by
        rw [← sumN_mul]
        refine sumN_congr (fun x hx => ?_)
        show wR a c (2 ^ M + x) M * (if (2 ^ M + x).testBit M then a else c) * _ = _
        rw [tb_top hx, and_ntop hx hU, wR_congr (fun r hr => tb_lo hr)]
        simp [Nat.mul_right_comm]
      have e3 : sumN (fun y => wC a c U y (M + 1) * φ y) (2 ^ M) = sumN (fun y => wC a c U y M * φ y) (2 ^ M) := by
        refine sumN_congr (fun x hx => ?_)
        show wC a c U x M * (if U.testBit M then _ else (if x.testBit M then 0 else 1)) * _ = _
        rw [hU, low x hx]
        simp
      have e4 : sumN (fun x => wC a c U (2 ^ M + x) (M + 1) * φ (2 ^ M + x)) (2 ^ M) = 0 := by
        have : sumN (fun x => wC a c U (2 ^ M + x) (M + 1) * φ (2 ^ M + x)) (2 ^ M) = sumN (fun x => 0 * 0) (2 ^ M) := by
          refine sumN_congr (fun x hx => ?_)
          show wC a c U (2 ^ M + x) M * (if U.testBit M then _ else (if (2 ^ M + x).testBit M then 0 else 1)) * _ = _
          rw [hU, tb_top hx]
          simp
        rw [this, sumN_mul (fun _ => 0) 0, Nat.mul_zero]
      rw [e2, e3, e4, sum_eq a c U hac M φ]
      show _ = _ * (wO U M * (if U.testBit M then 1 else 10))
      rw [hU]
      simp only [Bool.false_eq_true, if_false, Nat.add_zero]
      rw [← Nat.mul_add, Nat.add_comm c a, hac, Nat.mul_assoc]
    · have e2 : sumN (fun x => wR a c (2 ^ M + x) (M + 1) * φ (U &&& (2 ^ M + x))) (2 ^ M) = sumN (fun x => wR a c x M * φ (2 ^ M + (U &&& x))) (2 ^ M) * a := by
        rw [← sumN_mul]
        refine sumN_congr (fun x hx => ?_)
        show wR a c (2 ^ M + x) M * (if (2 ^ M + x).testBit M then a else c) * _ = _
        rw [tb_top hx, and_top hx hU, wR_congr (fun r hr => tb_lo hr)]
        simp [Nat.mul_right_comm]
      have e3 : sumN (fun y => wC a c U y (M + 1) * φ y) (2 ^ M) = sumN (fun y => wC a c U y M * φ y) (2 ^ M) * c := by
        rw [← sumN_mul]
        refine sumN_congr (fun x hx => ?_)
        show wC a c U x M * (if U.testBit M then (if x.testBit M then a else c) else _) * _ = _
        rw [hU, low x hx]
        simp [Nat.mul_right_comm]
      have e4 : sumN (fun x => wC a c U (2 ^ M + x) (M + 1) * φ (2 ^ M + x)) (2 ^ M) = sumN (fun x => wC a c U x M * φ (2 ^ M + x)) (2 ^ M) * a := by
        rw [← sumN_mul]
        refine sumN_congr (fun x hx => ?_)
        show wC a c U (2 ^ M + x) M * (if U.testBit M then (if (2 ^ M + x).testBit M then a else c) else _) * _ = _
        rw [hU, tb_top hx, wC_congr (fun r hr => tb_lo hr)]
        simp [Nat.mul_right_comm]
      rw [e2, e3, e4, sum_eq a c U hac M φ, sum_eq a c U hac M (fun y => φ (2 ^ M + y))]
      show _ = _ * (wO U M * (if U.testBit M then 1 else 10))
      rw [hU]
      simp only [if_true, Nat.mul_one]
      rw [Nat.add_mul, Nat.mul_right_comm, Nat.mul_right_comm _ (wO U M) a]
theorem wO_eq (U : Nat) : ∀ M, wO U M * 10 ^ cnt (fun k => U.testBit k) M = 10 ^ M
  | 0 => rfl
  | M + 1 => by
    have ih := wO_eq U M
    show wO U M * (if U.testBit M then 1 else 10) * 10 ^ (cnt (fun k => U.testBit k) M + (if U.testBit M then 1 else 0)) = 10 ^ (M + 1)
    cases U.testBit M
    · simp only [Bool.false_eq_true, if_false, Nat.add_zero]
      rw [Nat.mul_right_comm, ih, Nat.pow_succ]
    · simp only [if_true, Nat.mul_one]
      rw [Nat.pow_succ, ← Nat.mul_assoc, ih, Nat.pow_succ]
theorem wC_eq {a c U x : Nat} : ∀ M, (∀ r, r < M → x.testBit r = true → U.testBit r = true) → cnt (fun k => x.testBit k) M ≤ cnt (fun k => U.testBit k) M ∧ wC a c U x M = a ^ cnt (fun k => x.testBit k) M * c ^ (cnt (fun k => U.testBit k) M - cnt (fun k => x.testBit k) M)
  | 0, _ => ⟨Nat.le_refl _, rfl⟩
  | M + 1, h => by
    obtain ⟨h1, h2⟩ := wC_eq (a := a) (c := c) M (fun r hr => h r (by omega))
    have hM := h M (by omega)
    show cnt (fun k => x.testBit k) M + (if x.testBit M then 1 else 0) ≤ cnt (fun k => U.testBit k) M + (if U.testBit M then 1 else 0) ∧ wC a c U x M * (if U.testBit M then (if x.testBit M then a else c) else (if x.testBit M then 0 else 1)) = a ^ (cnt (fun k => x.testBit k) M + (if x.testBit M then 1 else 0)) * c ^ (cnt (fun k => U.testBit k) M + (if U.testBit M then 1 else 0) - (cnt (fun k => x.testBit k) M + (if x.testBit M then 1 else 0)))
    generalize cnt (fun k => x.testBit k) M = u at *
    generalize cnt (fun k => U.testBit k) M = v at *
    cases hx : x.testBit M
    · cases U.testBit M
      · simp only [Bool.false_eq_true, if_false, Nat.add_zero, Nat.mul_one]
        exact ⟨h1, h2⟩
      · simp only [Bool.false_eq_true, if_false, if_true, Nat.add_zero]
        rw [h2, show v + 1 - u = v - u + 1 by omega, Nat.pow_succ, Nat.mul_assoc]
        exact ⟨by omega, rfl⟩
    · rw [hM hx]
      simp only [if_true]
      rw [h2, show v + 1 - (u + 1) = v - u by omega, Nat.pow_succ, Nat.mul_right_comm]
      exact ⟨by omega, rfl⟩
theorem wC_zero {a c U x : Nat} : ∀ M, (∃ r, r < M ∧ x.testBit r = true ∧ U.testBit r = false) → wC a c U x M = 0
  | 0, h => by obtain ⟨r, h, _⟩ := h; omega
  | M + 1, h => by
    obtain ⟨r, hr, h1, h2⟩ := h
    show wC a c U x M * _ = 0
    by_cases e : r = M
    · subst e
      rw [h1, h2]
      rfl
    · rw [wC_zero M ⟨r, by omega, h1, h2⟩, Nat.zero_mul]
theorem mod2 {y r : Nat} (h : r ≤ y) (h0 : 0 < r) : 2 * (y % r) < y := by
  have h1 := Nat.mod_lt y h0
  by_cases e : 2 * r ≤ y
  · omega
  · rw [Nat.mod_eq_sub_mod h, Nat.mod_eq_of_lt (by omega)]
    omega
theorem cnt_more {f : Nat → Bool} {M : Nat} (h : ∀ k, M ≤ k → f k = false) : ∀ d, cnt f (M + d) = cnt f M
  | 0 => rfl
  | d + 1 => by
    show cnt f (M + d) + (if f (M + d) then 1 else 0) = cnt f M
    rw [h (M + d) (by omega), cnt_more h d]
    rfl
theorem pop_M {x M : Nat} (hM : M ≤ 9) (hx : x < 2 ^ M) : pop x = cnt (fun k => x.testBit k) M := by
  have := cnt_more (f := fun k => x.testBit k) (M := M) (fun k hk => Nat.testBit_lt_two_pow (Nat.lt_of_lt_of_le hx (Nat.pow_le_pow_right (by omega) hk))) (9 - M)
  rw [show M + (9 - M) = 9 by omega] at this
  exact this
theorem wR_le {a c x : Nat} (ha : a ≤ 10) (hc : c ≤ 10) : ∀ M, wR a c x M ≤ 10 ^ M
  | 0 => Nat.le_refl _
  | M + 1 => by
    show wR a c x M * (if x.testBit M then a else c) ≤ 10 ^ (M + 1)
    rw [Nat.pow_succ]
    exact Nat.mul_le_mul (wR_le ha hc M) (by split <;> assumption)
theorem sumN_le {f : Nat → Nat} {K : Nat} (h : ∀ x, f x ≤ K) : ∀ n, sumN f n ≤ n * K
  | 0 => by rw [Nat.zero_mul]; exact Nat.le_refl _
  | n + 1 => by
    have := sumN_le h n
    have := h n
    show sumN f n + f n ≤ (n + 1) * K
    rw [Nat.add_mul, Nat.one_mul]
    omega
theorem l_z {a : Nat} (ha : a < 9223372036854775808) : (lg_cmp (nL a) (0 : Int64) = 0) ↔ a = 0 := by
  have h0 : (0 : Int64) = nL 0 := rfl
  unfold lg_cmp
  rw [h0]
  by_cases h : a = 0
  · subst h
    exact ⟨fun _ => rfl, fun _ => by decide⟩
  · have hg : nL a > nL 0 := by
      show nL 0 < nL a
      rw [Int64.lt_iff_toInt_lt, l_toInt ha, l_toInt (by omega)]
      omega
    rw [if_pos hg]
    exact ⟨fun q => absurd q (by decide), fun q => absurd q h⟩
theorem l_pos {a : Nat} (ha : a < 9223372036854775808) : (0 < lg_cmp (nL a) (0 : Int64)) ↔ 0 < a := by
  rw [lg_gt, l_toInt ha]
  show (0 : Int) < _ ↔ _
  omega
section SNO
variable {N : Nat} {σ : fr_St} {z : Nat → Nat} {B : Nat}
theorem gd_cls (σ : fr_St) : ∀ (k x y t n : Nat), y < 2 ^ k → k < 40 → x < 9223372036854775808 → t + 2 * k < 100 → 2 * k < n → ∃ u, L_X5_commonDivisor_9 n (nL x) (nL y) (nI t) σ = some (nL (Nat.gcd x y), nL 0, u, σ) := by
  have hz : ∀ (n x t : Nat), t < 100 → ∃ u, L_X5_commonDivisor_9 (n + 1) (nL x) (nL 0) (nI t) σ = some (nL (Nat.gcd x 0), nL 0, u, σ) := fun n x t ht => ⟨nI t, by rw [L_X5_commonDivisor_9, if_neg (show ¬ (100 : Int32) ≤ nI t from fun q => absurd ((i_le (a := 100) (by omega) (by omega)).mp q) (by omega)), if_pos ((l_z (by omega)).mpr rfl), Nat.gcd_zero_right]⟩
  have hst : ∀ (n x y t : Nat), t < 100 → x < 9223372036854775808 → y < 9223372036854775808 → y ≠ 0 → L_X5_commonDivisor_9 (n + 1) (nL x) (nL y) (nI t) σ = L_X5_commonDivisor_9 n (nL y) (nL (x % y)) (nI (t + 1)) σ := fun n x y t ht hx hy h0 => by
    rw [L_X5_commonDivisor_9, if_neg (show ¬ (100 : Int32) ≤ nI t from fun q => absurd ((i_le (a := 100) (by omega) (by omega)).mp q) (by omega)), if_neg (fun q => h0 ((l_z hy).mp q)), if_neg (show ¬ nL y = (0 : Int64) from fun q => h0 ((l_eq (b := 0) hy (by omega)).mp q)), fr_let_eq, fr_let_eq, l_rem hx hy, nI_1]
  intro k
  induction k with
  | zero =>
    intro x y t n hy hk hx ht hn
    obtain ⟨n, rfl⟩ : ∃ m, n = m + 1 := ⟨n - 1, by omega⟩
    have : y = 0 := by rw [Nat.pow_zero] at hy; omega
    subst this
    exact hz n x t (by omega)
  | succ k ih =>
    intro x y t n hy hk hx ht hn
    obtain ⟨n, rfl⟩ : ∃ m, n = m + 1 + 1 := ⟨n - 2, by omega⟩
    have hp : 2 ^ (k + 1) ≤ 2 ^ 40 := Nat.pow_le_pow_right (by omega) (by omega)
    by_cases h0 : y = 0
    · subst h0
      exact hz _ x t (by omega)
    · rw [hst _ x y t (by omega) hx (by omega) h0, show Nat.gcd x y = Nat.gcd y (x % y) by rw [Nat.gcd_comm x y, Nat.gcd_rec, Nat.gcd_comm]]
      by_cases h1 : x % y = 0
      · rw [h1]
        exact hz _ y (t + 1) (by omega)
      · have hl : x % y < y := Nat.mod_lt x (by omega)
        have hm := mod2 (y := y) (r := x % y) (by omega) (by omega)
        rw [Nat.pow_succ] at hy
        rw [hst _ y (x % y) (t + 1) (by omega) (by omega) (by omega) h1, show Nat.gcd y (x % y) = Nat.gcd (x % y) (y % (x % y)) by rw [Nat.gcd_comm y, Nat.gcd_rec (x % y), Nat.gcd_comm]]
        exact ih (x % y) (y % (x % y)) (t + 1 + 1) n (by omega) (by omega) (by omega) (by omega) (by omega)
theorem gd_ref (σ : fr_St) : ∀ (k x y n : Nat), y < 2 ^ k → k < 40 → x < 9223372036854775808 → 2 * k < n → L_X8_snow_209 n (nL x) (nL y) σ = some (nL (Nat.gcd x y), nL 0, σ) := by
  have hz : ∀ (n x : Nat), L_X8_snow_209 (n + 1) (nL x) (nL 0) σ = some (nL (Nat.gcd x 0), nL 0, σ) := fun n x => by rw [L_X8_snow_209, if_pos ((l_z (by omega)).mpr rfl), Nat.gcd_zero_right]
  have hst : ∀ (n x y : Nat), x < 9223372036854775808 → y < 9223372036854775808 → y ≠ 0 → L_X8_snow_209 (n + 1) (nL x) (nL y) σ = L_X8_snow_209 n (nL y) (nL (x % y)) σ := fun n x y hx hy h0 => by
    rw [L_X8_snow_209, if_neg (fun q => h0 ((l_z hy).mp q)), if_neg (show ¬ nL y = (0 : Int64) from fun q => h0 ((l_eq (b := 0) hy (by omega)).mp q)), fr_let_eq, l_rem hx hy]
  intro k
  induction k with
  | zero =>
    intro x y n hy hk hx hn
    obtain ⟨n, rfl⟩ : ∃ m, n = m + 1 := ⟨n - 1, by omega⟩
    have : y = 0 := by rw [Nat.pow_zero] at hy; omega
    subst this
    exact hz n x
  | succ k ih =>
    intro x y n hy hk hx hn
    obtain ⟨n, rfl⟩ : ∃ m, n = m + 1 + 1 := ⟨n - 2, by omega⟩
    have hp : 2 ^ (k + 1) ≤ 2 ^ 40 := Nat.pow_le_pow_right (by omega) (by omega)
    by_cases h0 : y = 0
    · subst h0
      exact hz _ x
    · rw [hst _ x y hx (by omega) h0, show Nat.gcd x y = Nat.gcd y (x % y) by rw [Nat.gcd_comm x y, Nat.gcd_rec, Nat.gcd_comm]]
      by_cases h1 : x % y = 0
      · rw [h1]
        exact hz _ y
      · have hl : x % y < y := Nat.mod_lt x (by omega)
        have hm := mod2 (y := y) (r := x % y) (by omega) (by omega)
        rw [Nat.pow_succ] at hy
        rw [hst _ y (x % y) (by omega) (by omega) h1, show Nat.gcd y (x % y) = Nat.gcd (x % y) (y % (x % y)) by rw [Nat.gcd_comm y, Nat.gcd_rec (x % y), Nat.gcd_comm]]
        exact ih (x % y) (y % (x % y)) n (by omega) (by omega) (by omega) (by omega)
theorem pw_eq {b k : Nat} (hb : b < 1000) (hk : k < 1000) (σ : fr_St) : F_X5_power (nI b) (nI k) σ = some (nL (b ^ k), σ) := by
  have key : ∀ (m j n : Nat), j + m = k → m < n → L_X5_power_5 (nI b) (nI k) n (nL (b ^ j)) (nI j) σ = some (nL (b ^ k), nI k, σ) := by
    intro m
    induction m with
    | zero =>
      intro j n hj hn
      obtain ⟨n, rfl⟩ : ∃ m, n = m + 1 := ⟨n - 1, by omega⟩
      have hj : j = k := by omega
      rw [L_X5_power_5, hj, if_pos ((i_le (by omega) (by omega)).mpr (Nat.le_refl _))]
    | succ m ih =>
      intro j n hj hn
      obtain ⟨n, rfl⟩ : ∃ m, n = m + 1 := ⟨n - 1, by omega⟩
      rw [← ih (j + 1) n (by omega) (by omega), L_X5_power_5, if_neg (fun q => absurd ((i_le (by omega) (by omega)).mp q) (by omega)), fr_let_eq, fr_let_eq, show (nI b).toInt64 = nL b from l_of (by omega), l_mul, nI_1, Nat.pow_succ]
  unfold F_X5_power
  rw [show L_X5_power_5 (nI b) (nI k) fr_fu (1 : Int64) (0 : Int32) σ = _ from key k 0 fr_fu (by omega) (by have := fr_fu_big; omega)]
  rfl
def phi (z : Nat → Nat) (f p y : Nat) : Nat := if (rch z y f).testBit p then 1 else 0
theorem phi_le (f p y : Nat) : phi z f p y ≤ 1 := by unfold phi; split <;> omega
theorem sn_cls (hc : CR z (σ 16)) (hw : WFl z B) (hE : ∀ k, k < z 2 → σ 46 k = nI (2 ^ z (23 + k) ||| 2 ^ z (32 + k))) {U f p c : Nat} (hU : U < 2 ^ z 2) (hf : f < 8) (hp : p < 8) (hc10 : c ≤ 10) : ∀ (m x n : Nat), x + m = 2 ^ z 2 → m < n → L_X5_snowOdds_37 (nI p) (nI c) (nI f) (nI U) (nI (pop U)) n (nL (sumN (fun y => wC (10 - c) c U y (z 2) * phi z f p y) x)) (nI x) σ = some (nL (sumN (fun y => wC (10 - c) c U y (z 2) * phi z f p y) (2 ^ z 2)), nI (2 ^ z 2), σ) := by
  have h2 := hw.2.2.2.2.1
  have hM : 2 ^ z 2 ≤ 2 ^ 9 := Nat.pow_le_pow_right (by omega) h2
  intro m
  induction m with
  | zero =>
    intro x n hj hn
    obtain ⟨n, rfl⟩ : ∃ m, n = m + 1 := ⟨n - 1, by omega⟩
    have hj : x = 2 ^ z 2 := by omega
    rw [L_X5_snowOdds_37, cl_roads (o := 15) hc, fr_bP_mk, show (1 : Int32) <<< (nI (z 2) &&& 31) = nI (2 ^ z 2) from i_shl (by omega), hj, if_pos ((i_le (by omega) (by omega)).mpr (Nat.le_refl _))]
  | succ m ih =>
    intro x n hj hn
    obtain ⟨n, rfl⟩ : ∃ m, n = m + 1 := ⟨n - 1, by omega⟩
    have hx : x < 512 := by omega
    have hU9 : U < 512 := by omega
    rw [← ih (x + 1) n (by omega) (by omega), L_X5_snowOdds_37, cl_roads (o := 15) hc, fr_bP_mk, show (1 : Int32) <<< (nI (z 2) &&& 31) = nI (2 ^ z 2) from i_shl (by omega), if_neg (fun q => absurd ((i_le (by omega) (by omega)).mp q) (by omega)), i_andn hx]
    show _ = L_X5_snowOdds_37 (nI p) (nI c) (nI f) (nI U) (nI (pop U)) n (nL (sumN (fun y => wC (10 - c) c U y (z 2) * phi z f p y) x + wC (10 - c) c U x (z 2) * phi z f p x)) (nI (x + 1)) σ
    have hsl := sdf_lt x U
    have hpx := pop_le x
    have hpU := pop_le U
    by_cases e0 : sdf x U = 0
    · have hsub : ∀ r, r < z 2 → x.testBit r = true → U.testBit r = true := fun r _ hr => by
        have := sdf_bit (U := U) hx r
        rw [e0, Nat.zero_testBit, hr] at this
        revert this
        cases U.testBit r <;> decide
      obtain ⟨w1, w2⟩ := wC_eq (a := 10 - c) (c := c) (z 2) hsub
      rw [← pop_M h2 (show x < 2 ^ z 2 by omega), ← pop_M h2 hU] at w1 w2
      rw [if_pos (show nI (sdf x U) = (0 : Int32) by rw [e0]; rfl), cl_reaches hc hw hE hx hf hp, fr_bP_mk]
      cases e2 : (rch z x f).testBit p
      · have ep : phi z f p x = 0 := by unfold phi; rw [e2]; rfl
        rw [if_pos (show fr_bi false = 0 from rfl), fr_bP_mk, fr_let_eq, nI_1, ep, Nat.mul_zero]
        rfl
      · have ep : phi z f p x = 1 := by unfold phi; rw [e2]; rfl
        rw [if_neg fr_nb, bc_eq hx, fr_bP_mk, show (10 : Int32) = nI 10 from rfl, i_sub hc10, pw_eq (by omega) (by omega), fr_bP_mk, i_sub w1, pw_eq (by omega) (by omega), fr_bP_mk, fr_let_eq, fr_bP_mk, fr_let_eq, nI_1, l_mul, l_add, ep, Nat.mul_one, w2]
    · have e1 : wC (10 - c) c U x (z 2) = 0 := by
        refine wC_zero (z 2) ?_
        apply Decidable.byContradiction
        intro hno
        apply e0
        rw [sdf_0 hx]
        apply Nat.eq_of_testBit_eq
        intro i
        rw [Nat.testBit_and]
        by_cases hi : i < z 2
        · cases hxi : x.testBit i
          · rfl
          · cases hUi : U.testBit i
            · exact absurd ⟨i, hi, hxi, hUi⟩ hno
            · rfl
        · rw [Nat.testBit_lt_two_pow (Nat.lt_of_lt_of_le (show x < 2 ^ z 2 by omega) (Nat.pow_le_pow_right (by omega) (by omega)))]
          rfl
      rw [if_neg (show ¬ nI (sdf x U) = (0 : Int32) from fun q => e0 ((i_eq (b := 0) (by omega) (by omega)).mp q)), fr_bP_mk, fr_let_eq, nI_1, e1, Nat.zero_mul]
      rfl
theorem sn_part (hr : RR z (σ 63)) (hw : WFl z B) {x c : Nat} (hx : x < 512) (hc : c ≤ 10) : L_X8_snow_110 (nI c) (nI x) fr_fu (1 : Int64) (0 : Int32) σ = some (nL (wR (10 - c) c x (z 2)), nI (z 2), σ) := by
  have h2 := hw.2.2.2.2.1
  have key : ∀ (m j n : Nat), j + m = z 2 → m < n → L_X8_snow_110 (nI c) (nI x) n (nL (wR (10 - c) c x j)) (nI j) σ = some (nL (wR (10 - c) c x (z 2)), nI (z 2), σ) := by
    intro m
    induction m with
    | zero =>
      intro j n hj hn
      obtain ⟨n, rfl⟩ : ∃ m, n = m + 1 := ⟨n - 1, by omega⟩
      have hj : j = z 2 := by omega
      rw [L_X8_snow_110, hr.1 2 (by omega), hj, if_pos ((i_le (by omega) (by omega)).mpr (Nat.le_refl _))]
    | succ m ih =>
      intro j n hj hn
      obtain ⟨n, rfl⟩ : ∃ m, n = m + 1 := ⟨n - 1, by omega⟩
      rw [← ih (j + 1) n (by omega) (by omega), L_X8_snow_110, hr.1 2 (by omega), if_neg (fun q => absurd ((i_le (by omega) (by omega)).mp q) (by omega)), rf_has hx (by omega), fr_bP_mk, show (10 : Int32) = nI 10 from rfl, i_sub hc, show (nI c).toInt64 = nL c from l_of (by omega), show (nI (10 - c)).toInt64 = nL (10 - c) from l_of (by omega)]
      show _ = L_X8_snow_110 (nI c) (nI x) n (nL (wR (10 - c) c x j * (if x.testBit j then 10 - c else c))) (nI (j + 1)) σ
      cases x.testBit j
      · rw [if_pos (show fr_bi false = 0 from rfl), fr_bS_mk, fr_let_eq, fr_let_eq, l_mul, nI_1]
        rfl
      · rw [if_neg fr_nb, fr_bS_mk, fr_let_eq, fr_let_eq, l_mul, nI_1]
        rfl
  exact key (z 2) 0 fr_fu (by omega) (by have := fr_fu_big; omega)
theorem sn_ref (hr : RR z (σ 63)) (hw : WFl z B) {U q p c : Nat} (hU : U < 2 ^ z 2) (hq : q < 4) (hf : z (6 + q) < 8) (hp : p < 8) (hc10 : c ≤ 10) : ∀ (m x n : Nat), x + m = 2 ^ z 2 → m < n → L_X8_snow_91 (nI q) (nI p) (nI c) (nI U) n (nL (sumN (fun y => wR (10 - c) c y (z 2) * phi z (z (6 + q)) p (U &&& y)) x)) (nI x) σ = some (nL (sumN (fun y => wR (10 - c) c y (z 2) * phi z (z (6 + q)) p (U &&& y)) (2 ^ z 2)), nI (2 ^ z 2), σ) := by
  have h2 := hw.2.2.2.2.1
  have hM : 2 ^ z 2 ≤ 2 ^ 9 := Nat.pow_le_pow_right (by omega) h2
  have hT : 10 ^ z 2 ≤ 10 ^ 9 := Nat.pow_le_pow_right (by omega) h2
  intro m
  induction m with
  | zero =>
    intro x n hj hn
    obtain ⟨n, rfl⟩ : ∃ m, n = m + 1 := ⟨n - 1, by omega⟩
    have hj : x = 2 ^ z 2 := by omega
    rw [L_X8_snow_91, hr.1 2 (by omega), show (1 : Int32) <<< (nI (z 2) &&& 31) = nI (2 ^ z 2) from i_shl (by omega), hj, if_pos ((i_le (by omega) (by omega)).mpr (Nat.le_refl _))]
  | succ m ih =>
    intro x n hj hn
    obtain ⟨n, rfl⟩ : ∃ m, n = m + 1 := ⟨n - 1, by omega⟩
    have hx : x < 512 := by omega
    have hwl := wR_le (a := 10 - c) (c := c) (x := x) (by omega) hc10 (z 2)
    rw [← ih (x + 1) n (by omega) (by omega), L_X8_snow_91, hr.1 2 (by omega), show (1 : Int32) <<< (nI (z 2) &&& 31) = nI (2 ^ z 2) from i_shl (by omega), if_neg (fun q => absurd ((i_le (by omega) (by omega)).mp q) (by omega)), sn_part hr hw hx hc10, fr_bP_mk, fr_pP_mk]
    show _ = L_X8_snow_91 (nI q) (nI p) (nI c) (nI U) n (nL (sumN (fun y => wR (10 - c) c y (z 2) * phi z (z (6 + q)) p (U &&& y)) x + wR (10 - c) c x (z 2) * phi z (z (6 + q)) p (U &&& x))) (nI (x + 1)) σ
    have hq0 := l_pos (a := wR (10 - c) c x (z 2)) (by omega)
    by_cases e0 : wR (10 - c) c x (z 2) = 0
    · rw [if_pos (show lg_cmp (nL (wR (10 - c) c x (z 2))) (0 : Int64) ≤ 0 by rw [e0]; decide), fr_bP_mk, fr_let_eq, fr_let_eq, show (0 : Int64) = nL 0 from rfl, l_add, nI_1, e0, Nat.zero_mul]
    · have hl := rch_lt hw (U := U &&& x) hf
      rw [if_neg (show ¬ lg_cmp (nL (wR (10 - c) c x (z 2))) (0 : Int64) ≤ 0 from Int32.not_le.mpr (hq0.mpr (by omega))), show (6 : Int32) = nI 6 from rfl, i_add, i_chk (by omega) (by omega), i_ix (by omega), hr.1 (6 + q) (by omega), i_and, rf_reachBy hr hw (Nat.lt_of_le_of_lt Nat.and_le_left hU) hf, fr_bP_mk, rf_has (by omega) (by omega), fr_bP_mk]
      cases e2 : (rch z (U &&& x) (z (6 + q))).testBit p
      · have ep : phi z (z (6 + q)) p (U &&& x) = 0 := by unfold phi; rw [e2]; rfl
        rw [if_pos (show fr_bi false = 0 from rfl), fr_bP_mk, fr_let_eq, fr_let_eq, nI_1, ep, Nat.mul_zero, show (0 : Int64) = nL 0 from rfl, l_add]
      · have ep : phi z (z (6 + q)) p (U &&& x) = 1 := by unfold phi; rw [e2]; rfl
        rw [if_neg fr_nb, fr_bP_mk, fr_let_eq, fr_let_eq, nI_1, l_add, ep, Nat.mul_one]
theorem sn_below (hr : RR z (σ 63)) (hz2 : z 2 ≤ 9) : L_X8_snow_63 fr_fu (1 : Int64) (0 : Int32) σ = some (nL (10 ^ z 2), nI (z 2), σ) := by
  have key : ∀ (m j n : Nat), j + m = z 2 → m < n → L_X8_snow_63 n (nL (10 ^ j)) (nI j) σ = some (nL (10 ^ z 2), nI (z 2), σ) := by
    intro m
    induction m with
    | zero =>
      intro j n hj hn
      obtain ⟨n, rfl⟩ : ∃ m, n = m + 1 := ⟨n - 1, by omega⟩
      have hj : j = z 2 := by omega
      rw [L_X8_snow_63, hr.1 2 (by omega), hj, if_pos ((i_le (by omega) (by omega)).mpr (Nat.le_refl _))]
    | succ m ih =>
      intro j n hj hn
      obtain ⟨n, rfl⟩ : ∃ m, n = m + 1 := ⟨n - 1, by omega⟩
      rw [← ih (j + 1) n (by omega) (by omega), L_X8_snow_63, hr.1 2 (by omega), if_neg (fun q => absurd ((i_le (by omega) (by omega)).mp q) (by omega)), fr_let_eq, fr_let_eq, show (10 : Int64) = nL 10 from rfl, l_mul, nI_1, Nat.pow_succ]
  exact key (z 2) 0 fr_fu (by omega) (by have := fr_fu_big; omega)
theorem st_snow (hN : N ≤ 1000) (h : Rel N σ) (a1 a2 a3 a4 : Int32) : OkL N (F_X7_snow a1 a2 a3 a4) (F_X8_snow a1 a2 a3 a4) σ := by
  obtain ⟨z, hz, hc, hr, h4⟩ := h.2.2.2.1
  obtain ⟨b0, b1, b2, b3, b4⟩ := hz.b
  cases hi : fr_ib a1 (z 3)
  · refine ⟨-1000001, σ, σ, ?_, ?_, h.mono⟩
    · unfold F_X7_snow
      rw [cl_hasPerson (o := 15) hc b3, hi]
      rfl
    · unfold F_X8_snow
      rw [rf_isPerson hr b3, hi]
      rfl
  · cases hj : fr_ib a2 (z 1)
    · refine ⟨-1000001, σ, σ, ?_, ?_, h.mono⟩
      · unfold F_X7_snow
        rw [cl_hasPerson (o := 15) hc b3, hi, fr_bP_mk, if_neg fr_nb, cl_hasPlace (o := 15) hc b1, hj]
        rfl
      · unfold F_X8_snow
        rw [rf_isPerson hr b3, hi, fr_bP_mk, if_neg fr_nb, rf_isPlace hr b1, hj]
        rfl
    · cases h10 : fr_ib a3 11
      · refine ⟨-1000001, σ, σ, ?_, ?_, h.mono⟩
        · unfold F_X7_snow
          rw [cl_hasPerson (o := 15) hc b3, hi, fr_bP_mk, if_neg fr_nb, cl_hasPlace (o := 15) hc b1, hj, fr_bP_mk, if_neg fr_nb, show (10 : Int32) = nI 10 from rfl, cl_in2 (by omega), h10]
          rfl
        · unfold F_X8_snow
          rw [rf_isPerson hr b3, hi, fr_bP_mk, if_neg fr_nb, rf_isPlace hr b1, hj, fr_bP_mk, if_neg fr_nb, rf_in0 (n := 11) a3 rfl, h10]
          rfl
      · cases h3 : fr_ib a4 2
        · refine ⟨-1000001, σ, σ, ?_, ?_, h.mono⟩
          · unfold F_X7_snow
            rw [cl_hasPerson (o := 15) hc b3, hi, fr_bP_mk, if_neg fr_nb, cl_hasPlace (o := 15) hc b1, hj, fr_bP_mk, if_neg fr_nb, show (10 : Int32) = nI 10 from rfl, cl_in2 (by omega), h10, if_pos rfl, cl_zo, h3]
            rfl
          · unfold F_X8_snow
            rw [rf_isPerson hr b3, hi, fr_bP_mk, if_neg fr_nb, rf_isPlace hr b1, hj, fr_bP_mk, if_neg fr_nb, rf_in0 (n := 11) a3 rfl, h10, fr_bP_mk, if_neg fr_nb, rf_in0 (n := 2) a4 rfl, h3]
            rfl
        · obtain ⟨q, hq, rfl⟩ := ib_nI hi
          obtain ⟨p, hp, rfl⟩ := ib_nI hj
          obtain ⟨c, hc11, rfl⟩ := ib_nI h10
          have hw := hz.wf 3 (by omega)
          have hb := hw.2.2.2.2.2.2.2.2.1 q hq
          have hU2 : opm z q < 2 ^ z 2 := opm_lt
          have hM9 : 2 ^ z 2 ≤ 2 ^ 9 := Nat.pow_le_pow_right (by omega) b2
          have hT9 : 10 ^ z 2 ≤ 10 ^ 9 := Nat.pow_le_pow_right (by omega) b2
          have hU : opm z q < 512 := by omega
          have hfu := fr_fu_big
          obtain ⟨s, k1, k2, k3⟩ := cl_noteEnds hc hw
          have hc1 : CR z (s 16) := by rw [k2 16 (by omega)]; exact hc
          have hr1 : RR z (s 63) := by rw [k2 63 (by omega)]; exact hr
          have hl1 := sn_cls hc1 hw k3 (U := opm z q) (f := z (6 + q)) (p := p) (c := c) hU2 (by omega) (by omega) (by omega) (2 ^ z 2) 0 fr_fu (by omega) (by omega)
          have hl2 := sn_ref hr1 hw (U := opm z q) (q := q) (p := p) (c := c) hU2 (by omega) (by omega) (by omega) (by omega) (2 ^ z 2) 0 fr_fu (by omega) (by omega)
          have hse := sum_eq (10 - c) c (opm z q) (by omega) (z 2) (phi z (z (6 + q)) p)
          have hwo := wO_eq (opm z q) (z 2)
          rw [← pop_M b2 hU2] at hwo
          have hpU := pop_le (opm z q)
          have hP9 : 10 ^ pop (opm z q) ≤ 10 ^ 9 := Nat.pow_le_pow_right (by omega) hpU
          have hP0 : 0 < 10 ^ pop (opm z q) := Nat.pow_pos (by omega)
          have hsl : sumN (fun y => wR (10 - c) c y (z 2) * phi z (z (6 + q)) p (opm z q &&& y)) (2 ^ z 2) ≤ 2 ^ z 2 * (10 ^ z 2 * 1) := sumN_le (fun x => Nat.mul_le_mul (wR_le (by omega) (by omega) _) (phi_le _ _ _)) _
          have hsl2 : 2 ^ z 2 * (10 ^ z 2 * 1) ≤ 2 ^ 9 * (10 ^ 9 * 1) := Nat.mul_le_mul hM9 (Nat.mul_le_mul hT9 (Nat.le_refl _))
          generalize hA : sumN (fun y => wC (10 - c) c (opm z q) y (z 2) * phi z (z (6 + q)) p y) (2 ^ z 2) = A at hl1 hse
          generalize hR : sumN (fun y => wR (10 - c) c y (z 2) * phi z (z (6 + q)) p (opm z q &&& y)) (2 ^ z 2) = R at hl2 hse hsl
          generalize hO : wO (opm z q) (z 2) = O at hse hwo
          have hO0 : 0 < O := by
            rcases Nat.eq_zero_or_pos O with e | e
            · rw [e, Nat.zero_mul] at hwo
              have : 0 < 10 ^ z 2 := Nat.pow_pos (by omega)
              omega
            · exact e
          have hAR : A ≤ R := by rw [hse]; exact Nat.le_mul_of_pos_right A hO0
          generalize hPp : 10 ^ pop (opm z q) = P at hwo hP9 hP0
          have hR1 : R < 9223372036854775808 := by omega
          obtain ⟨u, hg1⟩ := gd_cls s 30 A P 0 fr_fu (by omega) (by omega) (by omega) (by omega) (by omega)
          have hg2 := gd_ref s 30 R (10 ^ z 2) fr_fu (by omega) (by omega) (by omega) (by omega)
          have hg : Nat.gcd R (10 ^ z 2) = Nat.gcd A P * O := by
            rw [hse, ← hwo, Nat.mul_comm O P]
            exact Nat.gcd_mul_right A O P
          have hgp : 0 < Nat.gcd A P := Nat.gcd_pos_of_pos_right A hP0
          have hgl : Nat.gcd A P ≤ P := Nat.gcd_le_right A hP0
          have hgl2 : Nat.gcd R (10 ^ z 2) ≤ 10 ^ z 2 := Nat.gcd_le_right R (Nat.pow_pos (by omega))
          have hgp2 : 0 < Nat.gcd R (10 ^ z 2) := Nat.gcd_pos_of_pos_right R (Nat.pow_pos (by omega))
          have d1 : R / Nat.gcd R (10 ^ z 2) = A / Nat.gcd A P := by rw [hg, hse, Nat.mul_div_mul_right _ _ hO0]
          have d2 : 10 ^ z 2 / Nat.gcd R (10 ^ z 2) = P / Nat.gcd A P := by rw [hg, ← hwo, Nat.mul_comm O P, Nat.mul_div_mul_right _ _ hO0]
          refine ⟨if a4 = 0 then nL (A / Nat.gcd A P) else nL (P / Nat.gcd A P), s, s, ?_, ?_, (Rel_scr h (fun a ha => k2 a (fun q => ha (by unfold scr; omega)))).mono⟩
          · unfold F_X7_snow F_X5_snowOdds F_X5_commonDivisor
            rw [cl_hasPerson (o := 15) hc b3, hi, fr_bP_mk, if_neg fr_nb, cl_hasPlace (o := 15) hc b1, hj, fr_bP_mk, if_neg fr_nb, show (10 : Int32) = nI 10 from rfl, cl_in2 (by omega), h10, if_pos rfl, cl_zo, h3, fr_bP_mk, if_neg fr_nb, cl_placeOf (o := 15) hc (by omega), fr_bP_mk, cl_openTo (o := 15) hc hw (by omega) hq, fr_bP_mk, bc_eq hU, fr_bP_mk, k1, fr_bS_mk]
            rw [show L_X5_snowOdds_37 (nI p) (nI c) (nI (z (6 + q))) (nI (opm z q)) (nI (pop (opm z q))) fr_fu (0 : Int64) (0 : Int32) s = _ from hl1, fr_bP_mk, fr_pP_mk, pw_eq (by omega) (by omega), fr_bP_mk, hPp, show L_X5_commonDivisor_9 fr_fu (nL A) (nL P) (0 : Int32) s = _ from hg1, fr_bP_mk, fr_pP_mk, fr_pP_mk, fr_bP_mk, if_pos ((l_pos (by omega)).mpr hgp), if_neg (show ¬ nL (Nat.gcd A P) = (0 : Int64) from fun q => absurd ((l_eq (b := 0) (by omega) (by omega)).mp q) (by omega)), if_neg (show ¬ nL (Nat.gcd A P) = (0 : Int64) from fun q => absurd ((l_eq (b := 0) (by omega) (by omega)).mp q) (by omega)), l_div (by omega) (by omega), l_div (by omega) (by omega)]
            rcases ib01 h3 with rfl | rfl <;> rfl
          · unfold F_X8_snow
            rw [rf_isPerson hr1 b3, hi, fr_bP_mk, if_neg fr_nb, rf_isPlace hr1 b1, hj, fr_bP_mk, if_neg fr_nb, rf_in0 (n := 11) (nI c) rfl, h10, fr_bP_mk, if_neg fr_nb, rf_in0 (n := 2) a4 rfl, h3, fr_bP_mk, if_neg fr_nb, rf_soleOf hr1 (by omega), fr_bP_mk, rf_openTo hr1 hw (by omega) (by omega), fr_bP_mk, sn_below hr1 b2, fr_bP_mk, fr_pP_mk]
            rw [show L_X8_snow_91 (nI q) (nI p) (nI c) (nI (msk (fun k => opn z k (z (10 + q)) (z 4)) (z 2))) fr_fu (0 : Int64) (0 : Int32) s = _ from hl2, fr_bP_mk, fr_pP_mk, hg2, fr_bP_mk, fr_pP_mk, if_neg (show ¬ nL (Nat.gcd R (10 ^ z 2)) = (0 : Int64) from fun q => absurd ((l_eq (b := 0) (by omega) (by omega)).mp q) (by omega)), if_neg (show ¬ nL (Nat.gcd R (10 ^ z 2)) = (0 : Int64) from fun q => absurd ((l_eq (b := 0) (by omega) (by omega)).mp q) (by omega)), l_div (by omega) (by omega), l_div (by omega) (by omega), d1, d2]
            rcases ib01 h3 with rfl | rfl <;> rfl
end SNO
