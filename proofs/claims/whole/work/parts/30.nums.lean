/-! ===== numbers: everything as nI of a natural number ===== -/
theorem i_lit (n : Nat) : (OfNat.ofNat n : Int32) = nI n := rfl
theorem i_neg1 : (-1 : Int32) = -nI 1 := rfl
theorem i_lt {a b : Nat} (ha : a < 2147483648) (hb : b < 2147483648) : nI a < nI b ↔ a < b := nI_ltI ha hb
theorem i_le {a b : Nat} (ha : a < 2147483648) (hb : b < 2147483648) : nI a ≤ nI b ↔ a ≤ b := nI_leI ha hb
theorem i_eq {a b : Nat} (ha : a < 2147483648) (hb : b < 2147483648) : nI a = nI b ↔ a = b := nI_eq ha hb
theorem i_add (a b : Nat) : nI a + nI b = nI (a + b) := nI_add a b
theorem i_mul (a b : Nat) : nI a * nI b = nI (a * b) := pk_mul a b
theorem i_sub {a b : Nat} (h : b ≤ a) : nI a - nI b = nI (a - b) := pk_sub h
theorem i_div {a d : Nat} (ha : a < 2147483648) (h0 : 0 < d) (hd : d < 2147483648) : nI a / nI d = nI (a / d) := pk_div ha h0 hd
theorem i_rem {a d : Nat} (ha : a < 2147483648) (h0 : 0 < d) (hd : d < 2147483648) : nI a - nI a / nI d * nI d = nI (a % d) := pk_rem ha h0 hd
theorem i_ix {a : Nat} (ha : a < 2147483648) : fr_ix (nI a) = a := nI_clamp ha
theorem i_ib {a n : Nat} (ha : a < 2147483648) : fr_ib (nI a) n = decide (a < n) := by
  unfold fr_ib
  rw [nI_toInt ha]
  congr 1
  apply propext
  omega
theorem i_toInt {a : Nat} (ha : a < 2147483648) : (nI a).toInt = (a : Int) := nI_toInt ha
theorem i_lt_iff (x y : Int32) : x < y ↔ x.toInt < y.toInt := Int32.lt_iff_toInt_lt
theorem i_le_iff (x y : Int32) : x ≤ y ↔ x.toInt ≤ y.toInt := Int32.le_iff_toInt_le
theorem i_eq_iff (x y : Int32) : x = y ↔ x.toInt = y.toInt := Int32.toInt_inj.symm
/-- a number that passed 'not below 0, below n' -/
theorem i_of {x : Int32} {n : Nat} (h0 : ¬ x < 0) (h1 : ¬ nI n ≤ x) (hn : n < 2147483648) : ∃ k, k < n ∧ x = nI k := by
  have a : ¬ x.toInt < (0 : Int32).toInt := fun q => h0 ((i_lt_iff x 0).mpr q)
  have b : ¬ (nI n).toInt ≤ x.toInt := fun q => h1 ((i_le_iff (nI n) x).mpr q)
  rw [i_toInt hn] at b
  have z : (0 : Int32).toInt = 0 := rfl
  rw [z] at a
  refine ⟨x.toInt.toNat, by omega, ?_⟩
  rw [i_eq_iff, i_toInt (by omega)]
  omega
theorem fr_let_eq {α β : Type} (e : α) (f : α → β) : fr_let e f = f e := rfl
theorem fr_bP_mk {α β γ : Type} (a : α) (b : β) (f : α → β → Option γ) : fr_bP (some (a, b)) f = f a b := rfl
theorem fr_bP_no {α β γ : Type} (f : α → β → Option γ) : fr_bP none f = none := rfl
theorem fr_bS_mk {α β : Type} (a : α) (f : α → Option β) : fr_bS (some a) f = f a := rfl
theorem fr_bS_no {α β : Type} (f : α → Option β) : fr_bS none f = none := rfl
theorem fr_pP_mk {α β γ : Type} (a : α) (b : β) (f : α → β → γ) : fr_pP (a, b) f = f a b := rfl
theorem fr_bR_l {α β γ : Type} (a : α) (f : α → Option γ) (h : β → Option γ) : fr_bR (some (.inl a)) f h = f a := rfl
theorem fr_bR_r {α β γ : Type} (b : β) (f : α → Option γ) (h : β → Option γ) : fr_bR (some (.inr b)) f h = h b := rfl
theorem fr_bP_if {α β γ : Type} {c : Prop} [Decidable c] (a b : Option (α × β)) (f : α → β → Option γ) : fr_bP (if c then a else b) f = if c then fr_bP a f else fr_bP b f := by split <;> rfl
theorem fr_bS_if {α β : Type} {c : Prop} [Decidable c] (a b : Option α) (f : α → Option β) : fr_bS (if c then a else b) f = if c then fr_bS a f else fr_bS b f := by split <;> rfl
theorem fr_bi0 (b : Bool) : (fr_bi b = 0) = (b = false) := by cases b <;> simp [fr_bi]
theorem fr_bi0' (b : Bool) : (fr_bi b = nI 0) = (b = false) := by cases b <;> decide
theorem fr_bi1 (b : Bool) : (fr_bi b = nI 1) = (b = true) := by cases b <;> decide
theorem fr_01 : ((0 : Int32) = 1) = False := by decide
theorem fr_10 : ((1 : Int32) = 0) = False := by decide
theorem fr_n10 : (nI 1 = nI 0) = False := by decide
theorem fr_n01 : (nI 0 = nI 1) = False := by decide
theorem fr_up_at (σ : fr_St) (k j : Nat) (v : Int32) : fr_up σ k j v k = upd (σ k) j v := fr_row_same σ k _
theorem fr_up_ne (σ : fr_St) {k a : Nat} (j : Nat) (v : Int32) (h : a ≠ k) : fr_up σ k j v a = σ a := fr_row_ne σ _ h
theorem upd_at (f : Nat → Int32) (k : Nat) (v : Int32) : upd f k v k = v := by simp [upd]
theorem upd_ne (f : Nat → Int32) {k j : Nat} (v : Int32) (h : j ≠ k) : upd f k v j = f j := by simp [upd, h]
/-- a loop that counts up: its steps, its end -/
theorem fr_loop {S T : Type} (L : Nat → S → Option T) (I : Nat → S → Prop) (N : Nat) (f : Nat → S → S) (out : S → T) (hx : ∀ n s, I N s → L (n + 1) s = some (out s)) (hs : ∀ n j s, j < N → I j s → L (n + 1) s = L n (f j s) ∧ I (j + 1) (f j s)) : ∀ (d j n : Nat) (s : S), j + d = N → d < n → I j s → ∃ s', I N s' ∧ L n s = some (out s') := by
  intro d
  induction d with
  | zero =>
    intro j n s hj hn hI
    obtain ⟨n, rfl⟩ : ∃ m, n = m + 1 := ⟨n - 1, by omega⟩
    have : j = N := by omega
    subst this
    exact ⟨s, hI, hx n s hI⟩
  | succ d ih =>
    intro j n s hj hn hI
    obtain ⟨n, rfl⟩ : ∃ m, n = m + 1 := ⟨n - 1, by omega⟩
    obtain ⟨h1, h2⟩ := hs n j s (by omega) hI
    rw [h1]
    exact ih (j + 1) n _ (by omega) (by omega) h2
theorem fr_fu_big : 1000000000 < fr_fu := by decide
/-- the set of the numbers below n with f, as bits -/
def msk (f : Nat → Bool) : Nat → Nat
  | 0 => 0
  | n + 1 => msk f n + (if f n then 2 ^ n else 0)
theorem msk_lt (f : Nat → Bool) : ∀ n, msk f n < 2 ^ n
  | 0 => Nat.one_pos
  | n + 1 => by
    have h := msk_lt f n
    have e : 2 ^ (n + 1) = 2 ^ n + 2 ^ n := by rw [Nat.pow_succ]; omega
    show msk f n + (if f n then 2 ^ n else 0) < 2 ^ (n + 1)
    rw [e]
    split <;> omega
theorem msk_congr {f h : Nat → Bool} : ∀ {n : Nat}, (∀ k, k < n → f k = h k) → msk f n = msk h n
  | 0, _ => rfl
  | n + 1, e => by
    show msk f n + (if f n then 2 ^ n else 0) = msk h n + (if h n then 2 ^ n else 0)
    rw [msk_congr (fun k hk => e k (by omega)), e n (by omega)]
theorem msk_bit (f : Nat → Bool) : ∀ n k, (msk f n).testBit k = (decide (k < n) && f k)
  | 0, k => by simp [msk]
  | n + 1, k => by
    have hl := msk_lt f n
    show (msk f n + (if f n then 2 ^ n else 0)).testBit k = _
    by_cases hf : f n
    · rw [if_pos hf]
      by_cases hk : k = n
      · subst hk
        have : msk f k + 2 ^ k = 2 ^ k + msk f k := Nat.add_comm _ _
        rw [this, Nat.testBit_two_pow_add_eq, Nat.testBit_lt_two_pow hl]
        simp [hf]
      · by_cases hlt : k < n
        · rw [Nat.add_comm, Nat.testBit_two_pow_add_gt hlt, msk_bit f n k]
          simp [hlt, Nat.lt_succ_of_lt hlt]
        · have h1 : msk f n + 2 ^ n < 2 ^ k := by
            have h2 : 2 ^ (n + 1) ≤ 2 ^ k := Nat.pow_le_pow_right (by omega) (by omega)
            rw [Nat.pow_succ] at h2
            omega
          rw [Nat.testBit_lt_two_pow h1]
          simp [show ¬ k < n + 1 by omega]
    · rw [if_neg hf, Nat.add_zero, msk_bit f n k]
      by_cases hk : k = n
      · subst hk
        simp [hf]
      · by_cases hlt : k < n
        · simp [hlt, Nat.lt_succ_of_lt hlt]
        · simp [hlt, show ¬ k < n + 1 by omega]
theorem i_shl {k : Nat} (hk : k < 31) : nI 1 <<< (nI k &&& nI 31) = nI (2 ^ k) := by
  have : ∀ k, k < 31 → nI 1 <<< (nI k &&& nI 31) = nI (2 ^ k) := by decide
  exact this k hk
theorem i_or (a b : Nat) : nI a ||| nI b = nI (a ||| b) := by
  apply Int32.toBitVec_inj.mp
  show (nI a).toBitVec ||| (nI b).toBitVec = (nI (a ||| b)).toBitVec
  show BitVec.ofNat 32 a ||| BitVec.ofNat 32 b = BitVec.ofNat 32 (a ||| b)
  exact (BitVec.ofNat_or).symm
theorem i_and (a b : Nat) : nI a &&& nI b = nI (a &&& b) := by
  apply Int32.toBitVec_inj.mp
  show (nI a).toBitVec &&& (nI b).toBitVec = (nI (a &&& b)).toBitVec
  show BitVec.ofNat 32 a &&& BitVec.ofNat 32 b = BitVec.ofNat 32 (a &&& b)
  exact (BitVec.ofNat_and).symm
theorem or_new {a n : Nat} (h : a < 2 ^ n) : a ||| 2 ^ n = a + 2 ^ n := by
  have e := Nat.two_pow_add_eq_or_of_lt h 1
  rw [Nat.mul_one] at e
  rw [Nat.or_comm, ← e, Nat.add_comm]
theorem msk_or (f : Nat → Bool) (n : Nat) : (if f n then msk f n ||| 2 ^ n else msk f n) = msk f (n + 1) := by
  show _ = msk f n + (if f n then 2 ^ n else 0)
  split
  · rw [or_new (msk_lt f n)]
  · rfl
