section WHO
variable {N : Nat} {σ : fr_St} {z : Nat → Nat} {B : Nat}
def rdk (x : Int32) : Nat := x.toInt.toNat
theorem rdk_nI {k : Nat} (hk : k < 2147483648) : rdk (nI k) = k := by
  unfold rdk
  rw [i_toInt hk]
  omega
/-- do the first k roads told open to s -/
def al (z : Nat → Nat) (X : Nat → Int32) (s : Nat) : Nat → Bool
  | 0 => true
  | k + 1 => al z X s k && opn z (rdk (X k)) s (z 4)
theorem al_false {X : Nat → Int32} {s j : Nat} (h : al z X s j = false) : ∀ d, al z X s (j + d) = false
  | 0 => h
  | d + 1 => by
    show (al z X s (j + d) && _) = false
    rw [al_false h d]
    rfl
theorem msk_and (f h : Nat → Bool) (n : Nat) : msk f n &&& msk h n = msk (fun k => f k && h k) n := by
  apply Nat.eq_of_testBit_eq
  intro i
  rw [Nat.testBit_and, msk_bit, msk_bit, msk_bit]
  cases decide (i < n) <;> cases f i <;> cases h i <;> rfl
theorem msk_true : ∀ n, msk (fun _ => true) n = 2 ^ n - 1
  | 0 => rfl
  | n + 1 => by
    show msk (fun _ => true) n + (if true = true then 2 ^ n else 0) = _
    rw [msk_true n, if_pos rfl, Nat.pow_succ]
    have : 0 < 2 ^ n := Nat.pow_pos (by omega)
    omega
theorem wh_path (hc : CR z (σ 16)) (hw : WFl z B) (hB : B ≤ 100000) {r i K : Nat} (hr8 : r < 8) (hi : i + K ≤ 40) (hX : ∀ x, x < 40 → σ (3 + r) x = σ 62 (40 * r + x)) : ∀ (m j n a : Nat), j + m = K → m < n → a < z 1 → (L_X7_solesThatWent_16 (nI r) (nI i) (nI K) n (nI (msk (fun s => al z (fun k => σ 62 (40 * r + i + k)) s j) (z 3))) (nI a) (nI j) σ = some (.inl (-1000001, σ)) ∧ ∀ t : fr_St, RR z (t 63) → t 62 = σ 62 → L_X8_whose_87 (nI r) (nI i) (nI K) n (nI a) (nI j) t = some (.inl (-1000001, t))) ∨ ∃ b, L_X7_solesThatWent_16 (nI r) (nI i) (nI K) n (nI (msk (fun s => al z (fun k => σ 62 (40 * r + i + k)) s j) (z 3))) (nI a) (nI j) σ = some (.inr (nI (msk (fun s => al z (fun k => σ 62 (40 * r + i + k)) s K) (z 3)), nI b, nI K, σ)) ∧ (∀ t : fr_St, RR z (t 63) → t 62 = σ 62 → L_X8_whose_87 (nI r) (nI i) (nI K) n (nI a) (nI j) t = some (.inr (nI b, nI K, t))) ∧ ∀ k, j ≤ k → k < K → rdk (σ 62 (40 * r + i + k)) < z 2 ∧ σ 62 (40 * r + i + k) = nI (rdk (σ 62 (40 * r + i + k))) := by
  have h1 := hw.2.2.2.1
  have h2 := hw.2.2.2.2.1
  have h4 := hw.2.2.2.2.2.2.1
  intro m
  induction m with
  | zero =>
    intro j n a hj hn ha
    obtain ⟨n, rfl⟩ : ∃ m, n = m + 1 := ⟨n - 1, by omega⟩
    have hj : j = K := by omega
    subst hj
    refine Or.inr ⟨a, ?_, fun t ht e => ?_, fun k h1 h2 => by omega⟩
    · rw [L_X7_solesThatWent_16, if_pos ((i_le (by omega) (by omega)).mpr (Nat.le_refl _))]
    · rw [L_X8_whose_87, if_pos ((i_le (by omega) (by omega)).mpr (Nat.le_refl _))]
  | succ m ih =>
    intro j n a hj hn ha
    obtain ⟨n, rfl⟩ : ∃ m, n = m + 1 := ⟨n - 1, by omega⟩
    have eI : F_X6_itemOf (nI r) (nI i + nI j) σ = some (σ 62 (40 * r + i + j), σ) := by
      unfold F_X6_itemOf
      rw [i_add, i_chk hr8 (by omega), i_chk (by omega) (by omega), i_ix (by omega), i_ix (by omega), hX (i + j) (by omega), show 40 * r + (i + j) = 40 * r + i + j by omega]
    have eJ : ∀ t : fr_St, t 62 = σ 62 → t 62 (fr_ix ((((40 : Int32) * nI r) + nI i) + nI j)) = σ 62 (40 * r + i + j) := fun t e => by
      rw [e, show (40 : Int32) = nI 40 from rfl, i_mul, i_add, i_add, i_ix (by omega)]
    have eK : ∀ {α : Type} (x : Option α), (if fr_ib ((((40 : Int32) * nI r) + nI i) + nI j) 320 = true then x else none) = x := fun x => by
      rw [show (40 : Int32) = nI 40 from rfl, i_mul, i_add, i_add, i_chk (by omega) (by omega)]
    cases hb : fr_ib (σ 62 (40 * r + i + j)) (z 2)
    · refine Or.inl ⟨?_, fun t ht e => ?_⟩
      · rw [L_X7_solesThatWent_16, if_neg (fun q => absurd ((i_le (by omega) (by omega)).mp q) (by omega)), eI, fr_bP_mk, cl_hasRoad (o := 15) hc h2, hb]
        rfl
      · rw [L_X8_whose_87, if_neg (fun q => absurd ((i_le (by omega) (by omega)).mp q) (by omega)), eK, eJ t e, fr_let_eq, rf_isRoad ht h2, hb]
        rfl
    · obtain ⟨k, hk, ek⟩ := ib_nI hb
      by_cases he : z (23 + k) = a ∨ z (32 + k) = a
      · have hl := hw.2.2.2.2.2.2.2.1 k hk
        have hacr : acr z k a < z 1 := by unfold acr; split <;> omega
        have erd : rdk (σ 62 (40 * r + i + j)) = k := by rw [ek, rdk_nI (by omega)]
        have ea : (if z (23 + k) = a then nI (z (32 + k)) else if z (32 + k) = a then nI (z (23 + k)) else -1) = nI (acr z k a) := by
          unfold acr
          by_cases e1 : z (23 + k) = a
          · rw [if_pos e1, if_pos e1]
          · rw [if_neg e1, if_neg e1, if_pos (he.resolve_left e1)]
        have s1 : L_X7_solesThatWent_16 (nI r) (nI i) (nI K) (n + 1) (nI (msk (fun s => al z (fun k => σ 62 (40 * r + i + k)) s j) (z 3))) (nI a) (nI j) σ = L_X7_solesThatWent_16 (nI r) (nI i) (nI K) n (nI (msk (fun s => al z (fun k => σ 62 (40 * r + i + k)) s (j + 1)) (z 3))) (nI (acr z k a)) (nI (j + 1)) σ := by
          rw [L_X7_solesThatWent_16, if_neg (fun q => absurd ((i_le (by omega) (by omega)).mp q) (by omega)), eI, fr_bP_mk, cl_hasRoad (o := 15) hc h2, hb, fr_bP_mk, if_neg fr_nb, ek, cl_isEnd (o := 15) hc hw (by omega) (by omega), decide_eq_true he, fr_bP_mk, if_neg fr_nb, cl_today (o := 15) hc, fr_bP_mk, cl_solesOf (o := 15) hc hw hB (by omega) (by omega), fr_bP_mk, fr_let_eq, cl_across (o := 15) hc hw (by omega) (by omega), fr_bP_mk, fr_let_eq, nI_1, i_and, msk_and]
          show _ = L_X7_solesThatWent_16 (nI r) (nI i) (nI K) n (nI (msk (fun s => al z (fun k => σ 62 (40 * r + i + k)) s j && opn z (rdk (σ 62 (40 * r + i + j))) s (z 4)) (z 3))) (nI (acr z k a)) (nI (j + 1)) σ
          rw [erd]
        have s2 : ∀ t : fr_St, RR z (t 63) → t 62 = σ 62 → L_X8_whose_87 (nI r) (nI i) (nI K) (n + 1) (nI a) (nI j) t = L_X8_whose_87 (nI r) (nI i) (nI K) n (nI (acr z k a)) (nI (j + 1)) t := fun t ht e => by
          rw [L_X8_whose_87, if_neg (fun q => absurd ((i_le (by omega) (by omega)).mp q) (by omega)), eK, eJ t e, fr_let_eq, rf_isRoad ht h2, hb, fr_bP_mk, if_neg fr_nb, ek, rf_across ht hw (by omega) (by omega), fr_bP_mk, ea, fr_bP_mk, if_pos (show (0 : Int32) ≤ nI (acr z k a) from (i_le (a := 0) (by omega) (by omega)).mpr (by omega)), fr_let_eq, nI_1]
        rcases ih (j + 1) n (acr z k a) (by omega) (by omega) hacr with ⟨g1, g2⟩ | ⟨b, g1, g2, g3⟩
        · exact Or.inl ⟨by rw [s1, g1], fun t ht e => by rw [s2 t ht e, g2 t ht e]⟩
        · refine Or.inr ⟨b, by rw [s1, g1], fun t ht e => by rw [s2 t ht e, g2 t ht e], fun k' h1 h2 => ?_⟩
          by_cases ek' : k' = j
          · rw [ek', erd]
            exact ⟨hk, ek⟩
          · exact g3 k' (by omega) h2
      · refine Or.inl ⟨?_, fun t ht e => ?_⟩
        · rw [L_X7_solesThatWent_16, if_neg (fun q => absurd ((i_le (by omega) (by omega)).mp q) (by omega)), eI, fr_bP_mk, cl_hasRoad (o := 15) hc h2, hb, fr_bP_mk, if_neg fr_nb, ek, cl_isEnd (o := 15) hc hw (by omega) (by omega), decide_eq_false he]
          rfl
        · rw [L_X8_whose_87, if_neg (fun q => absurd ((i_le (by omega) (by omega)).mp q) (by omega)), eK, eJ t e, fr_let_eq, rf_isRoad ht h2, hb, fr_bP_mk, if_neg fr_nb, ek, rf_across ht hw (by omega) (by omega), fr_bP_mk, if_neg (fun q => he (Or.inl q)), if_neg (fun q => he (Or.inr q)), fr_bP_mk, if_neg (show ¬ (0 : Int32) ≤ -1 by decide)]
/-- a meeting -/
def mz (z : Nat → Nat) (k s : Nat) : Nat → Nat := if z (14 + k) = 5 then z else zup (zup z (50 + (k * 4 + s)) (z (50 + (k * 4 + s)) + 1)) (86 + (k * 4 + s)) (z 4)
theorem mz_lo {k s x : Nat} (hx : x < 50) : mz z k s x = z x := by
  unfold mz
  split
  · rfl
  · rw [zup_ne _ _ (by omega), zup_ne _ _ (by omega)]
theorem mz_ne {k s x : Nat} (h1 : x ≠ 50 + (k * 4 + s)) (h2 : x ≠ 86 + (k * 4 + s)) : mz z k s x = z x := by
  unfold mz
  split
  · rfl
  · rw [zup_ne _ _ h2, zup_ne _ _ h1]
theorem rf_meetSole {t : fr_St} (hr : RR z (t 63)) (hw : WFl z B) {k s : Nat} (hk : k < 9) (hs : s < 4) : ∃ t', F_X8_meetSole (nI k) (nI s) t = some t' ∧ (∀ b, b ≠ 63 → t' b = t b) ∧ (∀ x, 122 ≤ x → t' 63 x = t 63 x) ∧ RR (mz z k s) (t' 63) := by
  have hl := hw.2.2.2.2.2.2.2.2.2.2 k hk
  unfold F_X8_meetSole
  rw [show (14 : Int32) = nI 14 from rfl, show (50 : Int32) = nI 50 from rfl, show (86 : Int32) = nI 86 from rfl, show (4 : Int32) = nI 4 from rfl, i_mul, i_add, i_add, i_add, i_add, i_add, i_chk (by omega) (by omega), i_ix (by omega), hr.1 (14 + k) (by omega)]
  by_cases h5 : z (14 + k) = 5
  · rw [if_pos (by rw [h5]; rfl)]
    refine ⟨_, rfl, fun b hb => rfl, fun x hx => rfl, ?_⟩
    unfold mz
    rw [if_pos h5]
    exact hr
  · rw [if_neg (show ¬ nI (z (14 + k)) = (5 : Int32) from fun q => h5 ((i_eq (b := 5) (by omega) (by omega)).mp q)), i_chk (by omega) (by omega), i_chk (by omega) (by omega), i_ix (by omega), show 50 + 4 * k + s = 50 + (k * 4 + s) by omega, show 86 + 4 * k + s = 86 + (k * 4 + s) by omega, hr.1 (50 + (k * 4 + s)) (by omega), nI_1, fr_let_eq, i_chk (by omega) (by omega), fr_let_eq, i_ix (by omega)]
    have ed : (fr_up t 63 (50 + (k * 4 + s)) (nI (z (50 + (k * 4 + s)) + 1))) 63 4 = nI (z 4) := by
      rw [fr_up_at, upd_ne _ _ (by omega), hr.1 4 (by omega)]
    rw [ed]
    refine ⟨_, rfl, fun b hb => by rw [fr_up_ne _ _ _ hb, fr_up_ne _ _ _ hb], fun x hx => by rw [fr_up_at, fr_up_at, upd_ne _ _ (by omega), upd_ne _ _ (by omega)], ?_⟩
    rw [fr_up_at, fr_up_at]
    unfold mz
    rw [if_neg h5]
    exact RR_meet hr (by omega) _ (by omega)
theorem WF_mz (h : WFl z B) {k s : Nat} (hk : k < 9) (hs : s < 4) : WFl (mz z k s) (B + 1) := by
  obtain ⟨a, b, c, d, e, f, g, i, j, m, l⟩ := h
  have n : ∀ x, x < 50 → mz z k s x = z x := fun x => mz_lo
  unfold WFl
  rw [n 0 (by omega), n 1 (by omega), n 2 (by omega), n 3 (by omega), n 4 (by omega)]
  refine ⟨a, b, c, d, e, f, g, fun x hx => ?_, fun x hx => ?_, fun x hx => ?_, fun x hx => ?_⟩
  · rw [n (14 + x) (by omega), n (23 + x) (by omega), n (32 + x) (by omega), n (41 + x) (by omega)]; exact i x hx
  · rw [n (10 + x) (by omega), n (6 + x) (by omega)]; exact j x hx
  · have hm := m x hx
    unfold mz
    split
    · omega
    · have hm2 := m (k * 4 + s) (by omega)
      rw [zup_ne _ _ (by omega)]
      by_cases ex : x = k * 4 + s
      · rw [← ex] at hm2 ⊢
        rw [zup_at, zup_at]
        omega
      · rw [zup_ne _ _ (by omega), zup_ne _ _ (by omega), zup_ne _ _ (by omega)]
        omega
  · rw [n (14 + x) (by omega), n (23 + x) (by omega), n (32 + x) (by omega), n (41 + x) (by omega)]; exact l x hx
theorem opn_mz {k s : Nat} (hk : k < 9) (hs : s < 4) (ho : opn z k s (z 4) = true) {k' : Nat} (hk' : k' < 9) : opn (mz z k s) k' s (z 4) = opn z k' s (z 4) := by
  by_cases e : k' = k
  · subst e
    rw [ho]
    revert ho
    unfold opn
    rw [mz_lo (show 14 + k' < 50 by omega), mz_lo (show 0 < 50 by omega)]
    by_cases e5 : z (14 + k') = 5
    · intro _
      rw [e5]
      rfl
    · unfold mz
      rw [if_neg e5, zup_at, zup_ne _ _ (by omega), zup_at]
      simp only [Bool.or_eq_true, Bool.and_eq_true, decide_eq_true_eq]
      intro q
      rcases q with q | q
      · exact Or.inl q
      · exact Or.inr ⟨by omega, by omega⟩
  · unfold opn
    rw [mz_lo (show 14 + k' < 50 by omega), mz_lo (show 0 < 50 by omega)]
    rw [mz_ne (show 50 + (k' * 4 + s) ≠ 50 + (k * 4 + s) by omega) (by omega), mz_ne (show 86 + (k' * 4 + s) ≠ 50 + (k * 4 + s) by omega) (by omega)]
theorem wh_loop {X : Nat → Int32} {s base K : Nat} (hs : s < 4) (hb : base + K ≤ 320) (hM : z 2 ≤ 9) {R62 : Nat → Int32} (hX : ∀ k, k < K → rdk (X k) < z 2 ∧ R62 (base + k) = nI (rdk (X k))) : ∀ (m j n : Nat) (t : fr_St) (z' : Nat → Nat), j + m = K → m < n → t 62 = R62 → RR z' (t 63) → WFl z' (10000 + j) → (∀ x, x < 50 → z' x = z x) → (∀ k, k < 9 → opn z' k s (z 4) = opn z k s (z 4)) → al z X s j = true → ∃ v t', L_X8_canGo_36 (nI s) (nI base) (nI K) n 1 (nI j) t = some (fr_bi (al z X s K), v, t') ∧ (∀ b, b ≠ 63 → t' b = t b) ∧ ∀ x, 122 ≤ x → t' 63 x = t 63 x := by
  intro m
  induction m with
  | zero =>
    intro j n t z' hj hn he hr hw hz ho ha
    obtain ⟨n, rfl⟩ : ∃ m, n = m + 1 := ⟨n - 1, by omega⟩
    have hj : j = K := by omega
    subst hj
    refine ⟨nI j, t, ?_, fun b _ => rfl, fun x _ => rfl⟩
    rw [L_X8_canGo_36, if_pos ((i_le (by omega) (by omega)).mpr (Nat.le_refl _)), ha]
    rfl
  | succ m ih =>
    intro j n t z' hj hn he hr hw hz ho ha
    obtain ⟨n, rfl⟩ : ∃ m, n = m + 1 := ⟨n - 1, by omega⟩
    obtain ⟨k1, k2⟩ := hX j (by omega)
    obtain ⟨t1, m1, m2, m3, m4⟩ := rf_meetSole hr hw (k := rdk (X j)) (s := s) (by omega) hs
    have eo : F_X8_opens (nI (rdk (X j))) (nI s) t = some (opn z (rdk (X j)) s (z 4), t) := by
      rw [rf_opens hr hw (by omega) (by omega) hs, hz 4 (by omega), ho _ (by omega)]
    have st : L_X8_canGo_36 (nI s) (nI base) (nI K) (n + 1) 1 (nI j) t = L_X8_canGo_36 (nI s) (nI base) (nI K) n (fr_bi (opn z (rdk (X j)) s (z 4))) (nI (j + 1)) t1 := by
      rw [L_X8_canGo_36, if_neg (fun q => absurd ((i_le (by omega) (by omega)).mp q) (by omega)), if_neg (show ¬ (1 : Int32) = 0 by decide), i_add, i_chk (by omega) (by omega), fr_let_eq, i_ix (by omega), he, k2, eo, fr_bP_mk, fr_let_eq, m1, fr_bS_mk, fr_let_eq, nI_1]
    rw [st]
    cases h1 : opn z (rdk (X j)) s (z 4)
    · have ha1 : al z X s (j + 1) = false := by
        show (al z X s j && opn z (rdk (X j)) s (z 4)) = false
        rw [h1, Bool.and_false]
      have haK : al z X s K = false := by
        have := al_false ha1 m
        rw [show j + 1 + m = K by omega] at this
        exact this
      obtain ⟨n, rfl⟩ : ∃ m, n = m + 1 := ⟨n - 1, by omega⟩
      refine ⟨nI (j + 1), t1, ?_, m2, m3⟩
      rw [L_X8_canGo_36, if_pos (show fr_bi false = 0 from rfl), haK]
      split <;> rfl
    · have ha1 : al z X s (j + 1) = true := by
        show (al z X s j && opn z (rdk (X j)) s (z 4)) = true
        rw [h1, ha]
        rfl
      have ho' : opn z' (rdk (X j)) s (z' 4) = true := by rw [hz 4 (by omega), ho _ (by omega)]; exact h1
      obtain ⟨v, t', g1, g2, g3⟩ := ih (j + 1) n t1 (mz z' (rdk (X j)) s) (by omega) (by omega) (by rw [m2 62 (by omega)]; exact he) m4 (WF_mz hw (by omega) hs) (fun x hx => by rw [mz_lo hx, hz x hx]) (fun k hk => by
        have := opn_mz (by omega) hs ho' hk
        rw [hz 4 (by omega)] at this
        rw [this, ho k hk]) ha1
      exact ⟨v, t', g1, fun b hb => by rw [g2 b hb, m2 b hb], fun x hx => by rw [g3 x hx, m3 x hx]⟩
theorem wh_aside (σ : fr_St) : L_X8_canGo_3 fr_fu 0 σ = some (nI 122, fr_row σ 71 (blk (σ 71) 0 122 (σ 63))) := by
  refine wr_loop0 L_X8_canGo_3 71 0 122 (σ 63) σ (by omega) (fun n τ => by rw [L_X8_canGo_3, if_pos (show (122 : Int32) ≤ nI 122 by decide)]) (fun n j f hj => ?_)
  rw [L_X8_canGo_3, if_neg (show ¬ (122 : Int32) ≤ nI j from fun q => absurd ((i_le (a := 122) (by omega) (by omega)).mp q) (by omega)), i_chk hj (by omega), i_chk hj (by omega), fr_let_eq, fr_let_eq, i_ix (by omega), fr_up_row, fr_row_ne _ _ (show 63 ≠ 71 by omega), nI_1, Nat.zero_add]
theorem wh_back (σ : fr_St) : L_X8_canGo_83 fr_fu 0 σ = some (nI 122, fr_row σ 63 (blk (σ 63) 0 122 (σ 71))) := by
  refine wr_loop0 L_X8_canGo_83 63 0 122 (σ 71) σ (by omega) (fun n τ => by rw [L_X8_canGo_83, if_pos (show (122 : Int32) ≤ nI 122 by decide)]) (fun n j f hj => ?_)
  rw [L_X8_canGo_83, if_neg (show ¬ (122 : Int32) ≤ nI j from fun q => absurd ((i_le (a := 122) (by omega) (by omega)).mp q) (by omega)), i_chk hj (by omega), i_chk hj (by omega), fr_let_eq, fr_let_eq, i_ix (by omega), fr_up_row, fr_row_ne _ _ (show 71 ≠ 63 by omega), nI_1, Nat.zero_add]
theorem wh_can (hr : RR z (σ 63)) (hw : WFl z B) (hB : B ≤ 10000) {X : Nat → Int32} {s base K : Nat} (hs : s < 4) (hb : base + K ≤ 320) (hX : ∀ k, k < K → rdk (X k) < z 2 ∧ σ 62 (base + k) = nI (rdk (X k))) : ∃ τ, F_X8_canGo (nI s) (nI base) (nI K) σ = some (al z X s K, τ) ∧ ∀ b, b ≠ 71 → τ b = σ b := by
  obtain ⟨v, t', g1, g2, g3⟩ := wh_loop hs hb hw.2.2.2.2.1 hX K 0 fr_fu (fr_row σ 71 (blk (σ 71) 0 122 (σ 63))) z (by omega) (by have := fr_fu_big; omega) (fr_row_ne _ _ (by omega)) (by rw [fr_row_ne _ _ (by omega)]; exact hr) (hw.mono hB) (fun x _ => rfl) (fun k _ => rfl) rfl
  refine ⟨fr_row t' 63 (blk (t' 63) 0 122 (t' 71)), ?_, fun b hb => ?_⟩
  · unfold F_X8_canGo
    rw [wh_aside, fr_bP_mk, show L_X8_canGo_36 (nI s) (nI base) (nI K) fr_fu 1 (0 : Int32) _ = _ from g1, fr_bP_mk, fr_pP_mk, wh_back, fr_bP_mk]
    cases al z X s K <;> rfl
  · by_cases e : b = 63
    · subst e
      rw [fr_row_same]
      funext x
      by_cases hx : x < 122
      · rw [blk_in0 hx, g2 71 (by omega), fr_row_same, blk_in0 hx]
      · rw [blk_out (by omega), g3 x (by omega), fr_row_ne _ _ (by omega)]
    · rw [fr_row_ne _ _ e, g2 b e, fr_row_ne _ _ hb]
theorem wh_ref {σ0 : fr_St} (hr : RR z (σ0 63)) (hw : WFl z B) (hB : B ≤ 10000) {r i K : Nat} (hr8 : r < 8) (hi : i + K ≤ 40) (hX : ∀ k, k < K → rdk (σ0 62 (40 * r + i + k)) < z 2 ∧ σ0 62 (40 * r + i + k) = nI (rdk (σ0 62 (40 * r + i + k)))) : ∀ (m j n : Nat) (t : fr_St), j + m = z 3 → m < n → (∀ b, b ≠ 71 → t b = σ0 b) → ∃ t', L_X8_whose_152 (nI r) (nI i) (nI K) n (nI (msk (fun s => al z (fun k => σ0 62 (40 * r + i + k)) s K) j)) (nI j) t = some (nI (msk (fun s => al z (fun k => σ0 62 (40 * r + i + k)) s K) (z 3)), nI (z 3), t') ∧ ∀ b, b ≠ 71 → t' b = σ0 b := by
  have h3 := hw.2.2.2.2.2.1
  intro m
  induction m with
  | zero =>
    intro j n t hj hn he
    obtain ⟨n, rfl⟩ : ∃ m, n = m + 1 := ⟨n - 1, by omega⟩
    have hj : j = z 3 := by omega
    refine ⟨t, ?_, he⟩
    rw [L_X8_whose_152, he 63 (by omega), hr.1 3 (by omega), hj, if_pos ((i_le (by omega) (by omega)).mpr (Nat.le_refl _))]
  | succ m ih =>
    intro j n t hj hn he
    obtain ⟨n, rfl⟩ : ∃ m, n = m + 1 := ⟨n - 1, by omega⟩
    obtain ⟨t1, c1, c2⟩ := wh_can (σ := t) (z := z) (by rw [he 63 (by omega)]; exact hr) hw hB (X := fun k => σ0 62 (40 * r + i + k)) (s := j) (base := 40 * r + i) (K := K) (by omega) (by omega) (fun k hk => by rw [he 62 (by omega)]; exact hX k hk)
    obtain ⟨t', g1, g2⟩ := ih (j + 1) n t1 (by omega) (by omega) (fun b hb => by rw [c2 b hb, he b hb])
    refine ⟨t', ?_, g2⟩
    rw [← g1, L_X8_whose_152, he 63 (by omega), hr.1 3 (by omega), if_neg (fun q => absurd ((i_le (by omega) (by omega)).mp q) (by omega)), show (40 : Int32) = nI 40 from rfl, i_mul, i_add, c1, fr_bP_mk, ← msk_or, show (1 : Int32) <<< (nI j &&& 31) = nI (2 ^ j) from i_shl (by omega)]
    cases al z (fun k => σ0 62 (40 * r + i + k)) j K
    · rw [if_pos (show fr_bi false = 0 from rfl), fr_bS_mk, fr_let_eq, fr_let_eq, nI_1, show (0 : Int32) = nI 0 from rfl, i_or, Nat.or_zero]
      rfl
    · rw [if_neg fr_nb, fr_bS_mk, fr_let_eq, fr_let_eq, nI_1, i_or]
      rfl
theorem st_whose (hN : N ≤ 1000) (h : Rel N σ) (a1 a2 a3 a4 : Int32) : Ok N (F_X7_whose a1 a2 a3 a4) (F_X8_whose a1 a2 a3 a4) σ := by
  obtain ⟨z, hz, hc, hr, h4⟩ := h.2.2.2.1
  obtain ⟨b0, b1, b2, b3, b4⟩ := hz.b
  by_cases h0 : z 0 = 0
  · refine ⟨-1000002, σ, σ, ?_, ?_, h.mono⟩
    · unfold F_X7_whose
      rw [cl_stands (o := 15) hc b0, decide_eq_false (by omega)]
      rfl
    · unfold F_X8_whose
      rw [h4, if_pos h0]
      rfl
  · have hw := hz.wf 0 (by omega)
    have e4 : σ 59 4 = nI 1 := by rw [h4, if_neg h0]
    have X0 : ∀ {α : Type} (x y : Option α), (if σ 59 4 = 0 then x else y) = y := fun x y => by rw [e4, if_neg (by decide)]
    cases hi : fr_ib a1 8
    · refine ⟨-1000001, σ, σ, ?_, ?_, h.mono⟩
      · unfold F_X7_whose
        rw [cl_stands (o := 15) hc b0, decide_eq_true (by omega), fr_bP_mk, if_neg fr_nb, sh_has, hi]
        rfl
      · unfold F_X8_whose
        rw [X0, rf_isRow, hi]
        rfl
    · cases h16 : fr_ib a3 17
      · refine ⟨-1000001, σ, σ, ?_, ?_, h.mono⟩
        · unfold F_X7_whose
          rw [cl_stands (o := 15) hc b0, decide_eq_true (by omega), fr_bP_mk, if_neg fr_nb, sh_has, hi, fr_bP_mk, if_neg fr_nb, show (16 : Int32) = nI 16 from rfl, cl_in2 (by omega), h16]
          rfl
        · unfold F_X8_whose
          rw [X0, rf_isRow, hi, fr_bP_mk, if_neg fr_nb, rf_in0 (n := 17) a3 rfl, h16]
          rfl
      · cases hp : fr_ib a4 (z 1)
        · refine ⟨-1000001, σ, σ, ?_, ?_, h.mono⟩
          · unfold F_X7_whose
            rw [cl_stands (o := 15) hc b0, decide_eq_true (by omega), fr_bP_mk, if_neg fr_nb, sh_has, hi, fr_bP_mk, if_neg fr_nb, show (16 : Int32) = nI 16 from rfl, cl_in2 (by omega), h16, if_pos rfl, cl_hasPlace (o := 15) hc b1, hp]
            rfl
          · unfold F_X8_whose
            rw [X0, rf_isRow, hi, fr_bP_mk, if_neg fr_nb, rf_in0 (n := 17) a3 rfl, h16, fr_bP_mk, if_neg fr_nb, rf_isPlace hr b1, hp]
            rfl
        · obtain ⟨r, hr8, rfl⟩ := ib_nI hi
          obtain ⟨K, hK, rfl⟩ := ib_nI h16
          obtain ⟨p, hp1, rfl⟩ := ib_nI hp
          obtain ⟨p1, p2, p3, p4, p5⟩ := h.1 r hr8
          have pneg := sz_neg p2
          have iA := i_ix (show r < 2147483648 by omega)
          have hX0 : F_X7_whose (nI r) a2 (nI K) (nI p) σ = if (fr_bi (decide (σ 12 r = -1))) = 0 then (fr_bP (F_X6_holds (nI r) a2 (nI K) σ) (fun b15 s14 => if (fr_bi b15) = 0 then (fr_bP (F_X7_found (2 : Int32) s14) (fun r29 s28 => some (r29, s28))) else (fr_bP (F_X7_solesThatWent (nI r) a2 (nI K) (nI p) s14) (fun r18 s17 => fr_bP (if r18 = (-1000001 : Int32) then (some ((-1000001 : Int32), s17)) else (fr_bP (F_X7_fine r18 s17) (fun r25 s24 => some (r25, s24)))) (fun v19 s20 => some (v19, s20)))))) else (fr_bP (F_X7_found (1 : Int32) σ) (fun r33 s32 => some (r33, s32))) := by
            unfold F_X7_whose
            rw [cl_stands (o := 15) hc b0, decide_eq_true (by omega), fr_bP_mk, if_neg fr_nb, sh_has, hi, fr_bP_mk, if_neg fr_nb, show (16 : Int32) = nI 16 from rfl, cl_in2 (by omega), h16, if_pos rfl, cl_hasPlace (o := 15) hc b1, hp, fr_bP_mk, if_neg fr_nb, sh_miss hr8, fr_bP_mk]
          have hM0 : ∀ {s : fr_St}, (∀ b, b ≠ 0 → s b = σ b) → F_X8_whose (nI r) a2 (nI K) (nI p) s = if 0 ≤ s 61 r then fr_bP (F_X8_in a2.toInt64 0 ((s 61 r - nI K).toInt64) s) (fun b14 s13 => if (fr_bi b14) = 0 then (fr_bP (F_X8_find (2 : Int32) s13) (fun r32 s31 => some (r32, s31))) else (fr_bR (L_X8_whose_87 (nI r) a2 (nI K) fr_fu (nI p) (0 : Int32) s13) (fun q0 => some q0) (fun q28 => fr_pP q28 (fun v15 q29 => fr_pP q29 (fun v16 s17 => fr_bP (L_X8_whose_152 (nI r) a2 (nI K) fr_fu (0 : Int32) (0 : Int32) s17) (fun v19 q26 => fr_pP q26 (fun v20 s21 => fr_bP (F_X8_well v19 s21) (fun r25 s24 => some (r25, s24))))))))) else fr_bP (F_X8_find (1 : Int32) s) (fun r36 s35 => some (r36, s35)) := by
            intro s he
            have hr' : RR z (s 63) := by rw [he 63 (by omega)]; exact hr
            unfold F_X8_whose
            rw [he 59 (by omega), X0, rf_isRow, hi, fr_bP_mk, if_neg fr_nb, rf_in0 (n := 17) (nI K) rfl, h16, fr_bP_mk, if_neg fr_nb, rf_isPlace hr' b1, hp, fr_bP_mk, if_neg fr_nb, iA]
            simp only [if_true]
          have he0 : ∀ v, ∀ b, b ≠ 0 → (fr_up σ 0 10 v) b = σ b := fun v b hb => fr_up_ne _ _ _ hb
          by_cases ma : σ 12 r = -1
          · refine ⟨-1000010 - 1, fr_up σ 0 10 1, _, ?_, ?_, (Rel_find h 1).mono⟩
            · rw [hX0, decide_eq_true ma, if_neg fr_nb]
              rfl
            · rw [hM0 (he0 1), he0 1 61 (by omega), ← p1, if_neg (pneg.mp ma)]
              rfl
          · obtain ⟨k, hk40, ek⟩ := p2.resolve_left ma
            have h61 : 0 ≤ σ 61 r := by rw [← p1]; exact Decidable.not_not.mp (fun q => ma (pneg.mpr q))
            have hin : ∀ s : fr_St, F_X8_in a2.toInt64 0 ((nI k - nI K).toInt64) s = some (hld a2 (nI K) k, s) := fun s => by
              rw [rf_in, Int32.toInt_toInt64, Int32.toInt_toInt64, pk_sub_toInt (by omega) (by omega)]
              unfold hld
              rw [i_toInt (by omega)]
              congr 2
              have z0 : (0 : Int64).toInt = 0 := rfl
              rw [z0]
              congr 1
              apply propext
              omega
            cases hh : hld a2 (nI K) k
            · refine ⟨-1000010 - 2, fr_up σ 0 10 2, _, ?_, ?_, (Rel_find h 2).mono⟩
              · rw [hX0, decide_eq_false ma, if_pos (show fr_bi false = 0 from rfl), sh_holds hr8 hk40 ek, hh]
                rfl
              · rw [hM0 (he0 2), he0 2 61 (by omega), if_pos h61, ← p1, ek, hin, hh]
                rfl
            · obtain ⟨i, hi40, rfl⟩ : ∃ i, i + K ≤ k ∧ a2 = nI i := by
                unfold hld at hh
                rw [decide_eq_true_eq, i_toInt (show K < 2147483648 by omega)] at hh
                have hl := a2.toInt_lt
                refine ⟨a2.toInt.toNat, by omega, ?_⟩
                rw [i_eq_iff, i_toInt (by omega)]
                omega
              have hpath := wh_path (r := r) (i := i) (K := K) hc hw (by omega) hr8 (by omega) p5 K 0 fr_fu p (by omega) (by have := fr_fu_big; omega) hp1
              have hall : F_X3_allSoles 15 σ = some (nI (msk (fun s => al z (fun k => σ 62 (40 * r + i + k)) s 0) (z 3)), σ) := by
                unfold F_X3_allSoles
                have hpos : 1 ≤ 2 ^ z 3 := Nat.pow_pos (by omega)
                rw [cl_people (o := 15) hc, fr_bP_mk, show (1 : Int32) <<< (nI (z 3) &&& 31) = nI (2 ^ z 3) from i_shl (by omega), show (1 : Int32) = nI 1 from rfl, i_sub hpos, ← msk_true]
                rfl
              rcases hpath with ⟨g1, g2⟩ | ⟨b, g1, g2, g3⟩
              · refine ⟨-1000001, σ, σ, ?_, ?_, h.mono⟩
                · unfold F_X7_solesThatWent at hX0
                  rw [hX0, decide_eq_false ma, if_pos (show fr_bi false = 0 from rfl), sh_holds hr8 hk40 ek, hh, fr_bP_mk, if_neg fr_nb, hall, fr_bP_mk, show L_X7_solesThatWent_16 (nI r) (nI i) (nI K) fr_fu _ (nI p) (0 : Int32) σ = _ from g1]
                  rfl
                · rw [hM0 (fun b hb => rfl), if_pos h61, ← p1, ek, hin, hh, fr_bP_mk, if_neg fr_nb, show L_X8_whose_87 (nI r) (nI i) (nI K) fr_fu (nI p) (0 : Int32) σ = _ from g2 σ hr rfl]
                  rfl
              · have hml := msk_lt (fun s => al z (fun k => σ 62 (40 * r + i + k)) s K) (z 3)
                have hm4 : 2 ^ z 3 ≤ 2 ^ 4 := Nat.pow_le_pow_right (by omega) b3
                have hr1 : RR z ((fr_up σ 0 10 0) 63) := by rw [he0 0 63 (by omega)]; exact hr
                have h62 : (fr_up σ 0 10 0) 62 = σ 62 := he0 0 62 (by omega)
                obtain ⟨t, w1, w2⟩ := wh_ref (σ0 := fr_up σ 0 10 0) (r := r) (i := i) (K := K) hr1 hw (by omega) hr8 (by omega) (fun k hk => by rw [h62]; exact g3 k (by omega) hk) (z 3) 0 fr_fu (fr_up σ 0 10 0) (by omega) (by have := fr_fu_big; omega) (fun b _ => rfl)
                rw [h62] at w1
                refine ⟨nI (msk (fun s => al z (fun k => σ 62 (40 * r + i + k)) s K) (z 3)), fr_up σ 0 10 0, fr_up t 59 3 0, ?_, ?_, ?_⟩
                · unfold F_X7_solesThatWent at hX0
                  rw [hX0, decide_eq_false ma, if_pos (show fr_bi false = 0 from rfl), sh_holds hr8 hk40 ek, hh, fr_bP_mk, if_neg fr_nb, hall, fr_bP_mk, show L_X7_solesThatWent_16 (nI r) (nI i) (nI K) fr_fu _ (nI p) (0 : Int32) σ = _ from g1, fr_bR_r, fr_pP_mk, fr_pP_mk, fr_pP_mk, fr_bP_mk, if_neg (fun q => by
                    have := (i_eq_iff _ _).mp q
                    rw [i_toInt (by omega)] at this
                    have e : (-1000001 : Int32).toInt = -1000001 := rfl
                    omega)]
                  rfl
                · rw [hM0 (he0 0), he0 0 61 (by omega), if_pos h61, ← p1, ek, hin, hh, fr_bP_mk, if_neg fr_nb, show L_X8_whose_87 (nI r) (nI i) (nI K) fr_fu (nI p) (0 : Int32) _ = _ from g2 _ hr1 h62, fr_bR_r, fr_pP_mk, fr_pP_mk, show L_X8_whose_152 (nI r) (nI i) (nI K) fr_fu (0 : Int32) (0 : Int32) _ = _ from w1]
                  rfl
                · refine (Rel_scr (Rel_find h 0) (fun a ha => ?_)).mono
                  by_cases ea : a = 59
                  · subst ea
                    rw [fr_up_at, fr_up_at, w2 59 (by omega)]
                  · rw [fr_up_ne _ _ _ ea, fr_up_ne _ _ _ ea, w2 a (fun q => ha (by unfold scr; omega))]
end WHO
