/-! ===== acts kept: the class's ring of rows, the reference's flat row ===== -/
theorem RR.congr {z : Nat → Nat} {r r' : Nat → Int32} (h : RR z r) (e : ∀ k, k < 122 → r' k = r k) : RR z r' :=
  ⟨fun k hk => by rw [e k (by omega)]; exact h.1 k hk, fun h0 j hj => by rw [e (86 + j) (by omega)]; exact h.2 h0 j hj⟩
theorem CR.congr {z : Nat → Nat} {c c' : Nat → Int32} (h : CR z c) (e : ∀ k, k < 122 → c' k = c k) : CR z c' :=
  ⟨fun k hk => by rw [e k (by omega)]; exact h.1 k hk, fun k hk => by rw [e (6 + k) (by omega), e (15 + k) (by omega), e (24 + k) (by omega), e (33 + k) (by omega)]; exact h.2.1 k hk, fun q hq => by rw [e (42 + q) (by omega), e (46 + q) (by omega)]; exact h.2.2.1 q hq, fun j hj => by rw [e (50 + j) (by omega), e (86 + j) (by omega)]; exact h.2.2.2 j hj⟩
theorem cpy122 (f g : Nat → Int32) {k : Nat} (hk : k < 122) : va_cpy f g (fr_ix (0 : Int32)) (fr_ix (0 : Int32)) (fr_ix (122 : Int32)) k = f k := by
  have e0 : fr_ix (0 : Int32) = 0 := by decide
  have e1 : fr_ix (122 : Int32) = 122 := by decide
  rw [e0, e1]
  unfold va_cpy
  rw [if_pos (by omega), Nat.sub_zero, Nat.zero_add]
/-- a loop that writes a row out of itself -/
theorem wr_loopS (L : Nat → Int32 → fr_St → Option (Int32 × fr_St)) (a base N : Nat) (src : Nat → Int32) (σ : fr_St) (hN : N < 1000000000) (hx : ∀ n τ, L (n + 1) (nI N) τ = some (nI N, τ)) (hs : ∀ n j, j < N → L (n + 1) (nI j) (fr_row σ a (blk (σ a) base j src)) = L n (nI (j + 1)) (fr_row σ a (upd (blk (σ a) base j src) (base + j) (src j)))) : L fr_fu 0 σ = some (nI N, fr_row σ a (blk (σ a) base N src)) := by
  have key : ∀ (m j n : Nat), j + m = N → m < n → L n (nI j) (fr_row σ a (blk (σ a) base j src)) = some (nI N, fr_row σ a (blk (σ a) base N src)) := by
    intro m
    induction m with
    | zero =>
      intro j n hj hn
      obtain ⟨n, rfl⟩ : ∃ m, n = m + 1 := ⟨n - 1, by omega⟩
      have hj : j = N := by omega
      subst hj
      exact hx n _
    | succ m ih =>
      intro j n hj hn
      obtain ⟨n, rfl⟩ : ∃ m, n = m + 1 := ⟨n - 1, by omega⟩
      rw [hs n j (by omega), blk_s]
      exact ih (j + 1) n (by omega) (by omega)
  have h := key N 0 fr_fu (by omega) (by have := fr_fu_big; omega)
  rw [blk_0, fr_row_self] at h
  exact h
section ACT
variable {N : Nat} {σ : fr_St}
theorem keep_eq {a nx : Nat} (ha : a ≤ 24) (hnx : nx < 24) (f1 : σ 19 2 = nI a) (f2 : σ 19 1 = nI nx) : ∃ s, F_X0_keep σ = some s ∧ (∀ b, b ≠ 19 → b ≠ 21 + nx → s b = σ b) ∧ s 19 1 = nI ((nx + 1) % 24) ∧ s 19 2 = nI (if a = 24 then 24 else a + 1) ∧ ∀ k, k < 122 → s (21 + nx) k = σ 16 k := by
  unfold F_X0_keep F_X3_keepIn
  rw [f2, i_chk hnx (by omega), i_ix (by omega)]
  simp only [fr_let_eq, fr_bS_mk]
  have w : ∀ f, (fr_row σ (21 + nx) f) 19 = σ 19 := fun f => fr_row_ne _ _ (by omega)
  simp only [w, f2, f1, fr_up_at, upd_ne _ _ (show (2 : Nat) ≠ 1 by omega)]
  refine ⟨_, rfl, fun b h1 h2 => ?_, ?_, ?_, fun k hk => ?_⟩
  · rw [fr_up_ne _ _ _ h1, fr_up_ne _ _ _ h1, fr_row_ne _ _ h2]
  · rw [fr_up_at, upd_ne _ _ (by omega), fr_up_at, upd_at, nI_1, show (24 : Int32) = nI 24 from rfl, i_rem (by omega) (by omega) (by omega)]
  · rw [fr_up_at, upd_at, nI_1, show (24 : Int32) = nI 24 from rfl]
    by_cases h : a = 24
    · rw [if_pos ((i_lt (by omega) (by omega)).mpr (by omega)), if_pos h]
    · rw [if_neg (fun q => absurd ((i_lt (by omega) (by omega)).mp q) (by omega)), if_neg h]
  · rw [fr_up_ne _ _ _ (by omega), fr_up_ne _ _ _ (by omega), fr_row_same, cpy122 _ _ hk]
theorem note51 (τ : fr_St) {a : Nat} (ha : a < 24) (f : τ 59 17 = nI a) : L_X8_note_51 fr_fu 0 τ = some (nI 122, fr_row τ 67 (blk (τ 67) (122 * a) 122 (τ 63))) := by
  refine wr_loop0 L_X8_note_51 67 (122 * a) 122 (τ 63) τ (by omega) (fun n s => ?_) (fun n j g hj => ?_)
  · rw [L_X8_note_51, if_pos (show (122 : Int32) ≤ nI 122 from (i_le (a := 122) (b := 122) (by omega) (by omega)).mpr (Nat.le_refl _))]
  · rw [L_X8_note_51, if_neg (show ¬ (122 : Int32) ≤ nI j from fun q => absurd ((i_le (a := 122) (by omega) (by omega)).mp q) (by omega)), fr_row_ne τ (a := 59) g (by omega), fr_row_ne τ (a := 63) g (by omega), f, show (122 : Int32) = nI 122 from rfl, i_mul, i_add, i_chk (by omega) (by omega), i_chk (by omega) (by omega), fr_let_eq, fr_let_eq, i_ix (by omega), i_ix (by omega), fr_up_row, nI_1]
theorem note11 (τ : fr_St) : L_X8_note_11 fr_fu 0 τ = some (nI 2806, fr_row τ 67 (blk (τ 67) 0 2806 (fun t => τ 67 (t + 122)))) := by
  refine wr_loopS L_X8_note_11 67 0 2806 (fun t => τ 67 (t + 122)) τ (by omega) (fun n s => ?_) (fun n j hj => ?_)
  · rw [L_X8_note_11, if_pos (show (2806 : Int32) ≤ nI 2806 from (i_le (a := 2806) (b := 2806) (by omega) (by omega)).mpr (Nat.le_refl _))]
  · rw [L_X8_note_11, if_neg (show ¬ (2806 : Int32) ≤ nI j from fun q => absurd ((i_le (a := 2806) (by omega) (by omega)).mp q) (by omega)), show (122 : Int32) = nI 122 from rfl, i_add, i_chk (by omega) (by omega), i_chk (by omega) (by omega), fr_let_eq, fr_let_eq, i_ix (by omega), i_ix (by omega), fr_up_row, fr_row_same, blk_out (by omega), nI_1, Nat.zero_add]
theorem note_eq (τ : fr_St) {a : Nat} (ha : a ≤ 24) (f : τ 59 17 = nI a) : ∃ s, F_X8_note τ = some s ∧ (∀ b, b ≠ 67 → b ≠ 59 → s b = τ b) ∧ (∀ j, j ≠ 17 → s 59 j = τ 59 j) ∧ s 59 17 = nI (if a = 24 then 24 else a + 1) ∧ (∀ k, k < 122 → s 67 (122 * (if a = 24 then 23 else a) + k) = τ 63 k) ∧ ∀ j k, j < (if a = 24 then 23 else a) → k < 122 → s 67 (122 * j + k) = τ 67 (122 * (if a = 24 then j + 1 else j) + k) := by
  unfold F_X8_note
  rw [f]
  by_cases h : a = 24
  · subst h
    rw [if_pos (show nI 24 = (24 : Int32) from rfl), note11]
    simp only [fr_bP_mk, fr_bS_mk, fr_let_eq]
    have w : ∀ g, (fr_row τ 67 g) 59 = τ 59 := fun g => fr_row_ne _ _ (by omega)
    rw [w, f, show nI 24 - (1 : Int32) = nI 23 from rfl]
    rw [note51 _ (a := 23) (by omega) (by rw [fr_up_at, upd_at])]
    simp only [fr_bP_mk]
    refine ⟨_, rfl, fun b h1 h2 => ?_, fun j hj => ?_, ?_, fun k hk => ?_, fun j k hj hk => ?_⟩
    · rw [fr_up_ne _ _ _ h2, fr_row_ne _ _ h1, fr_up_ne _ _ _ h2, fr_row_ne _ _ h1]
    · rw [fr_up_at, upd_ne _ _ hj, fr_row_ne _ _ (by omega), fr_up_at, upd_ne _ _ hj, w]
    · rw [fr_up_at, upd_at, fr_row_ne _ _ (by omega), fr_up_at, upd_at]
      rfl
    · rw [if_pos trivial, fr_up_ne _ _ _ (by omega), fr_row_same, blk_in hk, fr_up_ne _ _ _ (by omega), fr_row_ne _ _ (by omega)]
    · rw [if_pos trivial] at hj
      rw [if_pos trivial, fr_up_ne _ _ _ (by omega), fr_row_same, blk_out (by omega), fr_up_ne _ _ _ (by omega), fr_row_same, blk_in0 (by omega)]
      congr 1
      omega
  · rw [if_neg (show ¬ nI a = (24 : Int32) from fun q => h ((i_eq (b := 24) (by omega) (by omega)).mp q)), fr_bS_mk, note51 τ (by omega) f]
    simp only [fr_bP_mk, fr_let_eq]
    refine ⟨_, rfl, fun b h1 h2 => ?_, fun j hj => ?_, ?_, fun k hk => ?_, fun j k hj hk => ?_⟩
    · rw [fr_up_ne _ _ _ h2, fr_row_ne _ _ h1]
    · rw [fr_up_at, upd_ne _ _ hj, fr_row_ne _ _ (by omega)]
    · rw [fr_up_at, upd_at, fr_row_ne _ _ (by omega), f, nI_1, if_neg h]
    · rw [if_neg h, fr_up_ne _ _ _ (by omega), fr_row_same, blk_in hk]
    · rw [if_neg h] at hj
      rw [if_neg h, fr_up_ne _ _ _ (by omega), fr_row_same, blk_out (by omega)]
/-- an act: both keep the land, and both change it alike -/
theorem Rel_act (h : Rel N σ) {z z' : Nat → Nat} {a nx : Nat} (hw : WFl z (2 * N + 2)) (hc : CR z (σ 16)) (hr : RR z (σ 63)) (h4 : σ 59 4 = nI 1) (ha : a ≤ 24) (hnx : nx < 24) (f3 : σ 59 17 = nI a) (f6 : ∀ j, j < a → ∃ z, WFl z (2 * N + 2) ∧ CR z (σ (21 + (nx + 24 - a + j) % 24)) ∧ RR z (fun k => σ 67 (122 * j + k)))
    {s s1 t τ : fr_St} (k1 : ∀ b, b ≠ 19 → b ≠ 21 + nx → s b = σ b) (k2 : s 19 1 = nI ((nx + 1) % 24)) (k3 : s 19 2 = nI (if a = 24 then 24 else a + 1)) (k4 : ∀ k, k < 122 → s (21 + nx) k = σ 16 k) (e1 : ∀ b, b ≠ 16 → s1 b = s b)
    (n1 : ∀ b, b ≠ 67 → b ≠ 59 → t b = s1 b) (n2 : ∀ j, j ≠ 17 → t 59 j = s1 59 j) (n3 : t 59 17 = nI (if a = 24 then 24 else a + 1)) (n4 : ∀ k, k < 122 → t 67 (122 * (if a = 24 then 23 else a) + k) = s1 63 k) (n5 : ∀ j k, j < (if a = 24 then 23 else a) → k < 122 → t 67 (122 * j + k) = s1 67 (122 * (if a = 24 then j + 1 else j) + k)) (e2 : ∀ b, b ≠ 63 → τ b = t b)
    (hw' : WFl z' (2 * N + 4)) (hc' : CR z' (s1 16)) (hr' : RR z' (τ 63)) : Rel (N + 1) τ := by
  have q : ∀ b, b ≠ 63 → b ≠ 67 → b ≠ 59 → b ≠ 16 → b ≠ 19 → b ≠ 21 + nx → τ b = σ b := fun b h1 h2 h3 h4 h5 h6 => by rw [e2 b h1, n1 b h2 h3, e1 b h4, k1 b h5 h6]
  have q59 : ∀ j, j ≠ 17 → τ 59 j = σ 59 j := fun j hj => by rw [e2 59 (by omega), n2 j hj, e1 59 (by omega), k1 59 (by omega) (by omega)]
  refine ⟨h.1.fr fun b hb => q b (by omega) (by omega) (by omega) (by omega) (by omega) (by omega), h.2.1.fr ?_, h.2.2.1.fr ?_, ⟨z', Or.inl hw', ?_, hr', ?_⟩, ⟨if a = 24 then 24 else a + 1, (nx + 1) % 24, ?_, Nat.mod_lt _ (by omega), ?_, ?_, ?_, fun j hj => ?_⟩, h.2.2.2.2.2.1.mono.fr ?_, h.2.2.2.2.2.2.fr ?_ (Or.inr (by rw [q59 4 (by omega)]; exact h4))⟩
  · rw [q 0 (by omega) (by omega) (by omega) (by omega) (by omega) (by omega), q59 3 (by omega), q59 9 (by omega)]; exact ⟨rfl, rfl, rfl, rfl⟩
  · rw [q 13 (by omega) (by omega) (by omega) (by omega) (by omega) (by omega), q59 8 (by omega), q 14 (by omega) (by omega) (by omega) (by omega) (by omega) (by omega), q 65 (by omega) (by omega) (by omega) (by omega) (by omega) (by omega)]; exact ⟨rfl, rfl, rfl, rfl⟩
  · rw [e2 16 (by omega), n1 16 (by omega) (by omega)]; exact hc'
  · have h1 := hw'.1
    rw [q59 4 (by omega), if_neg (by omega)]; exact h4
  · split <;> omega
  · rw [e2 19 (by omega), n1 19 (by omega) (by omega), e1 19 (by omega)]; exact k3
  · rw [e2 19 (by omega), n1 19 (by omega) (by omega), e1 19 (by omega)]; exact k2
  · rw [e2 59 (by omega)]; exact n3
  · have u67 : τ 67 = t 67 := e2 67 (by omega)
    have v67 : s1 67 = σ 67 := by rw [e1 67 (by omega), k1 67 (by omega) (by omega)]
    have v63 : s1 63 = σ 63 := by rw [e1 63 (by omega), k1 63 (by omega) (by omega)]
    by_cases hl : j = (if a = 24 then 23 else a)
    · refine ⟨z, hw.mono (by omega), ?_, ?_⟩
      · have ei : (( nx + 1) % 24 + 24 - (if a = 24 then 24 else a + 1) + j) % 24 = nx := by
          rw [hl]
          split <;> omega
        rw [ei, e2 _ (by omega), n1 _ (by omega) (by omega), e1 _ (by omega)]
        exact hc.congr k4
      · refine hr.congr fun k hk => ?_
        rw [u67, hl, n4 k hk, v63]
    · have hj2 : j < (if a = 24 then 23 else a) := by
        split at hj <;> split at hl <;> split <;> omega
      obtain ⟨y, y1, y2, y3⟩ := f6 (if a = 24 then j + 1 else j) (by split at hj2 <;> split <;> omega)
      refine ⟨y, y1.mono (by omega), ?_, ?_⟩
      · have ei : ((nx + 1) % 24 + 24 - (if a = 24 then 24 else a + 1) + j) % 24 = (nx + 24 - a + (if a = 24 then j + 1 else j)) % 24 := by
          split <;> omega
        have en : (nx + 24 - a + (if a = 24 then j + 1 else j)) % 24 ≠ nx := by
          split at hj2 <;> split <;> omega
        have el : (nx + 24 - a + (if a = 24 then j + 1 else j)) % 24 < 24 := Nat.mod_lt _ (by omega)
        rw [ei, q _ (by omega) (by omega) (by omega) (by omega) (by omega) (by omega)]
        exact y2
      · refine y3.congr fun k hk => ?_
        rw [u67, n5 j k hj2 hk, v67]
  · rw [q 58 (by omega) (by omega) (by omega) (by omega) (by omega) (by omega), q 72 (by omega) (by omega) (by omega) (by omega) (by omega) (by omega), q 73 (by omega) (by omega) (by omega) (by omega) (by omega) (by omega), q 56 (by omega) (by omega) (by omega) (by omega) (by omega) (by omega), q 57 (by omega) (by omega) (by omega) (by omega) (by omega) (by omega)]; exact ⟨rfl, rfl, rfl, rfl, rfl⟩
  · rw [q 53 (by omega) (by omega) (by omega) (by omega) (by omega) (by omega), q59 25 (by omega), q 54 (by omega) (by omega) (by omega) (by omega) (by omega) (by omega), q 74 (by omega) (by omega) (by omega) (by omega) (by omega) (by omega)]; exact ⟨rfl, rfl, rfl, rfl⟩
end ACT
