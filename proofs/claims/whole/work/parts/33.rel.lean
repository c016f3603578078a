/-! ===== loops that write a row ===== -/
def blk (f : Nat → Int32) (base N : Nat) (src : Nat → Int32) : Nat → Int32 := fun i => if base ≤ i ∧ i < base + N then src (i - base) else f i
theorem fr_row_self (σ : fr_St) (a : Nat) : fr_row σ a (σ a) = σ := by
  funext b
  unfold fr_row
  split
  · rename_i h; rw [h]
  · rfl
theorem fr_row_row (σ : fr_St) (a : Nat) (f h : Nat → Int32) : fr_row (fr_row σ a f) a h = fr_row σ a h := by
  funext b
  unfold fr_row
  split <;> rfl
theorem fr_up_row (σ : fr_St) (a j : Nat) (f : Nat → Int32) (v : Int32) : fr_up (fr_row σ a f) a j v = fr_row σ a (upd f j v) := by
  unfold fr_up
  rw [fr_row_same, fr_row_row]
theorem blk_0 (f : Nat → Int32) (base : Nat) (src : Nat → Int32) : blk f base 0 src = f := by
  funext i
  unfold blk
  rw [if_neg (by omega)]
theorem blk_s (f : Nat → Int32) (base j : Nat) (src : Nat → Int32) : upd (blk f base j src) (base + j) (src j) = blk f base (j + 1) src := by
  funext i
  unfold upd blk
  by_cases h : i = base + j
  · subst h
    rw [if_pos rfl, if_pos (by omega), show base + j - base = j by omega]
  · rw [if_neg h]
    by_cases h2 : base ≤ i ∧ i < base + j
    · rw [if_pos h2, if_pos (by omega)]
    · rw [if_neg h2, if_neg (by omega)]
theorem blk_in {f : Nat → Int32} {base N : Nat} {src : Nat → Int32} {i : Nat} (h : i < N) : blk f base N src (base + i) = src i := by
  unfold blk
  rw [if_pos (by omega), show base + i - base = i by omega]
theorem blk_in0 {f : Nat → Int32} {N : Nat} {src : Nat → Int32} {i : Nat} (h : i < N) : blk f 0 N src i = src i := by
  unfold blk
  rw [if_pos (by omega), Nat.sub_zero]
theorem blk_out {f : Nat → Int32} {base N : Nat} {src : Nat → Int32} {i : Nat} (h : i < base ∨ base + N ≤ i) : blk f base N src i = f i := by
  unfold blk
  rw [if_neg (by omega)]
theorem wr_loop (L : Nat → Int32 → fr_St → Option (Int32 × fr_St)) (a base N : Nat) (src : Nat → Int32) (σ : fr_St) (hx : ∀ n τ, L (n + 1) (nI N) τ = some (nI N, τ)) (hs : ∀ n j f, j < N → L (n + 1) (nI j) (fr_row σ a f) = L n (nI (j + 1)) (fr_row σ a (upd f (base + j) (src j)))) : ∀ (m j n : Nat), j + m = N → m < n → L n (nI j) (fr_row σ a (blk (σ a) base j src)) = some (nI N, fr_row σ a (blk (σ a) base N src)) := by
  intro m
  induction m with
  | zero =>
    intro j n hj hn
    obtain ⟨n, rfl⟩ : ∃ m, n = m + 1 := ⟨n - 1, by omega⟩
    have hj : j = N := by omega
    subst hj
    exact hx n _
  | succ m ih =>
    intro j n hj hn
    obtain ⟨n, rfl⟩ : ∃ m, n = m + 1 := ⟨n - 1, by omega⟩
    rw [hs n j _ (by omega), blk_s]
    exact ih (j + 1) n (by omega) (by omega)
theorem wr_loop0 (L : Nat → Int32 → fr_St → Option (Int32 × fr_St)) (a base N : Nat) (src : Nat → Int32) (σ : fr_St) (hN : N < 1000000000) (hx : ∀ n τ, L (n + 1) (nI N) τ = some (nI N, τ)) (hs : ∀ n j f, j < N → L (n + 1) (nI j) (fr_row σ a f) = L n (nI (j + 1)) (fr_row σ a (upd f (base + j) (src j)))) : L fr_fu 0 σ = some (nI N, fr_row σ a (blk (σ a) base N src)) := by
  have h := wr_loop L a base N src σ hx hs N 0 fr_fu (by omega) (by have := fr_fu_big; omega)
  rw [blk_0, fr_row_self] at h
  exact h
theorem fill_eq (ka kN : Nat) (v : Int32) (σ : fr_St) (hN : kN < 1000000000) : F_J7_fill_53178 ka kN v σ = some (fr_row σ ka (blk (σ ka) 0 kN (fun _ => v))) := by
  unfold F_J7_fill_53178
  have key := wr_loop0 (L_J7_fill_53178_5 ka kN v (nI kN)) ka 0 kN (fun _ => v) σ hN (fun n τ => by
    rw [L_J7_fill_53178_5, if_pos ((i_le (by omega) (by omega)).mpr (Nat.le_refl _))]) (fun n j f hj => by
    rw [L_J7_fill_53178_5, if_neg (fun q => absurd ((i_le (by omega) (by omega)).mp q) (by omega)), i_chk hj (by omega), fr_let_eq, fr_let_eq, i_ix (by omega), fr_up_row, Nat.zero_add, nI_1])
  rw [fr_let_eq]
  show fr_bP (L_J7_fill_53178_5 ka kN v (nI kN) fr_fu 0 σ) _ = _
  rw [key]
  rfl
/-! ===== the relation between class and reference ===== -/
def Rshelf (σ : fr_St) : Prop := ∀ r, r < 8 → σ 12 r = σ 61 r ∧ (σ 12 r = -1 ∨ ∃ k, k ≤ 40 ∧ σ 12 r = nI k) ∧ σ 11 r = σ 60 r ∧ (∃ k, k ≤ 2 ∧ σ 11 r = nI k) ∧ ∀ i, i < 40 → σ (3 + r) i = σ 62 (40 * r + i)
def Rmisc (σ : fr_St) : Prop := σ 0 10 = σ 59 3 ∧ σ 0 9 = σ 59 9
def Rtape (σ : fr_St) : Prop := ∃ m, m ≤ 120 ∧ σ 13 1 = nI m ∧ σ 59 8 = nI m ∧ ∀ i, i < 120 → ∃ b, b ≤ 255 ∧ σ 14 i = nI b ∧ σ 65 i = nI b
def Zl (z : Nat → Nat) (N : Nat) : Prop := WFl z (2 * N + 2) ∨ ∀ k, z k = 0
def Rland (N : Nat) (σ : fr_St) : Prop := ∃ z, Zl z N ∧ CR z (σ 16) ∧ RR z (σ 63) ∧ σ 59 4 = nI (if z 0 = 0 then 0 else 1)
def Racts (N : Nat) (σ : fr_St) : Prop := ∃ a nx, a ≤ 24 ∧ nx < 24 ∧ σ 19 2 = nI a ∧ σ 19 1 = nI nx ∧ σ 59 17 = nI a ∧ ∀ j, j < a → ∃ z, WFl z (2 * N + 2) ∧ CR z (σ (21 + (nx + 24 - a + j) % 24)) ∧ RR z (fun k => σ 67 (122 * j + k))
def Rimg (N : Nat) (σ : fr_St) : Prop := ∀ k, k < 2 → (σ 58 k = 0 ∧ σ 72 k = 0) ∨ (σ 58 k = 1 ∧ σ 72 k = 1 ∧ ∃ z, WFl z (2 * N + 2) ∧ CR z (σ (56 + k)) ∧ RR z (fun i => σ 73 (122 * k + i)))
def Rtrace (σ : fr_St) : Prop := (∃ t, t ≤ 16 ∧ σ 53 2 = nI t ∧ σ 59 25 = nI t ∧ ∀ i, i < 16 → σ 54 i = σ 74 i) ∧ (σ 59 4 = nI 1 ∨ (σ 59 17 = nI 0 ∧ ∀ k, k < 2 → σ 72 k = 0))
def Rel (N : Nat) (σ : fr_St) : Prop := Rshelf σ ∧ Rmisc σ ∧ Rtape σ ∧ Rland N σ ∧ Racts N σ ∧ Rimg N σ ∧ Rtrace σ
theorem WFl.mono {z : Nat → Nat} {A B : Nat} (h : WFl z A) (hAB : A ≤ B) : WFl z B := by
  obtain ⟨a, b, c, d, e, f, g, i, j, k, l⟩ := h
  exact ⟨a, b, c, d, e, f, g, i, j, fun q hq => ⟨Nat.le_trans (k q hq).1 hAB, (k q hq).2⟩, l⟩
theorem Zl.mono {z : Nat → Nat} {N : Nat} (h : Zl z N) : Zl z (N + 1) := h.elim (fun q => Or.inl (q.mono (by omega))) Or.inr
theorem Zl.b {z : Nat → Nat} {N : Nat} (h : Zl z N) : z 0 ≤ 30 ∧ z 1 ≤ 8 ∧ z 2 ≤ 9 ∧ z 3 ≤ 4 ∧ z 4 ≤ 999 := by
  rcases h with h | h
  · exact ⟨h.2.1, h.2.2.2.1, h.2.2.2.2.1, h.2.2.2.2.2.1, h.2.2.2.2.2.2.1⟩
  · simp [h]
theorem Zl.wf {z : Nat → Nat} {N : Nat} (h : Zl z N) (k : Nat) (hk : 0 < z k) : WFl z (2 * N + 2) := by
  rcases h with h | h
  · exact h
  · rw [h k] at hk; omega
theorem Rland.mono {N : Nat} {σ : fr_St} (h : Rland N σ) : Rland (N + 1) σ := by
  obtain ⟨z, a, b⟩ := h
  exact ⟨z, a.mono, b⟩
theorem Racts.mono {N : Nat} {σ : fr_St} (h : Racts N σ) : Racts (N + 1) σ := by
  obtain ⟨a, nx, h1, h2, h3, h4, h5, h6⟩ := h
  refine ⟨a, nx, h1, h2, h3, h4, h5, fun j hj => ?_⟩
  obtain ⟨z, w, r⟩ := h6 j hj
  exact ⟨z, w.mono (by omega), r⟩
theorem Rimg.mono {N : Nat} {σ : fr_St} (h : Rimg N σ) : Rimg (N + 1) σ := by
  intro k hk
  rcases h k hk with q | ⟨h1, h2, z, w, r⟩
  · exact Or.inl q
  · exact Or.inr ⟨h1, h2, z, w.mono (by omega), r⟩
theorem Rel.mono {N : Nat} {σ : fr_St} (h : Rel N σ) : Rel (N + 1) σ := ⟨h.1, h.2.1, h.2.2.1, h.2.2.2.1.mono, h.2.2.2.2.1.mono, h.2.2.2.2.2.1.mono, h.2.2.2.2.2.2⟩
/-! frames: which cells each part looks at -/
theorem Rshelf.fr {σ τ : fr_St} (h : Rshelf σ) (e : ∀ a, (3 ≤ a ∧ a ≤ 12) ∨ (60 ≤ a ∧ a ≤ 62) → τ a = σ a) : Rshelf τ := by
  intro r hr
  have q := h r hr
  rw [e 12 (by omega), e 61 (by omega), e 11 (by omega), e 60 (by omega), e (3 + r) (by omega), e 62 (by omega)]
  exact q
theorem Rmisc.fr {σ τ : fr_St} (h : Rmisc σ) (e : τ 0 10 = σ 0 10 ∧ τ 0 9 = σ 0 9 ∧ τ 59 3 = σ 59 3 ∧ τ 59 9 = σ 59 9) : Rmisc τ := by
  unfold Rmisc
  rw [e.1, e.2.1, e.2.2.1, e.2.2.2]
  exact h
theorem Rtape.fr {σ τ : fr_St} (h : Rtape σ) (e : τ 13 1 = σ 13 1 ∧ τ 59 8 = σ 59 8 ∧ τ 14 = σ 14 ∧ τ 65 = σ 65) : Rtape τ := by
  unfold Rtape
  rw [e.1, e.2.1, e.2.2.1, e.2.2.2]
  exact h
theorem Rland.fr {N : Nat} {σ τ : fr_St} (h : Rland N σ) (e : τ 16 = σ 16 ∧ τ 63 = σ 63 ∧ τ 59 4 = σ 59 4) : Rland N τ := by
  unfold Rland
  rw [e.1, e.2.1, e.2.2]
  exact h
theorem Racts.fr {N : Nat} {σ τ : fr_St} (h : Racts N σ) (e : τ 19 1 = σ 19 1 ∧ τ 19 2 = σ 19 2 ∧ τ 59 17 = σ 59 17 ∧ τ 67 = σ 67 ∧ ∀ a, 21 ≤ a ∧ a ≤ 44 → τ a = σ a) : Racts N τ := by
  obtain ⟨a, nx, h1, h2, h3, h4, h5, h6⟩ := h
  refine ⟨a, nx, h1, h2, by rw [e.2.1]; exact h3, by rw [e.1]; exact h4, by rw [e.2.2.1]; exact h5, fun j hj => ?_⟩
  have hm : (nx + 24 - a + j) % 24 < 24 := Nat.mod_lt _ (by omega)
  rw [e.2.2.2.1, e.2.2.2.2 _ (by omega)]
  exact h6 j hj
theorem Rimg.fr {N : Nat} {σ τ : fr_St} (h : Rimg N σ) (e : τ 58 = σ 58 ∧ τ 72 = σ 72 ∧ τ 73 = σ 73 ∧ τ 56 = σ 56 ∧ τ 57 = σ 57) : Rimg N τ := by
  intro k hk
  have q := h k hk
  have e5 : τ (56 + k) = σ (56 + k) := by
    rcases (show k = 0 ∨ k = 1 by omega) with rfl | rfl
    · exact e.2.2.2.1
    · exact e.2.2.2.2
  rw [e.1, e.2.1, e.2.2.1, e5]
  exact q
theorem Rtrace.fr {σ τ : fr_St} (h : Rtrace σ) (e : τ 53 2 = σ 53 2 ∧ τ 59 25 = σ 59 25 ∧ τ 54 = σ 54 ∧ τ 74 = σ 74) (e2 : (τ 59 4 = σ 59 4 ∧ τ 59 17 = σ 59 17 ∧ τ 72 = σ 72) ∨ τ 59 4 = nI 1) : Rtrace τ := by
  unfold Rtrace
  rw [e.1, e.2.1, e.2.2.1, e.2.2.2]
  refine ⟨h.1, ?_⟩
  rcases e2 with ⟨a, b, c⟩ | e2
  · rw [a, b, c]
    exact h.2
  · exact Or.inl e2
/-- the seer's own rows, and the reference's -/
def scr (a : Nat) : Prop := (46 ≤ a ∧ a ≤ 52) ∨ a = 17 ∨ a = 18 ∨ a = 64 ∨ a = 66 ∨ (68 ≤ a ∧ a ≤ 71)
theorem Rel_scr {N : Nat} {σ τ : fr_St} (h : Rel N σ) (e : ∀ a, ¬ scr a → τ a = σ a) : Rel N τ := by
  have e' : ∀ a, ¬ (46 ≤ a ∧ a ≤ 52) → a ≠ 17 → a ≠ 18 → a ≠ 64 → a ≠ 66 → ¬ (68 ≤ a ∧ a ≤ 71) → τ a = σ a := fun a h1 h2 h3 h4 h5 h6 => e a (by unfold scr; omega)
  refine ⟨h.1.fr fun a ha => e' a (by omega) (by omega) (by omega) (by omega) (by omega) (by omega), h.2.1.fr ?_, h.2.2.1.fr ?_, h.2.2.2.1.fr ?_, h.2.2.2.2.1.fr ⟨?_, ?_, ?_, ?_, fun a ha => e' a (by omega) (by omega) (by omega) (by omega) (by omega) (by omega)⟩, h.2.2.2.2.2.1.fr ?_, h.2.2.2.2.2.2.fr ?_ (Or.inl ?_)⟩
  · rw [e' 0 (by omega) (by omega) (by omega) (by omega) (by omega) (by omega), e' 59 (by omega) (by omega) (by omega) (by omega) (by omega) (by omega)]; exact ⟨rfl, rfl, rfl, rfl⟩
  · rw [e' 13 (by omega) (by omega) (by omega) (by omega) (by omega) (by omega), e' 59 (by omega) (by omega) (by omega) (by omega) (by omega) (by omega), e' 14 (by omega) (by omega) (by omega) (by omega) (by omega) (by omega), e' 65 (by omega) (by omega) (by omega) (by omega) (by omega) (by omega)]; exact ⟨rfl, rfl, rfl, rfl⟩
  · rw [e' 16 (by omega) (by omega) (by omega) (by omega) (by omega) (by omega), e' 59 (by omega) (by omega) (by omega) (by omega) (by omega) (by omega), e' 63 (by omega) (by omega) (by omega) (by omega) (by omega) (by omega)]; exact ⟨rfl, rfl, rfl⟩
  · rw [e' 19 (by omega) (by omega) (by omega) (by omega) (by omega) (by omega)]
  · rw [e' 19 (by omega) (by omega) (by omega) (by omega) (by omega) (by omega)]
  · rw [e' 59 (by omega) (by omega) (by omega) (by omega) (by omega) (by omega)]
  · rw [e' 67 (by omega) (by omega) (by omega) (by omega) (by omega) (by omega)]
  · rw [e' 58 (by omega) (by omega) (by omega) (by omega) (by omega) (by omega), e' 72 (by omega) (by omega) (by omega) (by omega) (by omega) (by omega), e' 73 (by omega) (by omega) (by omega) (by omega) (by omega) (by omega), e' 56 (by omega) (by omega) (by omega) (by omega) (by omega) (by omega), e' 57 (by omega) (by omega) (by omega) (by omega) (by omega) (by omega)]; exact ⟨rfl, rfl, rfl, rfl, rfl⟩
  · rw [e' 53 (by omega) (by omega) (by omega) (by omega) (by omega) (by omega), e' 59 (by omega) (by omega) (by omega) (by omega) (by omega) (by omega), e' 54 (by omega) (by omega) (by omega) (by omega) (by omega) (by omega), e' 74 (by omega) (by omega) (by omega) (by omega) (by omega) (by omega)]; exact ⟨rfl, rfl, rfl, rfl⟩
  · rw [e' 59 (by omega) (by omega) (by omega) (by omega) (by omega) (by omega), e' 72 (by omega) (by omega) (by omega) (by omega) (by omega) (by omega)]; exact ⟨rfl, rfl, rfl⟩
/-- what is to be shown of a call: both answer alike, and the relation stays -/
def Ok (N : Nat) (X M : fr_St → Option (Int32 × fr_St)) (σ : fr_St) : Prop := ∃ r s1 s2, X σ = some (r, s1) ∧ M s1 = some (r, s2) ∧ Rel (N + 1) s2
def OkL (N : Nat) (X M : fr_St → Option (Int64 × fr_St)) (σ : fr_St) : Prop := ∃ r s1 s2, X σ = some (r, s1) ∧ M s1 = some (r, s2) ∧ Rel (N + 1) s2
theorem st_fault {N : Nat} {σ : fr_St} (h : Rel N σ) : Ok N F_X7_fault F_X8_fault σ := ⟨_, σ, σ, rfl, by rw [h.2.1.2]; rfl, h.mono⟩
theorem st_status {N : Nat} {σ : fr_St} (h : Rel N σ) : Ok N F_X7_status F_X8_status σ := ⟨_, σ, σ, rfl, by rw [h.2.1.1]; rfl, h.mono⟩
