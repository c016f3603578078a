/-! ===== the world of the class and of the reference: 75 cells, fixed once they are made ===== -/
/-- the tables' words that a caller hands on -/
def fr_tbl : List Cond := lw_tbl.filter goodWord
abbrev fr_St : Type := Nat → Nat → Int32
/-- of each cell: its kind (0 an object, 1 ints, 2 booleans, 3 rows of ints), its class or its length, its references by slot (0: an int; k + 1: the cell k) -/
def fr_tab : List (Nat × Nat × List Nat) := [
  (0, 6, [2, 14, 16, 18, 20, 46, 54, 56, 59, 0, 0]),
  (0, 5, [3, 12, 13]),
  (3, 8, [4, 5, 6, 7, 8, 9, 10, 11]),
  (1, 40, []), (1, 40, []), (1, 40, []), (1, 40, []), (1, 40, []), (1, 40, []), (1, 40, []), (1, 40, []),
  (1, 8, []), (1, 8, []),
  (0, 3, [15, 0, 0, 0, 0, 0, 0]),
  (1, 120, []),
  (0, 2, [17]), (1, 122, []),
  (0, 2, [19]), (1, 122, []),
  (0, 0, [21, 0, 0]),
  (3, 24, [22, 23, 24, 25, 26, 27, 28, 29, 30, 31, 32, 33, 34, 35, 36, 37, 38, 39, 40, 41, 42, 43, 44, 45]),
  (1, 122, []), (1, 122, []), (1, 122, []), (1, 122, []), (1, 122, []), (1, 122, []), (1, 122, []), (1, 122, []),
  (1, 122, []), (1, 122, []), (1, 122, []), (1, 122, []), (1, 122, []), (1, 122, []), (1, 122, []), (1, 122, []),
  (1, 122, []), (1, 122, []), (1, 122, []), (1, 122, []), (1, 122, []), (1, 122, []), (1, 122, []), (1, 122, []),
  (0, 4, [16, 47, 48, 49, 50, 51, 52, 53]),
  (1, 9, []), (1, 9, []), (1, 8, []), (1, 8, []), (1, 64, []), (1, 9, []), (1, 4096, []),
  (0, 1, [16, 55, 0]),
  (1, 16, []),
  (3, 2, [57, 58]),
  (1, 122, []), (1, 122, []),
  (2, 2, []),
  (0, 7, [61, 62, 63, 0, 0, 64, 65, 66, 0, 0, 0, 0, 0, 0, 0, 67, 68, 0, 69, 70, 71, 72, 73, 74, 75, 0]),
  (1, 8, []), (1, 8, []), (1, 320, []), (1, 122, []), (1, 40, []), (1, 120, []), (1, 122, []), (1, 2928, []),
  (1, 8, []), (1, 4096, []), (1, 8, []), (1, 122, []), (2, 2, []), (1, 244, []), (1, 16, [])]
theorem fr_tab_len : fr_tab.length = 75 := by decide
/-- the heap's names: the tables' classes, the cells' addresses, the array classes (ints, booleans, rows), the three constant arrays -/
abbrev fr_G : Type := va_G × (Nat → Nat) × (ClassId × ClassId × ClassId) × (Nat × Nat × Nat)
abbrev fr_cls : List vw_C := [(RX0, TX0, 3), (RX1, TX1, 3), (RX3, TX3, 1), (RX4, TX4, 7), (RX5, TX5, 8), (RX6, TX6, 3), (RX7, TX7, 11), (RX8, TX8, 26)]
def fr_fv (ad : Nat → Nat) (σ : fr_St) (k : Nat) (refs : List Nat) (j : Nat) : Value := match refs[j]? with
  | some (t + 1) => .ref (ad t)
  | _ => .int (σ k j)
def fr_fs (ad : Nat → Nat) (σ : fr_St) (k : Nat) (refs : List Nat) : List Value := (List.range refs.length).map (fr_fv ad σ k refs)
def fr_E (g : fr_G) (σ : fr_St) (k : Nat) (q : Nat × Nat × List Nat) : va_E := match q.1 with
  | 0 => .inr (q.2.1, fr_fs g.2.1 σ k q.2.2)
  | 1 => .inl (g.2.2.1.1, q.2.1, .inl (σ k))
  | 2 => .inl (g.2.2.1.2.1, q.2.1, .inl (σ k))
  | _ => .inl (g.2.2.1.2.2, q.2.1, .inr (.inr (.inr (.inr (fun i => if i < q.2.1 then some (g.2.1 (q.2.2.getD i 0 - 1)) else none)))))
def fr_wd (g : fr_G) (σ : fr_St) : va_W := (List.range 75).map (fun k => (g.2.1 k, fr_E g σ k (fr_tab.getD k (0, 0, []))))
def fr_row (σ : fr_St) (k : Nat) (f : Nat → Int32) : fr_St := fun a => if a = k then f else σ a
def fr_up (σ : fr_St) (k j : Nat) (v : Int32) : fr_St := fr_row σ k (upd (σ k) j v)
theorem fr_row_same (σ : fr_St) (k : Nat) (f : Nat → Int32) : fr_row σ k f k = f := if_pos rfl
theorem fr_row_ne (σ : fr_St) {k a : Nat} (f : Nat → Int32) (h : a ≠ k) : fr_row σ k f a = σ a := if_neg h
theorem fr_lt {k : Nat} {q : Nat × Nat × List Nat} (h : fr_tab[k]? = some q) : k < 75 := by
  have h1 := (List.getElem?_eq_some_iff.mp h).1
  rw [fr_tab_len] at h1
  exact h1
theorem fr_wd_at {g : fr_G} {σ : fr_St} {k : Nat} {q : Nat × Nat × List Nat} (h : fr_tab[k]? = some q) : (fr_wd g σ)[k]? = some (g.2.1 k, fr_E g σ k q) := by
  have h1 := fr_lt h
  simp [fr_wd, h1, List.getD, h]
theorem fr_wd_len (g : fr_G) (σ : fr_St) : (fr_wd g σ).length = 75 := by simp [fr_wd]
/-- only the cell k has changed -/
theorem fr_wd_set {g : fr_G} {σ τ : fr_St} {k : Nat} {q : Nat × Nat × List Nat} (h : fr_tab[k]? = some q) (hne : ∀ a, a ≠ k → τ a = σ a) {e : va_E} (he : fr_E g τ k q = e) : (fr_wd g σ).set k (g.2.1 k, e) = fr_wd g τ := by
  have hk := fr_lt h
  apply List.ext_getElem?
  intro i
  rw [List.getElem?_set]
  by_cases hi : k = i
  · subst hi
    rw [if_pos rfl, fr_wd_at h, he, if_pos (by rw [fr_wd_len]; exact hk)]
  · rw [if_neg hi]
    by_cases hl : i < 75
    · simp only [fr_wd, List.getElem?_map, List.getElem?_range hl, Option.map_some]
      congr 2
      unfold fr_E fr_fs
      have e1 : τ i = σ i := hne i (fun q => hi q.symm)
      have e2 : fr_fv g.2.1 τ i (fr_tab.getD i (0, 0, [])).2.2 = fr_fv g.2.1 σ i (fr_tab.getD i (0, 0, [])).2.2 := by
        funext j
        unfold fr_fv
        rw [e1]
      rw [e1, e2]
    · have h1 : (fr_wd g σ)[i]? = none := List.getElem?_eq_none (by rw [fr_wd_len]; omega)
      have h2 : (fr_wd g τ)[i]? = none := List.getElem?_eq_none (by rw [fr_wd_len]; omega)
      rw [h1, h2]
theorem fr_set_i {g : fr_G} {σ : fr_St} {k n : Nat} {rs : List Nat} (h : fr_tab[k]? = some (1, n, rs)) (f : Nat → Int32) : (fr_wd g σ).set k (g.2.1 k, .inl (g.2.2.1.1, n, .inl f)) = fr_wd g (fr_row σ k f) :=
  fr_wd_set h (fun _ hne => fr_row_ne σ f hne) (by simp [fr_E, fr_row_same])
theorem fr_set_z {g : fr_G} {σ : fr_St} {k n : Nat} {rs : List Nat} (h : fr_tab[k]? = some (2, n, rs)) (f : Nat → Int32) : (fr_wd g σ).set k (g.2.1 k, .inl (g.2.2.1.2.1, n, .inl f)) = fr_wd g (fr_row σ k f) :=
  fr_wd_set h (fun _ hne => fr_row_ne σ f hne) (by simp [fr_E, fr_row_same])
theorem fr_fv_i {ad : Nat → Nat} {σ : fr_St} {k j : Nat} {rs : List Nat} (hj : rs[j]? = some 0) : fr_fv ad σ k rs j = .int (σ k j) := by
  unfold fr_fv
  rw [hj]
theorem fr_fv_r {ad : Nat → Nat} {σ : fr_St} {k j t : Nat} {rs : List Nat} (hj : rs[j]? = some (t + 1)) : fr_fv ad σ k rs j = .ref (ad t) := by
  unfold fr_fv
  rw [hj]
theorem fr_set_f {g : fr_G} {σ : fr_St} {k ci j : Nat} {rs : List Nat} (h : fr_tab[k]? = some (0, ci, rs)) (hj : rs[j]? = some 0) (v : Int32) : (fr_wd g σ).set k (g.2.1 k, .inr (ci, (fr_fs g.2.1 σ k rs).set j (.int v))) = fr_wd g (fr_up σ k j v) := by
  refine fr_wd_set h (fun _ hne => fr_row_ne σ _ hne) ?_
  simp only [fr_E]
  congr 2
  apply List.ext_getElem?
  intro i
  rw [List.getElem?_set]
  have hjl : j < rs.length := (List.getElem?_eq_some_iff.mp hj).1
  by_cases hi : j = i
  · subst hi
    rw [if_pos rfl, if_pos (by simp [fr_fs]; exact hjl)]
    simp only [fr_fs, List.getElem?_map, List.getElem?_range hjl, Option.map_some, fr_fv_i hj]
    simp [fr_up, fr_row_same, upd]
  · rw [if_neg hi]
    by_cases hl : i < rs.length
    · simp only [fr_fs, List.getElem?_map, List.getElem?_range hl, Option.map_some]
      congr 1
      unfold fr_fv
      simp [fr_up, fr_row_same, upd, Ne.symm hi]
    · rw [List.getElem?_eq_none (by simp [fr_fs]; omega), List.getElem?_eq_none (by simp [fr_fs]; omega)]
theorem fr_fs_i {ad : Nat → Nat} {σ : fr_St} {k j : Nat} {rs : List Nat} (hj : rs[j]? = some 0) : (fr_fs ad σ k rs)[j]? = some (.int (σ k j)) := by
  have hjl : j < rs.length := (List.getElem?_eq_some_iff.mp hj).1
  simp only [fr_fs, List.getElem?_map, List.getElem?_range hjl, Option.map_some, fr_fv_i hj]
theorem fr_fs_r {ad : Nat → Nat} {σ : fr_St} {k j t : Nat} {rs : List Nat} (hj : rs[j]? = some (t + 1)) : (fr_fs ad σ k rs)[j]? = some (.ref (ad t)) := by
  have hjl : j < rs.length := (List.getElem?_eq_some_iff.mp hj).1
  simp only [fr_fs, List.getElem?_map, List.getElem?_range hjl, Option.map_some, fr_fv_r hj]
/-- the world's addresses -/
def fr_own (g : fr_G) : Nat → Prop := fun q => ∃ k : Nat, k < 75 ∧ q = g.2.1 k
def fr_A (g : fr_G) (sz : Nat) : Nat → Prop := fun q => fr_own g q ∨ sz ≤ q
abbrev fr_tys (g : fr_G) : List (ClassId × FieldType) := [(g.2.2.1.1, .int), (g.2.2.1.2.1, .boolean), (g.2.2.1.2.2, .array .int)]
def fr_K (g : fr_G) (U : State) : Prop := va_K g.1 fr_cls (fr_tys g) U
def fr_D (g : fr_G) : Prop := ∀ i j : Nat, i < 75 → j < 75 → g.2.1 i = g.2.1 j → i = j
def fr_cA (k : Nat) : Int32 := [(-1 : Int32), 0, 1, 1, 0, 4].getD k 0
def fr_cS (k : Nat) : Int32 := [(10 : Int32), 11, 12, 0, 13, 14].getD k 0
def fr_cM (k : Nat) : Int32 := [(20 : Int32), 21, 24, 22, 23, 0].getD k 0
/-- the three constant arrays, outside the world -/
def fr_S (g : fr_G) (U : State) (H : Heap) : Prop :=
  (va_Z "FeetRoads$Kinds" "ABOVE" "[I" (.ref g.2.2.2.1) (fr_own g) U H ∧ va_T .int g.2.2.2.1 6 (fun j => .int (fr_cA j)) (fr_own g) U H) ∧
  (va_Z "FeetRoads$Asker" "SIZE_BODIES" "[I" (.ref g.2.2.2.2.1) (fr_own g) U H ∧ va_T .int g.2.2.2.2.1 6 (fun j => .int (fr_cS j)) (fr_own g) U H) ∧
  (va_Z "FeetRoads$Asker" "MARK_BODIES" "[I" (.ref g.2.2.2.2.2) (fr_own g) U H ∧ va_T .int g.2.2.2.2.2 6 (fun j => .int (fr_cM j)) (fr_own g) U H)
/-- what holds of a state with the world σ -/
def fr_B (g : fr_G) (σ : fr_St) (U : State) : Prop := va_P g.1 fr_cls (fr_wd g σ) U.heap ∧ fr_K g U ∧ fr_D g ∧ fr_S g U U.heap
theorem fr_vaD {g : fr_G} (h : fr_D g) (σ : fr_St) (sz : Nat) : va_D (fr_A g sz) (fr_wd g σ) := by
  have key : ∀ (i : Nat) (p : Nat × va_E), (fr_wd g σ)[i]? = some p → i < 75 ∧ p.1 = g.2.1 i := by
    intro i p hp
    have hl : i < 75 := by
      have h1 := (List.getElem?_eq_some_iff.mp hp).1
      rw [fr_wd_len] at h1
      exact h1
    simp only [fr_wd, List.getElem?_map, List.getElem?_range hl, Option.map_some] at hp
    exact ⟨hl, by rw [← Option.some.inj hp]⟩
  refine ⟨fun i j p q hp hq e => ?_, fun k q hq => ?_⟩
  · obtain ⟨a1, a2⟩ := key i p hp
    obtain ⟨b1, b2⟩ := key j q hq
    exact h i j a1 b1 (by rw [← a2, ← b2, e])
  · obtain ⟨a1, a2⟩ := key k q hq
    exact Or.inl ⟨k, a1, a2⟩
theorem fr_sub {g : fr_G} {a b : Nat} (h : a ≤ b) : ∀ q, fr_A g b q → fr_A g a q := fun q hq => hq.elim Or.inl (fun z => Or.inr (Nat.le_trans h z))
/-! ===== the judgement: at pc, with the world σ, the locals lv and the stack st, the method comes to its end ===== -/
def fr_V (p : Program) (l : Launch) (e : Env) (R : Room) (s : State) (m : MethodId) (args : Array Value) (below : List Frame) (meth : Method) (c : Code) (g : fr_G) (Q : State → Prop) (n : Nat) (σ : fr_St) (pc : Nat) (lv : List (Nat × Value)) (st : List Value) : Prop :=
  ∀ (H : Heap) (locs : List Loc) (ls : Array Slot), va_P g.1 fr_cls (fr_wd g σ) H → va_S (fr_A g s.heap.size) s.heap H locs → lv_has ls n lv → W p l e R s m args below meth c H locs 0 0 Q (F0 m pc ls st)
/-- what stays as it is in a method's body -/
def fr_X (p : Program) (s : State) (m : MethodId) (args : Array Value) (meth : Method) (c : Code) (g : fr_G) (cc : ByteArray) (own : String) (n : Nat) : Prop :=
  p.tables.exec = Jvm.exec ∧ c.code = cc ∧ c.maxLocals = n ∧ s.vm.findClass own = some m.cls ∧ (∀ w ∈ fr_tbl, w.before args s = true) ∧ fr_K g s ∧ fr_D g ∧ fr_S g s s.heap ∧ meth.locks = false
/-- the room of a method of height h -/
abbrev fr_rm (h : Nat) : Room := { frames := h, cells := 0, slots := 0, locals := 60 * h }
abbrev fr_ws (y : MethodName) (cc : ByteArray) (n : Nat) (ret : Option FieldType) : List Cond := .code y cc n ret :: fr_tbl
/-- a method's contract: an int (a boolean, a long, nothing) comes back, and the world behind it -/
def fr_Ci (l : Launch) (g : fr_G) (y : MethodName) (ws : List Cond) (h : Nat) (av : List Value) (σ : fr_St) (r : Int32) (τ : fr_St) : Prop := ∀ sz : Nat, Met l y ws (fr_rm h) (va_Pc av (fun U => U.heap.size = sz ∧ fr_B g σ U)) (va_Qi (fun (r1 : Int32) (τ1 : fr_St) => r1 = r ∧ τ1 = τ) (fun τ1 t => fr_B g τ1 t) (fr_A g sz)) 0 0 (fr_A g sz)
def fr_Cl (l : Launch) (g : fr_G) (y : MethodName) (ws : List Cond) (h : Nat) (av : List Value) (σ : fr_St) (r : Int64) (τ : fr_St) : Prop := ∀ sz : Nat, Met l y ws (fr_rm h) (va_Pc av (fun U => U.heap.size = sz ∧ fr_B g σ U)) (va_Ql (fun (r1 : Int64) (τ1 : fr_St) => r1 = r ∧ τ1 = τ) (fun τ1 t => fr_B g τ1 t) (fr_A g sz)) 0 0 (fr_A g sz)
def fr_Cv (l : Launch) (g : fr_G) (y : MethodName) (ws : List Cond) (h : Nat) (av : List Value) (σ : fr_St) (τ : fr_St) : Prop := ∀ sz : Nat, Met l y ws (fr_rm h) (va_Pc av (fun U => U.heap.size = sz ∧ fr_B g σ U)) (va_Qv (fun (τ1 : fr_St) => τ1 = τ) (fun τ1 t => fr_B g τ1 t) (fr_A g sz)) 0 0 (fr_A g sz)
abbrev fr_Qi (below : List Frame) (args : Array Value) (s : State) (g : fr_G) (r : Int32) (τ : fr_St) : State → Prop := MQ below (va_Qi (fun (r1 : Int32) (τ1 : fr_St) => r1 = r ∧ τ1 = τ) (fun τ1 t => fr_B g τ1 t) (fr_A g s.heap.size)) args s 0 0 (fr_A g s.heap.size)
abbrev fr_Ql (below : List Frame) (args : Array Value) (s : State) (g : fr_G) (r : Int64) (τ : fr_St) : State → Prop := MQ below (va_Ql (fun (r1 : Int64) (τ1 : fr_St) => r1 = r ∧ τ1 = τ) (fun τ1 t => fr_B g τ1 t) (fr_A g s.heap.size)) args s 0 0 (fr_A g s.heap.size)
abbrev fr_Qv (below : List Frame) (args : Array Value) (s : State) (g : fr_G) (τ : fr_St) : State → Prop := MQ below (va_Qv (fun (τ1 : fr_St) => τ1 = τ) (fun τ1 t => fr_B g τ1 t) (fr_A g s.heap.size)) args s 0 0 (fr_A g s.heap.size)
/-! the pure words of a method -/
def fr_ib (i : Int32) (n : Nat) : Bool := decide (0 ≤ i.toInt ∧ i.toInt < n)
abbrev fr_ix (i : Int32) : Nat := i.toNatClampNeg
def fr_bi (b : Bool) : Int32 := if b then 1 else 0
def fr_let {α β : Type} (e : α) (f : α → β) : β := f e
def fr_bS {α β : Type} (x : Option α) (f : α → Option β) : Option β := match x with
  | none => none
  | some a => f a
def fr_bP {α β γ : Type} (x : Option (α × β)) (f : α → β → Option γ) : Option γ := match x with
  | none => none
  | some (a, b) => f a b
def fr_pP {α β γ : Type} (x : α × β) (f : α → β → γ) : γ := f x.1 x.2
def fr_bR {α β γ : Type} (x : Option (α ⊕ β)) (f : α → Option γ) (h : β → Option γ) : Option γ := match x with
  | none => none
  | some (.inl a) => f a
  | some (.inr b) => h b
theorem fr_bS_some {α β : Type} {x : Option α} {f : α → Option β} {r : β} (h : fr_bS x f = some r) : ∃ a, x = some a ∧ f a = some r := by
  cases x with
  | none => cases h
  | some a => exact ⟨a, rfl, h⟩
theorem fr_bP_some {α β γ : Type} {x : Option (α × β)} {f : α → β → Option γ} {r : γ} (h : fr_bP x f = some r) : ∃ a b, x = some (a, b) ∧ f a b = some r := by
  cases x with
  | none => cases h
  | some q => exact ⟨q.1, q.2, rfl, h⟩
theorem fr_bR_some {α β γ : Type} {x : Option (α ⊕ β)} {f : α → Option γ} {k : β → Option γ} {r : γ} (h : fr_bR x f k = some r) : (∃ a, x = some (.inl a) ∧ f a = some r) ∨ ∃ b, x = some (.inr b) ∧ k b = some r := by
  cases x with
  | none => cases h
  | some q => cases q with
    | inl a => exact Or.inl ⟨a, rfl, h⟩
    | inr b => exact Or.inr ⟨b, rfl, h⟩
theorem fr_pos {α : Type} {c : Prop} [Decidable c] {a b : Option α} {r : α} (h : (if c then a else b) = some r) (hc : c) : a = some r := by rw [if_pos hc] at h; exact h
theorem fr_neg {α : Type} {c : Prop} [Decidable c] {a b : Option α} {r : α} (h : (if c then a else b) = some r) (hc : ¬ c) : b = some r := by rw [if_neg hc] at h; exact h
theorem fr_chk {α : Type} {c : Prop} [Decidable c] {a : Option α} {r : α} (h : (if c then a else none) = some r) : c ∧ a = some r := by
  by_cases hc : c
  · rw [if_pos hc] at h; exact ⟨hc, h⟩
  · rw [if_neg hc] at h; cases h
theorem fr_chn {α : Type} {c : Prop} [Decidable c] {a : Option α} {r : α} (h : (if c then none else a) = some r) : ¬ c ∧ a = some r := by
  by_cases hc : c
  · rw [if_pos hc] at h; cases h
  · rw [if_neg hc] at h; exact ⟨hc, h⟩
theorem fr_in {i : Int32} {n : Nat} (h : fr_ib i n = true) : vp_in i n := by
  have h1 := of_decide_eq_true h
  exact vp_in_iff.mpr h1
/-- the constant arrays stay -/
theorem fr_Sk {g : fr_G} {u U : State} {H : Heap} {locs : List Loc} (h : fr_S g u u.heap) (hvm : u.vm.Alike U.vm) (hS : va_S (fr_A g u.heap.size) u.heap H locs) : fr_S g U H := by
  have key : ∀ a : Nat, a < u.heap.size → ¬ fr_own g a → H[a]? = u.heap[a]? := fun a h1 h2 => hS.2.1 a h1 (fun q => q.elim h2 (fun z => absurd h1 (Nat.not_lt.mpr z)))
  obtain ⟨⟨a1, a2⟩, ⟨b1, b2⟩, ⟨c1, c2⟩⟩ := h
  exact ⟨⟨(a1.kept key).moved hvm, (a2.kept key).moved hvm⟩, ⟨(b1.kept key).moved hvm, (b2.kept key).moved hvm⟩, ⟨(c1.kept key).moved hvm, (c2.kept key).moved hvm⟩⟩
theorem fr_Sn {g : fr_G} {U : State} {H : Heap} {C n d : String} {v : Value} (h : va_Z C n d v (fr_own g) U H) : va_Z C n d v (fr_A g H.size) U H := by
  obtain ⟨cf, kf, fi, f, a, cell, h1, h2, h3, h4, h5, h6, h7, h8⟩ := h
  exact ⟨cf, kf, fi, f, a, cell, h1, h2, h3, h4, h5, h6, h7, fun q => q.elim h8 (fun z => absurd (Array.getElem?_eq_some_iff.mp h5).1 (Nat.not_lt.mpr z))⟩
theorem fr_Tn {g : fr_G} {U : State} {H : Heap} {ty : FieldType} {t N : Nat} {f : Nat → Value} (h : va_T ty t N f (fr_own g) U H) : va_T ty t N f (fr_A g H.size) U H := by
  obtain ⟨cell, h1, h2, h3, h4, h5, h6, h7⟩ := h
  exact ⟨cell, h1, h2, h3, h4, h5, h6, fun q => q.elim h7 (fun z => absurd (Array.getElem?_eq_some_iff.mp h1).1 (Nat.not_lt.mpr z))⟩
section FRV
variable {p : Program} {l : Launch} {e : Env} {R : Room} {s : State} {m : MethodId} {args : Array Value} {below : List Frame} {meth : Method} {c : Code} {g : fr_G} {Q : State → Prop} {n : Nat} {σ : fr_St} {pc : Nat} {lv : List (Nat × Value)} {st : List Value} {cc : ByteArray} {own : String}
theorem sv_perm {lv' : List (Nat × Value)} (ks : List Nat) (h : lv_pick lv ks = lv') (k : fr_V p l e R s m args below meth c g Q n σ pc lv' st) : fr_V p l e R s m args below meth c g Q n σ pc lv st :=
  fun H locs ls hP hS hl => k H locs ls hP hS (lv_sub hl ks h)
theorem sv_iconst (X : fr_X p s m args meth c g cc own n) {v : Int32} {z : _}  (d : decode cc pc = .ok (.iconst z, 1)) (hv : Int32.ofInt z = v) (k : fr_V p l e R s m args below meth c g Q n σ (pc + 1) lv (.int v :: st)) : fr_V p l e R s m args below meth c g Q n σ pc lv (st) :=
  fun H locs ls hP hS hl => lv_iconst X.1 X.2.1 d hv (k H locs ls hP hS hl)
theorem sv_bipush (X : fr_X p s m args meth c g cc own n) {v : Int32} {z : _}  (d : decode cc pc = .ok (.bipush z, 2)) (hv : (Int8.ofInt z).toInt32 = v) (k : fr_V p l e R s m args below meth c g Q n σ (pc + 2) lv (.int v :: st)) : fr_V p l e R s m args below meth c g Q n σ pc lv (st) :=
  fun H locs ls hP hS hl => lv_bipush X.1 X.2.1 d hv (k H locs ls hP hS hl)
theorem sv_sipush (X : fr_X p s m args meth c g cc own n) {v : Int32} {z : _}  (d : decode cc pc = .ok (.sipush z, 3)) (hv : (Int16.ofInt z).toInt32 = v) (k : fr_V p l e R s m args below meth c g Q n σ (pc + 3) lv (.int v :: st)) : fr_V p l e R s m args below meth c g Q n σ pc lv (st) :=
  fun H locs ls hP hS hl => lv_sipush X.1 X.2.1 d hv (k H locs ls hP hS hl)
theorem sv_lconst (X : fr_X p s m args meth c g cc own n) {v : Int64} {z : _}  (d : decode cc pc = .ok (.lconst z, 1)) (hv : Int64.ofNat (z : Nat) = v) (k : fr_V p l e R s m args below meth c g Q n σ (pc + 1) lv (.long v :: st)) : fr_V p l e R s m args below meth c g Q n σ pc lv (st) :=
  fun H locs ls hP hS hl => lv_lconst X.1 X.2.1 d hv (k H locs ls hP hS hl)
theorem sv_ldc (X : fr_X p s m args meth c g cc own n) {v : Int32} {z : Nat} (hw : Cond.constant own z v ∈ fr_tbl) (d : decode cc pc = .ok (.ldc z, 2)) (k : fr_V p l e R s m args below meth c g Q n σ (pc + 2) lv (.int v :: st)) : fr_V p l e R s m args below meth c g Q n σ pc lv (st) :=
  fun H locs ls hP hS hl => lv_ldc X.1 X.2.1 X.2.2.2.1 (X.2.2.2.2.1 _ hw) d (k H locs ls hP hS hl)
theorem sv_iload_n (X : fr_X p s m args meth c g cc own n) {v : Int32} {i j : Nat} {z : _}  (d : decode cc pc = .ok (.iload_n z, 1)) (hi : (z : Nat) = j) (h : lv[i]? = some (j, .int v)) (k : fr_V p l e R s m args below meth c g Q n σ (pc + 1) lv (.int v :: st)) : fr_V p l e R s m args below meth c g Q n σ pc lv (st) :=
  fun H locs ls hP hS hl => lv_iload_n X.1 X.2.1 d hi (lv_at hl i h) (k H locs ls hP hS hl)
theorem sv_iload (X : fr_X p s m args meth c g cc own n) {v : Int32} {i j : Nat}   (d : decode cc pc = .ok (.iload j, 2)) (h : lv[i]? = some (j, .int v)) (k : fr_V p l e R s m args below meth c g Q n σ (pc + 2) lv (.int v :: st)) : fr_V p l e R s m args below meth c g Q n σ pc lv (st) :=
  fun H locs ls hP hS hl => lv_iload X.1 X.2.1 d (lv_at hl i h) (k H locs ls hP hS hl)
theorem sv_lload_n (X : fr_X p s m args meth c g cc own n) {v : Int64} {i j : Nat} {z : _}  (d : decode cc pc = .ok (.lload_n z, 1)) (hi : (z : Nat) = j) (h : lv[i]? = some (j, .long v)) (k : fr_V p l e R s m args below meth c g Q n σ (pc + 1) lv (.long v :: st)) : fr_V p l e R s m args below meth c g Q n σ pc lv (st) :=
  fun H locs ls hP hS hl => lv_lload_n X.1 X.2.1 d hi (lv_at hl i h) (k H locs ls hP hS hl)
theorem sv_lload (X : fr_X p s m args meth c g cc own n) {v : Int64} {i j : Nat}   (d : decode cc pc = .ok (.lload j, 2)) (h : lv[i]? = some (j, .long v)) (k : fr_V p l e R s m args below meth c g Q n σ (pc + 2) lv (.long v :: st)) : fr_V p l e R s m args below meth c g Q n σ pc lv (st) :=
  fun H locs ls hP hS hl => lv_lload X.1 X.2.1 d (lv_at hl i h) (k H locs ls hP hS hl)
theorem sv_aload_n (X : fr_X p s m args meth c g cc own n) {v : Nat} {i j : Nat} {z : _}  (d : decode cc pc = .ok (.aload_n z, 1)) (hi : (z : Nat) = j) (h : lv[i]? = some (j, .ref v)) (k : fr_V p l e R s m args below meth c g Q n σ (pc + 1) lv (.ref v :: st)) : fr_V p l e R s m args below meth c g Q n σ pc lv (st) :=
  fun H locs ls hP hS hl => lv_aload_n X.1 X.2.1 d hi (lv_at hl i h) (k H locs ls hP hS hl)
theorem sv_aload (X : fr_X p s m args meth c g cc own n) {v : Nat} {i j : Nat}   (d : decode cc pc = .ok (.aload j, 2)) (h : lv[i]? = some (j, .ref v)) (k : fr_V p l e R s m args below meth c g Q n σ (pc + 2) lv (.ref v :: st)) : fr_V p l e R s m args below meth c g Q n σ pc lv (st) :=
  fun H locs ls hP hS hl => lv_aload X.1 X.2.1 d (lv_at hl i h) (k H locs ls hP hS hl)
theorem sv_istore_n (X : fr_X p s m args meth c g cc own n) {v : Int32} {j : Nat} {z : _} {lv' : List (Nat × Value)} (d : decode cc pc = .ok (.istore_n z, 1)) (hi : (z : Nat) = j) (hn : j < n) (h : (j, Value.int v) :: lv.filter (fun q => !(q.1 == j) && !(q.1 + 1 == j && q.2.category == 2)) = lv') (k : fr_V p l e R s m args below meth c g Q n σ (pc + 1) lv' st) : fr_V p l e R s m args below meth c g Q n σ pc lv (.int v :: st) :=
  fun H locs ls hP hS hl => lv_istore_n X.1 X.2.1 d hi hl hn h (fun ls' hl' => k H locs ls' hP hS hl')
theorem sv_istore (X : fr_X p s m args meth c g cc own n) {v : Int32} {j : Nat} {lv' : List (Nat × Value)} (d : decode cc pc = .ok (.istore j, 2)) (hn : j < n) (h : (j, Value.int v) :: lv.filter (fun q => !(q.1 == j) && !(q.1 + 1 == j && q.2.category == 2)) = lv') (k : fr_V p l e R s m args below meth c g Q n σ (pc + 2) lv' st) : fr_V p l e R s m args below meth c g Q n σ pc lv (.int v :: st) :=
  fun H locs ls hP hS hl => lv_istore X.1 X.2.1 d hl hn h (fun ls' hl' => k H locs ls' hP hS hl')
theorem sv_lstore_n (X : fr_X p s m args meth c g cc own n) {v : Int64} {j : Nat} {z : _} {lv' : List (Nat × Value)} (d : decode cc pc = .ok (.lstore_n z, 1)) (hi : (z : Nat) = j) (hn : j + 1 < n) (h : (j, Value.long v) :: lv.filter (fun q => !(q.1 == j) && (!(q.1 == j + 1) && !(q.1 + 1 == j && q.2.category == 2))) = lv') (k : fr_V p l e R s m args below meth c g Q n σ (pc + 1) lv' st) : fr_V p l e R s m args below meth c g Q n σ pc lv (.long v :: st) :=
  fun H locs ls hP hS hl => lv_lstore_n X.1 X.2.1 d hi hl hn h (fun ls' hl' => k H locs ls' hP hS hl')
theorem sv_lstore (X : fr_X p s m args meth c g cc own n) {v : Int64} {j : Nat} {lv' : List (Nat × Value)} (d : decode cc pc = .ok (.lstore j, 2)) (hn : j + 1 < n) (h : (j, Value.long v) :: lv.filter (fun q => !(q.1 == j) && (!(q.1 == j + 1) && !(q.1 + 1 == j && q.2.category == 2))) = lv') (k : fr_V p l e R s m args below meth c g Q n σ (pc + 2) lv' st) : fr_V p l e R s m args below meth c g Q n σ pc lv (.long v :: st) :=
  fun H locs ls hP hS hl => lv_lstore X.1 X.2.1 d hl hn h (fun ls' hl' => k H locs ls' hP hS hl')
theorem sv_astore_n (X : fr_X p s m args meth c g cc own n) {v : Nat} {j : Nat} {z : _} {lv' : List (Nat × Value)} (d : decode cc pc = .ok (.astore_n z, 1)) (hi : (z : Nat) = j) (hn : j < n) (h : (j, Value.ref v) :: lv.filter (fun q => !(q.1 == j) && !(q.1 + 1 == j && q.2.category == 2)) = lv') (k : fr_V p l e R s m args below meth c g Q n σ (pc + 1) lv' st) : fr_V p l e R s m args below meth c g Q n σ pc lv (.ref v :: st) :=
  fun H locs ls hP hS hl => lv_astore_n X.1 X.2.1 d hi hl hn h (fun ls' hl' => k H locs ls' hP hS hl')
theorem sv_astore (X : fr_X p s m args meth c g cc own n) {v : Nat} {j : Nat} {lv' : List (Nat × Value)} (d : decode cc pc = .ok (.astore j, 2)) (hn : j < n) (h : (j, Value.ref v) :: lv.filter (fun q => !(q.1 == j) && !(q.1 + 1 == j && q.2.category == 2)) = lv') (k : fr_V p l e R s m args below meth c g Q n σ (pc + 2) lv' st) : fr_V p l e R s m args below meth c g Q n σ pc lv (.ref v :: st) :=
  fun H locs ls hP hS hl => lv_astore X.1 X.2.1 d hl hn h (fun ls' hl' => k H locs ls' hP hS hl')
theorem sv_iinc (X : fr_X p s m args meth c g cc own n) {x v : Int32} {i j : Nat} {z : Int} {lv' : List (Nat × Value)} (d : decode cc pc = .ok (.iinc j z, 3)) (hk : lv[i]? = some (j, .int x)) (hv : x + Int32.ofInt z = v) (hn : j < n) (h : (j, Value.int v) :: lv.filter (fun q => !(q.1 == j) && !(q.1 + 1 == j && q.2.category == 2)) = lv') (k : fr_V p l e R s m args below meth c g Q n σ (pc + 3) lv' st) : fr_V p l e R s m args below meth c g Q n σ pc lv st :=
  fun H locs ls hP hS hl => lv_iinc X.1 X.2.1 d hl hk hv hn h (fun ls' hl' => k H locs ls' hP hS hl')
theorem sv_iadd (X : fr_X p s m args meth c g cc own n) {x y : Int32}   (d : decode cc pc = .ok (.iadd, 1)) (k : fr_V p l e R s m args below meth c g Q n σ (pc + 1) lv (.int (x + y) :: st)) : fr_V p l e R s m args below meth c g Q n σ pc lv (.int y :: .int x :: st) :=
  fun H locs ls hP hS hl => lv_iadd X.1 X.2.1 d (k H locs ls hP hS hl)
theorem sv_isub (X : fr_X p s m args meth c g cc own n) {x y : Int32}   (d : decode cc pc = .ok (.isub, 1)) (k : fr_V p l e R s m args below meth c g Q n σ (pc + 1) lv (.int (x - y) :: st)) : fr_V p l e R s m args below meth c g Q n σ pc lv (.int y :: .int x :: st) :=
  fun H locs ls hP hS hl => lv_isub X.1 X.2.1 d (k H locs ls hP hS hl)
theorem sv_imul (X : fr_X p s m args meth c g cc own n) {x y : Int32}   (d : decode cc pc = .ok (.imul, 1)) (k : fr_V p l e R s m args below meth c g Q n σ (pc + 1) lv (.int (x * y) :: st)) : fr_V p l e R s m args below meth c g Q n σ pc lv (.int y :: .int x :: st) :=
  fun H locs ls hP hS hl => lv_imul X.1 X.2.1 d (k H locs ls hP hS hl)
theorem sv_iand (X : fr_X p s m args meth c g cc own n) {x y : Int32}   (d : decode cc pc = .ok (.iand, 1)) (k : fr_V p l e R s m args below meth c g Q n σ (pc + 1) lv (.int (x &&& y) :: st)) : fr_V p l e R s m args below meth c g Q n σ pc lv (.int y :: .int x :: st) :=
  fun H locs ls hP hS hl => lv_iand X.1 X.2.1 d (k H locs ls hP hS hl)
theorem sv_ior (X : fr_X p s m args meth c g cc own n) {x y : Int32}   (d : decode cc pc = .ok (.ior, 1)) (k : fr_V p l e R s m args below meth c g Q n σ (pc + 1) lv (.int (x ||| y) :: st)) : fr_V p l e R s m args below meth c g Q n σ pc lv (.int y :: .int x :: st) :=
  fun H locs ls hP hS hl => lv_ior X.1 X.2.1 d (k H locs ls hP hS hl)
theorem sv_ixor (X : fr_X p s m args meth c g cc own n) {x y : Int32}   (d : decode cc pc = .ok (.ixor, 1)) (k : fr_V p l e R s m args below meth c g Q n σ (pc + 1) lv (.int (x ^^^ y) :: st)) : fr_V p l e R s m args below meth c g Q n σ pc lv (.int y :: .int x :: st) :=
  fun H locs ls hP hS hl => lv_ixor X.1 X.2.1 d (k H locs ls hP hS hl)
theorem sv_ishl (X : fr_X p s m args meth c g cc own n) {x y : Int32}   (d : decode cc pc = .ok (.ishl, 1)) (k : fr_V p l e R s m args below meth c g Q n σ (pc + 1) lv (.int (x <<< (y &&& 31)) :: st)) : fr_V p l e R s m args below meth c g Q n σ pc lv (.int y :: .int x :: st) :=
  fun H locs ls hP hS hl => lv_ishl X.1 X.2.1 d (k H locs ls hP hS hl)
theorem sv_ishr (X : fr_X p s m args meth c g cc own n) {x y : Int32}   (d : decode cc pc = .ok (.ishr, 1)) (k : fr_V p l e R s m args below meth c g Q n σ (pc + 1) lv (.int (x >>> (y &&& 31)) :: st)) : fr_V p l e R s m args below meth c g Q n σ pc lv (.int y :: .int x :: st) :=
  fun H locs ls hP hS hl => lv_ishr X.1 X.2.1 d (k H locs ls hP hS hl)
theorem sv_iushr (X : fr_X p s m args meth c g cc own n) {x y : Int32}   (d : decode cc pc = .ok (.iushr, 1)) (k : fr_V p l e R s m args below meth c g Q n σ (pc + 1) lv (.int ((x.toUInt32 >>> (y.toUInt32 &&& Int32.toUInt32 31)).toInt32) :: st)) : fr_V p l e R s m args below meth c g Q n σ pc lv (.int y :: .int x :: st) :=
  fun H locs ls hP hS hl => lv_iushr X.1 X.2.1 d rfl (k H locs ls hP hS hl)
theorem sv_idiv (X : fr_X p s m args meth c g cc own n) {x y : Int32}   (d : decode cc pc = .ok (.idiv, 1)) (hne : ¬ y = 0) (k : fr_V p l e R s m args below meth c g Q n σ (pc + 1) lv (.int (x / y) :: st)) : fr_V p l e R s m args below meth c g Q n σ pc lv (.int y :: .int x :: st) :=
  fun H locs ls hP hS hl => lv_idiv X.1 X.2.1 d hne (k H locs ls hP hS hl)
theorem sv_irem (X : fr_X p s m args meth c g cc own n) {x y : Int32}   (d : decode cc pc = .ok (.irem, 1)) (hne : ¬ y = 0) (k : fr_V p l e R s m args below meth c g Q n σ (pc + 1) lv (.int (x - x / y * y) :: st)) : fr_V p l e R s m args below meth c g Q n σ pc lv (.int y :: .int x :: st) :=
  fun H locs ls hP hS hl => lv_irem X.1 X.2.1 d hne (k H locs ls hP hS hl)
theorem sv_ineg (X : fr_X p s m args meth c g cc own n) {x : Int32}   (d : decode cc pc = .ok (.ineg, 1)) (k : fr_V p l e R s m args below meth c g Q n σ (pc + 1) lv (.int (-x) :: st)) : fr_V p l e R s m args below meth c g Q n σ pc lv (.int x :: st) :=
  fun H locs ls hP hS hl => lv_ineg X.1 X.2.1 d (k H locs ls hP hS hl)
theorem sv_ladd (X : fr_X p s m args meth c g cc own n) {x y : Int64}   (d : decode cc pc = .ok (.ladd, 1)) (k : fr_V p l e R s m args below meth c g Q n σ (pc + 1) lv (.long (x + y) :: st)) : fr_V p l e R s m args below meth c g Q n σ pc lv (.long y :: .long x :: st) :=
  fun H locs ls hP hS hl => lv_ladd X.1 X.2.1 d (k H locs ls hP hS hl)
theorem sv_lsub (X : fr_X p s m args meth c g cc own n) {x y : Int64}   (d : decode cc pc = .ok (.lsub, 1)) (k : fr_V p l e R s m args below meth c g Q n σ (pc + 1) lv (.long (x - y) :: st)) : fr_V p l e R s m args below meth c g Q n σ pc lv (.long y :: .long x :: st) :=
  fun H locs ls hP hS hl => lv_lsub X.1 X.2.1 d (k H locs ls hP hS hl)
theorem sv_lmul (X : fr_X p s m args meth c g cc own n) {x y : Int64}   (d : decode cc pc = .ok (.lmul, 1)) (k : fr_V p l e R s m args below meth c g Q n σ (pc + 1) lv (.long (x * y) :: st)) : fr_V p l e R s m args below meth c g Q n σ pc lv (.long y :: .long x :: st) :=
  fun H locs ls hP hS hl => lv_lmul X.1 X.2.1 d (k H locs ls hP hS hl)
theorem sv_ldiv (X : fr_X p s m args meth c g cc own n) {x y : Int64}   (d : decode cc pc = .ok (.ldiv, 1)) (hne : ¬ y = 0) (k : fr_V p l e R s m args below meth c g Q n σ (pc + 1) lv (.long (x / y) :: st)) : fr_V p l e R s m args below meth c g Q n σ pc lv (.long y :: .long x :: st) :=
  fun H locs ls hP hS hl => lv_ldiv X.1 X.2.1 d hne (k H locs ls hP hS hl)
theorem sv_lrem (X : fr_X p s m args meth c g cc own n) {x y : Int64}   (d : decode cc pc = .ok (.lrem, 1)) (hne : ¬ y = 0) (k : fr_V p l e R s m args below meth c g Q n σ (pc + 1) lv (.long (x - x / y * y) :: st)) : fr_V p l e R s m args below meth c g Q n σ pc lv (.long y :: .long x :: st) :=
  fun H locs ls hP hS hl => lv_lrem X.1 X.2.1 d hne (k H locs ls hP hS hl)
theorem sv_lcmp (X : fr_X p s m args meth c g cc own n) {x y : Int64}   (d : decode cc pc = .ok (.lcmp, 1)) (k : fr_V p l e R s m args below meth c g Q n σ (pc + 1) lv (.int (lg_cmp x y) :: st)) : fr_V p l e R s m args below meth c g Q n σ pc lv (.long y :: .long x :: st) :=
  fun H locs ls hP hS hl => W.lcmp X.1 X.2.1 d (k H locs ls hP hS hl)
theorem sv_i2l (X : fr_X p s m args meth c g cc own n) {x : Int32}   (d : decode cc pc = .ok (.i2l, 1)) (k : fr_V p l e R s m args below meth c g Q n σ (pc + 1) lv (.long x.toInt64 :: st)) : fr_V p l e R s m args below meth c g Q n σ pc lv (.int x :: st) :=
  fun H locs ls hP hS hl => lv_i2l X.1 X.2.1 d rfl (k H locs ls hP hS hl)
theorem sv_i2b (X : fr_X p s m args meth c g cc own n) {x : Int32}   (d : decode cc pc = .ok (.i2b, 1)) (k : fr_V p l e R s m args below meth c g Q n σ (pc + 1) lv (.int x.toInt8.toInt32 :: st)) : fr_V p l e R s m args below meth c g Q n σ pc lv (.int x :: st) :=
  fun H locs ls hP hS hl => lv_i2b X.1 X.2.1 d rfl (k H locs ls hP hS hl)
theorem sv_i2s (X : fr_X p s m args meth c g cc own n) {x : Int32}   (d : decode cc pc = .ok (.i2s, 1)) (k : fr_V p l e R s m args below meth c g Q n σ (pc + 1) lv (.int x.toInt16.toInt32 :: st)) : fr_V p l e R s m args below meth c g Q n σ pc lv (.int x :: st) :=
  fun H locs ls hP hS hl => lv_i2s X.1 X.2.1 d rfl (k H locs ls hP hS hl)
theorem sv_dup (X : fr_X p s m args meth c g cc own n) {v : Value}   (d : decode cc pc = .ok (.dup, 1)) (hc : v.category = 1) (k : fr_V p l e R s m args below meth c g Q n σ (pc + 1) lv (v :: v :: st)) : fr_V p l e R s m args below meth c g Q n σ pc lv (v :: st) :=
  fun H locs ls hP hS hl => lv_dup X.1 X.2.1 d hc (k H locs ls hP hS hl)
theorem sv_pop (X : fr_X p s m args meth c g cc own n) {v : Value}   (d : decode cc pc = .ok (.pop, 1)) (hc : v.category = 1) (k : fr_V p l e R s m args below meth c g Q n σ (pc + 1) lv (st)) : fr_V p l e R s m args below meth c g Q n σ pc lv (v :: st) :=
  fun H locs ls hP hS hl => lv_pop X.1 X.2.1 d hc (k H locs ls hP hS hl)
theorem sv_dup2 (X : fr_X p s m args meth c g cc own n) {va vb : Value}   (d : decode cc pc = .ok (.dup2, 1)) (hc : va.category = 1) (hd : vb.category = 1) (k : fr_V p l e R s m args below meth c g Q n σ (pc + 1) lv (va :: vb :: va :: vb :: st)) : fr_V p l e R s m args below meth c g Q n σ pc lv (va :: vb :: st) :=
  fun H locs ls hP hS hl => lv_dup2_11 X.1 X.2.1 d hc hd (k H locs ls hP hS hl)
theorem sv_dup_x1 (X : fr_X p s m args meth c g cc own n) {va vb : Value}   (d : decode cc pc = .ok (.dup_x1, 1)) (hc : va.category = 1) (hd : vb.category = 1) (k : fr_V p l e R s m args below meth c g Q n σ (pc + 1) lv (va :: vb :: va :: st)) : fr_V p l e R s m args below meth c g Q n σ pc lv (va :: vb :: st) :=
  fun H locs ls hP hS hl => lv_dup_x1 X.1 X.2.1 d hc hd (k H locs ls hP hS hl)
theorem sv_dup_x2 (X : fr_X p s m args meth c g cc own n) {va vb vd : Value}   (d : decode cc pc = .ok (.dup_x2, 1)) (hc : va.category = 1) (hd : vb.category = 1) (he : vd.category = 1) (k : fr_V p l e R s m args below meth c g Q n σ (pc + 1) lv (va :: vb :: vd :: va :: st)) : fr_V p l e R s m args below meth c g Q n σ pc lv (va :: vb :: vd :: st) :=
  fun H locs ls hP hS hl => lv_dup_x2 X.1 X.2.1 d hc hd he (k H locs ls hP hS hl)
theorem sv_goto (X : fr_X p s m args meth c g cc own n) {off : Int} {tgt : Nat} (d : decode cc pc = .ok (.goto off, 3)) (ht : (pc : Int) + off = (tgt : Int)) (k : fr_V p l e R s m args below meth c g Q n σ tgt lv st) : fr_V p l e R s m args below meth c g Q n σ pc lv st :=
  fun H locs ls hP hS hl => lv_goto X.1 X.2.1 d ht (k H locs ls hP hS hl)
theorem sv_if_eq (X : fr_X p s m args meth c g cc own n) {x : Int32} {off : Int} {tgt : Nat} (d : decode cc pc = .ok (.ifCond .eq off, 3)) (ht : (pc : Int) + off = (tgt : Int)) (kt : x = 0 → fr_V p l e R s m args below meth c g Q n σ tgt lv st) (kf : ¬ (x = 0) → fr_V p l e R s m args below meth c g Q n σ (pc + 3) lv st) : fr_V p l e R s m args below meth c g Q n σ pc lv (.int x :: st) :=
  fun H locs ls hP hS hl => lv_if_eq X.1 X.2.1 d ht (fun q => kt q H locs ls hP hS hl) (fun q => kf q H locs ls hP hS hl)
theorem sv_icmp_eq (X : fr_X p s m args meth c g cc own n) {x y : Int32} {off : Int} {tgt : Nat} (d : decode cc pc = .ok (.if_icmp .eq off, 3)) (ht : (pc : Int) + off = (tgt : Int)) (kt : x = y → fr_V p l e R s m args below meth c g Q n σ tgt lv st) (kf : ¬ (x = y) → fr_V p l e R s m args below meth c g Q n σ (pc + 3) lv st) : fr_V p l e R s m args below meth c g Q n σ pc lv (.int y :: .int x :: st) :=
  fun H locs ls hP hS hl => lv_icmp_eq X.1 X.2.1 d ht (fun q => kt q H locs ls hP hS hl) (fun q => kf q H locs ls hP hS hl)
theorem sv_if_ne (X : fr_X p s m args meth c g cc own n) {x : Int32} {off : Int} {tgt : Nat} (d : decode cc pc = .ok (.ifCond .ne off, 3)) (ht : (pc : Int) + off = (tgt : Int)) (kt : ¬ x = 0 → fr_V p l e R s m args below meth c g Q n σ tgt lv st) (kf : x = 0 → fr_V p l e R s m args below meth c g Q n σ (pc + 3) lv st) : fr_V p l e R s m args below meth c g Q n σ pc lv (.int x :: st) :=
  fun H locs ls hP hS hl => lv_if_ne X.1 X.2.1 d ht (fun q => kt q H locs ls hP hS hl) (fun q => kf q H locs ls hP hS hl)
theorem sv_icmp_ne (X : fr_X p s m args meth c g cc own n) {x y : Int32} {off : Int} {tgt : Nat} (d : decode cc pc = .ok (.if_icmp .ne off, 3)) (ht : (pc : Int) + off = (tgt : Int)) (kt : ¬ x = y → fr_V p l e R s m args below meth c g Q n σ tgt lv st) (kf : x = y → fr_V p l e R s m args below meth c g Q n σ (pc + 3) lv st) : fr_V p l e R s m args below meth c g Q n σ pc lv (.int y :: .int x :: st) :=
  fun H locs ls hP hS hl => lv_icmp_ne X.1 X.2.1 d ht (fun q => kt q H locs ls hP hS hl) (fun q => kf q H locs ls hP hS hl)
theorem sv_if_lt (X : fr_X p s m args meth c g cc own n) {x : Int32} {off : Int} {tgt : Nat} (d : decode cc pc = .ok (.ifCond .lt off, 3)) (ht : (pc : Int) + off = (tgt : Int)) (kt : x < 0 → fr_V p l e R s m args below meth c g Q n σ tgt lv st) (kf : ¬ (x < 0) → fr_V p l e R s m args below meth c g Q n σ (pc + 3) lv st) : fr_V p l e R s m args below meth c g Q n σ pc lv (.int x :: st) :=
  fun H locs ls hP hS hl => lv_if_lt X.1 X.2.1 d ht (fun q => kt q H locs ls hP hS hl) (fun q => kf q H locs ls hP hS hl)
theorem sv_icmp_lt (X : fr_X p s m args meth c g cc own n) {x y : Int32} {off : Int} {tgt : Nat} (d : decode cc pc = .ok (.if_icmp .lt off, 3)) (ht : (pc : Int) + off = (tgt : Int)) (kt : x < y → fr_V p l e R s m args below meth c g Q n σ tgt lv st) (kf : ¬ (x < y) → fr_V p l e R s m args below meth c g Q n σ (pc + 3) lv st) : fr_V p l e R s m args below meth c g Q n σ pc lv (.int y :: .int x :: st) :=
  fun H locs ls hP hS hl => lv_icmp_lt X.1 X.2.1 d ht (fun q => kt q H locs ls hP hS hl) (fun q => kf q H locs ls hP hS hl)
theorem sv_if_ge (X : fr_X p s m args meth c g cc own n) {x : Int32} {off : Int} {tgt : Nat} (d : decode cc pc = .ok (.ifCond .ge off, 3)) (ht : (pc : Int) + off = (tgt : Int)) (kt : 0 ≤ x → fr_V p l e R s m args below meth c g Q n σ tgt lv st) (kf : ¬ (0 ≤ x) → fr_V p l e R s m args below meth c g Q n σ (pc + 3) lv st) : fr_V p l e R s m args below meth c g Q n σ pc lv (.int x :: st) :=
  fun H locs ls hP hS hl => lv_if_ge X.1 X.2.1 d ht (fun q => kt q H locs ls hP hS hl) (fun q => kf q H locs ls hP hS hl)
theorem sv_icmp_ge (X : fr_X p s m args meth c g cc own n) {x y : Int32} {off : Int} {tgt : Nat} (d : decode cc pc = .ok (.if_icmp .ge off, 3)) (ht : (pc : Int) + off = (tgt : Int)) (kt : y ≤ x → fr_V p l e R s m args below meth c g Q n σ tgt lv st) (kf : ¬ (y ≤ x) → fr_V p l e R s m args below meth c g Q n σ (pc + 3) lv st) : fr_V p l e R s m args below meth c g Q n σ pc lv (.int y :: .int x :: st) :=
  fun H locs ls hP hS hl => lv_icmp_ge X.1 X.2.1 d ht (fun q => kt q H locs ls hP hS hl) (fun q => kf q H locs ls hP hS hl)
theorem sv_if_gt (X : fr_X p s m args meth c g cc own n) {x : Int32} {off : Int} {tgt : Nat} (d : decode cc pc = .ok (.ifCond .gt off, 3)) (ht : (pc : Int) + off = (tgt : Int)) (kt : 0 < x → fr_V p l e R s m args below meth c g Q n σ tgt lv st) (kf : ¬ (0 < x) → fr_V p l e R s m args below meth c g Q n σ (pc + 3) lv st) : fr_V p l e R s m args below meth c g Q n σ pc lv (.int x :: st) :=
  fun H locs ls hP hS hl => lv_if_gt X.1 X.2.1 d ht (fun q => kt q H locs ls hP hS hl) (fun q => kf q H locs ls hP hS hl)
theorem sv_icmp_gt (X : fr_X p s m args meth c g cc own n) {x y : Int32} {off : Int} {tgt : Nat} (d : decode cc pc = .ok (.if_icmp .gt off, 3)) (ht : (pc : Int) + off = (tgt : Int)) (kt : y < x → fr_V p l e R s m args below meth c g Q n σ tgt lv st) (kf : ¬ (y < x) → fr_V p l e R s m args below meth c g Q n σ (pc + 3) lv st) : fr_V p l e R s m args below meth c g Q n σ pc lv (.int y :: .int x :: st) :=
  fun H locs ls hP hS hl => lv_icmp_gt X.1 X.2.1 d ht (fun q => kt q H locs ls hP hS hl) (fun q => kf q H locs ls hP hS hl)
theorem sv_if_le (X : fr_X p s m args meth c g cc own n) {x : Int32} {off : Int} {tgt : Nat} (d : decode cc pc = .ok (.ifCond .le off, 3)) (ht : (pc : Int) + off = (tgt : Int)) (kt : x ≤ 0 → fr_V p l e R s m args below meth c g Q n σ tgt lv st) (kf : ¬ (x ≤ 0) → fr_V p l e R s m args below meth c g Q n σ (pc + 3) lv st) : fr_V p l e R s m args below meth c g Q n σ pc lv (.int x :: st) :=
  fun H locs ls hP hS hl => lv_if_le X.1 X.2.1 d ht (fun q => kt q H locs ls hP hS hl) (fun q => kf q H locs ls hP hS hl)
theorem sv_icmp_le (X : fr_X p s m args meth c g cc own n) {x y : Int32} {off : Int} {tgt : Nat} (d : decode cc pc = .ok (.if_icmp .le off, 3)) (ht : (pc : Int) + off = (tgt : Int)) (kt : x ≤ y → fr_V p l e R s m args below meth c g Q n σ tgt lv st) (kf : ¬ (x ≤ y) → fr_V p l e R s m args below meth c g Q n σ (pc + 3) lv st) : fr_V p l e R s m args below meth c g Q n σ pc lv (.int y :: .int x :: st) :=
  fun H locs ls hP hS hl => lv_icmp_le X.1 X.2.1 d ht (fun q => kt q H locs ls hP hS hl) (fun q => kf q H locs ls hP hS hl)

/-- getfield of an int, of a reference -/
theorem sv_geti (X : fr_X p s m args meth c g cc own n) {C : String} {T : u_T} {N ci idx o : Nat} {rs : List Nat} (hin : ∀ w ∈ u_ws C T N, w ∈ fr_tbl) (hc : fr_cls[ci]? = some (C, T, N)) (j : Nat) (hj : j < N) (ho : fr_tab[o]? = some (0, ci, rs)) (hr : rs[j]? = some 0) (hw : Cond.fieldLink own idx (T j).1 (T j).2.1 (T j).2.2.1 ∈ fr_tbl) (d : decode cc pc = .ok (.getfield idx, 3)) (k : fr_V p l e R s m args below meth c g Q n σ (pc + 3) lv (.int (σ o j) :: st)) : fr_V p l e R s m args below meth c g Q n σ pc lv (.ref (g.2.1 o) :: st) :=
  fun H locs ls hP hS hl => va_get X.1 X.2.1 X.2.2.2.2.1 hin X.2.2.2.1 X.2.2.2.2.2.1 hP o (fr_wd_at ho) hc j hj (X.2.2.2.2.1 _ hw) (fun _ h9 => h9) (fr_fs_i hr) d (k H locs ls hP hS hl)
theorem sv_getr (X : fr_X p s m args meth c g cc own n) {C : String} {T : u_T} {N ci idx o t : Nat} {rs : List Nat} (hin : ∀ w ∈ u_ws C T N, w ∈ fr_tbl) (hc : fr_cls[ci]? = some (C, T, N)) (j : Nat) (hj : j < N) (ho : fr_tab[o]? = some (0, ci, rs)) (hr : rs[j]? = some (t + 1)) (hw : Cond.fieldLink own idx (T j).1 (T j).2.1 (T j).2.2.1 ∈ fr_tbl) (d : decode cc pc = .ok (.getfield idx, 3)) (k : fr_V p l e R s m args below meth c g Q n σ (pc + 3) lv (.ref (g.2.1 t) :: st)) : fr_V p l e R s m args below meth c g Q n σ pc lv (.ref (g.2.1 o) :: st) :=
  fun H locs ls hP hS hl => va_get X.1 X.2.1 X.2.2.2.2.1 hin X.2.2.2.1 X.2.2.2.2.2.1 hP o (fr_wd_at ho) hc j hj (X.2.2.2.2.1 _ hw) (fun _ h9 => h9) (fr_fs_r hr) d (k H locs ls hP hS hl)
theorem sv_puti (X : fr_X p s m args meth c g cc own n) {C : String} {T : u_T} {N ci idx o : Nat} {rs : List Nat} {ty0 : Nat → FieldType} {v : Int32} {ty : FieldType} (hin : ∀ w ∈ u_ws C T N, w ∈ fr_tbl) (hty : ∀ k, k < N → parseFieldDescriptor (T k).2.2.1 = some (ty0 k)) (hnm : ∀ a, a < N → ∀ b, b < N → a ≠ b → (T a).2.1 ≠ (T b).2.1) (hc : fr_cls[ci]? = some (C, T, N)) (j : Nat) (hj : j < N) (ho : fr_tab[o]? = some (0, ci, rs)) (hr : rs[j]? = some 0) (hw : Cond.fieldLink own idx (T j).1 (T j).2.1 (T j).2.2.1 ∈ fr_tbl) (hfin : (T j).2.2.2 = false) (hty1 : ty0 j = ty) (hn : narrow ty (.int v) = .int v) (hfit : fits ty (.int v) = true) (d : decode cc pc = .ok (.putfield idx, 3)) (k : fr_V p l e R s m args below meth c g Q n (fr_up σ o j v) (pc + 3) lv st) : fr_V p l e R s m args below meth c g Q n σ pc lv (.int v :: .ref (g.2.1 o) :: st) :=
  fun H locs ls hP hS hl => va_put X.1 X.2.1 X.2.2.2.2.1 hin ty0 hty hnm X.2.2.2.1 X.2.2.2.2.2.1 hP (fr_vaD X.2.2.2.2.2.2.1 σ s.heap.size) hS o (fr_wd_at ho) hc j hj (X.2.2.2.2.1 _ hw) (fun _ h9 => h9) hfin (by rw [hty j hj, hty1]) hn hfit (by simp [fr_fs]; exact (List.getElem?_eq_some_iff.mp hr).1) d (fun H1 locs1 hP1 _ hS1 => k H1 locs1 ls (by rw [← fr_set_f ho hr v]; exact hP1) hS1 hl)
/-- arrays -/
theorem sv_iald (X : fr_X p s m args meth c g cc own n) {a N : Nat} {rs : List Nat} {i : Int32} (ha : fr_tab[a]? = some (1, N, rs)) (hin : fr_ib i N = true) {j : Nat} (hj : fr_ix i = j) (d : decode cc pc = .ok (.iaload, 1)) (k : fr_V p l e R s m args below meth c g Q n σ (pc + 1) lv (.int (σ a j) :: st)) : fr_V p l e R s m args below meth c g Q n σ pc lv (.int i :: .ref (g.2.1 a) :: st) := by
  subst hj
  exact fun H locs ls hP hS hl => va_iald X.1 X.2.1 X.2.2.2.2.2.1 hP a 0 (fr_wd_at ha) rfl (fr_in hin) d (k H locs ls hP hS hl)
theorem sv_iast (X : fr_X p s m args meth c g cc own n) {a N : Nat} {rs : List Nat} {i v : Int32} (ha : fr_tab[a]? = some (1, N, rs)) (hin : fr_ib i N = true) {j : Nat} (hj : fr_ix i = j) (d : decode cc pc = .ok (.iastore, 1)) (k : fr_V p l e R s m args below meth c g Q n (fr_up σ a j v) (pc + 1) lv st) : fr_V p l e R s m args below meth c g Q n σ pc lv (.int v :: .int i :: .ref (g.2.1 a) :: st) := by
  subst hj
  exact fun H locs ls hP hS hl => va_iast X.1 X.2.1 X.2.2.2.2.2.1 hP (fr_vaD X.2.2.2.2.2.2.1 σ s.heap.size) hS a 0 (fr_wd_at ha) rfl (fr_in hin) d (fun H1 locs1 hP1 _ hS1 => k H1 locs1 ls (by rw [fr_up, ← fr_set_i ha (upd (σ a) (fr_ix i) v)]; exact hP1) hS1 hl)
theorem sv_zald (X : fr_X p s m args meth c g cc own n) {a N : Nat} {rs : List Nat} {i : Int32} (ha : fr_tab[a]? = some (2, N, rs)) (hin : fr_ib i N = true) {j : Nat} (hj : fr_ix i = j) (d : decode cc pc = .ok (.baload, 1)) (k : fr_V p l e R s m args below meth c g Q n σ (pc + 1) lv (.int (σ a j) :: st)) : fr_V p l e R s m args below meth c g Q n σ pc lv (.int i :: .ref (g.2.1 a) :: st) := by
  subst hj
  exact fun H locs ls hP hS hl => va_zald X.1 X.2.1 X.2.2.2.2.2.1 hP a 1 (fr_wd_at ha) rfl (fr_in hin) d (k H locs ls hP hS hl)
theorem sv_zast (X : fr_X p s m args meth c g cc own n) {a N : Nat} {rs : List Nat} {i v : Int32} (ha : fr_tab[a]? = some (2, N, rs)) (hin : fr_ib i N = true) {j : Nat} (hj : fr_ix i = j) (hv : vp_nar .boolean v = v) (d : decode cc pc = .ok (.bastore, 1)) (k : fr_V p l e R s m args below meth c g Q n (fr_up σ a j v) (pc + 1) lv st) : fr_V p l e R s m args below meth c g Q n σ pc lv (.int v :: .int i :: .ref (g.2.1 a) :: st) := by
  subst hj
  exact fun H locs ls hP hS hl => va_zast X.1 X.2.1 X.2.2.2.2.2.1 hP (fr_vaD X.2.2.2.2.2.2.1 σ s.heap.size) hS a 1 (fr_wd_at ha) rfl (fr_in hin) d (fun H1 locs1 hP1 _ hS1 => k H1 locs1 ls (by rw [fr_up, ← fr_set_z ha (upd (σ a) (fr_ix i) v)]; rw [hv] at hP1; exact hP1) hS1 hl)
theorem sv_aald (X : fr_X p s m args meth c g cc own n) {a N : Nat} {rs : List Nat} {i : Int32} {t : Nat} (ha : fr_tab[a]? = some (3, N, rs)) (hin : fr_ib i N = true) (ht : rs.getD (fr_ix i) 0 - 1 = t) (d : decode cc pc = .ok (.aaload, 1)) (k : fr_V p l e R s m args below meth c g Q n σ (pc + 1) lv (.ref (g.2.1 t) :: st)) : fr_V p l e R s m args below meth c g Q n σ pc lv (.int i :: .ref (g.2.1 a) :: st) := by
  intro H locs ls hP hS hl
  have hq := hP a _ (fr_wd_at ha)
  have h1 := fr_in hin
  have hlt : i.toNatClampNeg < N := Nat.not_le.mp fun q => h1 (Or.inr q)
  refine W.aald (v := .ref (g.2.1 t)) (ty := .array .int) X.1 X.2.1 hq ((X.2.2.2.2.2.1.2 2 _ rfl).1 N (fun j => va_rf (if j < N then some (g.2.1 (rs.getD j 0 - 1)) else none))) rfl (fun q => by cases q) (by show ¬ (i < 0 ∨ (arrV _ _ _).slots.size ≤ _); rw [arrV_size]; exact h1) (by show (arrV _ _ _).slots[_]? = _; rw [arrV_read _ _ hlt, ← ht]; exact congrArg (fun z => some (va_rf z)) (if_pos hlt)) rfl rfl d (k H locs ls hP hS hl)
/-- a named number on the stack -/
theorem sv_topi {x : Int32} (k : ∀ y : Int32, y = x → fr_V p l e R s m args below meth c g Q n σ pc lv (.int y :: st)) : fr_V p l e R s m args below meth c g Q n σ pc lv (.int x :: st) := k x rfl
theorem sv_topl {x : Int64} (k : ∀ y : Int64, y = x → fr_V p l e R s m args below meth c g Q n σ pc lv (.long y :: st)) : fr_V p l e R s m args below meth c g Q n σ pc lv (.long x :: st) := k x rfl
/-- the ends -/
theorem sv_iret (X : fr_X p s m args meth c g cc own n) {v r : Int32} {τ : fr_St} (hr : meth.sig.returnType = some .int) (hQ : Q = fr_Qi below args s g r τ) (d : decode cc pc = .ok (.ireturn, 1)) (h : some (v, σ) = some (r, τ)) : fr_V p l e R s m args below meth c g Q n σ pc lv [.int v] := by
  subst hQ
  intro H locs ls hP hS hl
  obtain ⟨rfl, rfl⟩ := Prod.mk.inj (Option.some.inj h)
  exact W.iret (v := v) X.1 X.2.1 hr (fun t ht hW => ⟨⟨v, σ, rfl, ⟨rfl, rfl⟩, by rw [ht]; exact hP, va_K.moved hW.alike X.2.2.2.2.2.1, X.2.2.2.2.2.2.1, fr_Sk X.2.2.2.2.2.2.2.1 hW.alike (by rw [ht]; exact hS)⟩, hS.F ht⟩) hS.2.2 d X.2.2.2.2.2.2.2.2
theorem sv_zret (X : fr_X p s m args meth c g cc own n) {v : Int32} {b r : Bool} {τ : fr_St} (hr : meth.sig.returnType = some .boolean) (hQ : Q = fr_Qi below args s g (fr_bi r) τ) (hv : v = fr_bi b) (d : decode cc pc = .ok (.ireturn, 1)) (h : some (b, σ) = some (r, τ)) : fr_V p l e R s m args below meth c g Q n σ pc lv [.int v] := by
  subst hQ
  intro H locs ls hP hS hl
  obtain ⟨rfl, rfl⟩ := Prod.mk.inj (Option.some.inj h)
  exact W.zret (v := v) X.1 X.2.1 hr (by rw [hv]; cases b <;> rfl) (fun t ht hW => ⟨⟨v, σ, rfl, ⟨hv, rfl⟩, by rw [ht]; exact hP, va_K.moved hW.alike X.2.2.2.2.2.1, X.2.2.2.2.2.2.1, fr_Sk X.2.2.2.2.2.2.2.1 hW.alike (by rw [ht]; exact hS)⟩, hS.F ht⟩) hS.2.2 d X.2.2.2.2.2.2.2.2
theorem sv_zretv (X : fr_X p s m args meth c g cc own n) {v : Int32} {r : Bool} {τ : fr_St} (hr : meth.sig.returnType = some .boolean) (hQ : Q = fr_Qi below args s g (fr_bi r) τ) (d : decode cc pc = .ok (.ireturn, 1)) (h : (if v = 0 then some (false, σ) else if v = 1 then some (true, σ) else none) = some (r, τ)) : fr_V p l e R s m args below meth c g Q n σ pc lv [.int v] := by
  by_cases h0 : v = 0
  · exact sv_zret X (b := false) hr hQ h0 d (fr_pos h h0)
  · exact sv_zret X (b := true) hr hQ (fr_chk (fr_neg h h0)).1 d (fr_chk (fr_neg h h0)).2
theorem sv_lret (X : fr_X p s m args meth c g cc own n) {v r : Int64} {τ : fr_St} (hr : meth.sig.returnType = some .long) (hQ : Q = fr_Ql below args s g r τ) (d : decode cc pc = .ok (.lreturn, 1)) (h : some (v, σ) = some (r, τ)) : fr_V p l e R s m args below meth c g Q n σ pc lv [.long v] := by
  subst hQ
  intro H locs ls hP hS hl
  obtain ⟨rfl, rfl⟩ := Prod.mk.inj (Option.some.inj h)
  exact W.lret (v := v) X.1 X.2.1 hr (fun t ht hW => ⟨⟨v, σ, rfl, ⟨rfl, rfl⟩, by rw [ht]; exact hP, va_K.moved hW.alike X.2.2.2.2.2.1, X.2.2.2.2.2.2.1, fr_Sk X.2.2.2.2.2.2.2.1 hW.alike (by rw [ht]; exact hS)⟩, hS.F ht⟩) hS.2.2 d X.2.2.2.2.2.2.2.2
theorem sv_vret (X : fr_X p s m args meth c g cc own n) {τ : fr_St} (hr : meth.sig.returnType = none) (hQ : Q = fr_Qv below args s g τ) (d : decode cc pc = .ok (.return_, 1)) (h : some σ = some τ) : fr_V p l e R s m args below meth c g Q n σ pc lv [] := by
  subst hQ
  intro H locs ls hP hS hl
  obtain rfl := Option.some.inj h
  exact W.vret X.1 X.2.1 hr (fun t ht hW => ⟨⟨σ, rfl, rfl, by rw [ht]; exact hP, va_K.moved hW.alike X.2.2.2.2.2.1, X.2.2.2.2.2.2.1, fr_Sk X.2.2.2.2.2.2.2.1 hW.alike (by rw [ht]; exact hS)⟩, hS.F ht⟩) hS.2.2 d X.2.2.2.2.2.2.2.2
theorem sv_sig (k : ∀ τ : fr_St, τ = σ → fr_V p l e R s m args below meth c g Q n τ pc lv st) : fr_V p l e R s m args below meth c g Q n σ pc lv st := k σ rfl
theorem sv_alen (X : fr_X p s m args meth c g cc own n) {a N : Nat} {rs : List Nat} (ha : fr_tab[a]? = some (1, N, rs)) (d : decode cc pc = .ok (.arraylength, 1)) (k : fr_V p l e R s m args below meth c g Q n σ (pc + 1) lv (.int (Int32.ofNat N) :: st)) : fr_V p l e R s m args below meth c g Q n σ pc lv (.ref (g.2.1 a) :: st) :=
  fun H locs ls hP hS hl => va_alen X.1 X.2.1 X.2.2.2.2.2.1 hP a 0 (fr_wd_at ha) rfl rfl d (k H locs ls hP hS hl)
theorem sv_ldc_w (X : fr_X p s m args meth c g cc own n) {v : Int32} {z : Nat} (hw : Cond.constant own z v ∈ fr_tbl) (d : decode cc pc = .ok (.ldc_w z, 3)) (k : fr_V p l e R s m args below meth c g Q n σ (pc + 3) lv (.int v :: st)) : fr_V p l e R s m args below meth c g Q n σ pc lv st :=
  fun H locs ls hP hS hl => lv_ldcw X.1 X.2.1 X.2.2.2.1 (X.2.2.2.2.1 _ hw) d (k H locs ls hP hS hl)
theorem sv_ldc2_w (X : fr_X p s m args meth c g cc own n) {v : Int64} {z : Nat} (hw : Cond.constantLong own z v ∈ fr_tbl) (d : decode cc pc = .ok (.ldc2_w z, 3)) (k : fr_V p l e R s m args below meth c g Q n σ (pc + 3) lv (.long v :: st)) : fr_V p l e R s m args below meth c g Q n σ pc lv st :=
  fun H locs ls hP hS hl => lv_ldc2 X.1 X.2.1 X.2.2.2.1 (X.2.2.2.2.1 _ hw) d (k H locs ls hP hS hl)
end FRV
theorem fr_lete {α β : Type} {e y : α} {f : α → Option β} {r : β} (h : fr_let e f = some r) (hy : y = e) : f y = some r := by subst hy; exact h
/-- rows of the tables of rows -/
theorem fr_ixlt {i : Int32} {n : Nat} (h : fr_ib i n = true) : fr_ix i < n := by
  have h1 := fr_in h
  exact Nat.not_le.mp fun q => h1 (Or.inr q)
theorem fr_a2 : ∀ k, k < 8 → ([4, 5, 6, 7, 8, 9, 10, 11] : List Nat).getD k 0 - 1 = 3 + k ∧ fr_tab[3 + k]? = some (1, 40, []) := by decide
theorem fr_a20 : ∀ k, k < 24 → ([22, 23, 24, 25, 26, 27, 28, 29, 30, 31, 32, 33, 34, 35, 36, 37, 38, 39, 40, 41, 42, 43, 44, 45] : List Nat).getD k 0 - 1 = 21 + k ∧ fr_tab[21 + k]? = some (1, 122, []) := by decide
theorem fr_a55 : ∀ k, k < 2 → ([57, 58] : List Nat).getD k 0 - 1 = 56 + k ∧ fr_tab[56 + k]? = some (1, 122, []) := by decide
theorem fr_i1 {α : Type} {a b : α} (h : some a = some b) : a = b := Option.some.inj h
theorem fr_i2 {α1 α2 : Type} {a1 b1 : α1} {a2 b2 : α2} (h : some (a1, a2) = some (b1, b2)) : a1 = b1 ∧ a2 = b2 := by
  have h := Option.some.inj h
  simpa only [Prod.mk.injEq] using h
theorem fr_i3 {α1 α2 α3 : Type} {a1 b1 : α1} {a2 b2 : α2} {a3 b3 : α3} (h : some (a1, a2, a3) = some (b1, b2, b3)) : a1 = b1 ∧ a2 = b2 ∧ a3 = b3 := by
  have h := Option.some.inj h
  simpa only [Prod.mk.injEq] using h
theorem fr_i4 {α1 α2 α3 α4 : Type} {a1 b1 : α1} {a2 b2 : α2} {a3 b3 : α3} {a4 b4 : α4} (h : some (a1, a2, a3, a4) = some (b1, b2, b3, b4)) : a1 = b1 ∧ a2 = b2 ∧ a3 = b3 ∧ a4 = b4 := by
  have h := Option.some.inj h
  simpa only [Prod.mk.injEq] using h
theorem fr_i5 {α1 α2 α3 α4 α5 : Type} {a1 b1 : α1} {a2 b2 : α2} {a3 b3 : α3} {a4 b4 : α4} {a5 b5 : α5} (h : some (a1, a2, a3, a4, a5) = some (b1, b2, b3, b4, b5)) : a1 = b1 ∧ a2 = b2 ∧ a3 = b3 ∧ a4 = b4 ∧ a5 = b5 := by
  have h := Option.some.inj h
  simpa only [Prod.mk.injEq] using h
theorem fr_i6 {α1 α2 α3 α4 α5 α6 : Type} {a1 b1 : α1} {a2 b2 : α2} {a3 b3 : α3} {a4 b4 : α4} {a5 b5 : α5} {a6 b6 : α6} (h : some (a1, a2, a3, a4, a5, a6) = some (b1, b2, b3, b4, b5, b6)) : a1 = b1 ∧ a2 = b2 ∧ a3 = b3 ∧ a4 = b4 ∧ a5 = b5 ∧ a6 = b6 := by
  have h := Option.some.inj h
  simpa only [Prod.mk.injEq] using h
theorem fr_i7 {α1 α2 α3 α4 α5 α6 α7 : Type} {a1 b1 : α1} {a2 b2 : α2} {a3 b3 : α3} {a4 b4 : α4} {a5 b5 : α5} {a6 b6 : α6} {a7 b7 : α7} (h : some (a1, a2, a3, a4, a5, a6, a7) = some (b1, b2, b3, b4, b5, b6, b7)) : a1 = b1 ∧ a2 = b2 ∧ a3 = b3 ∧ a4 = b4 ∧ a5 = b5 ∧ a6 = b6 ∧ a7 = b7 := by
  have h := Option.some.inj h
  simpa only [Prod.mk.injEq] using h
