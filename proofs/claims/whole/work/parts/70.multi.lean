/-! ===== a row for 'new int[n][m]' ===== -/
section MUL
variable {E : CtlPost} {e : Env} {d : Bool} {acts : List Action} {s : State}
def mu_f (h0 i : Nat) : Nat → Value := fun j => if j < i then .ref (h0 + 1 + j) else .null
/-- behind i of the N rows -/
def mu_st (T : State) (cJ cI : ClassId) (N M : Nat) : Nat → State
  | 0 => T.pushCell (arrV cJ N (mu_f T.heap.size 0))
  | i + 1 => ((mu_st T cJ cI N M i).pushCell (arrV cI M (fun _ => .int 0))).setCell T.heap.size (arrV cJ N (mu_f T.heap.size (i + 1)))
theorem mu_f0 (h0 : Nat) : mu_f h0 0 = fun _ => Value.null := by
  funext j
  unfold mu_f
  rw [if_neg (Nat.not_lt_zero _)]
theorem mu_fs (h0 i : Nat) : updV (mu_f h0 i) i (.ref (h0 + 1 + i)) = mu_f h0 (i + 1) := by
  funext j
  unfold updV mu_f
  by_cases q : j = i
  · subst q; rw [if_pos rfl, if_pos (by omega)]
  · rw [if_neg q]
    by_cases w : j < i
    · rw [if_pos w, if_pos (by omega)]
    · rw [if_neg w, if_neg (by omega)]
theorem mu_facts (T : State) (cJ cI : ClassId) (N M : Nat) : ∀ i, (mu_st T cJ cI N M i).heap.size = T.heap.size + 1 + i ∧ (mu_st T cJ cI N M i).heap[T.heap.size]? = some (arrV cJ N (mu_f T.heap.size i)) ∧ (mu_st T cJ cI N M i).vm = T.vm ∧ (mu_st T cJ cI N M i).slotsUsed = T.slotsUsed + N + i * M ∧ (∀ q, q < T.heap.size → (mu_st T cJ cI N M i).heap[q]? = T.heap[q]?) ∧ ∀ j, j < i → (mu_st T cJ cI N M i).heap[T.heap.size + 1 + j]? = some (arrV cI M (fun _ => .int 0))
  | 0 => ⟨by simp [mu_st], by simp [mu_st], rfl, by simp [mu_st, arrV_size], fun q hq => State.heap_pushCell_of_lt _ _ hq, fun j hj => absurd hj (Nat.not_lt_zero _)⟩
  | i + 1 => by
    obtain ⟨a, b, v, u, o, n⟩ := mu_facts T cJ cI N M i
    have e1 : (mu_st T cJ cI N M (i + 1)).heap = (((mu_st T cJ cI N M i).heap.push (arrV cI M (fun _ => .int 0)))).setIfInBounds T.heap.size (arrV cJ N (mu_f T.heap.size (i + 1))) := rfl
    have sz : ((mu_st T cJ cI N M i).heap.push (arrV cI M (fun _ => .int 0))).size = T.heap.size + 1 + i + 1 := by rw [Array.size_push, a]
    refine ⟨by rw [e1, Array.size_setIfInBounds, sz]; omega, ?_, by simp [mu_st, v], ?_, fun q hq => ?_, fun j hj => ?_⟩
    · rw [e1, Array.getElem?_setIfInBounds, if_pos rfl, if_pos (by rw [sz]; omega)]
    · show (mu_st T cJ cI N M i).slotsUsed + (arrV cI M (fun _ => .int 0)).slots.size = _
      rw [u, arrV_size, Nat.succ_mul]
      omega
    · rw [e1, Array.getElem?_setIfInBounds, if_neg (by omega), Array.getElem?_push, if_neg (by omega)]
      exact o q hq
    · rw [e1, Array.getElem?_setIfInBounds, if_neg (by omega), Array.getElem?_push]
      by_cases q : j = i
      · subst q
        rw [if_pos (by omega)]
      · rw [if_neg (by omega)]
        exact n j (by omega)
theorem mu_top (T : State) (f : JFrame) (cJ cI : ClassId) (N M : Nat) : ∀ i, mu_st (T.setTop f) cJ cI N M i = (mu_st T cJ cI N M i).setTop f
  | 0 => rfl
  | i + 1 => by
    show ((mu_st (T.setTop f) cJ cI N M i).pushCell _).setCell _ _ = (((mu_st T cJ cI N M i).pushCell _).setCell _ _).setTop f
    rw [mu_top T f cJ cI N M i]
    rfl
theorem mu_arr {c comp : ClassId} {k : Class} {ty : FieldType} {n : Nat} {v : Value} (hk : s.vm.classes[c]? = some k) (hkind : k.kind = .array comp ty) (h1 : n ≤ e.platform.arrayLengthLimit) (h2 : n * componentBytes ty ≤ e.platform.maxHeapBytes) (hf : fits ty v = true) (hdf : v.isDefault = true) (h3 : s.heap.size < e.platform.maxCells) (h4 : s.slotsUsed + n ≤ e.platform.maxSlots) {Q : Addr → Pre} (hq : Q s.heap.size d acts (s.pushCell (arrV c n (fun _ => v)))) : wp (Jvm.newArray c n v) Q E e d acts s := by
  have hfit : ∀ i x, (Array.replicate n v)[i]? = some x → s.fitsSlot c .none i x = true := by
    intro i x hx
    rw [Array.getElem?_replicate] at hx
    by_cases q : i < n
    · rw [if_pos q] at hx
      cases hx
      simp [State.fitsSlot, State.slotType?, hk, hkind, hf]
    · rw [if_neg q] at hx
      cases hx
  have hact : allocActs (Array.replicate n v) s.heap.size acts = acts := by
    have hall : ((Array.replicate n v).all (·.isDefault)) = true := by
      rw [Array.all_replicate]
      split <;> simp [hdf]
    unfold allocActs
    rw [if_pos hall]
  rw [← arrV_new] at hq
  have n1 : ¬ n > e.platform.arrayLengthLimit := by omega
  have n2 : ¬ n * componentBytes ty > e.platform.maxHeapBytes := by omega
  simp only [Jvm.newArray, Jvm.arrayFits, wp_bind', Jvm.W.ask, Jvm.W.ite, n1, n2, if_false, wp_pure', Jvm.W.theClass, hk, hkind, Jvm.W.alloc, Jvm.W.stop, Option.some.injEq, exists_eq_left', Array.size_replicate, hact]
  rw [if_neg (by omega)]
  exact ⟨h3, h4, hfit, hq⟩
theorem mu_row {cI cc : ClassId} {kI : Class} {m : Int32} (hk : s.vm.classes[cI]? = some kI) (hkind : kI.kind = .array cc .int) (hm : ¬ m < 0) (h1 : m.toNatClampNeg ≤ e.platform.arrayLengthLimit) (h2 : m.toNatClampNeg * 4 ≤ e.platform.maxHeapBytes) (h3 : s.heap.size < e.platform.maxCells) (h4 : s.slotsUsed + m.toNatClampNeg ≤ e.platform.maxSlots) {Q : Addr → Pre} (hq : Q s.heap.size d acts (s.pushCell (arrV cI m.toNatClampNeg (fun _ => .int 0)))) : wp (multianewarray.make cI [m]) Q E e d acts s := by
  rw [multianewarray.make]
  simp only [wp_bind', Jvm.W.ite, hm, if_false, wp_pure', Jvm.W.theClass, hk, hkind, Option.some.injEq, exists_eq_left']
  exact mu_arr hk hkind h1 h2 rfl rfl h3 h4 hq
theorem mu_rows {cJ cI cc : ClassId} {kJ kI : Class} {n m : Int32} (hkJ : s.vm.classes[cJ]? = some kJ) (hkindJ : kJ.kind = .array cI (.array .int)) (hkI : s.vm.classes[cI]? = some kI) (hkindI : kI.kind = .array cc .int) (hn : ¬ n < 0) (hm : ¬ m < 0) (n1 : n.toNatClampNeg ≤ e.platform.arrayLengthLimit) (n2 : n.toNatClampNeg * 4 ≤ e.platform.maxHeapBytes) (h1 : m.toNatClampNeg ≤ e.platform.arrayLengthLimit) (h2 : m.toNatClampNeg * 4 ≤ e.platform.maxHeapBytes) (h3 : s.heap.size + 1 + n.toNatClampNeg ≤ e.platform.maxCells) (h4 : s.slotsUsed + n.toNatClampNeg + n.toNatClampNeg * m.toNatClampNeg ≤ e.platform.maxSlots) {Q : Addr → Pre} (hq : ∀ d' acts', Q s.heap.size d' acts' (mu_st s cJ cI n.toNatClampNeg m.toNatClampNeg n.toNatClampNeg)) : wp (multianewarray.make cJ [n, m]) Q E e d acts s := by
  have hfind : ([m].find? (· < 0)) = none := by simp [hm]
  rw [multianewarray.make]
  simp only [wp_bind', Jvm.W.ite, hn, if_false, wp_pure', Jvm.W.theClass, hkJ, hkindJ, Option.some.injEq, exists_eq_left']
  have z := Nat.zero_le (n.toNatClampNeg * m.toNatClampNeg)
  refine mu_arr hkJ hkindJ n1 n2 rfl rfl (by omega) (by omega) ?_
  simp only [hfind]
  rw [ite_self, wp_bind', Std.Legacy.Range.forIn_eq_forIn_range']
  rw [show ([:n.toNatClampNeg] : Std.Legacy.Range).size = n.toNatClampNeg by simp [Std.Legacy.Range.size]]
  show wp (forIn (List.range' 0 n.toNatClampNeg 1) PUnit.unit _) _ E e d acts _
  generalize hNe : n.toNatClampNeg = N at *
  refine wp_forIn_inv (fun rest s' => ∃ i, i ≤ N ∧ rest = List.range' i (N - i) ∧ s' = mu_st s cJ cI N m.toNatClampNeg i) _ _ ⟨0, Nat.zero_le _, rfl, ?_⟩ ?_ ?_
  · show s.pushCell _ = s.pushCell _
    rw [mu_f0]
  · intro x rest s' d' acts' Q' hI hnext
    obtain ⟨i, hi, hl, rfl⟩ := hI
    have hlt : i < N := by
      rcases Nat.lt_or_ge i N with q | q
      · exact q
      · rw [show N - i = 0 by omega] at hl
        cases hl
    rw [show N - i = (N - (i + 1)) + 1 by omega, List.range'_succ] at hl
    obtain ⟨rfl, rfl⟩ := List.cons.inj hl
    obtain ⟨f1, f2, f3, f4, f5, f6⟩ := mu_facts s cJ cI N m.toNatClampNeg x
    have hmul : x * m.toNatClampNeg + m.toNatClampNeg ≤ N * m.toNatClampNeg := by
      have := Nat.mul_le_mul_right m.toNatClampNeg (show x + 1 ≤ N from hlt)
      rw [Nat.succ_mul] at this
      exact this
    simp only [wp_bind']
    refine mu_row (by rw [f3]; exact hkI) hkindI hm h1 h2 (by rw [f1]; omega) (by rw [f4]; omega) ?_
    simp only [wp_bind', Jvm.W.writeLoc, wp_pure']
    refine ⟨arrV cJ N (mu_f s.heap.size x), ?_, (fun q => by cases q), (by rw [arrV_size]; exact hlt), ?_, hnext _ _ _ ⟨x + 1, hlt, rfl, ?_⟩⟩
    · rw [State.heap_pushCell_of_lt _ _ (show s.heap.size < (mu_st s cJ cI N m.toNatClampNeg x).heap.size by rw [f1]; omega)]
      exact f2
    · show State.fitsSlot _ cJ .none x _ = true
      simp [State.fitsSlot, State.slotType?, f3, hkJ, hkindJ]
      rfl
    · rw [f1, arrV_store, mu_fs]
      rfl
  · intro s' d' acts' hI
    obtain ⟨i, hi, hl, rfl⟩ := hI
    have hiN : i = N := by
      rcases Nat.lt_or_ge i N with q | q
      · rw [show N - i = (N - (i + 1)) + 1 by omega, List.range'_succ] at hl
        cases hl
      · omega
    subst hiN
    simp only [wp_pure']
    exact hq _ _
end MUL
