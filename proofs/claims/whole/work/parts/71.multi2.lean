/-! ===== the array classes of the world; the row for 'new int[n][m]' over a world ===== -/
def fr_J (U : State) (cI cJ : ClassId) : Prop := U.vm.findClass "[[I" = some cJ ∧ U.vm.findClass "[I" = some cI ∧ ∃ (kJ kI : Class) (cc : ClassId), U.vm.classes[cJ]? = some kJ ∧ kJ.kind = .array cI (.array .int) ∧ U.vm.classes[cI]? = some kI ∧ kI.kind = .array cc .int
theorem fr_J.moved {u U : State} {cI cJ : ClassId} (hvm : u.vm.Alike U.vm) (h : fr_J u cI cJ) : fr_J U cI cJ := by
  obtain ⟨h1, h2, kJ, kI, cc, h3, h4, h5, h6⟩ := h
  obtain ⟨kJ', a1, a2⟩ := hvm.2.2 _ _ h3
  obtain ⟨kI', b1, b2⟩ := hvm.2.2 _ _ h5
  exact ⟨by rw [hvm.findClass]; exact h1, by rw [hvm.findClass]; exact h2, kJ', kI', cc, a1, by rw [a2]; exact h4, b1, by rw [b2]; exact h6⟩
section MUW
variable {p : Program} {l : Launch} {e : Env} {R : Room} {s : State} {m : MethodId} {args : Array Value} {below : List Frame} {meth : Method} {c : Code} {H : Heap} {locs : List Loc} {cells slots : Nat} {Q : State → Prop}
theorem mu_stand {T : State} (X : Stand p l e R s m args below meth c T locs cells slots) (cJ cI : ClassId) (N M : Nat) : ∀ i, Stand p l e R s m args below meth c (mu_st T cJ cI N M i) (locs ++ (List.range i).map fun j => ⟨T.heap.size, j⟩) (cells + 1 + i) (slots + N + i * M)
  | 0 => by
    have h := X.pushed (arrV cJ N (mu_f T.heap.size 0))
    rw [arrV_size] at h
    simpa [mu_st] using h
  | i + 1 => by
    have Xi := mu_stand X cJ cI N M i
    obtain ⟨f1, f2, f3, f4, f5, f6⟩ := mu_facts T cJ cI N M i
    have hcell : ((mu_st T cJ cI N M i).pushCell (arrV cI M (fun _ => .int 0))).heap[T.heap.size]? = some (arrV cJ N (mu_f T.heap.size i)) := by
      rw [State.heap_pushCell_of_lt _ _ (show T.heap.size < (mu_st T cJ cI N M i).heap.size by rw [f1]; omega)]
      exact f2
    have h := (Xi.pushed (arrV cI M (fun _ => .int 0))).stored hcell i (.ref (T.heap.size + 1 + i))
    rw [arrV_store, mu_fs, arrV_size] at h
    have e2 : (locs ++ (List.range (i + 1)).map fun j => (⟨T.heap.size, j⟩ : Loc)) = (locs ++ (List.range i).map fun j => (⟨T.heap.size, j⟩ : Loc)) ++ [⟨T.heap.size, i⟩] := by simp [List.range_succ, List.append_assoc]
    have e3 : slots + N + (i + 1) * M = slots + N + i * M + M := by rw [Nat.succ_mul]; omega
    rw [e2, e3]
    exact h
theorem mu_W {cc : ByteArray} (hexec : p.tables.exec = Jvm.exec) (hb : c.code = cc) {own : String} {index : Nat} {cI cJ : ClassId} (hown : s.vm.findClass own = some m.cls) (hcl : (Cond.classLink own index "[[I").before args s = true) (hJ : fr_J s cI cJ) {pc : Nat} {ls : Array Slot} {rest : List Value} {n k : Int32} {N M : Nat} (hn : ¬ n < 0) (hk : ¬ k < 0) (hN : n.toNatClampNeg = N) (hM : k.toNatClampNeg = M) (hb1 : N * 4 ≤ 536870912) (hb2 : M * 4 ≤ 536870912) (hcells : cells + (1 + N) ≤ R.cells) (hslots : slots + (N + N * M) ≤ R.slots) (hdg : decode cc pc = .ok (.multianewarray index 2, 4))
    (kk : ∀ (H1 : Heap) (L : List Loc), H1.size = H.size + 1 + N → (∀ q, q < H.size → H1[q]? = H[q]?) → H1[H.size]? = some (arrV cJ N (mu_f H.size N)) → (∀ j, j < N → H1[H.size + 1 + j]? = some (arrV cI M (fun _ => .int 0))) → (∀ x ∈ L, x.base = H.size) → W p l e R s m args below meth c H1 (locs ++ L) (cells + 1 + N) (slots + N + N * M) Q (F0 m (pc + 4) ls (.ref H.size :: rest))) : W p l e R s m args below meth c H locs cells slots Q (F0 m pc ls (.int k :: .int n :: rest)) := by
  intro T hT X
  subst hT; subst hb; subst hN; subst hM
  obtain ⟨j1, j2, kJ, kI, cc, j3, j4, j5, j6⟩ := hJ
  have hpl : e.platform.magicAccessors = ({} : Platform).magicAccessors := by rw [X.admits.platform]
  obtain ⟨c0, hfc0, hlk⟩ := Cond.classLink_spec hown hcl e.platform hpl
  cases j1.symm.trans hfc0
  obtain ⟨hg₁, hwarm₁, hready₁⟩ := State.classEntry (e := e) X.warmed hlk
  generalize T.vm.noted m.cls index (.cls cJ) = vm₁ at hg₁ hwarm₁ hready₁
  have hal : s.vm.Alike vm₁ := hwarm₁.alike
  obtain ⟨kJ₁, hkJ₁, heJ⟩ := hal.2.2 _ _ j3
  obtain ⟨kI₁, hkI₁, heI⟩ := hal.2.2 _ _ j5
  have hkJk : kJ₁.kind = .array cI (.array .int) := by rw [heJ]; exact j4
  have hkIk : kI₁.kind = .array cc .int := by rw [heI]; exact j6
  have X₁ := X.noted hwarm₁
  obtain ⟨hr1, hr2⟩ := X.roomAbove hcells hslots
  have XF := mu_stand X₁ cJ cI n.toNatClampNeg k.toNatClampNeg n.toNatClampNeg
  obtain ⟨f1, f2, f3, f4, f5, f6⟩ := mu_facts (T.setVm vm₁) cJ cI n.toNatClampNeg k.toNatClampNeg n.toNatClampNeg
  obtain ⟨t, a1, b1⟩ := kk (mu_st (T.setVm vm₁) cJ cI n.toNatClampNeg k.toNatClampNeg n.toNatClampNeg).heap ((List.range n.toNatClampNeg).map fun j => ⟨T.heap.size, j⟩) f1 f5 f2 f6 (fun x hx => by
    obtain ⟨j, -, rfl⟩ := List.mem_map.mp hx
    rfl) (mu_st (T.setVm vm₁) cJ cI n.toNatClampNeg k.toNatClampNeg n.toNatClampNeg) rfl XF
  refine ⟨t, ?_, b1⟩
  have l1 : n.toNatClampNeg ≤ e.platform.arrayLengthLimit := by rw [Launch.admits_arrayLengthLimit X.admits]; omega
  have l2 : n.toNatClampNeg * 4 ≤ e.platform.maxHeapBytes := by rw [Launch.admits_maxHeapBytes X.admits]; omega
  have l3 : k.toNatClampNeg ≤ e.platform.arrayLengthLimit := by rw [Launch.admits_arrayLengthLimit X.admits]; omega
  have l4 : k.toNatClampNeg * 4 ≤ e.platform.maxHeapBytes := by rw [Launch.admits_maxHeapBytes X.admits]; omega
  generalize hg : F0 m pc ls (.int k :: .int n :: rest) = g
  have hgm : g.method = m := by rw [← hg]
  have hgp : g.pc = pc := by rw [← hg]
  have hgs : g.stack = .int k :: .int n :: rest := by rw [← hg]
  have hge : F0 m (pc + 4) ls (.ref T.heap.size :: rest) = { g with pc := g.pc + 4, stack := .ref T.heap.size :: rest } := by rw [← hg]
  rw [hge] at a1
  clear hge hg
  subst hgm
  rw [← hgp] at hdg
  jvm_step X.here [hexec, hdg]
  simp only [multianewarray.sem, wp_bind', Jvm.W.resolveClassAt_links (State.method?_setTop g X.here.top) hg₁]
  rw [Jvm.W.popN, if_neg (by decide)]
  refine ⟨g, State.topJava?_setTop' (s := T.setVm vm₁) g X.here.top, [.int n, .int k], rest, rfl, hgs, ?_⟩
  simp only [List.mapM_cons, List.mapM_nil, wp_bind', wp_pure']
  refine mu_rows (kJ := kJ₁) (kI := kI₁) (cI := cI) (cc := cc) hkJ₁ hkJk hkI₁ hkIk hn hk l1 l2 l3 l4 (by show T.heap.size + 1 + _ ≤ _; omega) (by show T.slotsUsed + _ + _ ≤ _; omega) (fun d' acts' => ?_)
  have eS : ((T.setTop g).setVm vm₁).setTop { g with stack := rest } = (T.setVm vm₁).setTop { g with stack := rest } := by
    show ((T.setVm vm₁).setTop g).setTop _ = _
    rw [State.setTop_setTop]
  rw [eS, mu_top]
  simp only [wp_bind', Jvm.W.mark, Jvm.W.pushRef, State.topJava?_setTop' _ XF.here.top, Option.some.injEq, exists_eq_left', State.setTop_setTop, State.heap_setTop]
  intro acts
  simp [jvm, XF.here.top]
  exact a1
/-- the cells of 'new int[N][M]' at q -/
def mu_ws (cI cJ : ClassId) (N M q : Nat) : va_W := (q, .inl (cJ, N, .inr (.inr (.inr (.inr (fun i => if i < N then some (q + 1 + i) else none)))))) :: (List.range N).map (fun j => (q + 1 + j, .inl (cI, M, .inl (fun _ => (0 : Int32)))))
theorem mu_ws_at {cI cJ : ClassId} {N M q k : Nat} {x : Nat × va_E} (h : (mu_ws cI cJ N M q)[k]? = some x) : x.1 = q + k ∧ k < N + 1 := by
  unfold mu_ws at h
  cases k with
  | zero =>
    cases h
    exact ⟨rfl, by omega⟩
  | succ k =>
    rw [List.getElem?_cons_succ, List.getElem?_map] at h
    by_cases hk : k < N
    · rw [List.getElem?_range hk] at h
      cases h
      exact ⟨by show q + 1 + k = _; omega, by omega⟩
    · rw [List.getElem?_eq_none (by simp; omega)] at h
      cases h
theorem va_multi {cc : ByteArray} {D : va_G} {cl : List vw_C} {ws : va_W} {A : Nat → Prop} {H0 : Heap} (hexec : p.tables.exec = Jvm.exec) (hb : c.code = cc) {own : String} {index : Nat} {cI cJ : ClassId} (hown : s.vm.findClass own = some m.cls) (hcl : (Cond.classLink own index "[[I").before args s = true) (hJ : fr_J s cI cJ) (hP : va_P D cl ws H) (hD : va_D A ws) (hS : va_S A H0 H locs) (hA : ∀ q, H0.size ≤ q → A q) {pc : Nat} {ls : Array Slot} {rest : List Value} {n k : Int32} {N M : Nat} (hn : ¬ n < 0) (hk : ¬ k < 0) (hN : n.toNatClampNeg = N) (hM : k.toNatClampNeg = M) (hb1 : N * 4 ≤ 536870912) (hb2 : M * 4 ≤ 536870912) (hcells : cells + (1 + N) ≤ R.cells) (hslots : slots + (N + N * M) ≤ R.slots) (hdg : decode cc pc = .ok (.multianewarray index 2, 4))
    (kk : ∀ (q : Nat) (H1 : Heap) (locs1 : List Loc), va_P D cl (ws ++ mu_ws cI cJ N M q) H1 → va_D A (ws ++ mu_ws cI cJ N M q) → va_S A H0 H1 locs1 → W p l e R s m args below meth c H1 locs1 (cells + 1 + N) (slots + N + N * M) Q (F0 m (pc + 4) ls (.ref q :: rest))) : W p l e R s m args below meth c H locs cells slots Q (F0 m pc ls (.int k :: .int n :: rest)) := by
  refine mu_W hexec hb hown hcl hJ hn hk hN hM hb1 hb2 hcells hslots hdg (fun H1 L z1 o1 e1 e2 hL => ?_)
  refine kk H.size H1 (locs ++ L) ((hP.kept (fun k x hx => o1 x.1 ((hP k x hx).lt))).app (fun k x hx => ?_)) (va_D.app hD ⟨fun i j x y hx hy hxy => ?_, fun k x hx => ?_⟩ (fun i j x y hx hy hxy => ?_)) ⟨Nat.le_trans hS.1 (by omega), fun x h1 h2 => (o1 x (Nat.lt_of_lt_of_le h1 hS.1)).trans (hS.2.1 x h1 h2), fun x hx => ?_⟩
  · unfold mu_ws at hx
    cases k with
    | zero =>
      cases hx
      show H1[H.size]? = some (vp_cell _ _)
      rw [vp_cell_q, e1]
      congr 2
      funext j
      unfold mu_f
      split <;> rfl
    | succ k =>
      rw [List.getElem?_cons_succ, List.getElem?_map] at hx
      by_cases hk : k < N
      · rw [List.getElem?_range hk] at hx
        cases hx
        show H1[H.size + 1 + k]? = some (vp_cell _ _)
        rw [vp_cell_i, e2 k hk]
      · rw [List.getElem?_eq_none (by simp; omega)] at hx
        cases hx
  · have a := (mu_ws_at hx).1
    have b := (mu_ws_at hy).1
    omega
  · rw [(mu_ws_at hx).1]
    exact hA _ (Nat.le_trans hS.1 (Nat.le_add_right _ _))
  · have a := (hP i x hx).lt
    have b := (mu_ws_at hy).1
    omega
  · rcases List.mem_append.mp hx with q | q
    · exact hS.2.2 x q
    · rw [hL x q]
      exact hA _ hS.1
end MUW
