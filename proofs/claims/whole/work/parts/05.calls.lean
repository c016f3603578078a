theorem fr_good : ∀ w ∈ fr_tbl, (w.onTables && w.keeps) = true ∨ ∃ ty, w = Cond.arrayClass ty := fun w h => good_of_word (List.mem_filter.mp h).2
theorem fr_gin {y : MethodName} {bytes : ByteArray} {maxL : Nat} {ret : Option FieldType} (hcode : Cond.code y bytes maxL ret ∈ fr_tbl) : GoodIn fr_tbl (fr_ws y bytes maxL ret) := by
  intro w hw
  rcases List.mem_cons.mp hw with rfl | h
  · exact ⟨hcode, fr_good _ hcode⟩
  · exact ⟨h, fr_good _ h⟩
theorem fr_ginV {y : MethodName} {bytes : ByteArray} {maxL idx : Nat} {ret : Option FieldType} {own C : String} (hcode : Cond.code y bytes maxL ret ∈ fr_tbl) (h1 : Cond.methodLink own idx y ∈ fr_tbl) (h2 : Cond.instanceMethod y ∈ fr_tbl) (h3 : Cond.selects C y y ∈ fr_tbl) (h4 : Cond.initialized C ∈ fr_tbl) : GoodIn fr_tbl (wsV own idx C y (fr_ws y bytes maxL ret)) := by
  intro w hw
  unfold wsV at hw
  rcases List.mem_append.mp hw with h | h
  · simp only [List.mem_cons, List.not_mem_nil, or_false] at h
    rcases h with rfl | rfl | rfl | rfl
    · exact ⟨h1, fr_good _ h1⟩
    · exact ⟨h2, fr_good _ h2⟩
    · exact ⟨h3, fr_good _ h3⟩
    · exact ⟨h4, fr_good _ h4⟩
  · exact fr_gin hcode w h
/-- a state that differs in its frames alone -/
theorem fr_B.moved {g : fr_G} {σ : fr_St} {u U : State} (h : fr_B g σ u) (hh : U.heap = u.heap) (hvm : u.vm.Alike U.vm) : fr_B g σ U := by
  obtain ⟨h1, h2, h3, ⟨a1, a2⟩, ⟨b1, b2⟩, ⟨c1, c2⟩⟩ := h
  refine ⟨by rw [hh]; exact h1, va_K.moved hvm h2, h3, ?_⟩
  rw [hh]
  exact ⟨⟨a1.moved hvm, a2.moved hvm⟩, ⟨b1.moved hvm, b2.moved hvm⟩, ⟨c1.moved hvm, c2.moved hvm⟩⟩
theorem fr_blind (g : fr_G) (σ : fr_St) (av : List Value) (sz : Nat) : FrameBlind (va_Pc av (fun U => U.heap.size = sz ∧ fr_B g σ U)) := by
  intro a U f mk q
  exact ⟨q.1, q.2.1, q.2.2.moved rfl (Vm.Alike.refl U.vm)⟩
section FRM
variable {l : Launch} {g : fr_G} {y : MethodName} {cc : ByteArray} {n h : Nat} {av : List Value} {σ τ : fr_St}
theorem fr_mi {r : Int32} (hy : plainName y.cls = true) (hlen : (lg_sl av).length ≤ n) (body : ∀ (p : Program) (e : Env) (s : State) (m : MethodId) (below : List Frame) (meth : Method) (c : Code), fr_X p s m av.toArray meth c g cc y.cls n → meth.sig.returnType = some .int → fr_V p l e (fr_rm h) s m av.toArray below meth c g (fr_Qi below av.toArray s g r τ) n σ 0 (lv_args 0 av) []) : fr_Ci l g y (fr_ws y cc n (some .int)) h av σ r τ := by
  intro sz
  refine Met.ofW (cc := cc) (maxL := n) (ret := some .int) hy rfl ?_
  intro p e s m args below meth c s₁ B hml hv
  obtain ⟨rfl, rfl, hP, hK, hD, hSt⟩ := hv
  have hts := atoms_spec (ws := fr_ws y cc n (some .int)) B.pre
  have hl := lv_entry av (n := n) hlen
  rw [lg_entry_eq]
  exact body p e s m below meth c ⟨B.exec, B.bytes, hml, findClass_of_methodNamed B.named, fun w hw => hts w (List.mem_cons_of_mem _ hw), hK, hD, hSt, B.notSynchronized⟩ B.returns s.heap [] _ hP va_S.rf hl
theorem fr_mz {r : Bool} (hy : plainName y.cls = true) (hlen : (lg_sl av).length ≤ n) (body : ∀ (p : Program) (e : Env) (s : State) (m : MethodId) (below : List Frame) (meth : Method) (c : Code), fr_X p s m av.toArray meth c g cc y.cls n → meth.sig.returnType = some .boolean → fr_V p l e (fr_rm h) s m av.toArray below meth c g (fr_Qi below av.toArray s g (fr_bi r) τ) n σ 0 (lv_args 0 av) []) : fr_Ci l g y (fr_ws y cc n (some .boolean)) h av σ (fr_bi r) τ := by
  intro sz
  refine Met.ofW (cc := cc) (maxL := n) (ret := some .boolean) hy rfl ?_
  intro p e s m args below meth c s₁ B hml hv
  obtain ⟨rfl, rfl, hP, hK, hD, hSt⟩ := hv
  have hts := atoms_spec (ws := fr_ws y cc n (some .boolean)) B.pre
  have hl := lv_entry av (n := n) hlen
  rw [lg_entry_eq]
  exact body p e s m below meth c ⟨B.exec, B.bytes, hml, findClass_of_methodNamed B.named, fun w hw => hts w (List.mem_cons_of_mem _ hw), hK, hD, hSt, B.notSynchronized⟩ B.returns s.heap [] _ hP va_S.rf hl
theorem fr_ml {r : Int64} (hy : plainName y.cls = true) (hlen : (lg_sl av).length ≤ n) (body : ∀ (p : Program) (e : Env) (s : State) (m : MethodId) (below : List Frame) (meth : Method) (c : Code), fr_X p s m av.toArray meth c g cc y.cls n → meth.sig.returnType = some .long → fr_V p l e (fr_rm h) s m av.toArray below meth c g (fr_Ql below av.toArray s g r τ) n σ 0 (lv_args 0 av) []) : fr_Cl l g y (fr_ws y cc n (some .long)) h av σ r τ := by
  intro sz
  refine Met.ofW (cc := cc) (maxL := n) (ret := some .long) hy rfl ?_
  intro p e s m args below meth c s₁ B hml hv
  obtain ⟨rfl, rfl, hP, hK, hD, hSt⟩ := hv
  have hts := atoms_spec (ws := fr_ws y cc n (some .long)) B.pre
  have hl := lv_entry av (n := n) hlen
  rw [lg_entry_eq]
  exact body p e s m below meth c ⟨B.exec, B.bytes, hml, findClass_of_methodNamed B.named, fun w hw => hts w (List.mem_cons_of_mem _ hw), hK, hD, hSt, B.notSynchronized⟩ B.returns s.heap [] _ hP va_S.rf hl
theorem fr_mv (hy : plainName y.cls = true) (hlen : (lg_sl av).length ≤ n) (body : ∀ (p : Program) (e : Env) (s : State) (m : MethodId) (below : List Frame) (meth : Method) (c : Code), fr_X p s m av.toArray meth c g cc y.cls n → meth.sig.returnType = none → fr_V p l e (fr_rm h) s m av.toArray below meth c g (fr_Qv below av.toArray s g τ) n σ 0 (lv_args 0 av) []) : fr_Cv l g y (fr_ws y cc n none) h av σ τ := by
  intro sz
  refine Met.ofW (cc := cc) (maxL := n) (ret := none) hy rfl ?_
  intro p e s m args below meth c s₁ B hml hv
  obtain ⟨rfl, rfl, hP, hK, hD, hSt⟩ := hv
  have hts := atoms_spec (ws := fr_ws y cc n none) B.pre
  have hl := lv_entry av (n := n) hlen
  rw [lg_entry_eq]
  exact body p e s m below meth c ⟨B.exec, B.bytes, hml, findClass_of_methodNamed B.named, fun w hw => hts w (List.mem_cons_of_mem _ hw), hK, hD, hSt, B.notSynchronized⟩ B.returns s.heap [] _ hP va_S.rf hl
end FRM
section FRC
variable {p : Program} {l : Launch} {e : Env} {s : State} {m : MethodId} {args : Array Value} {below : List Frame} {meth : Method} {c : Code} {g : fr_G} {Q : State → Prop} {n hh : Nat} {σ τ : fr_St} {pc : Nat} {lv : List (Nat × Value)} {st : List Value} {cc : ByteArray} {own : String}
variable {y : MethodName} {bytes : ByteArray} {maxL idx h1 nA ci o : Nat} {ret : Option FieldType} {C : String} {T : u_T} {N : Nat} {rs : List Nat} {As : List Value}
theorem sv_callVi (X : fr_X p s m args meth c g cc own n) {r : Int32} {st0 : List Value} (hM : fr_Ci l g y (fr_ws y bytes maxL ret) h1 (.ref (g.2.1 o) :: As) σ r τ) (hcode : Cond.code y bytes maxL ret ∈ fr_tbl) (hw1 : Cond.methodLink own idx y ∈ fr_tbl) (hw2 : Cond.instanceMethod y ∈ fr_tbl) (hw3 : Cond.selects C y y ∈ fr_tbl) (hw4 : Cond.initialized C ∈ fr_tbl) (hd : y.cls = C ∧ y.cls ≠ "java/lang/invoke/MethodHandle" ∧ y.cls ≠ "java/lang/invoke/VarHandle" ∧ (parseMethodDescriptor y.desc).map (fun d => d.parameters.length) = some nA) (ho : fr_tab[o]? = some (0, ci, rs)) (hc : fr_cls[ci]? = some (C, T, N)) (hr : h1 + 1 ≤ hh ∧ maxL ≤ 41) (hn : As.length = nA) (hsum : (st.map fun v => v.category).sum ≤ 8) (d : decode cc pc = .ok (.invokevirtual idx, 3)) (hst : As.reverse ++ .ref (g.2.1 o) :: st = st0) (k : fr_V p l e (fr_rm hh) s m args below meth c g Q n τ (pc + 3) lv (.int r :: st)) : fr_V p l e (fr_rm hh) s m args below meth c g Q n σ pc lv st0 := by
  intro H locs ls hP hS hl
  have hFc : ∀ q, fr_A g H.size q → fr_A g s.heap.size q := fr_sub hS.1
  refine va_calli (va_runV (As := As) (rest := st) ⟨X.1, X.2.1, X.2.2.1, X.2.2.2.1, X.2.2.2.2.1⟩ (hM H.size) (cwV nA X.2.2.2.2.1 (fr_ginV hcode hw1 hw2 hw3 hw4) rfl rfl rfl hd ⟨hr.1, by show 8 + (maxL + 11) + 60 * h1 ≤ 60 * hh; omega⟩) ⟨fr_blind g σ _ _, (va_recv X.2.2.2.2.2.1 hP (ci := ci) (q0 := o) hc (fr_wd_at ho)), fun U hU hW => ⟨rfl, by rw [hU], by rw [hU]; exact hP, va_K.moved hW.alike X.2.2.2.2.2.1, X.2.2.2.2.2.2.1, fr_Sk X.2.2.2.2.2.2.2.1 hW.alike (by rw [hU]; exact hS)⟩⟩ rfl hn hl.1 hst.symm (lv_room hsum) d ⟨Nat.le_refl _, Nat.le_refl _⟩) hS (fun q _ h => hFc q h) hFc (fun r1 u t H1 locs1 ht hvm hw hB hz1 hk1 hS1 => ?_)
  obtain ⟨rfl, rfl⟩ := hw
  exact k H1 locs1 ls (by rw [← ht]; exact hB.1) hS1 hl
theorem sv_callSi (X : fr_X p s m args meth c g cc own n) {r : Int32} {st0 : List Value} (hM : fr_Ci l g y (fr_ws y bytes maxL ret) h1 As σ r τ) (hcode : Cond.code y bytes maxL ret ∈ fr_tbl) (hw1 : Cond.methodLink own idx y ∈ fr_tbl) (hw2 : Cond.static y ∈ fr_tbl) (hw4 : Cond.initialized y.cls ∈ fr_tbl) (hd : y.cls ≠ "java/lang/invoke/MethodHandle" ∧ y.cls ≠ "java/lang/invoke/VarHandle" ∧ (parseMethodDescriptor y.desc).map (fun d => d.parameters.length) = some nA) (hr : h1 + 1 ≤ hh ∧ maxL ≤ 41) (hn : As.length = nA) (hsum : (st.map fun v => v.category).sum ≤ 8) (d : decode cc pc = .ok (.invokestatic idx, 3)) (hst : As.reverse ++ st = st0) (k : fr_V p l e (fr_rm hh) s m args below meth c g Q n τ (pc + 3) lv (.int r :: st)) : fr_V p l e (fr_rm hh) s m args below meth c g Q n σ pc lv st0 := by
  intro H locs ls hP hS hl
  have hFc : ∀ q, fr_A g H.size q → fr_A g s.heap.size q := fr_sub hS.1
  refine va_calli (va_runS (As := As) (rest := st) ⟨X.1, X.2.1, X.2.2.1, X.2.2.2.1, X.2.2.2.2.1⟩ (hM H.size) ⟨callB_of nA X.2.2.2.2.1 (fr_gin hcode) rfl rfl rfl (X.2.2.2.2.1 _ hw4) (X.2.2.2.2.1 _ hw1) hd ⟨hr.1, by show 8 + (maxL + 11) + 60 * h1 ≤ 60 * hh; omega⟩, X.2.2.2.2.1 _ hw2⟩ ⟨fr_blind g σ _ _, fun U hU hW => ⟨rfl, by rw [hU], by rw [hU]; exact hP, va_K.moved hW.alike X.2.2.2.2.2.1, X.2.2.2.2.2.2.1, fr_Sk X.2.2.2.2.2.2.2.1 hW.alike (by rw [hU]; exact hS)⟩⟩ rfl hn hl.1 hst.symm (lv_room hsum) d ⟨Nat.le_refl _, Nat.le_refl _⟩) hS (fun q _ h => hFc q h) hFc (fun r1 u t H1 locs1 ht hvm hw hB hz1 hk1 hS1 => ?_)
  obtain ⟨rfl, rfl⟩ := hw
  exact k H1 locs1 ls (by rw [← ht]; exact hB.1) hS1 hl
theorem sv_callVl (X : fr_X p s m args meth c g cc own n) {r : Int64} {st0 : List Value} (hM : fr_Cl l g y (fr_ws y bytes maxL ret) h1 (.ref (g.2.1 o) :: As) σ r τ) (hcode : Cond.code y bytes maxL ret ∈ fr_tbl) (hw1 : Cond.methodLink own idx y ∈ fr_tbl) (hw2 : Cond.instanceMethod y ∈ fr_tbl) (hw3 : Cond.selects C y y ∈ fr_tbl) (hw4 : Cond.initialized C ∈ fr_tbl) (hd : y.cls = C ∧ y.cls ≠ "java/lang/invoke/MethodHandle" ∧ y.cls ≠ "java/lang/invoke/VarHandle" ∧ (parseMethodDescriptor y.desc).map (fun d => d.parameters.length) = some nA) (ho : fr_tab[o]? = some (0, ci, rs)) (hc : fr_cls[ci]? = some (C, T, N)) (hr : h1 + 1 ≤ hh ∧ maxL ≤ 41) (hn : As.length = nA) (hsum : (st.map fun v => v.category).sum ≤ 8) (d : decode cc pc = .ok (.invokevirtual idx, 3)) (hst : As.reverse ++ .ref (g.2.1 o) :: st = st0) (k : fr_V p l e (fr_rm hh) s m args below meth c g Q n τ (pc + 3) lv (.long r :: st)) : fr_V p l e (fr_rm hh) s m args below meth c g Q n σ pc lv st0 := by
  intro H locs ls hP hS hl
  have hFc : ∀ q, fr_A g H.size q → fr_A g s.heap.size q := fr_sub hS.1
  refine va_calll (va_runV (As := As) (rest := st) ⟨X.1, X.2.1, X.2.2.1, X.2.2.2.1, X.2.2.2.2.1⟩ (hM H.size) (cwV nA X.2.2.2.2.1 (fr_ginV hcode hw1 hw2 hw3 hw4) rfl rfl rfl hd ⟨hr.1, by show 8 + (maxL + 11) + 60 * h1 ≤ 60 * hh; omega⟩) ⟨fr_blind g σ _ _, (va_recv X.2.2.2.2.2.1 hP (ci := ci) (q0 := o) hc (fr_wd_at ho)), fun U hU hW => ⟨rfl, by rw [hU], by rw [hU]; exact hP, va_K.moved hW.alike X.2.2.2.2.2.1, X.2.2.2.2.2.2.1, fr_Sk X.2.2.2.2.2.2.2.1 hW.alike (by rw [hU]; exact hS)⟩⟩ rfl hn hl.1 hst.symm (lv_room hsum) d ⟨Nat.le_refl _, Nat.le_refl _⟩) hS (fun q _ h => hFc q h) hFc (fun r1 u t H1 locs1 ht hvm hw hB hz1 hk1 hS1 => ?_)
  obtain ⟨rfl, rfl⟩ := hw
  exact k H1 locs1 ls (by rw [← ht]; exact hB.1) hS1 hl
theorem sv_callSl (X : fr_X p s m args meth c g cc own n) {r : Int64} {st0 : List Value} (hM : fr_Cl l g y (fr_ws y bytes maxL ret) h1 As σ r τ) (hcode : Cond.code y bytes maxL ret ∈ fr_tbl) (hw1 : Cond.methodLink own idx y ∈ fr_tbl) (hw2 : Cond.static y ∈ fr_tbl) (hw4 : Cond.initialized y.cls ∈ fr_tbl) (hd : y.cls ≠ "java/lang/invoke/MethodHandle" ∧ y.cls ≠ "java/lang/invoke/VarHandle" ∧ (parseMethodDescriptor y.desc).map (fun d => d.parameters.length) = some nA) (hr : h1 + 1 ≤ hh ∧ maxL ≤ 41) (hn : As.length = nA) (hsum : (st.map fun v => v.category).sum ≤ 8) (d : decode cc pc = .ok (.invokestatic idx, 3)) (hst : As.reverse ++ st = st0) (k : fr_V p l e (fr_rm hh) s m args below meth c g Q n τ (pc + 3) lv (.long r :: st)) : fr_V p l e (fr_rm hh) s m args below meth c g Q n σ pc lv st0 := by
  intro H locs ls hP hS hl
  have hFc : ∀ q, fr_A g H.size q → fr_A g s.heap.size q := fr_sub hS.1
  refine va_calll (va_runS (As := As) (rest := st) ⟨X.1, X.2.1, X.2.2.1, X.2.2.2.1, X.2.2.2.2.1⟩ (hM H.size) ⟨callB_of nA X.2.2.2.2.1 (fr_gin hcode) rfl rfl rfl (X.2.2.2.2.1 _ hw4) (X.2.2.2.2.1 _ hw1) hd ⟨hr.1, by show 8 + (maxL + 11) + 60 * h1 ≤ 60 * hh; omega⟩, X.2.2.2.2.1 _ hw2⟩ ⟨fr_blind g σ _ _, fun U hU hW => ⟨rfl, by rw [hU], by rw [hU]; exact hP, va_K.moved hW.alike X.2.2.2.2.2.1, X.2.2.2.2.2.2.1, fr_Sk X.2.2.2.2.2.2.2.1 hW.alike (by rw [hU]; exact hS)⟩⟩ rfl hn hl.1 hst.symm (lv_room hsum) d ⟨Nat.le_refl _, Nat.le_refl _⟩) hS (fun q _ h => hFc q h) hFc (fun r1 u t H1 locs1 ht hvm hw hB hz1 hk1 hS1 => ?_)
  obtain ⟨rfl, rfl⟩ := hw
  exact k H1 locs1 ls (by rw [← ht]; exact hB.1) hS1 hl
theorem sv_callVv (X : fr_X p s m args meth c g cc own n)  {st0 : List Value} (hM : fr_Cv l g y (fr_ws y bytes maxL ret) h1 (.ref (g.2.1 o) :: As) σ τ) (hcode : Cond.code y bytes maxL ret ∈ fr_tbl) (hw1 : Cond.methodLink own idx y ∈ fr_tbl) (hw2 : Cond.instanceMethod y ∈ fr_tbl) (hw3 : Cond.selects C y y ∈ fr_tbl) (hw4 : Cond.initialized C ∈ fr_tbl) (hd : y.cls = C ∧ y.cls ≠ "java/lang/invoke/MethodHandle" ∧ y.cls ≠ "java/lang/invoke/VarHandle" ∧ (parseMethodDescriptor y.desc).map (fun d => d.parameters.length) = some nA) (ho : fr_tab[o]? = some (0, ci, rs)) (hc : fr_cls[ci]? = some (C, T, N)) (hr : h1 + 1 ≤ hh ∧ maxL ≤ 41) (hn : As.length = nA) (hsum : (st.map fun v => v.category).sum ≤ 8) (d : decode cc pc = .ok (.invokevirtual idx, 3)) (hst : As.reverse ++ .ref (g.2.1 o) :: st = st0) (k : fr_V p l e (fr_rm hh) s m args below meth c g Q n τ (pc + 3) lv (st)) : fr_V p l e (fr_rm hh) s m args below meth c g Q n σ pc lv st0 := by
  intro H locs ls hP hS hl
  have hFc : ∀ q, fr_A g H.size q → fr_A g s.heap.size q := fr_sub hS.1
  refine va_callv (va_runV (As := As) (rest := st) ⟨X.1, X.2.1, X.2.2.1, X.2.2.2.1, X.2.2.2.2.1⟩ (hM H.size) (cwV nA X.2.2.2.2.1 (fr_ginV hcode hw1 hw2 hw3 hw4) rfl rfl rfl hd ⟨hr.1, by show 8 + (maxL + 11) + 60 * h1 ≤ 60 * hh; omega⟩) ⟨fr_blind g σ _ _, (va_recv X.2.2.2.2.2.1 hP (ci := ci) (q0 := o) hc (fr_wd_at ho)), fun U hU hW => ⟨rfl, by rw [hU], by rw [hU]; exact hP, va_K.moved hW.alike X.2.2.2.2.2.1, X.2.2.2.2.2.2.1, fr_Sk X.2.2.2.2.2.2.2.1 hW.alike (by rw [hU]; exact hS)⟩⟩ rfl hn hl.1 hst.symm (lv_room hsum) d ⟨Nat.le_refl _, Nat.le_refl _⟩) hS (fun q _ h => hFc q h) hFc (fun u t H1 locs1 ht hvm hw hB hz1 hk1 hS1 => ?_)
  obtain rfl := hw
  exact k H1 locs1 ls (by rw [← ht]; exact hB.1) hS1 hl
theorem sv_callSv (X : fr_X p s m args meth c g cc own n)  {st0 : List Value} (hM : fr_Cv l g y (fr_ws y bytes maxL ret) h1 As σ τ) (hcode : Cond.code y bytes maxL ret ∈ fr_tbl) (hw1 : Cond.methodLink own idx y ∈ fr_tbl) (hw2 : Cond.static y ∈ fr_tbl) (hw4 : Cond.initialized y.cls ∈ fr_tbl) (hd : y.cls ≠ "java/lang/invoke/MethodHandle" ∧ y.cls ≠ "java/lang/invoke/VarHandle" ∧ (parseMethodDescriptor y.desc).map (fun d => d.parameters.length) = some nA) (hr : h1 + 1 ≤ hh ∧ maxL ≤ 41) (hn : As.length = nA) (hsum : (st.map fun v => v.category).sum ≤ 8) (d : decode cc pc = .ok (.invokestatic idx, 3)) (hst : As.reverse ++ st = st0) (k : fr_V p l e (fr_rm hh) s m args below meth c g Q n τ (pc + 3) lv (st)) : fr_V p l e (fr_rm hh) s m args below meth c g Q n σ pc lv st0 := by
  intro H locs ls hP hS hl
  have hFc : ∀ q, fr_A g H.size q → fr_A g s.heap.size q := fr_sub hS.1
  refine va_callv (va_runS (As := As) (rest := st) ⟨X.1, X.2.1, X.2.2.1, X.2.2.2.1, X.2.2.2.2.1⟩ (hM H.size) ⟨callB_of nA X.2.2.2.2.1 (fr_gin hcode) rfl rfl rfl (X.2.2.2.2.1 _ hw4) (X.2.2.2.2.1 _ hw1) hd ⟨hr.1, by show 8 + (maxL + 11) + 60 * h1 ≤ 60 * hh; omega⟩, X.2.2.2.2.1 _ hw2⟩ ⟨fr_blind g σ _ _, fun U hU hW => ⟨rfl, by rw [hU], by rw [hU]; exact hP, va_K.moved hW.alike X.2.2.2.2.2.1, X.2.2.2.2.2.2.1, fr_Sk X.2.2.2.2.2.2.2.1 hW.alike (by rw [hU]; exact hS)⟩⟩ rfl hn hl.1 hst.symm (lv_room hsum) d ⟨Nat.le_refl _, Nat.le_refl _⟩) hS (fun q _ h => hFc q h) hFc (fun u t H1 locs1 ht hvm hw hB hz1 hk1 hS1 => ?_)
  obtain rfl := hw
  exact k H1 locs1 ls (by rw [← ht]; exact hB.1) hS1 hl
theorem sv_min (X : fr_X p s m args meth c g cc own n) {x y : Int32} (hw1 : Cond.methodLink own idx Lib.Math.min.name ∈ fr_tbl) (hw2 : Cond.static Lib.Math.min.name ∈ fr_tbl) (hw3 : Cond.initialized "java/lang/Math" ∈ fr_tbl) (hcode : Cond.code Lib.Math.min.name Lib.Math.min.code 2 (some .int) ∈ fr_tbl) (hr : 1 ≤ hh) (hsum : (st.map fun v => v.category).sum ≤ 8) (d : decode cc pc = .ok (.invokestatic idx, 3)) (k : fr_V p l e (fr_rm hh) s m args below meth c g Q n σ (pc + 3) lv (.int (if y < x then y else x) :: st)) : fr_V p l e (fr_rm hh) s m args below meth c g Q n σ pc lv (.int y :: .int x :: st) :=
  fun H locs ls hP hS hl => va_mmin X.1 X.2.1 (X.2.2.1.trans hl.1.symm) X.2.2.2.1 (X.2.2.2.2.1 _ hw1) (X.2.2.2.2.1 _ hw2) (X.2.2.2.2.1 _ hw3) (X.2.2.2.2.1 _ hcode) hr (by show _ + 13 ≤ 60 * hh; omega) (Nat.le_refl _) (Nat.le_refl _) d (k H locs ls hP hS hl)
def fr_cb (sp dp n : Int32) (n0 n1 : Nat) : Bool := decide (¬ sp < 0 ∧ ¬ dp < 0 ∧ ¬ n < 0 ∧ fr_ix sp + fr_ix n ≤ n0 ∧ fr_ix dp + fr_ix n ≤ n1)
theorem sv_copy (X : fr_X p s m args meth c g cc own n) {a b N0 N1 : Nat} {rs0 rs1 : List Nat} {sp dp cn : Int32} (hw1 : Cond.methodLink own idx arraycopyName ∈ fr_tbl) (hw2 : Cond.native arraycopyName ∈ fr_tbl) (hw3 : Cond.static arraycopyName ∈ fr_tbl) (hw4 : Cond.initialized "java/lang/System" ∈ fr_tbl) (ha : fr_tab[a]? = some (1, N0, rs0)) (hb : fr_tab[b]? = some (1, N1, rs1)) (hin : fr_cb sp dp cn N0 N1 = true) (hr : 1 ≤ hh) (hsum : (st.map fun v => v.category).sum ≤ 8) (d : decode cc pc = .ok (.invokestatic idx, 3)) (k : fr_V p l e (fr_rm hh) s m args below meth c g Q n (fr_row σ b (va_cpy (σ a) (σ b) (fr_ix sp) (fr_ix dp) (fr_ix cn))) (pc + 3) lv st) : fr_V p l e (fr_rm hh) s m args below meth c g Q n σ pc lv (.int cn :: .int dp :: .ref (g.2.1 b) :: .int sp :: .ref (g.2.1 a) :: st) := by
  intro H locs ls hP hS hl
  obtain ⟨q1, q2, q3, q4, q5⟩ := of_decide_eq_true hin
  have hnw : nativeFrameWords "java/lang/System" "arraycopy" 5 + 11 ≤ 52 := by decide +kernel
  exact va_copyi X.1 X.2.1 (X.2.2.1.trans hl.1.symm) X.2.2.2.1 (X.2.2.2.2.1 _ hw1) (X.2.2.2.2.1 _ hw2) (X.2.2.2.2.1 _ hw3) (X.2.2.2.2.1 _ hw4) X.2.2.2.2.2.1 hP (fr_vaD X.2.2.2.2.2.2.1 σ s.heap.size) hS a b 0 0 (fr_wd_at ha) (fr_wd_at hb) rfl rfl rfl q1 q2 q3 q4 q5 (fun _ _ => rfl) hr (by show _ ≤ 60 * hh; omega) d (fun H1 locs1 hP1 _ hS1 => k H1 locs1 ls (by rw [← fr_set_i hb (va_cpy (σ a) (σ b) (fr_ix sp) (fr_ix dp) (fr_ix cn))]; exact hP1) hS1 hl)
theorem sv_getsA (X : fr_X p s m args meth c g cc own n) (hw : Cond.fieldLink own idx "FeetRoads$Kinds" "ABOVE" "[I" ∈ fr_tbl) (d : decode cc pc = .ok (.getstatic idx, 3)) (k : fr_V p l e (fr_rm hh) s m args below meth c g Q n σ (pc + 3) lv (.ref g.2.2.2.1 :: st)) : fr_V p l e (fr_rm hh) s m args below meth c g Q n σ pc lv st :=
  fun H locs ls hP hS hl => va_gets X.1 X.2.1 (fr_Sn X.2.2.2.2.2.2.2.1.1.1) hS X.2.2.2.1 (X.2.2.2.2.1 _ hw) (fun _ h9 => h9) d (k H locs ls hP hS hl)
theorem sv_tiA (X : fr_X p s m args meth c g cc own n) {i : Int32} (hin : fr_ib i 6 = true) (d : decode cc pc = .ok (.iaload, 1)) (k : fr_V p l e (fr_rm hh) s m args below meth c g Q n σ (pc + 1) lv (.int (fr_cA (fr_ix i)) :: st)) : fr_V p l e (fr_rm hh) s m args below meth c g Q n σ pc lv (.int i :: .ref g.2.2.2.1 :: st) :=
  fun H locs ls hP hS hl => va_ti X.1 X.2.1 (fr_Tn X.2.2.2.2.2.2.2.1.1.2) hS (fr_in hin) rfl d (k H locs ls hP hS hl)
theorem sv_getsS (X : fr_X p s m args meth c g cc own n) (hw : Cond.fieldLink own idx "FeetRoads$Asker" "SIZE_BODIES" "[I" ∈ fr_tbl) (d : decode cc pc = .ok (.getstatic idx, 3)) (k : fr_V p l e (fr_rm hh) s m args below meth c g Q n σ (pc + 3) lv (.ref g.2.2.2.2.1 :: st)) : fr_V p l e (fr_rm hh) s m args below meth c g Q n σ pc lv st :=
  fun H locs ls hP hS hl => va_gets X.1 X.2.1 (fr_Sn X.2.2.2.2.2.2.2.1.2.1.1) hS X.2.2.2.1 (X.2.2.2.2.1 _ hw) (fun _ h9 => h9) d (k H locs ls hP hS hl)
theorem sv_tiS (X : fr_X p s m args meth c g cc own n) {i : Int32} (hin : fr_ib i 6 = true) (d : decode cc pc = .ok (.iaload, 1)) (k : fr_V p l e (fr_rm hh) s m args below meth c g Q n σ (pc + 1) lv (.int (fr_cS (fr_ix i)) :: st)) : fr_V p l e (fr_rm hh) s m args below meth c g Q n σ pc lv (.int i :: .ref g.2.2.2.2.1 :: st) :=
  fun H locs ls hP hS hl => va_ti X.1 X.2.1 (fr_Tn X.2.2.2.2.2.2.2.1.2.1.2) hS (fr_in hin) rfl d (k H locs ls hP hS hl)
theorem sv_getsM (X : fr_X p s m args meth c g cc own n) (hw : Cond.fieldLink own idx "FeetRoads$Asker" "MARK_BODIES" "[I" ∈ fr_tbl) (d : decode cc pc = .ok (.getstatic idx, 3)) (k : fr_V p l e (fr_rm hh) s m args below meth c g Q n σ (pc + 3) lv (.ref g.2.2.2.2.2 :: st)) : fr_V p l e (fr_rm hh) s m args below meth c g Q n σ pc lv st :=
  fun H locs ls hP hS hl => va_gets X.1 X.2.1 (fr_Sn X.2.2.2.2.2.2.2.1.2.2.1) hS X.2.2.2.1 (X.2.2.2.2.1 _ hw) (fun _ h9 => h9) d (k H locs ls hP hS hl)
theorem sv_tiM (X : fr_X p s m args meth c g cc own n) {i : Int32} (hin : fr_ib i 6 = true) (d : decode cc pc = .ok (.iaload, 1)) (k : fr_V p l e (fr_rm hh) s m args below meth c g Q n σ (pc + 1) lv (.int (fr_cM (fr_ix i)) :: st)) : fr_V p l e (fr_rm hh) s m args below meth c g Q n σ pc lv (.int i :: .ref g.2.2.2.2.2 :: st) :=
  fun H locs ls hP hS hl => va_ti X.1 X.2.1 (fr_Tn X.2.2.2.2.2.2.2.1.2.2.2) hS (fr_in hin) rfl d (k H locs ls hP hS hl)
/-- switches -/
theorem sv_tin (X : fr_X p s m args meth c g cc own n) {dflt lo hi : Int} {offs : Array Int} {len : Nat} {x v : Int32} {off : Int} {tgt : Nat} (hx : x = v) (h1 : ¬ v.toInt < lo) (h2 : ¬ hi < v.toInt) (ho : offs[(v.toInt - lo).toNat]? = some off) (ht : (pc : Int) + off = (tgt : Int)) (d : decode cc pc = .ok (.tableswitch dflt lo hi offs, len)) (k : fr_V p l e (fr_rm hh) s m args below meth c g Q n σ tgt lv st) : fr_V p l e (fr_rm hh) s m args below meth c g Q n σ pc lv (.int x :: st) := by
  subst hx
  exact fun H locs ls hP hS hl => lv_tableIn X.1 X.2.1 d h1 h2 ho ht (k H locs ls hP hS hl)
theorem sv_tout (X : fr_X p s m args meth c g cc own n) {dflt lo hi : Int} {offs : Array Int} {len : Nat} {x : Int32} {tgt : Nat} (h : x.toInt < lo ∨ hi < x.toInt) (ht : (pc : Int) + dflt = (tgt : Int)) (d : decode cc pc = .ok (.tableswitch dflt lo hi offs, len)) (k : fr_V p l e (fr_rm hh) s m args below meth c g Q n σ tgt lv st) : fr_V p l e (fr_rm hh) s m args below meth c g Q n σ pc lv (.int x :: st) :=
  fun H locs ls hP hS hl => lv_tableOut X.1 X.2.1 d h ht (k H locs ls hP hS hl)
theorem sv_look (X : fr_X p s m args meth c g cc own n) {dflt : Int} {ps : Array (Int × Int)} {len : Nat} {x : Int32} {off : Int} {tgt : Nat} (hp : (ps.toList.zip (ps.toList.drop 1)).all (fun (a, next) => a.1 < next.1) = true) (ho : Op.lookupswitch.offset ps.toList dflt x.toInt = off) (ht : (pc : Int) + off = (tgt : Int)) (d : decode cc pc = .ok (.lookupswitch dflt ps, len)) (k : fr_V p l e (fr_rm hh) s m args below meth c g Q n σ tgt lv st) : fr_V p l e (fr_rm hh) s m args below meth c g Q n σ pc lv (.int x :: st) :=
  fun H locs ls hP hS hl => lv_lookup X.1 X.2.1 d hp ho ht (k H locs ls hP hS hl)
end FRC
