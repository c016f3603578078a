/-! ===== constructors: a world that grows ===== -/
abbrev n_tys (cI cZ cJ : ClassId) : List (ClassId × FieldType) := [(cI, .int), (cZ, .boolean), (cJ, .array .int)]
/-- what stays as it is in a constructor's body -/
def nX (p : Program) (s : State) (m : MethodId) (args : Array Value) (meth : Method) (c : Code) (D : va_G) (cI cZ cJ : ClassId) (A : Nat → Prop) (cc : ByteArray) (own : String) (n : Nat) : Prop :=
  p.tables.exec = Jvm.exec ∧ c.code = cc ∧ c.maxLocals = n ∧ s.vm.findClass own = some m.cls ∧ (∀ w ∈ fr_tbl, w.before args s = true) ∧ va_K D fr_cls (n_tys cI cZ cJ) s ∧ fr_J s cI cJ ∧ meth.locks = false ∧ ∀ q : Nat, s.heap.size ≤ q → A q
/-- at pc, with the cells ws -/
def nV (p : Program) (l : Launch) (e : Env) (R : Room) (s : State) (m : MethodId) (args : Array Value) (below : List Frame) (meth : Method) (c : Code) (D : va_G) (A : Nat → Prop) (Q : State → Prop) (n kc ks : Nat) (ws : va_W) (pc : Nat) (lv : List (Nat × Value)) (st : List Value) : Prop :=
  ∀ (H : Heap) (locs : List Loc) (ls : Array Slot), va_P D fr_cls ws H → va_D A ws → va_S A s.heap H locs → lv_has ls n lv → W p l e R s m args below meth c H locs kc ks Q (F0 m pc ls st)
abbrev n_rm (h mc ms : Nat) : Room := { frames := h, cells := mc, slots := ms, locals := 60 * h }
/-- a constructor's contract (or fill's): from the cells w0 to the cells w1 u -/
def nM {S : Type} (l : Launch) (y : MethodName) (cc : ByteArray) (n h mc ms : Nat) (av : List Value) (D : va_G) (cI cZ cJ : ClassId) (w0 : va_W) (w1 : S → va_W) : Prop :=
  ∀ sz : Nat, Met l y (fr_ws y cc n none) (n_rm h mc ms) (va_Pc av (fun U => U.heap.size = sz ∧ va_P D fr_cls w0 U.heap ∧ (va_K D fr_cls (n_tys cI cZ cJ) U ∧ fr_J U cI cJ) ∧ va_D (fun _ => True) w0)) (va_Qv (fun _ : S => True) (fun u t => va_P D fr_cls (w1 u) t.heap ∧ va_D (va_A w0 sz) (w1 u)) (va_A w0 sz)) mc ms (va_A w0 sz)
abbrev nQ {S : Type} (below : List Frame) (args : Array Value) (s : State) (D : va_G) (A : Nat → Prop) (w1 : S → va_W) (mc ms : Nat) : State → Prop := MQ below (va_Qv (fun _ : S => True) (fun u t => va_P D fr_cls (w1 u) t.heap ∧ va_D A (w1 u)) A) args s mc ms A
theorem nm_of {S : Type} {l : Launch} {y : MethodName} {cc : ByteArray} {n h mc ms : Nat} {av : List Value} {D : va_G} {cI cZ cJ : ClassId} {w0 : va_W} {w1 : S → va_W} (hy : plainName y.cls = true) (hlen : (lg_sl av).length ≤ n) (body : ∀ (p : Program) (e : Env) (s : State) (m : MethodId) (below : List Frame) (meth : Method) (c : Code) (A : Nat → Prop), nX p s m av.toArray meth c D cI cZ cJ A cc y.cls n → meth.sig.returnType = none → meth.name = y.name → nV p l e (n_rm h mc ms) s m av.toArray below meth c D A (nQ below av.toArray s D A w1 mc ms) n 0 0 w0 0 (lv_args 0 av) []) : nM l y cc n h mc ms av D cI cZ cJ w0 w1 := by
  intro sz
  refine Met.ofW (cc := cc) (maxL := n) (ret := none) hy rfl ?_
  intro p e s m args below meth c s₁ B hml hv
  obtain ⟨rfl, rfl, hP, ⟨hK, hJ⟩, hD⟩ := hv
  have hts := atoms_spec (ws := fr_ws y cc n none) B.pre
  have hl := lv_entry av (n := n) hlen
  rw [lg_entry_eq]
  exact body p e s m below meth c (va_A w0 s.heap.size) ⟨B.exec, B.bytes, hml, findClass_of_methodNamed B.named, fun w hw => hts w (List.mem_cons_of_mem _ hw), hK, hJ, B.notSynchronized, fun q h => Or.inr h⟩ B.returns (name_of_methodNamed B.named B.method).1 s.heap [] _ hP hD.self va_S.rf hl
theorem n_blind (D : va_G) (cI cZ cJ : ClassId) (w0 : va_W) (av : List Value) (sz : Nat) : FrameBlind (va_Pc av (fun U => U.heap.size = sz ∧ va_P D fr_cls w0 U.heap ∧ (va_K D fr_cls (n_tys cI cZ cJ) U ∧ fr_J U cI cJ) ∧ va_D (fun _ => True) w0)) := by
  intro a U f mk q
  obtain ⟨q0, q1, qP, ⟨qK, qJ⟩, qD⟩ := q
  exact ⟨q0, q1, qP, ⟨va_K.moved (u := U) (U := U.calling f mk a) (Vm.Alike.refl U.vm) qK, fr_J.moved (u := U) (U := U.calling f mk a) (Vm.Alike.refl U.vm) qJ⟩, qD⟩
/-- the last cell becomes the callee's cells -/
theorem nj {A0 : Nat → Prop} {D : va_G} {cl : List vw_C} {Y w1 : va_W} {b : Nat} {eb : va_E} {H H1 : Heap} (hP : va_P D cl (Y ++ [(b, eb)]) H) (hD : va_D A0 (Y ++ [(b, eb)])) (hk : ∀ q : Nat, q < H.size → ¬ va_A [(b, eb)] H.size q → H1[q]? = H[q]?) (hF : ∀ q, va_A [(b, eb)] H.size q → A0 q) (hP1 : va_P D cl w1 H1) (hD1 : va_D (va_A [(b, eb)] H.size) w1) : va_P D cl (Y ++ w1) H1 ∧ va_D A0 (Y ++ w1) := by
  have hlast : (Y ++ [(b, eb)])[Y.length]? = some (b, eb) := by simp
  have hY : ∀ (k : Nat) (q : Nat × va_E), Y[k]? = some q → (Y ++ [(b, eb)])[k]? = some q ∧ k < Y.length := by
    intro k q hq
    have hk := (List.getElem?_eq_some_iff.mp hq).1
    exact ⟨by rw [List.getElem?_append_left hk]; exact hq, hk⟩
  have apart : ∀ (k : Nat) (q : Nat × va_E), Y[k]? = some q → q.1 < H.size ∧ ¬ va_A [(b, eb)] H.size q.1 := by
    intro k q hq
    obtain ⟨h1, h2⟩ := hY k q hq
    have hl := (hP k q h1).lt
    refine ⟨hl, fun h => ?_⟩
    rcases h with ⟨k2, e, h⟩ | h
    · have hz : k2 < 1 := (List.getElem?_eq_some_iff.mp h).1
      rw [show k2 = 0 by omega] at h
      have e1 : (b, eb) = (q.1, e) := Option.some.inj h
      have := hD.1 k Y.length q (b, eb) h1 hlast (by rw [e1])
      omega
    · omega
  refine ⟨va_P.app (fun k q hq => ?_) hP1, va_D.app ⟨fun i j x y hx hy => hD.1 i j x y (hY i x hx).1 (hY j y hy).1, fun k q hq => hD.2 k q (hY k q hq).1⟩ (hD1.weaken (fun k q _ h => hF q.1 h)) (fun i j x y hx hy hxy => ?_)⟩
  · obtain ⟨g1, g2⟩ := apart k q hq
    exact (hP k q (hY k q hq).1).kept (hk q.1 g1 g2)
  · exact (apart i x hx).2 (by rw [hxy]; exact hD1.2 j y hy)
section NVR
variable {p : Program} {l : Launch} {e : Env} {R : Room} {s : State} {m : MethodId} {args : Array Value} {below : List Frame} {meth : Method} {c : Code} {D : va_G} {cI cZ cJ : ClassId} {A : Nat → Prop} {Q : State → Prop} {n kc ks : Nat} {ws : va_W} {pc : Nat} {lv : List (Nat × Value)} {st : List Value} {cc : ByteArray} {own : String}
theorem nv_perm {lv' : List (Nat × Value)} (is : List Nat) (h : lv_pick lv is = lv') (k : nV p l e R s m args below meth c D A Q n kc ks ws pc lv' st) : nV p l e R s m args below meth c D A Q n kc ks ws pc lv st :=
  fun H locs ls hP hD hS hl => k H locs ls hP hD hS (lv_sub hl is h)
theorem nv_iconst (X : nX p s m args meth c D cI cZ cJ A cc own n) {v : Int32} {z : _} (d : decode cc pc = .ok (.iconst z, 1)) (hv : Int32.ofInt z = v) (k : nV p l e R s m args below meth c D A Q n kc ks ws (pc + 1) lv (.int v :: st)) : nV p l e R s m args below meth c D A Q n kc ks ws pc lv st :=
  fun H locs ls hP hD hS hl => lv_iconst X.1 X.2.1 d hv (k H locs ls hP hD hS hl)
theorem nv_bipush (X : nX p s m args meth c D cI cZ cJ A cc own n) {v : Int32} {z : _} (d : decode cc pc = .ok (.bipush z, 2)) (hv : (Int8.ofInt z).toInt32 = v) (k : nV p l e R s m args below meth c D A Q n kc ks ws (pc + 2) lv (.int v :: st)) : nV p l e R s m args below meth c D A Q n kc ks ws pc lv st :=
  fun H locs ls hP hD hS hl => lv_bipush X.1 X.2.1 d hv (k H locs ls hP hD hS hl)
theorem nv_sipush (X : nX p s m args meth c D cI cZ cJ A cc own n) {v : Int32} {z : _} (d : decode cc pc = .ok (.sipush z, 3)) (hv : (Int16.ofInt z).toInt32 = v) (k : nV p l e R s m args below meth c D A Q n kc ks ws (pc + 3) lv (.int v :: st)) : nV p l e R s m args below meth c D A Q n kc ks ws pc lv st :=
  fun H locs ls hP hD hS hl => lv_sipush X.1 X.2.1 d hv (k H locs ls hP hD hS hl)
theorem nv_iload_n (X : nX p s m args meth c D cI cZ cJ A cc own n) {v : Int32} {i j : Nat} {z : _} (d : decode cc pc = .ok (.iload_n z, 1)) (hi : (z : Nat) = j) (h : lv[i]? = some (j, .int v)) (k : nV p l e R s m args below meth c D A Q n kc ks ws (pc + 1) lv (.int v :: st)) : nV p l e R s m args below meth c D A Q n kc ks ws pc lv st :=
  fun H locs ls hP hD hS hl => lv_iload_n X.1 X.2.1 d hi (lv_at hl i h) (k H locs ls hP hD hS hl)
theorem nv_aload_n (X : nX p s m args meth c D cI cZ cJ A cc own n) {v : Nat} {i j : Nat} {z : _} (d : decode cc pc = .ok (.aload_n z, 1)) (hi : (z : Nat) = j) (h : lv[i]? = some (j, .ref v)) (k : nV p l e R s m args below meth c D A Q n kc ks ws (pc + 1) lv (.ref v :: st)) : nV p l e R s m args below meth c D A Q n kc ks ws pc lv st :=
  fun H locs ls hP hD hS hl => lv_aload_n X.1 X.2.1 d hi (lv_at hl i h) (k H locs ls hP hD hS hl)
theorem nv_istore_n (X : nX p s m args meth c D cI cZ cJ A cc own n) {v : Int32} {j : Nat} {z : _} {lv' : List (Nat × Value)} (d : decode cc pc = .ok (.istore_n z, 1)) (hi : (z : Nat) = j) (hn : j < n) (h : (j, Value.int v) :: lv.filter (fun q => !(q.1 == j) && !(q.1 + 1 == j && q.2.category == 2)) = lv') (k : nV p l e R s m args below meth c D A Q n kc ks ws (pc + 1) lv' st) : nV p l e R s m args below meth c D A Q n kc ks ws pc lv (.int v :: st) :=
  fun H locs ls hP hD hS hl => lv_istore_n X.1 X.2.1 d hi hl hn h (fun ls' hl' => k H locs ls' hP hD hS hl')
theorem nv_astore_n (X : nX p s m args meth c D cI cZ cJ A cc own n) {v : Nat} {j : Nat} {z : _} {lv' : List (Nat × Value)} (d : decode cc pc = .ok (.astore_n z, 1)) (hi : (z : Nat) = j) (hn : j < n) (h : (j, Value.ref v) :: lv.filter (fun q => !(q.1 == j) && !(q.1 + 1 == j && q.2.category == 2)) = lv') (k : nV p l e R s m args below meth c D A Q n kc ks ws (pc + 1) lv' st) : nV p l e R s m args below meth c D A Q n kc ks ws pc lv (.ref v :: st) :=
  fun H locs ls hP hD hS hl => lv_astore_n X.1 X.2.1 d hi hl hn h (fun ls' hl' => k H locs ls' hP hD hS hl')
theorem nv_iinc (X : nX p s m args meth c D cI cZ cJ A cc own n) {x v : Int32} {i j : Nat} {z : Int} {lv' : List (Nat × Value)} (d : decode cc pc = .ok (.iinc j z, 3)) (hk : lv[i]? = some (j, .int x)) (hv : x + Int32.ofInt z = v) (hn : j < n) (h : (j, Value.int v) :: lv.filter (fun q => !(q.1 == j) && !(q.1 + 1 == j && q.2.category == 2)) = lv') (k : nV p l e R s m args below meth c D A Q n kc ks ws (pc + 3) lv' st) : nV p l e R s m args below meth c D A Q n kc ks ws pc lv st :=
  fun H locs ls hP hD hS hl => lv_iinc X.1 X.2.1 d hl hk hv hn h (fun ls' hl' => k H locs ls' hP hD hS hl')
theorem nv_dup (X : nX p s m args meth c D cI cZ cJ A cc own n) {v : Nat} (d : decode cc pc = .ok (.dup, 1)) (k : nV p l e R s m args below meth c D A Q n kc ks ws (pc + 1) lv (.ref v :: .ref v :: st)) : nV p l e R s m args below meth c D A Q n kc ks ws pc lv (.ref v :: st) :=
  fun H locs ls hP hD hS hl => lv_dup X.1 X.2.1 d rfl (k H locs ls hP hD hS hl)
theorem nv_goto (X : nX p s m args meth c D cI cZ cJ A cc own n) {off : Int} {tgt : Nat} (d : decode cc pc = .ok (.goto off, 3)) (ht : (pc : Int) + off = (tgt : Int)) (k : nV p l e R s m args below meth c D A Q n kc ks ws tgt lv st) : nV p l e R s m args below meth c D A Q n kc ks ws pc lv st :=
  fun H locs ls hP hD hS hl => lv_goto X.1 X.2.1 d ht (k H locs ls hP hD hS hl)
theorem nv_icmp_ge (X : nX p s m args meth c D cI cZ cJ A cc own n) {x y : Int32} {off : Int} {tgt : Nat} (d : decode cc pc = .ok (.if_icmp .ge off, 3)) (ht : (pc : Int) + off = (tgt : Int)) (kt : y ≤ x → nV p l e R s m args below meth c D A Q n kc ks ws tgt lv st) (kf : ¬ y ≤ x → nV p l e R s m args below meth c D A Q n kc ks ws (pc + 3) lv st) : nV p l e R s m args below meth c D A Q n kc ks ws pc lv (.int y :: .int x :: st) :=
  fun H locs ls hP hD hS hl => lv_icmp_ge X.1 X.2.1 d ht (fun q => kt q H locs ls hP hD hS hl) (fun q => kf q H locs ls hP hD hS hl)
theorem nv_alen (X : nX p s m args meth c D cI cZ cJ A cc own n) {a N q0 : Nat} {f : Nat → Int32} (ha : ws[q0]? = some (a, .inl (cI, N, .inl f))) {v : Int32} (hv : Int32.ofNat N = v) (d : decode cc pc = .ok (.arraylength, 1)) (k : nV p l e R s m args below meth c D A Q n kc ks ws (pc + 1) lv (.int v :: st)) : nV p l e R s m args below meth c D A Q n kc ks ws pc lv (.ref a :: st) :=
  fun H locs ls hP hD hS hl => va_alen X.1 X.2.1 X.2.2.2.2.2.1 hP q0 0 ha rfl hv d (k H locs ls hP hD hS hl)
theorem nv_iast (X : nX p s m args meth c D cI cZ cJ A cc own n) {a N : Nat} (q0 : Nat) {f : Nat → Int32} {i x : Int32} {ws' : va_W} (ha : ws[q0]? = some (a, .inl (cI, N, .inl f))) (hin : vp_in i N) (hws : ws.set q0 (a, .inl (cI, N, .inl (upd f i.toNatClampNeg x))) = ws') (d : decode cc pc = .ok (.iastore, 1)) (k : nV p l e R s m args below meth c D A Q n kc ks ws' (pc + 1) lv st) : nV p l e R s m args below meth c D A Q n kc ks ws pc lv (.int x :: .int i :: .ref a :: st) :=
  fun H locs ls hP hD hS hl => va_iast X.1 X.2.1 X.2.2.2.2.2.1 hP hD hS q0 0 ha rfl hin d (fun H1 locs1 hP1 hD1 hS1 => k H1 locs1 ls (by rw [← hws]; exact hP1) (by rw [← hws]; exact hD1) hS1 hl)
theorem nv_obj (X : nX p s m args meth c D cI cZ cJ A cc own n) {hh mc ms a idx : Nat} (hw : Cond.methodLink own idx objectInit ∈ fr_tbl) (hr : 1 ≤ hh) (d : decode cc pc = .ok (.invokespecial idx, 3)) (k : nV p l e (n_rm hh mc ms) s m args below meth c D A Q n kc ks ws (pc + 3) lv []) : nV p l e (n_rm hh mc ms) s m args below meth c D A Q n kc ks ws pc lv [.ref a] := by
  intro H locs ls hP hD hS hl
  refine W.objInit X.1 X.2.1 X.2.2.2.1 (X.2.2.2.2.1 _ hw) (X.2.2.2.2.1 _ im_obj) (X.2.2.2.2.1 _ cd_obj) rfl (by rw [X.2.2.1]; exact hl.1) rfl d hr (by show 2 * 0 + 0 + 12 ≤ 60 * hh; omega) ?_
  exact W.eq (g2 := F0 m (pc + 3) ls []) rfl (k H locs ls hP hD hS hl)
theorem nv_getr (X : nX p s m args meth c D cI cZ cJ A cc own n) {C : String} {T : u_T} {N ci idx a : Nat} {fs : List Value} {v : Value} (q0 : Nat) (hin : ∀ w ∈ u_ws C T N, w ∈ fr_tbl) (hc : fr_cls[ci]? = some (C, T, N)) (j : Nat) (hj : j < N) (he : ws[q0]? = some (a, .inr (ci, fs))) (hv : fs[j]? = some v) (hw : Cond.fieldLink own idx (T j).1 (T j).2.1 (T j).2.2.1 ∈ fr_tbl) (d : decode cc pc = .ok (.getfield idx, 3)) (k : nV p l e R s m args below meth c D A Q n kc ks ws (pc + 3) lv (v :: st)) : nV p l e R s m args below meth c D A Q n kc ks ws pc lv (.ref a :: st) :=
  fun H locs ls hP hD hS hl => va_get X.1 X.2.1 X.2.2.2.2.1 hin X.2.2.2.1 X.2.2.2.2.2.1 hP q0 he hc j hj (X.2.2.2.2.1 _ hw) (fun _ h => h) hv d (k H locs ls hP hD hS hl)
theorem nv_putF (X : nX p s m args meth c D cI cZ cJ A cc own n) {T : u_T} {N ci idx a : Nat} {fs : List Value} {v : Nat} {ty : FieldType} {ws' : va_W} (q0 : Nat) (ty0 : Nat → FieldType) (hin : ∀ w ∈ u_ws own T N, w ∈ fr_tbl) (hty : ∀ k, k < N → parseFieldDescriptor (T k).2.2.1 = some (ty0 k)) (hnm : ∀ a, a < N → ∀ b, b < N → a ≠ b → (T a).2.1 ≠ (T b).2.1) (hc : fr_cls[ci]? = some (own, T, N)) (hname : meth.name = "<init>") (j : Nat) (hj : j < N) (hfin : (T j).2.2.2 = true) (hdecl : (T j).1 = own) (hd : parseFieldDescriptor (T j).2.2.1 = some ty) (hnr : narrow ty (.ref v) = .ref v) (hfit : fits ty (.ref v) = true) (he : ws[q0]? = some (a, .inr (ci, fs))) (hl0 : j < fs.length) (hw : Cond.fieldLink own idx (T j).1 (T j).2.1 (T j).2.2.1 ∈ fr_tbl) (hws : ws.set q0 (a, .inr (ci, fs.set j (.ref v))) = ws') (d : decode cc pc = .ok (.putfield idx, 3)) (k : nV p l e R s m args below meth c D A Q n kc ks ws' (pc + 3) lv st) : nV p l e R s m args below meth c D A Q n kc ks ws pc lv (.ref v :: .ref a :: st) :=
  fun H locs ls hP hD hS hl => va_putF X.1 X.2.1 X.2.2.2.2.1 hin ty0 hty hnm X.2.2.2.1 X.2.2.2.2.2.1 hP hD hS q0 he hc j hj (X.2.2.2.2.1 _ hw) (fun _ h => h) hfin hname hdecl hd hnr hfit hl0 d (fun H1 locs1 hP1 hD1 hS1 => k H1 locs1 ls (by rw [← hws]; exact hP1) (by rw [← hws]; exact hD1) hS1 hl)
theorem nv_puti (X : nX p s m args meth c D cI cZ cJ A cc own n) {T : u_T} {N ci idx a : Nat} {fs : List Value} {v : Int32} {ws' : va_W} (q0 : Nat) (ty0 : Nat → FieldType) (hin : ∀ w ∈ u_ws own T N, w ∈ fr_tbl) (hty : ∀ k, k < N → parseFieldDescriptor (T k).2.2.1 = some (ty0 k)) (hnm : ∀ a, a < N → ∀ b, b < N → a ≠ b → (T a).2.1 ≠ (T b).2.1) (hc : fr_cls[ci]? = some (own, T, N)) (j : Nat) (hj : j < N) (hfin : (T j).2.2.2 = false) (hd : parseFieldDescriptor (T j).2.2.1 = some .int) (he : ws[q0]? = some (a, .inr (ci, fs))) (hl0 : j < fs.length) (hw : Cond.fieldLink own idx (T j).1 (T j).2.1 (T j).2.2.1 ∈ fr_tbl) (hws : ws.set q0 (a, .inr (ci, fs.set j (.int v))) = ws') (d : decode cc pc = .ok (.putfield idx, 3)) (k : nV p l e R s m args below meth c D A Q n kc ks ws' (pc + 3) lv st) : nV p l e R s m args below meth c D A Q n kc ks ws pc lv (.int v :: .ref a :: st) :=
  fun H locs ls hP hD hS hl => va_put X.1 X.2.1 X.2.2.2.2.1 hin ty0 hty hnm X.2.2.2.1 X.2.2.2.2.2.1 hP hD hS q0 he hc j hj (X.2.2.2.2.1 _ hw) (fun _ h => h) hfin hd rfl rfl hl0 d (fun H1 locs1 hP1 hD1 hS1 => k H1 locs1 ls (by rw [← hws]; exact hP1) (by rw [← hws]; exact hD1) hS1 hl)
theorem nv_newI (X : nX p s m args meth c D cI cZ cJ A cc own n) {v : Int32} {N : Nat} (hn : ¬ v < 0) (hN : v.toNatClampNeg = N) (hb : N * 4 ≤ 536870912) (hcell : kc + 1 ≤ R.cells) (hslot : ks + N ≤ R.slots) (d : decode cc pc = .ok (.newarray .int, 2)) (k : ∀ q : Nat, nV p l e R s m args below meth c D A Q n (kc + 1) (ks + N) (ws ++ [(q, .inl (cI, N, .inl (fun _ => (0 : Int32))))]) (pc + 2) lv (.ref q :: st)) : nV p l e R s m args below meth c D A Q n kc ks ws pc lv (.int v :: st) := by
  intro H locs ls hP hD hS hl
  refine va_newa (atype := .int) (ty := .int) X.1 X.2.1 (X.2.2.2.2.1 _ ac_int) rfl X.2.2.2.2.2.1 hP hD hS X.2.2.2.2.2.2.2.2 (a0 := (N, .inl (fun _ => (0 : Int32)))) (fun _ => rfl) hn hN hb hcell hslot d (fun q cA H1 hK1 hP1 hD1 hS1 => ?_)
  have h1 : s.vm.findClass ("[" ++ (FieldType.int).toString) = some cA := (hK1.2 3 (cA, .int) rfl).2
  have h2 : s.vm.findClass ("[" ++ (FieldType.int).toString) = some cI := (X.2.2.2.2.2.1.2 0 (cI, .int) rfl).2
  obtain rfl : cA = cI := Option.some.inj (h1.symm.trans h2)
  exact k q H1 locs ls hP1 hD1 hS1 hl
theorem nv_newZ (X : nX p s m args meth c D cI cZ cJ A cc own n) {v : Int32} {N : Nat} (hn : ¬ v < 0) (hN : v.toNatClampNeg = N) (hb : N * 1 ≤ 536870912) (hcell : kc + 1 ≤ R.cells) (hslot : ks + N ≤ R.slots) (d : decode cc pc = .ok (.newarray .boolean, 2)) (k : ∀ q : Nat, nV p l e R s m args below meth c D A Q n (kc + 1) (ks + N) (ws ++ [(q, .inl (cZ, N, .inl (fun _ => (0 : Int32))))]) (pc + 2) lv (.ref q :: st)) : nV p l e R s m args below meth c D A Q n kc ks ws pc lv (.int v :: st) := by
  intro H locs ls hP hD hS hl
  refine va_newa (atype := .boolean) (ty := .boolean) X.1 X.2.1 (X.2.2.2.2.1 _ ac_boolean) rfl X.2.2.2.2.2.1 hP hD hS X.2.2.2.2.2.2.2.2 (a0 := (N, .inl (fun _ => (0 : Int32)))) (fun _ => rfl) hn hN hb hcell hslot d (fun q cA H1 hK1 hP1 hD1 hS1 => ?_)
  have h1 : s.vm.findClass ("[" ++ (FieldType.boolean).toString) = some cA := (hK1.2 3 (cA, .boolean) rfl).2
  have h2 : s.vm.findClass ("[" ++ (FieldType.boolean).toString) = some cZ := (X.2.2.2.2.2.1.2 1 (cZ, .boolean) rfl).2
  obtain rfl : cA = cZ := Option.some.inj (h1.symm.trans h2)
  exact k q H1 locs ls hP1 hD1 hS1 hl
theorem nv_multi (X : nX p s m args meth c D cI cZ cJ A cc own n) {v w : Int32} {N M idx : Nat} (hw : Cond.classLink own idx "[[I" ∈ fr_tbl) (hn : ¬ v < 0) (hm : ¬ w < 0) (hN : v.toNatClampNeg = N) (hM : w.toNatClampNeg = M) (hb1 : N * 4 ≤ 536870912) (hb2 : M * 4 ≤ 536870912) (hcell : kc + (1 + N) ≤ R.cells) (hslot : ks + (N + N * M) ≤ R.slots) (d : decode cc pc = .ok (.multianewarray idx 2, 4)) (k : ∀ q : Nat, nV p l e R s m args below meth c D A Q n (kc + 1 + N) (ks + N + N * M) (ws ++ mu_ws cI cJ N M q) (pc + 4) lv (.ref q :: st)) : nV p l e R s m args below meth c D A Q n kc ks ws pc lv (.int w :: .int v :: st) :=
  fun H locs ls hP hD hS hl => va_multi X.1 X.2.1 X.2.2.2.1 (X.2.2.2.2.1 _ hw) X.2.2.2.2.2.2.1 hP hD hS X.2.2.2.2.2.2.2.2 hn hm hN hM hb1 hb2 hcell hslot d (fun q H1 locs1 hP1 hD1 hS1 => k q H1 locs1 ls hP1 hD1 hS1 hl)
theorem nv_new (X : nX p s m args meth c D cI cZ cJ A cc own n) {C : String} {T : u_T} {N ci idx : Nat} (ty : Nat → FieldType) (hin : ∀ w ∈ u_ws C T N, w ∈ fr_tbl) (hty : ∀ k, k < N → parseFieldDescriptor (T k).2.2.1 = some (ty k)) (hcl : Cond.classLink own idx C ∈ fr_tbl) (hinst : Cond.instantiable C N ∈ fr_tbl) (hini : Cond.initialized C ∈ fr_tbl) (hc : fr_cls[ci]? = some (C, T, N)) {fs : List Value} (hfs : ∀ j, j < N → defaultValue (ty j) = vp_V fs j) (hcell : kc + 1 ≤ R.cells) (hslot : ks + N ≤ R.slots) (d : decode cc pc = .ok (.new idx, 3)) (k : ∀ q : Nat, nV p l e R s m args below meth c D A Q n (kc + 1) (ks + N) (ws ++ [(q, .inr (ci, fs))]) (pc + 3) lv (.ref q :: st)) : nV p l e R s m args below meth c D A Q n kc ks ws pc lv st :=
  fun H locs ls hP hD hS hl => va_new X.1 X.2.1 X.2.2.2.2.1 hin ty hty X.2.2.2.1 (X.2.2.2.2.1 _ hcl) (X.2.2.2.2.1 _ hinst) (X.2.2.2.2.1 _ hini) X.2.2.2.2.2.1 hP hD hS X.2.2.2.2.2.2.2.2 hc hfs hcell hslot d (fun q H1 hP1 hD1 hS1 => k q H1 locs ls hP1 hD1 hS1 hl)
theorem nv_callI (X : nX p s m args meth c D cI cZ cJ A cc own n) {S : Type} {w1 : S → va_W} {y : MethodName} {bytes : ByteArray} {maxL idx h1 nA mc ms b : Nat} {eb : va_E} {As : List Value} {Y : va_W} {st0 : List Value} (hM : nM l y bytes maxL h1 mc ms (.ref b :: As) D cI cZ cJ [(b, eb)] w1) (hcode : Cond.code y bytes maxL none ∈ fr_tbl) (hw1 : Cond.methodLink own idx y ∈ fr_tbl) (hw2 : Cond.instanceMethod y ∈ fr_tbl) (hw4 : Cond.initialized y.cls ∈ fr_tbl) (hy : y.name = "<init>") (hd : y.cls ≠ "java/lang/invoke/MethodHandle" ∧ y.cls ≠ "java/lang/invoke/VarHandle" ∧ (parseMethodDescriptor y.desc).map (fun d => d.parameters.length) = some nA) (hr : h1 + 1 ≤ R.frames ∧ 8 + (maxL + 11) + 60 * h1 ≤ R.locals) (hn : As.length = nA) (hsum : (st.map fun v => v.category).sum ≤ 8) (hcell : kc + mc ≤ R.cells) (hslot : ks + ms ≤ R.slots) (d : decode cc pc = .ok (.invokespecial idx, 3)) (hst : As.reverse ++ .ref b :: st = st0) (k : ∀ u : S, nV p l e R s m args below meth c D A Q n (kc + mc) (ks + ms) (Y ++ w1 u) (pc + 3) lv st) : nV p l e R s m args below meth c D A Q n kc ks (Y ++ [(b, eb)]) pc lv st0 := by
  intro H locs ls hP hD hS hl
  have hlast : (Y ++ [(b, eb)])[Y.length]? = some (b, eb) := by simp
  have hPc : va_P D fr_cls [(b, eb)] H := fun k q hk => by
    have hz : k < 1 := (List.getElem?_eq_some_iff.mp hk).1
    rw [show k = 0 by omega] at hk
    cases hk
    exact hP Y.length _ hlast
  have hDc : va_D (fun _ => True) [(b, eb)] := ⟨fun i j x y hx hy _ => by
    have h1 : i < 1 := (List.getElem?_eq_some_iff.mp hx).1
    have h2 : j < 1 := (List.getElem?_eq_some_iff.mp hy).1
    omega, fun _ _ _ => trivial⟩
  have hFc : ∀ q, va_A [(b, eb)] H.size q → A q := by
    intro q h
    rcases h with ⟨k, e, h⟩ | h
    · have hz : k < 1 := (List.getElem?_eq_some_iff.mp h).1
      rw [show k = 0 by omega] at h
      cases h
      exact hD.2 Y.length _ hlast
    · exact X.2.2.2.2.2.2.2.2 q (Nat.le_trans hS.1 h)
  refine va_callv (va_runI (As := As) (rest := st) ⟨X.1, X.2.1, X.2.2.1, X.2.2.2.1, X.2.2.2.2.1⟩ (hM H.size) (cwI nA X.2.2.2.2.1 (fr_gin hcode) rfl rfl rfl (X.2.2.2.2.1 _ hw4) (X.2.2.2.2.1 _ hw1) (X.2.2.2.2.1 _ hw2) hy hd hr) ⟨n_blind D cI cZ cJ _ _ _, fun U hU hW => ⟨rfl, by rw [hU], by rw [hU]; exact hPc, ⟨va_K.moved hW.alike X.2.2.2.2.2.1, fr_J.moved hW.alike X.2.2.2.2.2.2.1⟩, hDc⟩⟩ rfl hn hl.1 hst.symm (lv_room hsum) d ⟨hcell, hslot⟩) hS (fun q _ h => hFc q h) hFc (fun u t H1 locs1 ht hvm hw hB hz1 hk1 hS1 => ?_)
  obtain ⟨hP2, hD2⟩ := nj hP hD hk1 hFc (by rw [← ht]; exact hB.1) hB.2
  exact k u H1 locs1 ls hP2 hD2 hS1 hl
theorem nv_callS (X : nX p s m args meth c D cI cZ cJ A cc own n) {S : Type} {w1 : S → va_W} {y : MethodName} {bytes : ByteArray} {maxL idx h1 nA mc ms b : Nat} {eb : va_E} {As : List Value} {Y : va_W} {st0 : List Value} (hM : nM l y bytes maxL h1 mc ms As D cI cZ cJ [(b, eb)] w1) (hcode : Cond.code y bytes maxL none ∈ fr_tbl) (hw1 : Cond.methodLink own idx y ∈ fr_tbl) (hw2 : Cond.static y ∈ fr_tbl) (hw4 : Cond.initialized y.cls ∈ fr_tbl) (hd : y.cls ≠ "java/lang/invoke/MethodHandle" ∧ y.cls ≠ "java/lang/invoke/VarHandle" ∧ (parseMethodDescriptor y.desc).map (fun d => d.parameters.length) = some nA) (hr : h1 + 1 ≤ R.frames ∧ 8 + (maxL + 11) + 60 * h1 ≤ R.locals) (hn : As.length = nA) (hsum : (st.map fun v => v.category).sum ≤ 8) (hcell : kc + mc ≤ R.cells) (hslot : ks + ms ≤ R.slots) (d : decode cc pc = .ok (.invokestatic idx, 3)) (hst : As.reverse ++ st = st0) (k : ∀ u : S, nV p l e R s m args below meth c D A Q n (kc + mc) (ks + ms) (Y ++ w1 u) (pc + 3) lv st) : nV p l e R s m args below meth c D A Q n kc ks (Y ++ [(b, eb)]) pc lv st0 := by
  intro H locs ls hP hD hS hl
  have hlast : (Y ++ [(b, eb)])[Y.length]? = some (b, eb) := by simp
  have hPc : va_P D fr_cls [(b, eb)] H := fun k q hk => by
    have hz : k < 1 := (List.getElem?_eq_some_iff.mp hk).1
    rw [show k = 0 by omega] at hk
    cases hk
    exact hP Y.length _ hlast
  have hDc : va_D (fun _ => True) [(b, eb)] := ⟨fun i j x y hx hy _ => by
    have h1 : i < 1 := (List.getElem?_eq_some_iff.mp hx).1
    have h2 : j < 1 := (List.getElem?_eq_some_iff.mp hy).1
    omega, fun _ _ _ => trivial⟩
  have hFc : ∀ q, va_A [(b, eb)] H.size q → A q := by
    intro q h
    rcases h with ⟨k, e, h⟩ | h
    · have hz : k < 1 := (List.getElem?_eq_some_iff.mp h).1
      rw [show k = 0 by omega] at h
      cases h
      exact hD.2 Y.length _ hlast
    · exact X.2.2.2.2.2.2.2.2 q (Nat.le_trans hS.1 h)
  refine va_callv (va_runS (As := As) (rest := st) ⟨X.1, X.2.1, X.2.2.1, X.2.2.2.1, X.2.2.2.2.1⟩ (hM H.size) ⟨callB_of nA X.2.2.2.2.1 (fr_gin hcode) rfl rfl rfl (X.2.2.2.2.1 _ hw4) (X.2.2.2.2.1 _ hw1) hd hr, X.2.2.2.2.1 _ hw2⟩ ⟨n_blind D cI cZ cJ _ _ _, fun U hU hW => ⟨rfl, by rw [hU], by rw [hU]; exact hPc, ⟨va_K.moved hW.alike X.2.2.2.2.2.1, fr_J.moved hW.alike X.2.2.2.2.2.2.1⟩, hDc⟩⟩ rfl hn hl.1 hst.symm (lv_room hsum) d ⟨hcell, hslot⟩) hS (fun q _ h => hFc q h) hFc (fun u t H1 locs1 ht hvm hw hB hz1 hk1 hS1 => ?_)
  obtain ⟨hP2, hD2⟩ := nj hP hD hk1 hFc (by rw [← ht]; exact hB.1) hB.2
  exact k u H1 locs1 ls hP2 hD2 hS1 hl
theorem nv_ret (X : nX p s m args meth c D cI cZ cJ A cc own n) {S : Type} {w1 : S → va_W} (hr : meth.sig.returnType = none) (u : S) (hws : w1 u = ws) (d : decode cc pc = .ok (.return_, 1)) : nV p l e R s m args below meth c D A (nQ below args s D A w1 kc ks) n kc ks ws pc lv [] := by
  intro H locs ls hP hD hS hl
  have hlk := X.2.2.2.2.2.2.2.1
  exact W.vret X.1 X.2.1 hr (fun t ht hW => ⟨⟨u, rfl, trivial, by rw [ht, hws]; exact hP, by rw [hws]; exact hD⟩, hS.F ht⟩) hS.2.2 d (hlocks := hlk)
end NVR
