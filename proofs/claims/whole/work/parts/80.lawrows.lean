/-! ===== the law's rows, over the whole world ===== -/
def lX (p : Program) (s : State) (m : MethodId) (meth : Method) (c : Code) (g : fr_G) (b L : Nat) (xs : Nat → Int32) : Prop :=
  fr_X p s m #[Value.ref b] meth c g cL_law RL 4 ∧ va_X b L xs s s.heap ∧ b < s.heap.size ∧ ∀ q : Nat, fr_A g s.heap.size q → s.heap.size ≤ q
def lV (p : Program) (l : Launch) (e : Env) (s : State) (m : MethodId) (below : List Frame) (meth : Method) (c : Code) (g : fr_G) (b : Nat) (Q : State → Prop) (σ : fr_St) (i pc : Nat) (st : List Value) : Prop :=
  ∀ (H : Heap) (locs : List Loc) (ls : Array Slot), va_P g.1 fr_cls (fr_wd g σ) H → va_S (fr_A g s.heap.size) s.heap H locs → lv_has ls 4 [(3, .int (nI i)), (0, .ref b), (1, .ref (g.2.1 0)), (2, .ref (g.2.1 59))] → W p l e room_1 s m #[Value.ref b] below meth c H locs 600000 7302250 Q (F0 m pc ls st)
section LWR
variable {p : Program} {l : Launch} {e : Env} {s : State} {m : MethodId} {below : List Frame} {meth : Method} {c : Code} {g : fr_G} {b L : Nat} {xs : Nat → Int32} {Q : State → Prop} {σ τ : fr_St} {i pc : Nat} {st : List Value}
theorem l_out (X : lX p s m meth c g b L xs) : ¬ fr_A g s.heap.size b := fun q => absurd (X.2.2.2 b q) (Nat.not_le.mpr X.2.2.1)
theorem l_recv (X : lX p s m meth c g b L xs) {v i0 j : Nat} {z : _} (d : decode cL_law pc = .ok (.aload_n z, 1)) (hi : (z : Nat) = j) (h : [(3, Value.int (nI i)), (0, .ref b), (1, .ref (g.2.1 0)), (2, .ref (g.2.1 59))][i0]? = some (j, .ref v)) (k : lV p l e s m below meth c g b Q σ i (pc + 1) (.ref v :: st)) : lV p l e s m below meth c g b Q σ i pc st :=
  fun H locs ls hP hS hl => lv_aload_n X.1.1 X.1.2.1 d hi (lv_at hl i0 h) (k H locs ls hP hS hl)
theorem l_arg (X : lX p s m meth c g b L xs) (hL : L ≤ 3072) {j : Nat} {z : _} (hij : i + j < L) (d0 : decode cL_law pc = .ok (.aload_n 0, 1)) (d1 : decode cL_law (pc + 1) = .ok (.iload_n 3, 1)) (d2 : decode cL_law (pc + 2) = .ok (.iconst z, 1)) (hz : Int32.ofInt z = nI j) (d3 : decode cL_law (pc + 3) = .ok (.iadd, 1)) (d4 : decode cL_law (pc + 4) = .ok (.iaload, 1)) (k : lV p l e s m below meth c g b Q σ i (pc + 5) (.int (xs (i + j)) :: st)) : lV p l e s m below meth c g b Q σ i pc st := by
  intro H locs ls hP hS hl
  refine lv_aload_n X.1.1 X.1.2.1 d0 rfl (lv_at hl 1 rfl) ?_
  refine lv_iload_n X.1.1 X.1.2.1 d1 rfl (lv_at hl 0 rfl) ?_
  refine lv_iconst (v := nI j) X.1.1 X.1.2.1 d2 hz ?_
  refine lv_iadd X.1.1 X.1.2.1 d3 ?_
  rw [i_add]
  refine va_sld X.1.1 X.1.2.1 X.2.1 X.2.2.1 (l_out X) hS (vp_in_nI hij (by omega)) d4 ?_
  rw [nI_clamp (by omega)]
  exact k H locs ls hP hS hl
theorem l_callI (X : lX p s m meth c g b L xs) {y : MethodName} {bytes : ByteArray} {maxL idx h1 nA ci o N : Nat} {ret : Option FieldType} {C : String} {T : u_T} {rs : List Nat} {As : List Value} {r : Int32} {st0 : List Value} (hM : fr_Ci l g y (fr_ws y bytes maxL ret) h1 (.ref (g.2.1 o) :: As) σ r τ) (hcode : Cond.code y bytes maxL ret ∈ fr_tbl) (hw1 : Cond.methodLink RL idx y ∈ fr_tbl) (hw2 : Cond.instanceMethod y ∈ fr_tbl) (hw3 : Cond.selects C y y ∈ fr_tbl) (hw4 : Cond.initialized C ∈ fr_tbl) (hd : y.cls = C ∧ y.cls ≠ "java/lang/invoke/MethodHandle" ∧ y.cls ≠ "java/lang/invoke/VarHandle" ∧ (parseMethodDescriptor y.desc).map (fun d => d.parameters.length) = some nA) (ho : fr_tab[o]? = some (0, ci, rs)) (hc : fr_cls[ci]? = some (C, T, N)) (hr : h1 + 1 ≤ 2048 ∧ 8 + (maxL + 11) + 60 * h1 ≤ 84000) (hn : As.length = nA) (hsum : (st.map fun v => v.category).sum ≤ 8) (d : decode cL_law pc = .ok (.invokevirtual idx, 3)) (hst : As.reverse ++ .ref (g.2.1 o) :: st = st0) (k : lV p l e s m below meth c g b Q τ i (pc + 3) (.int r :: st)) : lV p l e s m below meth c g b Q σ i pc st0 := by
  intro H locs ls hP hS hl
  obtain ⟨X, -⟩ := X
  have hFc : ∀ q, fr_A g H.size q → fr_A g s.heap.size q := fr_sub hS.1
  refine va_calli (va_runV (As := As) (rest := st) ⟨X.1, X.2.1, X.2.2.1, X.2.2.2.1, X.2.2.2.2.1⟩ (hM H.size) (cwV nA X.2.2.2.2.1 (fr_ginV hcode hw1 hw2 hw3 hw4) rfl rfl rfl hd hr) ⟨fr_blind g σ _ _, (va_recv X.2.2.2.2.2.1 hP (ci := ci) (q0 := o) hc (fr_wd_at ho)), fun U hU hW => ⟨rfl, by rw [hU], by rw [hU]; exact hP, va_K.moved hW.alike X.2.2.2.2.2.1, X.2.2.2.2.2.2.1, fr_Sk X.2.2.2.2.2.2.2.1 hW.alike (by rw [hU]; exact hS)⟩⟩ rfl hn hl.1 hst.symm (lv_room hsum) d ⟨Nat.le_refl _, Nat.le_refl _⟩) hS (fun q _ h => hFc q h) hFc (fun r1 u t H1 locs1 ht hvm hw hB hz1 hk1 hS1 => ?_)
  obtain ⟨rfl, rfl⟩ := hw
  exact k H1 locs1 ls (by rw [← ht]; exact hB.1) hS1 hl
theorem l_callL (X : lX p s m meth c g b L xs) {y : MethodName} {bytes : ByteArray} {maxL idx h1 nA ci o N : Nat} {ret : Option FieldType} {C : String} {T : u_T} {rs : List Nat} {As : List Value} {r : Int64} {st0 : List Value} (hM : fr_Cl l g y (fr_ws y bytes maxL ret) h1 (.ref (g.2.1 o) :: As) σ r τ) (hcode : Cond.code y bytes maxL ret ∈ fr_tbl) (hw1 : Cond.methodLink RL idx y ∈ fr_tbl) (hw2 : Cond.instanceMethod y ∈ fr_tbl) (hw3 : Cond.selects C y y ∈ fr_tbl) (hw4 : Cond.initialized C ∈ fr_tbl) (hd : y.cls = C ∧ y.cls ≠ "java/lang/invoke/MethodHandle" ∧ y.cls ≠ "java/lang/invoke/VarHandle" ∧ (parseMethodDescriptor y.desc).map (fun d => d.parameters.length) = some nA) (ho : fr_tab[o]? = some (0, ci, rs)) (hc : fr_cls[ci]? = some (C, T, N)) (hr : h1 + 1 ≤ 2048 ∧ 8 + (maxL + 11) + 60 * h1 ≤ 84000) (hn : As.length = nA) (hsum : (st.map fun v => v.category).sum ≤ 8) (d : decode cL_law pc = .ok (.invokevirtual idx, 3)) (hst : As.reverse ++ .ref (g.2.1 o) :: st = st0) (k : lV p l e s m below meth c g b Q τ i (pc + 3) (.long r :: st)) : lV p l e s m below meth c g b Q σ i pc st0 := by
  intro H locs ls hP hS hl
  obtain ⟨X, -⟩ := X
  have hFc : ∀ q, fr_A g H.size q → fr_A g s.heap.size q := fr_sub hS.1
  refine va_calll (va_runV (As := As) (rest := st) ⟨X.1, X.2.1, X.2.2.1, X.2.2.2.1, X.2.2.2.2.1⟩ (hM H.size) (cwV nA X.2.2.2.2.1 (fr_ginV hcode hw1 hw2 hw3 hw4) rfl rfl rfl hd hr) ⟨fr_blind g σ _ _, (va_recv X.2.2.2.2.2.1 hP (ci := ci) (q0 := o) hc (fr_wd_at ho)), fun U hU hW => ⟨rfl, by rw [hU], by rw [hU]; exact hP, va_K.moved hW.alike X.2.2.2.2.2.1, X.2.2.2.2.2.2.1, fr_Sk X.2.2.2.2.2.2.2.1 hW.alike (by rw [hU]; exact hS)⟩⟩ rfl hn hl.1 hst.symm (lv_room hsum) d ⟨Nat.le_refl _, Nat.le_refl _⟩) hS (fun q _ h => hFc q h) hFc (fun r1 u t H1 locs1 ht hvm hw hB hz1 hk1 hS1 => ?_)
  obtain ⟨rfl, rfl⟩ := hw
  exact k H1 locs1 ls (by rw [← ht]; exact hB.1) hS1 hl
theorem l_same (X : lX p s m meth c g b L xs) {x : Int32} {off : Int} {tgt : Nat} (d : decode cL_law pc = .ok (.if_icmp .eq off, 3)) (ht : (pc : Int) + off = (tgt : Int)) (k : lV p l e s m below meth c g b Q σ i tgt st) : lV p l e s m below meth c g b Q σ i pc (.int x :: .int x :: st) :=
  fun H locs ls hP hS hl => lv_icmp_eq X.1.1 X.1.2.1 d ht (fun _ => k H locs ls hP hS hl) (fun q => absurd rfl q)
theorem lg_same (x : Int64) : lg_cmp x x = 0 := by
  have a : ¬ lg_cmp x x < 0 := fun q => absurd ((lg_lt x x).mp q) (by omega)
  have b : ¬ 0 < lg_cmp x x := fun q => absurd ((lg_gt x x).mp q) (by omega)
  rw [i_lt_iff, i_toInt0] at a
  rw [i_lt_iff, i_toInt0] at b
  rw [i_eq_iff, i_toInt0]
  omega
theorem l_leq (X : lX p s m meth c g b L xs) {x : Int64} {off : Int} {tgt : Nat} (d0 : decode cL_law pc = .ok (.lcmp, 1)) (d : decode cL_law (pc + 1) = .ok (.ifCond .eq off, 3)) (ht : ((pc + 1 : Nat) : Int) + off = (tgt : Int)) (k : lV p l e s m below meth c g b Q σ i tgt st) : lV p l e s m below meth c g b Q σ i pc (.long x :: .long x :: st) :=
  fun H locs ls hP hS hl => W.lcmp X.1.1 X.1.2.1 d0 (lv_if_eq X.1.1 X.1.2.1 d ht (fun _ => k H locs ls hP hS hl) (fun q => absurd (lg_same x) q))
theorem l_tin (X : lX p s m meth c g b L xs) {dflt lo hi : Int} {offs : Array Int} {len : Nat} {x : Int32} {off : Int} {tgt : Nat} (d : decode cL_law pc = .ok (.tableswitch dflt lo hi offs, len)) (h1 : ¬ x.toInt < lo) (h2 : ¬ hi < x.toInt) (ho : offs[(x.toInt - lo).toNat]? = some off) (ht : (pc : Int) + off = (tgt : Int)) (k : lV p l e s m below meth c g b Q σ i tgt st) : lV p l e s m below meth c g b Q σ i pc (.int x :: st) :=
  fun H locs ls hP hS hl => lv_tableIn X.1.1 X.1.2.1 d h1 h2 ho ht (k H locs ls hP hS hl)
theorem l_tout (X : lX p s m meth c g b L xs) {dflt lo hi : Int} {offs : Array Int} {len : Nat} {x : Int32} {tgt : Nat} (d : decode cL_law pc = .ok (.tableswitch dflt lo hi offs, len)) (h : x.toInt < lo ∨ hi < x.toInt) (ht : (pc : Int) + dflt = (tgt : Int)) (k : lV p l e s m below meth c g b Q σ i tgt st) : lV p l e s m below meth c g b Q σ i pc (.int x :: st) :=
  fun H locs ls hP hS hl => lv_tableOut X.1.1 X.1.2.1 d h ht (k H locs ls hP hS hl)
theorem and63 (v : Int32) : ∃ k, k < 64 ∧ v &&& 63 = nI k := by
  refine ⟨v.toBitVec.toNat &&& 63, ?_, ?_⟩
  · have : v.toBitVec.toNat &&& 63 ≤ 63 := Nat.and_le_right
    omega
  · apply Int32.toBitVec_inj.mp
    apply BitVec.eq_of_toNat_eq
    show (v.toBitVec &&& (63 : Int32).toBitVec).toNat = (BitVec.ofNat 32 (v.toBitVec.toNat &&& 63)).toNat
    rw [BitVec.toNat_and, BitVec.toNat_ofNat]
    have h1 : v.toBitVec.toNat &&& 63 ≤ 63 := Nat.and_le_right
    rw [Nat.mod_eq_of_lt (by omega)]
    rfl
end LWR
