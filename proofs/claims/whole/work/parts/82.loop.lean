/-! ===== the law's loop ===== -/
theorem i_six {L i : Nat} (hL : L ≤ 3072) (hi : i ≤ L) : (nI L - 6 < nI i) ↔ L < i + 6 := by
  by_cases h : 6 ≤ L
  · rw [show (6 : Int32) = nI 6 from rfl, i_sub h, i_lt (by omega) (by omega)]
    omega
  · have key : ∀ L, L < 6 → ∀ i, i < 6 → nI L - 6 < nI i := by decide +kernel
    have := key L (by omega) i (by omega)
    constructor
    · intro _; omega
    · intro _; exact this
section LWL
variable {p : Program} {l : Launch} {e : Env} {s : State} {m : MethodId} {below : List Frame} {meth : Method} {c : Code} {g : fr_G} {b L : Nat} {xs : Nat → Int32}
set_option maxRecDepth 100000 in
theorem l_step {σ : fr_St} {N : Nat} (X : lX p s m meth c g b L xs) (hL : L ≤ 3072) (hi : 6 * N + 6 ≤ L) (h : Rel N σ) {Q : State → Prop} (K : ∀ τ, Rel (N + 1) τ → lV p l e s m below meth c g b Q τ (6 * (N + 1)) 18 []) : lV p l e s m below meth c g b Q σ (6 * N) 27 [] := by
  have K2 : ∀ τ, Rel (N + 1) τ → lV p l e s m below meth c g b Q τ (6 * N) 1264 [] := by
    intro τ hτ H locs ls hP hS hl
    refine lv_iinc (v := nI (6 * (N + 1))) (lv' := [(3, .int (nI (6 * (N + 1)))), (0, .ref b), (1, .ref (g.2.1 0)), (2, .ref (g.2.1 59))]) X.1.1 X.1.2.1 dL_law_1264 hl (k := 0) rfl ?_ (by decide) rfl (fun ls hl => ?_)
    · show nI (6 * N) + nI 6 = nI (6 * (N + 1))
      rw [i_add]
      rfl
    · exact lv_goto (tgt := 18) X.1.1 X.1.2.1 dL_law_1267 (by decide) (K τ hτ H locs ls hP hS hl)
  intro H locs ls hP hS hl
  refine lv_aload_n X.1.1 X.1.2.1 dL_law_27 rfl (lv_at hl 1 rfl) ?_
  refine lv_iload_n X.1.1 X.1.2.1 dL_law_28 rfl (lv_at hl 0 rfl) ?_
  refine va_sld X.1.1 X.1.2.1 X.2.1 X.2.2.1 (l_out X) hS (vp_in_nI (show 6 * N < L by omega) (by omega)) dL_law_29 ?_
  refine lv_bipush (v := 63) X.1.1 X.1.2.1 dL_law_30 (by decide) ?_
  refine lv_iand X.1.1 X.1.2.1 dL_law_32 ?_
  obtain ⟨k, hk, ek⟩ := and63 (xs (nI (6 * N)).toNatClampNeg)
  rw [ek]
  by_cases h35 : k < 35
  · exact l_switch X hL (show 6 * N + 5 < L by omega) (show N ≤ 1000 by omega) h K2 k h35 H locs ls hP hS hl
  · refine l_tout (tgt := 1264) X dL_law_33 (Or.inr ?_) (by decide) (K2 σ h.mono) H locs ls hP hS hl
    rw [i_toInt (by omega)]
    omega
set_option maxRecDepth 100000 in
theorem l_loop (X : lX p s m meth c g b L xs) (hret : meth.sig.returnType = ret) (hL : L ≤ 3072) : ∀ (n N : Nat) (σ : fr_St), L + 1 ≤ 6 * N + n → 6 * N ≤ L → Rel N σ → lV p l e s m below meth c g b (lw_Z below #[Value.ref b] s) σ (6 * N) 18 [] := by
  intro n
  induction n with
  | zero => intro N σ h1 h2; omega
  | succ n ih =>
    intro N σ h1 h2 h H locs ls hP hS hl
    refine lv_iload_n X.1.1 X.1.2.1 dL_law_18 rfl (lv_at hl 0 rfl) ?_
    refine lv_aload_n X.1.1 X.1.2.1 dL_law_19 rfl (lv_at hl 1 rfl) ?_
    refine va_slen X.1.1 X.1.2.1 X.2.1 X.2.2.1 (l_out X) hS dL_law_20 ?_
    refine lv_bipush (v := 6) X.1.1 X.1.2.1 dL_law_21 (by decide) ?_
    refine lv_isub X.1.1 X.1.2.1 dL_law_23 ?_
    refine lv_icmp_gt (tgt := 1270) X.1.1 X.1.2.1 dL_law_24 (by decide) (fun q => ?_) (fun q => ?_)
    · refine lv_iconst (v := 1) X.1.1 X.1.2.1 dL_law_1270 (by decide) ?_
      refine va_forget (fun x hx => X.2.2.2 _ (hS.2.2 x hx)) ?_
      exact lw_ret X.1.1 X.1.2.1 hret X.1.2.2.2.2.2.2.2.2 dL_law_1271
    · have hlt : ¬ L < 6 * N + 6 := fun w => q ((i_six hL h2).mpr w)
      exact l_step X hL (by omega) h (fun τ hτ => ih (N + 1) τ (by omega) (by omega) hτ) H locs ls hP hS hl
end LWL
