section TKS
variable {s t : fr_St} {T : Nat → Nat} {m p : Nat}
def FC (s s' : fr_St) : Prop := (∀ a, a ≠ 13 → a ≠ 18 → s' a = s a) ∧ s' 13 1 = s 13 1
def FR (t t' : fr_St) : Prop := (∀ a, a ≠ 59 → a ≠ 66 → t' a = t a) ∧ ∀ j, j < 10 ∨ 14 < j → t' 59 j = t 59 j
theorem FC.refl (s : fr_St) : FC s s := ⟨fun _ _ _ => rfl, rfl⟩
theorem FR.refl (t : fr_St) : FR t t := ⟨fun _ _ _ => rfl, fun _ _ => rfl⟩
theorem FC.trans {a b c : fr_St} (h : FC a b) (k : FC b c) : FC a c := ⟨fun x h1 h2 => by rw [k.1 x h1 h2, h.1 x h1 h2], by rw [k.2, h.2]⟩
theorem FR.trans {a b c : fr_St} (h : FR a b) (k : FR b c) : FR a c := ⟨fun x h1 h2 => by rw [k.1 x h1 h2, h.1 x h1 h2], fun j hj => by rw [k.2 j hj, h.2 j hj]⟩
theorem EC.fr (h : EC T m s) {s' : fr_St} (k : FC s s') : EC T m s' := ⟨by rw [k.2]; exact h.1, fun i hi => by rw [k.1 14 (by omega) (by omega)]; exact h.2 i hi⟩
theorem ER.fr (h : ER T m t) {t' : fr_St} (k : FR t t') : ER T m t' := ⟨by rw [k.2 8 (by omega)]; exact h.1, fun i hi => by rw [k.1 65 (by omega) (by omega)]; exact h.2 i hi⟩
def isL (T : Nat → Nat) (m p c : Nat) : Prop := ty T m p = 1 ∧ T p = c
def isN (T : Nat → Nat) (m p lo hi : Nat) : Prop := ty T m p = 2 ∧ lo ≤ vl T m p ∧ vl T m p ≤ hi
/-- the number of the fault at a place where a number is due -/
def nf (T : Nat → Nat) (m p : Nat) : Nat := if ty T m p = 2 then 2 else 1
theorem neg_ne {c : Nat} (hc : c ≤ 255) : ¬ (-1 : Int32) = nI c ∧ ¬ (-2 : Int32) = nI c ∧ ¬ (-3 : Int32) = nI c := by
  have key : ∀ c, c < 256 → ¬ (-1 : Int32) = nI c ∧ ¬ (-2 : Int32) = nI c ∧ ¬ (-3 : Int32) = nI c := by decide +kernel
  exact key c (by omega)
theorem ty_3 : ty T m p ≤ 3 := by
  unfold ty
  split
  · split <;> omega
  · split
    · omega
    · split <;> omega
theorem ty_lt (h : ty T m p = 1) : p < m := by
  unfold ty at h
  split at h
  · split at h <;> omega
  · split at h <;> omega
theorem ty_en (h : ty T m p = 2) : vl T m p ≤ 1000 := by
  unfold ty at h
  split at h
  · rename_i q
    unfold vl
    rw [if_pos q]
    exact vC_le _ _ _ (by omega)
  · split at h
    · omega
    · split at h <;> omega
theorem tcd_eq (hT : ∀ i, i < 120 → T i ≤ 255) (hm : m ≤ 120) {c : Nat} (hc : c ≤ 255) : tcd T m p = nI c ↔ isL T m p c := by
  have hn := neg_ne hc
  have h3 := ty_3 (T := T) (m := m) (p := p)
  unfold tcd isL
  rcases (show ty T m p = 0 ∨ ty T m p = 1 ∨ ty T m p = 2 ∨ ty T m p = 3 by omega) with e | e | e | e
  · rw [e, if_neg (by omega), if_neg (by omega), if_neg (by omega)]
    exact ⟨fun q => absurd q hn.2.1, fun q => by omega⟩
  · have := ty_lt e
    have hTp := hT p (by omega)
    rw [e, if_neg (by omega), if_neg (by omega), if_pos rfl, i_eq (by omega) (by omega)]
    exact ⟨fun q => ⟨rfl, q⟩, fun q => q.2⟩
  · rw [e, if_pos rfl]
    exact ⟨fun q => absurd q hn.2.2, fun q => by omega⟩
  · rw [e, if_neg (by omega), if_pos rfl]
    exact ⟨fun q => absurd q hn.1, fun q => by omega⟩
theorem tcd_num : tcd T m p = -3 ↔ ty T m p = 2 ∨ (ty T m p = 1 ∧ nI (T p) = -3) := by
  have h3 := ty_3 (T := T) (m := m) (p := p)
  unfold tcd
  rcases (show ty T m p = 0 ∨ ty T m p = 1 ∨ ty T m p = 2 ∨ ty T m p = 3 by omega) with e | e | e | e
  · rw [e, if_neg (by omega), if_neg (by omega), if_neg (by omega)]
    exact ⟨fun q => absurd q (by decide), fun q => by omega⟩
  · rw [e, if_neg (by omega), if_neg (by omega), if_pos rfl]
    exact ⟨fun q => Or.inr ⟨rfl, q⟩, fun q => q.elim (fun w => by omega) (fun w => w.2)⟩
  · rw [e, if_pos rfl]
    exact ⟨fun _ => Or.inl rfl, fun _ => rfl⟩
  · rw [e, if_neg (by omega), if_pos rfl]
    exact ⟨fun q => absurd q (by decide), fun q => by omega⟩
theorem tcd_2 (hT : ∀ i, i < 120 → T i ≤ 255) (hm : m ≤ 120) : tcd T m p = -3 ↔ ty T m p = 2 := by
  rw [tcd_num]
  refine ⟨fun q => q.elim id (fun w => ?_), Or.inl⟩
  have := ty_lt w.1
  exact absurd w.2.symm (neg_ne (hT p (by omega))).2.2
theorem cl_take (hm : m ≤ 120) (hT : ∀ i, i < 120 → T i ≤ 255) (hp : p ≤ m) (he : EC T m s) (h2 : s 13 2 = nI p) {c : Nat} (hc : c ≤ 255) : (isL T m p c → ∃ s', F_X4_take (nI c) s = some (true, s') ∧ FC s s' ∧ s' 18 = s 18 ∧ s' 13 2 = nI (nx T m p)) ∧ (¬ isL T m p c → ∃ s', F_X4_take (nI c) s = some (false, s') ∧ FC s s' ∧ s' 13 2 = nI p ∧ s' 13 6 = nI 1) := by
  obtain ⟨s1, g1, g2, g3, g4, g5, g6⟩ := cl_look hm hT hp he h2
  unfold F_X4_take
  rw [g1, fr_bS_mk, g4, g5]
  constructor
  · intro h
    rw [if_pos ((tcd_eq hT hm hc).mpr h)]
    exact ⟨fr_up s1 13 2 (nI (nx T m p)), rfl, ⟨fun a h1 h2 => by rw [fr_up_ne _ _ _ h1, g2 a h1], by rw [fr_up_at, upd_ne _ _ (by omega), g3 1 (by omega) (by omega) (by omega)]⟩, by rw [fr_up_ne _ _ _ (by omega), g2 18 (by omega)], by rw [fr_up_at, upd_at]⟩
  · intro h
    rw [if_neg (fun q => h ((tcd_eq hT hm hc).mp q))]
    exact ⟨fr_up s1 13 6 1, rfl, ⟨fun a h1 h2 => by rw [fr_up_ne _ _ _ h1, g2 a h1], by rw [fr_up_at, upd_ne _ _ (by omega), g3 1 (by omega) (by omega) (by omega)]⟩, by rw [fr_up_at, upd_ne _ _ (by omega), g3 2 (by omega) (by omega) (by omega), h2], by rw [fr_up_at, upd_at]; rfl⟩
theorem cl_takeN (hm : m ≤ 120) (hT : ∀ i, i < 120 → T i ≤ 255) (hp : p ≤ m) (he : EC T m s) (h2 : s 13 2 = nI p) {lo hi : Nat} (hlo : lo < 100000) (hhi : hi < 100000) (but : Int32) : (isN T m p lo hi ∧ ¬ nI (vl T m p) = but → ∃ s', F_X4_takeNumber (nI lo) (nI hi) but s = some (true, s') ∧ FC s s' ∧ s' 18 = s 18 ∧ s' 13 2 = nI (nx T m p) ∧ s' 13 4 = nI (vl T m p)) ∧ (¬ (isN T m p lo hi ∧ ¬ nI (vl T m p) = but) → ∃ s', F_X4_takeNumber (nI lo) (nI hi) but s = some (false, s') ∧ FC s s' ∧ s' 13 2 = nI p ∧ s' 13 6 = nI (nf T m p)) := by
  obtain ⟨s1, g1, g2, g3, g4, g5, g6⟩ := cl_look hm hT hp he h2
  have fail : ∀ f : Nat, ∃ s', (some (false, fr_up s1 13 6 (nI f)) : Option (Bool × fr_St)) = some (false, s') ∧ FC s s' ∧ s' 13 2 = nI p ∧ s' 13 6 = nI f := fun f => ⟨_, rfl, ⟨fun a h1 h2 => by rw [fr_up_ne _ _ _ h1, g2 a h1], by rw [fr_up_at, upd_ne _ _ (by omega), g3 1 (by omega) (by omega) (by omega)]⟩, by rw [fr_up_at, upd_ne _ _ (by omega), g3 2 (by omega) (by omega) (by omega), h2], by rw [fr_up_at, upd_at]⟩
  unfold F_X4_takeNumber
  rw [g1, fr_bS_mk, g4, g5]
  constructor
  · intro h
    have hv := ty_en h.1.1
    rw [if_pos ((tcd_2 hT hm).mpr h.1.1), g6 h.1.1, if_neg (fun q => absurd ((i_lt (by omega) (by omega)).mp q) (by have := h.1.2.1; omega)), if_neg (fun q => absurd ((i_lt (by omega) (by omega)).mp q) (by have := h.1.2.2; omega)), if_neg h.2]
    exact ⟨fr_up s1 13 2 (nI (nx T m p)), rfl, ⟨fun a h1 h2 => by rw [fr_up_ne _ _ _ h1, g2 a h1], by rw [fr_up_at, upd_ne _ _ (by omega), g3 1 (by omega) (by omega) (by omega)]⟩, by rw [fr_up_ne _ _ _ (by omega), g2 18 (by omega)], by rw [fr_up_at, upd_at], by rw [fr_up_at, upd_ne _ _ (by omega), g6 h.1.1]⟩
  · intro h
    by_cases e : ty T m p = 2
    · have hv := ty_en e
      have hnf : nf T m p = 2 := if_pos e
      rw [if_pos ((tcd_2 hT hm).mpr e), g6 e, hnf]
      by_cases h1 : vl T m p < lo
      · rw [if_pos ((i_lt (by omega) (by omega)).mpr h1)]
        exact fail 2
      · rw [if_neg (fun q => h1 ((i_lt (by omega) (by omega)).mp q))]
        by_cases h2 : hi < vl T m p
        · rw [if_pos ((i_lt (by omega) (by omega)).mpr h2)]
          exact fail 2
        · rw [if_neg (fun q => h2 ((i_lt (by omega) (by omega)).mp q))]
          by_cases h3 : nI (vl T m p) = but
          · rw [if_pos h3]
            exact fail 2
          · exact absurd ⟨⟨e, by omega, by omega⟩, h3⟩ h
    · have hnf : nf T m p = 1 := if_neg e
      rw [if_neg (fun q => e ((tcd_2 hT hm).mp q)), hnf]
      exact fail 1
theorem rf_isL (hT : ∀ i, i < 120 → T i ≤ 255) (hm : m ≤ 120) (hk : K2 T m p t) {c : Nat} (hc : c ≤ 255) : F_X8_isLetter (nI c) t = some (decide (ty T m p = 1 ∧ T p = c), t) := by
  have h3 := ty_3 (T := T) (m := m) (p := p)
  unfold F_X8_isLetter
  rw [hk.2.1]
  by_cases e : ty T m p = 1
  · have := ty_lt e
    have hTp := hT p (by omega)
    rw [if_pos (show nI (ty T m p) = (1 : Int32) by rw [e]; rfl), hk.2.2.1 e]
    by_cases e2 : T p = c
    · rw [if_pos (by rw [e2]), decide_eq_true ⟨e, e2⟩]
      rfl
    · rw [if_neg (fun q => e2 ((i_eq (by omega) (by omega)).mp q)), decide_eq_false (fun q => e2 q.2)]
      rfl
  · rw [if_neg (show ¬ nI (ty T m p) = (1 : Int32) from fun q => e ((i_eq (b := 1) (by omega) (by omega)).mp q)), decide_eq_false (fun q => e q.1)]
    rfl
theorem rf_fault (t : fr_St) (f : Nat) (h : t 59 13 = nI p) : ∃ t', F_X8_faults (nI f) t = some (false, t') ∧ FR t t' ∧ t' 59 13 = nI p ∧ t' 59 14 = nI f := ⟨fr_up t 59 14 (nI f), rfl, ⟨fun a h1 h2 => by rw [fr_up_ne _ _ _ h1], fun j hj => by rw [fr_up_at, upd_ne _ _ (by omega)]⟩, by rw [fr_up_at, upd_ne _ _ (by omega), h], by rw [fr_up_at, upd_at]⟩
theorem rf_next2 (hm : m ≤ 120) (hT : ∀ i, i < 120 → T i ≤ 255) (hp : p ≤ m) (he : ER T m t) (hk : K2 T m p t) : ∃ t', F_X8_nextToken t = some t' ∧ FR t t' ∧ t' 66 = t 66 ∧ K2 T m (nx T m p) t' := by
  obtain ⟨t1, g1, g2, g3, g4⟩ := rf_next hm hT (nx_le hp) he hk.2.2.2.2
  exact ⟨t1, g1, ⟨fun a h1 _ => g2 a h1, fun j hj => g3 j (by omega)⟩, g2 66 (by omega), g4⟩
theorem rf_takes (hm : m ≤ 120) (hT : ∀ i, i < 120 → T i ≤ 255) (hp : p ≤ m) (he : ER T m t) (hk : K2 T m p t) {c : Nat} (hc : c ≤ 255) : (isL T m p c → ∃ t', F_X8_takes (nI c) t = some (true, t') ∧ FR t t' ∧ t' 66 = t 66 ∧ K2 T m (nx T m p) t') ∧ (¬ isL T m p c → ∃ t', F_X8_takes (nI c) t = some (false, t') ∧ FR t t' ∧ t' 59 13 = nI p ∧ t' 59 14 = nI 1) := by
  unfold F_X8_takes
  rw [rf_isL hT hm hk hc, fr_bP_mk]
  constructor
  · intro h
    obtain ⟨t1, g1, g2, g3, g4⟩ := rf_next2 hm hT hp he hk
    rw [decide_eq_true (show ty T m p = 1 ∧ T p = c from h), if_neg fr_nb, g1]
    exact ⟨t1, rfl, g2, g3, g4⟩
  · intro h
    obtain ⟨t1, g1, g2, g3, g4⟩ := rf_fault t 1 hk.1
    rw [decide_eq_false (show ¬ (ty T m p = 1 ∧ T p = c) from h), if_pos (show fr_bi false = 0 from rfl), show F_X8_faults (1 : Int32) t = _ from g1]
    exact ⟨t1, rfl, g2, g3, g4⟩
theorem rf_takesN (hm : m ≤ 120) (hT : ∀ i, i < 120 → T i ≤ 255) (hp : p ≤ m) (he : ER T m t) (hk : K2 T m p t) {lo hi a c : Nat} (hlo : lo < 100000) (hhi : hi < 100000) (ha : a < 122) (hc : c ≤ 255) : (isN T m p lo hi ∧ isL T m (nx T m p) c → ∃ t', F_X8_takesNumber (nI lo) (nI hi) (nI a) (nI c) t = some (true, t') ∧ FR t t' ∧ t' 66 = upd (t 66) a (nI (vl T m p)) ∧ K2 T m (nx T m (nx T m p)) t') ∧ (isN T m p lo hi ∧ ¬ isL T m (nx T m p) c → ∃ t', F_X8_takesNumber (nI lo) (nI hi) (nI a) (nI c) t = some (false, t') ∧ FR t t' ∧ t' 59 13 = nI (nx T m p) ∧ t' 59 14 = nI 1) ∧ (¬ isN T m p lo hi → ∃ t', F_X8_takesNumber (nI lo) (nI hi) (nI a) (nI c) t = some (false, t') ∧ FR t t' ∧ t' 59 13 = nI p ∧ t' 59 14 = nI (nf T m p)) := by
  have h3 := ty_3 (T := T) (m := m) (p := p)
  have lo64 : ((nI lo).toInt64).toInt = (lo : Int) := by rw [Int32.toInt_toInt64, i_toInt (by omega)]
  have hi64 : ((nI hi).toInt64).toInt = (hi : Int) := by rw [Int32.toInt_toInt64, i_toInt (by omega)]
  have step : isN T m p lo hi → ∃ t1, FR t t1 ∧ t1 66 = upd (t 66) a (nI (vl T m p)) ∧ K2 T m (nx T m p) t1 ∧ F_X8_takesNumber (nI lo) (nI hi) (nI a) (nI c) t = fr_bP (F_X8_takes (nI c) t1) (fun b17 s16 => some (b17, s16)) := by
    intro h
    have hv := ty_en h.1
    have hk' : K2 T m p (fr_up t 66 a (nI (vl T m p))) := by
      unfold K2
      rw [fr_up_ne _ _ _ (show 59 ≠ 66 by omega)]
      exact hk
    have he' : ER T m (fr_up t 66 a (nI (vl T m p))) := ⟨by rw [fr_up_ne _ _ _ (by omega)]; exact he.1, fun i hi => by rw [fr_up_ne _ _ _ (by omega)]; exact he.2 i hi⟩
    obtain ⟨t1, g1, g2, g3, g4⟩ := rf_next2 hm hT hp he' hk'
    refine ⟨t1, ⟨fun x h1 h2 => by rw [g2.1 x h1 h2, fr_up_ne _ _ _ h2], fun j hj => by rw [g2.2 j hj, fr_up_ne _ _ _ (by omega)]⟩, by rw [g3, fr_up_at], g4, ?_⟩
    unfold F_X8_takesNumber
    rw [hk.2.1, if_pos (show nI (ty T m p) = (2 : Int32) by rw [h.1]; rfl), hk.2.2.2.1 h.1, rf_inN (by omega) lo64 hi64, fr_bP_mk, decide_eq_true ⟨h.2.1, h.2.2⟩, if_neg fr_nb, i_chk ha (by omega), i_ix (by omega), hk.2.2.2.1 h.1, fr_let_eq, g1, fr_bS_mk]
  refine ⟨fun h => ?_, fun h => ?_, fun h => ?_⟩
  · obtain ⟨t1, f1, f2, f3, f4⟩ := step h.1
    obtain ⟨t2, g1, g2, g3, g4⟩ := (rf_takes hm hT (nx_le hp) (he.fr f1) f3 hc).1 h.2
    rw [f4, g1]
    exact ⟨t2, rfl, f1.trans g2, by rw [g3, f2], g4⟩
  · obtain ⟨t1, f1, f2, f3, f4⟩ := step h.1
    obtain ⟨t2, g1, g2, g3, g4⟩ := (rf_takes hm hT (nx_le hp) (he.fr f1) f3 hc).2 h.2
    rw [f4, g1]
    exact ⟨t2, rfl, f1.trans g2, g3, g4⟩
  · unfold F_X8_takesNumber
    by_cases e : ty T m p = 2
    · have hv := ty_en e
      have hnf : nf T m p = 2 := if_pos e
      obtain ⟨t1, g1, g2, g3, g4⟩ := rf_fault t 2 hk.1
      rw [hk.2.1, if_pos (show nI (ty T m p) = (2 : Int32) by rw [e]; rfl), hk.2.2.2.1 e, rf_inN (by omega) lo64 hi64, fr_bP_mk, decide_eq_false (fun q => h ⟨e, q⟩), if_pos (show fr_bi false = 0 from rfl), hk.2.1, if_pos (show nI (ty T m p) = (2 : Int32) by rw [e]; rfl), fr_bS_mk, show F_X8_faults (2 : Int32) t = _ from g1, hnf]
      exact ⟨t1, rfl, g2, g3, g4⟩
    · have hnf : nf T m p = 1 := if_neg e
      obtain ⟨t1, g1, g2, g3, g4⟩ := rf_fault t 1 hk.1
      have hne : ¬ nI (ty T m p) = (2 : Int32) := fun q => e ((i_eq (b := 2) (by omega) (by omega)).mp q)
      rw [hk.2.1, if_neg hne, if_neg hne, fr_bS_mk, show F_X8_faults (1 : Int32) t = _ from g1, hnf]
      exact ⟨t1, rfl, g2, g3, g4⟩
end TKS
