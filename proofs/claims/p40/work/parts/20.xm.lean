/-! ===== two heaps side by side: the class's cells (below 73), the reference's ===== -/
abbrev ix (i : Int32) : Nat := i.toNatClampNeg
abbrev oS (s : Bool) (a : Nat) : Prop := decide (a < 73) = s
def hp (s : Bool) (x y : aH) : aH := (fun a => if oS s a then x.1 a else y.1 a, fun a => if oS s a then x.2.1 a else y.2.1 a, fun a => if oS s a then x.2.2 a else y.2.2 a)
theorem hp_f {s : Bool} {x y : aH} {a : Nat} (ho : oS s a) : fi (hp s x y) a = fi x a := if_pos ho
theorem hp_r {s : Bool} {x y : aH} {a : Nat} (ho : oS s a) : ri (hp s x y) a = ri x a := if_pos ho
theorem hp_j {s : Bool} {x y : aH} {a : Nat} (ho : oS s a) : rj (hp s x y) a = rj x a := if_pos ho
theorem up_if {α : Type} {p : Nat → Prop} [DecidablePred p] {f g : Nat → α} {a : Nat} {v : α} (ha : p a) : va_up (fun b => if p b then f b else g b) a v = fun b => if p b then va_up f a v b else g b := by
  funext b
  unfold va_up
  by_cases hb : b = a
  · subst hb; simp [ha]
  · simp [hb]
theorem hp_sfi {s : Bool} {x y : aH} {a k : Nat} {v : Int32} (ho : oS s a) : sfi (hp s x y) a k v = hp s (sfi x a k v) y := by
  unfold sfi hp
  simp only [if_pos ho, up_if (p := fun b => oS s b) ho]
theorem hp_sri {s : Bool} {x y : aH} {a k : Nat} {v : Int32} (ho : oS s a) : sri (hp s x y) a k v = hp s (sri x a k v) y := by
  unfold sri hp
  simp only [if_pos ho, up_if (p := fun b => oS s b) ho]
theorem hp_srj {s : Bool} {x y : aH} {a k : Nat} {v : Int64} (ho : oS s a) : srj (hp s x y) a k v = hp s (srj x a k v) y := by
  unfold srj hp
  simp only [if_pos ho, up_if (p := fun b => oS s b) ho]
theorem hp_srow {s : Bool} {x y : aH} {a : Nat} {f : Nat → Int32} (ho : oS s a) : srow (hp s x y) a f = hp s (srow x a f) y := by
  unfold srow hp
  simp only [up_if (p := fun b => oS s b) ho]
theorem hp_srowj {s : Bool} {x y : aH} {a : Nat} {f : Nat → Int64} (ho : oS s a) : srowj (hp s x y) a f = hp s (srowj x a f) y := by
  unfold srowj hp
  simp only [up_if (p := fun b => oS s b) ho]
theorem hp_swap (x y : aH) : hp true x y = hp false y x := by
  unfold hp oS
  refine Prod.ext ?_ (Prod.ext ?_ ?_) <;> (funext a; by_cases h : a < 73 <;> simp [h])
/-! objects and rows -/
def OB (s : Bool) (a ci : Nat) : Prop := kd S0 a = ci ∧ a < nx S0 ∧ oS s a
def AR (s : Bool) (a k N : Nat) : Prop := kd S0 a = k ∧ a < nx S0 ∧ ln S0 a = N ∧ oS s a ∧ N ≤ 2000
theorem SD.ob {a : Nat} (h : SD a) : OB true a 8 := ⟨h.kd0, h.nx0, by unfold SD at h; exact decide_eq_true (by omega)⟩
theorem SD.ar2 {a : Nat} (h : SD a) : AR true (a + 1) 20 10 := ⟨h.k2, h.n2, h.l2, by unfold SD at h; exact decide_eq_true (by omega), by decide⟩
theorem SD.ar3 {a : Nat} (h : SD a) : AR true (a + 2) 20 5 := ⟨h.k3, h.n3, h.l3, by unfold SD at h; exact decide_eq_true (by omega), by decide⟩
theorem SD.ar4 {a : Nat} (h : SD a) : AR true (a + 3) 20 10 := ⟨h.k4, h.n4, h.l4, by unfold SD at h; exact decide_eq_true (by omega), by decide⟩
theorem SH.ob {a : Nat} (h : SH a) : OB true a 7 := ⟨h.kd0, h.nx0, by unfold SH at h; exact decide_eq_true (by omega)⟩
theorem SH.ar0 {a : Nat} (h : SH a) : AR true (a + 1) 21 60 := ⟨h.k0, h.n0, h.l0, by unfold SH at h; exact decide_eq_true (by omega), by decide⟩
/-- what stands in a place of a list of values: known the same, or not known -/
def WK : List Value → List Value → Prop
  | [], [] => True
  | a :: as, b :: bs => (a = .null ∨ a = b) ∧ WK as bs
  | _, _ => False
theorem WK.e : WK [] [] := trivial
theorem WK.n {b : Value} {as bs : List Value} (h : WK as bs) : WK (.null :: as) (b :: bs) := ⟨Or.inl rfl, h⟩
theorem WK.s {a : Value} {as bs : List Value} (h : WK as bs) : WK (a :: as) (a :: bs) := ⟨Or.inr rfl, h⟩
theorem WK.get : ∀ {as bs : List Value}, WK as bs → ∀ (i : Nat) (v : Value), as[i]? = some v → v ≠ .null → bs[i]? = some v
  | [], [], _, i, v, h1, _ => by simp at h1
  | a :: as, b :: bs, h, 0, v, h1, h2 => by
    cases h1
    rcases h.1 with h3 | h3
    · exact absurd h3 h2
    · rw [h3]; rfl
  | a :: as, b :: bs, h, i + 1, v, h1, h2 => by
    have := WK.get h.2 i v (by simpa using h1) h2
    simpa using this
theorem TJ.weak {Z : aZ} {M : MD} {d bc bs pc : Nat} {ls ls' st : List Value} {S : aS} {h : aH} {Q : Option Value → aS → aH → Prop} (hw : WK ls' ls) (k : TJ Z M d bc bs pc ls' st S h Q) : TJ Z M d bc bs pc ls st S h Q := by
  intro g p l e R s m args below meth c QF hF hR H locs cells slots lsA hH hS hl
  refine k g p l e R s m args below meth c QF hF hR H locs cells slots lsA hH hS (lvh_sub hl ?_)
  rintro ⟨i, w⟩ hq
  obtain ⟨v, h1, h2, rfl⟩ := a_lvl_mem.mp hq
  exact a_lvl_mem.mpr ⟨v, hw.get i v h1 h2, h2, rfl⟩
/-! the judgement over one of the two heaps -/
abbrev TX (s : Bool) (Z : aZ) (M : MD) (d : Nat) (y x : aH) (Q : Option Value → aH → Prop) (pc : Nat) (ls st : List Value) : Prop := T0 Z M d (hp s x y) (fun r h' => ∃ x', h' = hp s x' y ∧ Q r x') pc ls st
def CX (s : Bool) (Z : aZ) (M : MD) (K : Nat) (args : List Value) (y x : aH) (Q : Option Value → aH → Prop) : Prop := ∀ d, K ≤ d → C0 Z M d args (hp s x y) (fun r h' => ∃ x', h' = hp s x' y ∧ Q r x')
def RV (v : Value) (x' : aH) : Option Value → aH → Prop := fun r z => r = some v ∧ z = x'
def RN (x' : aH) : Option Value → aH → Prop := fun r z => r = none ∧ z = x'
theorem CX.of {s : Bool} {Z : aZ} {M : MD} {K : Nat} {args : List Value} {y x : aH} {Q : Option Value → aH → Prop} (hM : MOK M) (hn : (a_exp args).length ≤ M.2.1) (k : TX s Z M K y x Q 0 (a_entry M.2.1 args) []) : CX s Z M K args y x Q :=
  fun _ hd => C0.of hM hn (TJ.mono k hd (fun _ _ _ q => q))
theorem CX.le {s : Bool} {Z : aZ} {M : MD} {K K' : Nat} {args : List Value} {y x : aH} {Q : Option Value → aH → Prop} (k : CX s Z M K args y x Q) (h : K ≤ K') : CX s Z M K' args y x Q := fun d hd => k d (Nat.le_trans h hd)
/-! taking models apart -/
theorem ite_t {c : Prop} [Decidable c] {α : Type} {a b r : α} (h : c) (e : (if c then a else b) = r) : a = r := by rw [if_pos h] at e; exact e
theorem ite_f {c : Prop} [Decidable c] {α : Type} {a b r : α} (h : ¬ c) (e : (if c then a else b) = r) : b = r := by rw [if_neg h] at e; exact e
theorem opt_t {c : Prop} [Decidable c] {α : Type} {a : Option α} {r : α} (e : (if c then a else none) = some r) : c ∧ a = some r := by
  by_cases h : c
  · rw [if_pos h] at e; exact ⟨h, e⟩
  · rw [if_neg h] at e; cases e
theorem bind_t {α β : Type} {o : Option α} {k : α → Option β} {r : β} (e : o.bind k = some r) : ∃ q, o = some q ∧ k q = some r := by
  cases o with
  | none => cases e
  | some q => exact ⟨q, rfl, e⟩
def elS {α β γ : Type} (R : Sum α β) (f : α → γ) (g : β → γ) : γ := match R with
  | .inl a => f a
  | .inr b => g b
theorem elS_l {α β γ : Type} {a : α} {f : α → γ} {g : β → γ} {r : γ} (e : elS (.inl a) f g = r) : f a = r := e
theorem elS_r {α β γ : Type} {b : β} {f : α → γ} {g : β → γ} {r : γ} (e : elS (.inr b) f g = r) : g b = r := e
def stR (a : Nat) : Nat → Int32 := fun j => Int32.ofInt ((stL.getD a []).getD j 0)
theorem in_n {i N32 : Int32} {N : Nat} (hN : nI N = N32) (hb : N ≤ 4000) (h : 0 ≤ i ∧ i < N32) : vp_in i N := by
  subst hN
  obtain ⟨j, hj, rfl⟩ := (in_range i N (by omega)).mp h
  exact vp_in_nI hj (by omega)
section XRULES
variable {sd : Bool} {Z : aZ} {M : MD} {d pc pc' tgt : Nat} {ls st : List Value} {x y : aH} {Q : Option Value → aH → Prop}
theorem X_wk {ls' : List Value} (hw : WK ls' ls) (k : TX sd Z M d y x Q pc ls' st) : TX sd Z M d y x Q pc ls st := TJ.weak hw k
theorem X_getf {idx ci k a : Nat} (hd : DI M pc (.getfield idx) 3 pc') (hL : LnkF M.2.2.2.1 idx ci k) (ht : isRefTy (a_fty ci k) = false) (ho : OB sd a ci) (kk : TX sd Z M d y x Q pc' ls (.int (fi x a k) :: st)) : TX sd Z M d y x Q pc ls (.ref a :: st) :=
  T_getf hd hL ht ho.1 ho.2.1 (by rw [hp_f ho.2.2]; exact kk)
theorem X_getr {idx ci k a b : Nat} (hd : DI M pc (.getfield idx) 3 pc') (hL : LnkF M.2.2.2.1 idx ci k) (ht : isRefTy (a_fty ci k) = true) (ho : OB sd a ci) (hb : fr S0 a k = some b) (kk : TX sd Z M d y x Q pc' ls (.ref b :: st)) : TX sd Z M d y x Q pc ls (.ref a :: st) :=
  T_getr hd hL ht ho.1 ho.2.1 hb kk
theorem X_putf {idx ci k a : Nat} {v : Int32} (hd : DI M pc (.putfield idx) 3 pc') (hL : LnkF M.2.2.2.1 idx ci k) (ht : isRefTy (a_fty ci k) = false) (hfin : (c_T ci k).2.2.2 = false) (ho : OB sd a ci) (hv : FOK (a_fty ci k) v) (kk : TX sd Z M d y (sfi x a k v) Q pc' ls st) : TX sd Z M d y x Q pc ls (.int v :: .ref a :: st) :=
  T_putf hd hL ht hfin ho.1 ho.2.1 hv (by rw [hp_sfi ho.2.2]; exact kk)
theorem X_iald {a N : Nat} {i N32 : Int32} (hd : DI M pc .iaload 1 pc') (ha : AR sd a 20 N) (hN : nI N = N32) (hi : 0 ≤ i ∧ i < N32) (kk : TX sd Z M d y x Q pc' ls (.int (ri x a (ix i)) :: st)) : TX sd Z M d y x Q pc ls (.int i :: .ref a :: st) :=
  T_iald hd ha.1 ha.2.1 (by rw [ha.2.2.1]; exact in_n hN (Nat.le_trans ha.2.2.2.2 (by decide)) hi) (by rw [hp_r ha.2.2.2.1]; exact kk)
theorem X_iast {a N : Nat} {i v N32 : Int32} (hd : DI M pc .iastore 1 pc') (ha : AR sd a 20 N) (hN : nI N = N32) (hi : 0 ≤ i ∧ i < N32) (kk : TX sd Z M d y (sri x a (ix i) v) Q pc' ls st) : TX sd Z M d y x Q pc ls (.int v :: .int i :: .ref a :: st) :=
  T_iast hd ha.1 ha.2.1 (by rw [ha.2.2.1]; exact in_n hN (Nat.le_trans ha.2.2.2.2 (by decide)) hi) (by rw [hp_sri ha.2.2.2.1]; exact kk)
theorem X_lald {a N : Nat} {i N32 : Int32} (hd : DI M pc .laload 1 pc') (ha : AR sd a 21 N) (hN : nI N = N32) (hi : 0 ≤ i ∧ i < N32) (kk : TX sd Z M d y x Q pc' ls (.long (rj x a (ix i)) :: st)) : TX sd Z M d y x Q pc ls (.int i :: .ref a :: st) :=
  T_lald hd ha.1 ha.2.1 (by rw [ha.2.2.1]; exact in_n hN (Nat.le_trans ha.2.2.2.2 (by decide)) hi) (by rw [hp_j ha.2.2.2.1]; exact kk)
theorem X_last {a N : Nat} {i N32 : Int32} {v : Int64} (hd : DI M pc .lastore 1 pc') (ha : AR sd a 21 N) (hN : nI N = N32) (hi : 0 ≤ i ∧ i < N32) (kk : TX sd Z M d y (srj x a (ix i) v) Q pc' ls st) : TX sd Z M d y x Q pc ls (.long v :: .int i :: .ref a :: st) :=
  T_last hd ha.1 ha.2.1 (by rw [ha.2.2.1]; exact in_n hN (Nat.le_trans ha.2.2.2.2 (by decide)) hi) (by rw [hp_srj ha.2.2.2.1]; exact kk)
theorem X_ialdS {a N : Nat} {i N32 : Int32} (hd : DI M pc .iaload 1 pc') (ha : a < 5) (hl : (stL.getD a []).length = N) (hb : N ≤ 2000) (hN : nI N = N32) (hi : 0 ≤ i ∧ i < N32) (kk : TX sd Z M d y x Q pc' ls (.int (stR a (ix i)) :: st)) : TX sd Z M d y x Q pc ls (.int i :: .ref (1000 + a) :: st) :=
  T_ialdS hd (Nat.lt_succ_of_lt ha) (by unfold roN; rw [if_pos ha, hl]; exact in_n hN (Nat.le_trans hb (by decide)) hi) (by unfold roC; rw [if_pos ha]; exact kk)
theorem X_alen {a N : Nat} {N32 : Int32} (hd : DI M pc .arraylength 1 pc') (ha : AR sd a 20 N) (hN : nI N = N32) (kk : TX sd Z M d y x Q pc' ls (.int N32 :: st)) : TX sd Z M d y x Q pc ls (.ref a :: st) :=
  T_alen hd ha.1 ha.2.1 (by rw [ha.2.2.1, hN]; exact kk)
theorem SD_at {i : Int32} (h : 0 ≤ i ∧ i < 5) : SD (27 + 4 * ix i) := by
  obtain ⟨j, hj, rfl⟩ := (in_range i 5 (by omega)).mp h
  show SD (27 + 4 * (nI j).toNatClampNeg)
  rw [nI_clamp (by omega)]
  unfold SD
  omega
theorem SH_at {i : Int32} (h : 0 ≤ i ∧ i < 6) : SH (61 + 2 * ix i) := by
  obtain ⟨j, hj, rfl⟩ := (in_range i 6 (by omega)).mp h
  show SH (61 + 2 * (nI j).toNatClampNeg)
  rw [nI_clamp (by omega)]
  unfold SH
  omega
theorem rr_sd : ∀ j, j < 5 → rr S0 24 j = some (27 + 4 * j) := by decide +kernel
theorem rr_sh : ∀ j, j < 6 → rr S0 60 j = some (61 + 2 * j) := by decide +kernel
theorem ix_lt {i N32 : Int32} {N : Nat} (hN : nI N = N32) (hb : N ≤ 4000) (h : 0 ≤ i ∧ i < N32) : ix i < N := by
  subst hN
  obtain ⟨j, hj, rfl⟩ := (in_range i N (by omega)).mp h
  show (nI j).toNatClampNeg < N
  rw [nI_clamp (by omega)]
  exact hj
theorem X_aaldSD {i : Int32} (hd : DI M pc .aaload 1 pc') (hi : 0 ≤ i ∧ i < 5) (kk : TX sd Z M d y x Q pc' ls (.ref (27 + 4 * ix i) :: st)) : TX sd Z M d y x Q pc ls (.int i :: .ref 24 :: st) :=
  T_aald (k := 0) (b := 27 + 4 * ix i) hd rfl (by decide) (by decide) (in_n (N := 5) rfl (by decide) hi) (rr_sd _ (ix_lt (N := 5) rfl (by decide) hi)) kk
theorem X_aaldSH {i : Int32} (hd : DI M pc .aaload 1 pc') (hi : 0 ≤ i ∧ i < 6) (kk : TX sd Z M d y x Q pc' ls (.ref (61 + 2 * ix i) :: st)) : TX sd Z M d y x Q pc ls (.int i :: .ref 60 :: st) :=
  T_aald (k := 1) (b := 61 + 2 * ix i) hd rfl (by decide) (by decide) (in_n (N := 6) rfl (by decide) hi) (rr_sh _ (ix_lt (N := 6) rfl (by decide) hi)) kk
def CPo (sp dp n : Int32) (N0 N1 : Nat) : Prop := ¬ sp < 0 ∧ ¬ dp < 0 ∧ ¬ n < 0 ∧ ix sp + ix n ≤ N0 ∧ ix dp + ix n ≤ N1
theorem X_copyi {idx a0 a N0 N1 : Nat} {sp dp n : Int32} (hd : DI M pc (.invokestatic idx) 3 pc') (hL : LnkC M.2.2.2.1 idx) (h0 : AR sd a0 20 N0) (h1 : AR sd a 20 N1) (hc : ¬ sp < 0 ∧ ¬ dp < 0 ∧ ¬ n < 0 ∧ ix sp + ix n ≤ N0 ∧ ix dp + ix n ≤ N1) (hr : (st.map fun v => v.category).sum ≤ 8) (kk : TX sd Z M d y (srow x a (va_cpy (ri x a0) (ri x a) (ix sp) (ix dp) (ix n))) Q pc' ls st) : TX sd Z M d y x Q pc ls (.int n :: .int dp :: .ref a :: .int sp :: .ref a0 :: st) :=
  T_copyi hd hL h0.1 h0.2.1 h1.1 h1.2.1 hc.1 hc.2.1 hc.2.2.1 (by rw [h0.2.2.1]; exact hc.2.2.2.1) (by rw [h1.2.2.1]; exact hc.2.2.2.2) hr (by rw [hp_r h0.2.2.2.1, hp_r h1.2.2.2.1, hp_srow h1.2.2.2.1]; exact kk)
theorem X_copyl {idx a0 a N0 N1 : Nat} {sp dp n : Int32} (hd : DI M pc (.invokestatic idx) 3 pc') (hL : LnkC M.2.2.2.1 idx) (h0 : AR sd a0 21 N0) (h1 : AR sd a 21 N1) (hc : ¬ sp < 0 ∧ ¬ dp < 0 ∧ ¬ n < 0 ∧ ix sp + ix n ≤ N0 ∧ ix dp + ix n ≤ N1) (hr : (st.map fun v => v.category).sum ≤ 8) (kk : TX sd Z M d y (srowj x a (va_cpy (rj x a0) (rj x a) (ix sp) (ix dp) (ix n))) Q pc' ls st) : TX sd Z M d y x Q pc ls (.int n :: .int dp :: .ref a :: .int sp :: .ref a0 :: st) :=
  T_copyl hd hL h0.1 h0.2.1 h1.1 h1.2.1 hc.1 hc.2.1 hc.2.2.1 (by rw [h0.2.2.1]; exact hc.2.2.2.1) (by rw [h1.2.2.1]; exact hc.2.2.2.2) hr (by rw [hp_j h0.2.2.2.1, hp_j h1.2.2.2.1, hp_srowj h1.2.2.2.1]; exact kk)
/-! calls -/
theorem X_V {idx n ci a K : Nat} {M2 : MD} {As : List Value} {st0 : List Value} {Q2 : Option Value → aH → Prop} (hC : CX sd Z M2 K (.ref a :: As) y x Q2) (hK : K ≤ d) (hd : DI M pc (.invokevirtual idx) 3 pc') (hL : LnkV M.2.2.2.1 idx M2 ci n) (hn : As.length = n) (hst : st0 = As.reverse ++ .ref a :: st) (ho : OB sd a ci) (hr : (st.map fun v => v.category).sum ≤ 8) (k : ∀ r x', Q2 r x' → TX sd Z M (d + 1) y x' Q pc' ls (r.toList ++ st)) : TX sd Z M (d + 1) y x Q pc ls st0 :=
  T0_V (hC d hK) hd hL hn hst ho.1 ho.2.1 hr (fun r h' q => by obtain ⟨x', rfl, q⟩ := q; exact k r x' q)
theorem X_Vv {idx n ci a K : Nat} {M2 : MD} {As : List Value} {st0 : List Value} {v : Value} {x' : aH} (hC : CX sd Z M2 K (.ref a :: As) y x (RV v x')) (hK : K ≤ d) (hd : DI M pc (.invokevirtual idx) 3 pc') (hL : LnkV M.2.2.2.1 idx M2 ci n) (hn : As.length = n) (hst : st0 = As.reverse ++ .ref a :: st) (ho : OB sd a ci) (hr : (st.map fun v => v.category).sum ≤ 8) (k : TX sd Z M (d + 1) y x' Q pc' ls (v :: st)) : TX sd Z M (d + 1) y x Q pc ls st0 :=
  X_V hC hK hd hL hn hst ho hr (fun r z q => by obtain ⟨rfl, rfl⟩ := q; exact k)
theorem X_Vn {idx n ci a K : Nat} {M2 : MD} {As : List Value} {st0 : List Value} {x' : aH} (hC : CX sd Z M2 K (.ref a :: As) y x (RN x')) (hK : K ≤ d) (hd : DI M pc (.invokevirtual idx) 3 pc') (hL : LnkV M.2.2.2.1 idx M2 ci n) (hn : As.length = n) (hst : st0 = As.reverse ++ .ref a :: st) (ho : OB sd a ci) (hr : (st.map fun v => v.category).sum ≤ 8) (k : TX sd Z M (d + 1) y x' Q pc' ls st) : TX sd Z M (d + 1) y x Q pc ls st0 :=
  X_V hC hK hd hL hn hst ho hr (fun r z q => by obtain ⟨rfl, rfl⟩ := q; exact k)
theorem X_Sv {idx n K : Nat} {M2 : MD} {As : List Value} {st0 : List Value} {v : Value} {x' : aH} (hC : CX sd Z M2 K As y x (RV v x')) (hK : K ≤ d) (hd : DI M pc (.invokestatic idx) 3 pc') (hL : LnkS M.2.2.2.1 idx M2 n) (hn : As.length = n) (hst : st0 = As.reverse ++ st) (hr : (st.map fun v => v.category).sum ≤ 8) (k : TX sd Z M (d + 1) y x' Q pc' ls (v :: st)) : TX sd Z M (d + 1) y x Q pc ls st0 :=
  T0_S (hC d hK) hd hL hn hst hr (fun r h' q => by obtain ⟨z, rfl, rfl, rfl⟩ := q; exact k)
/-! ends -/
theorem X_ri {v : Int32} (hd : DRi M pc) (hq : Q (some (.int v)) x) : TX sd Z M d y x Q pc ls [.int v] := T0_ireti hd ⟨x, rfl, hq⟩
theorem X_rz {v : Int32} (hd : DRz M pc) (hv : v = 0 ∨ v = 1) (hq : Q (some (.int v)) x) : TX sd Z M d y x Q pc ls [.int v] := T0_iretz hd hv ⟨x, rfl, hq⟩
theorem X_rl {v : Int64} (hd : DRl M pc) (hq : Q (some (.long v)) x) : TX sd Z M d y x Q pc ls [.long v] := T0_lret hd ⟨x, rfl, hq⟩
theorem X_ra {v : Nat} (hd : DRa M pc) (hq : Q (some (.ref v)) x) : TX sd Z M d y x Q pc ls [.ref v] := T0_aret hd ⟨x, rfl, hq⟩
theorem X_rv (hd : DRv M pc) (hq : Q none x) : TX sd Z M d y x Q pc ls [] := T0_vret hd ⟨x, rfl, hq⟩
theorem T_lookE {v k : Int32} {df off : Int} {ps : Array (Int × Int)} {n : Nat} (hv : v = k) (hd : decode M.1 pc = .ok (.lookupswitch df ps, n)) (hp : (ps.toList.zip (ps.toList.drop 1)).all (fun (a, next) => a.1 < next.1) = true) (ho : Op.lookupswitch.offset ps.toList df k.toInt = off) (ht : (pc : Int) + off = (tgt : Int)) (kk : TX sd Z M d y x Q tgt ls st) : TX sd Z M d y x Q pc ls (.int v :: st) :=
  T_lookup hd hp (by rw [hv]; exact ho) ht kk
theorem T_tabE {v k : Int32} {df lo hi off : Int} {offs : Array Int} {n : Nat} (hv : v = k) (hd : decode M.1 pc = .ok (.tableswitch df lo hi offs, n)) (h1 : lo ≤ k.toInt) (h2 : k.toInt ≤ hi) (ho : offs[(k.toInt - lo).toNat]? = some off) (ht : (pc : Int) + off = (tgt : Int)) (kk : TX sd Z M d y x Q tgt ls st) : TX sd Z M d y x Q pc ls (.int v :: st) := by
  subst hv
  exact T_tabIn hd h1 h2 ho ht kk
theorem ne_toInt {v k : Int32} (h : ¬ v = k) : v.toInt ≠ k.toInt := fun z => h (Int32.toInt_inj.mp z)
end XRULES
