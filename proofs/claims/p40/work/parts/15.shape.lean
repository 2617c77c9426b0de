/-! ===== the shape behind the two constructors: where all lies ===== -/
def kdL : List Nat := [10, 5, 20, 20, 20, 20, 9, 20, 20, 20, 3, 20, 20, 20, 20, 8, 20, 20, 20, 8, 20, 20, 20, 6, 22, 20, 20, 8, 20, 20, 20, 8, 20, 20, 20, 8, 20, 20, 20, 8, 20, 20, 20, 8, 20, 20, 20, 2, 4, 20, 20, 20, 1, 20, 20, 20, 20, 0, 20, 20, 23, 7, 21, 7, 21, 7, 21, 7, 21, 7, 21, 7, 21, 11, 20, 20, 20, 20, 20, 20, 20, 20, 20, 20, 20, 20, 20, 20, 20, 20, 20, 20, 20, 20, 20, 20, 21, 21]
def lnL : List Nat := [0, 0, 64, 64, 10, 10, 0, 120, 128, 128, 0, 128, 128, 6, 128, 0, 10, 5, 10, 0, 10, 5, 10, 0, 5, 625, 10, 0, 10, 5, 10, 0, 10, 5, 10, 0, 10, 5, 10, 0, 10, 5, 10, 0, 10, 5, 10, 0, 0, 20, 20, 1024, 0, 40, 40, 40, 40, 0, 50, 24, 6, 0, 60, 0, 60, 0, 60, 0, 60, 0, 60, 0, 60, 0, 172, 40, 40, 40, 120, 120, 6, 10, 10, 10, 4, 4, 100, 100, 1024, 5, 172, 5, 50, 24, 6, 6, 360, 60]
def frL : List (List (Option Nat)) := [[some 1, some 6, some 10, some 15, some 19, some 23, some 47, some 48, some 52, some 57, some 60], [some 2, some 3, some 4, some 5], [], [], [], [], [some 7, none, none, some 8, some 9], [], [], [], [some 11, some 12, none, some 13, some 14], [], [], [], [], [some 1, some 10, some 16, some 17, some 18], [], [], [], [some 1, some 10, some 20, some 21, some 22], [], [], [], [some 24, some 25, none, none, none, none, some 26], [], [], [], [some 1, some 10, some 28, some 29, some 30], [], [], [], [some 1, some 10, some 32, some 33, some 34], [], [], [], [some 1, some 10, some 36, some 37, some 38], [], [], [], [some 1, some 10, some 40, some 41, some 42], [], [], [], [some 1, some 10, some 44, some 45, some 46], [], [], [], [some 1], [some 49, some 50, none, none, some 51], [], [], [], [some 53, some 54, some 55, some 56], [], [], [], [], [some 58, none, some 59], [], [], [], [some 62], [], [some 64], [], [some 66], [], [some 68], [], [some 70], [], [some 72], [], [some 74, some 75, some 76, some 77, none, none, none, some 78, none, some 79, none, none, none, none, none, none, some 80, some 81, some 82, none, none, none, none, some 83, some 84, some 85, none, none, some 86, some 87, some 88, some 89, none, none, some 90, some 91, none, some 92, some 93, none, none, none, some 94, some 95, some 96, some 97], [], [], [], [], [], [], [], [], [], [], [], [], [], [], [], [], [], [], [], [], [], [], [], []]
def rrL : List (List (Option Nat)) := [[], [], [], [], [], [], [], [], [], [], [], [], [], [], [], [], [], [], [], [], [], [], [], [], [some 27, some 31, some 35, some 39, some 43], [], [], [], [], [], [], [], [], [], [], [], [], [], [], [], [], [], [], [], [], [], [], [], [], [], [], [], [], [], [], [], [], [], [], [], [some 61, some 63, some 65, some 67, some 69, some 71], [], [], [], [], [], [], [], [], [], [], [], [], [], [], [], [], [], [], [], [], [], [], [], [], [], [], [], [], [], [], [], [], [], [], [], [], []]
def S0 : aS := (fun a => kdL.getD a 99, fun a => lnL.getD a 0, fun a k => (frL.getD a []).getD k none, fun a k => (rrL.getD a []).getD k none, 98)
abbrev T0 (Z : aZ) (M : MD) (d : Nat) (h : aH) (Q : Option Value → aH → Prop) (pc : Nat) (ls st : List Value) : Prop := TK Z M d 0 0 S0 h (fun r S h' => S = S0 ∧ Q r h') pc ls st
def C0 (Z : aZ) (M : MD) (d : Nat) (args : List Value) (h : aH) (Q : Option Value → aH → Prop) : Prop := CM Z M d 0 0 args S0 h (fun r S h' => S = S0 ∧ Q r h')
theorem C0.of {Z : aZ} {M : MD} {d : Nat} {args : List Value} {h : aH} {Q : Option Value → aH → Prop} (hM : MOK M) (hn : (a_exp args).length ≤ M.2.1) (k : T0 Z M d h Q 0 (a_entry M.2.1 args) []) : C0 Z M d args h Q :=
  CM.of hM hn (TJ.mono k (Nat.le_refl _) (fun r S h q => ⟨q, congrArg nx q.1⟩))
section T0RULES
variable {Z : aZ} {M : MD} {d pc pc' tgt : Nat} {ls st : List Value} {S : aS} {h : aH} {Q : Option Value → aH → Prop}
theorem T0.mono {Q' : Option Value → aH → Prop} (k : T0 Z M d h Q' pc ls st) (hq : ∀ r h', Q' r h' → Q r h') : T0 Z M d h Q pc ls st := TJ.mono k (Nat.le_refl _) (fun r S h q => ⟨q.1, hq r h q.2⟩)
theorem T0_ireti {v : Int32} (hd : DRi M pc) (hq : Q (some (.int v)) h) : T0 Z M d h Q pc ls [.int v] := T_ireti hd ⟨rfl, hq⟩
theorem T0_iretz {v : Int32} (hd : DRz M pc) (hv : v = 0 ∨ v = 1) (hq : Q (some (.int v)) h) : T0 Z M d h Q pc ls [.int v] := T_iretz hd hv ⟨rfl, hq⟩
theorem T0_lret {v : Int64} (hd : DRl M pc) (hq : Q (some (.long v)) h) : T0 Z M d h Q pc ls [.long v] := T_lret hd ⟨rfl, hq⟩
theorem T0_aret {v : Nat} (hd : DRa M pc) (hq : Q (some (.ref v)) h) : T0 Z M d h Q pc ls [.ref v] := T_aret hd ⟨rfl, hq⟩
theorem T0_vret (hd : DRv M pc) (hq : Q none h) : T0 Z M d h Q pc ls [] := T_vret hd ⟨rfl, hq⟩
/-- calls -/
theorem T0_V {idx n ci a : Nat} {M2 : MD} {As : List Value} {st0 : List Value} {Q2 : Option Value → aH → Prop} (hC : C0 Z M2 d (.ref a :: As) h Q2) (hd : DI M pc (.invokevirtual idx) 3 pc') (hL : LnkV M.2.2.2.1 idx M2 ci n) (hn : As.length = n) (hst : st0 = As.reverse ++ .ref a :: st) (hk : kd S0 a = ci) (ha : a < nx S0) (hr : (st.map fun v => v.category).sum ≤ 8) (k : ∀ r h', Q2 r h' → T0 Z M (d + 1) h' Q pc' ls (r.toList ++ st)) : T0 Z M (d + 1) h Q pc ls st0 :=
  T_callV hd hL hn hst hk ha hr ⟨Nat.le_refl 0, Nat.le_refl 0⟩ hC (fun r S' h' q => by obtain ⟨rfl, q⟩ := q; exact k r h' q)
theorem T0_S {idx n : Nat} {M2 : MD} {As : List Value} {st0 : List Value} {Q2 : Option Value → aH → Prop} (hC : C0 Z M2 d As h Q2) (hd : DI M pc (.invokestatic idx) 3 pc') (hL : LnkS M.2.2.2.1 idx M2 n) (hn : As.length = n) (hst : st0 = As.reverse ++ st) (hr : (st.map fun v => v.category).sum ≤ 8) (k : ∀ r h', Q2 r h' → T0 Z M (d + 1) h' Q pc' ls (r.toList ++ st)) : T0 Z M (d + 1) h Q pc ls st0 :=
  T_callS hd hL hn hst hr ⟨Nat.le_refl 0, Nat.le_refl 0⟩ hC (fun r S' h' q => by obtain ⟨rfl, q⟩ := q; exact k r h' q)
/-- a contract that answers v and changes nothing -/
abbrev PV (h : aH) (v : Value) : Option Value → aH → Prop := fun r h' => r = some v ∧ h' = h
theorem T0_Vp {idx n ci a : Nat} {M2 : MD} {As : List Value} {st0 : List Value} {v : Value} (hC : C0 Z M2 d (.ref a :: As) h (PV h v)) (hd : DI M pc (.invokevirtual idx) 3 pc') (hL : LnkV M.2.2.2.1 idx M2 ci n) (hn : As.length = n) (hst : st0 = As.reverse ++ .ref a :: st) (hk : kd S0 a = ci) (ha : a < nx S0) (hr : (st.map fun v => v.category).sum ≤ 8) (k : T0 Z M (d + 1) h Q pc' ls (v :: st)) : T0 Z M (d + 1) h Q pc ls st0 :=
  T0_V hC hd hL hn hst hk ha hr (fun r h' q => by obtain ⟨rfl, rfl⟩ := q; exact k)
theorem T0_Sp {idx n : Nat} {M2 : MD} {As : List Value} {st0 : List Value} {v : Value} (hC : C0 Z M2 d As h (PV h v)) (hd : DI M pc (.invokestatic idx) 3 pc') (hL : LnkS M.2.2.2.1 idx M2 n) (hn : As.length = n) (hst : st0 = As.reverse ++ st) (hr : (st.map fun v => v.category).sum ≤ 8) (k : T0 Z M (d + 1) h Q pc' ls (v :: st)) : T0 Z M (d + 1) h Q pc ls st0 :=
  T0_S hC hd hL hn hst hr (fun r h' q => by obtain ⟨rfl, rfl⟩ := q; exact k)
/-- rows at a number's place -/
theorem T_ialdN {bc bs a N i : Nat} {x : Int32} {Q : Option Value → aS → aH → Prop} (hd : DI M pc .iaload 1 pc') (hk : kd S a = 20) (ha : a < nx S) (hl : ln S a = N) (hx : x = nI i) (hi : i < N) (hN : N ≤ 2000) (kk : TK Z M d bc bs S h Q pc' ls (.int (ri h a i) :: st)) : TK Z M d bc bs S h Q pc ls (.int x :: .ref a :: st) := by
  subst hx
  refine T_iald hd hk ha (by rw [hl]; exact vp_in_nI hi (by omega)) ?_
  rw [nI_clamp (by omega)]
  exact kk
theorem T_laldN {bc bs a N i : Nat} {x : Int32} {Q : Option Value → aS → aH → Prop} (hd : DI M pc .laload 1 pc') (hk : kd S a = 21) (ha : a < nx S) (hl : ln S a = N) (hx : x = nI i) (hi : i < N) (hN : N ≤ 2000) (kk : TK Z M d bc bs S h Q pc' ls (.long (rj h a i) :: st)) : TK Z M d bc bs S h Q pc ls (.int x :: .ref a :: st) := by
  subst hx
  refine T_lald hd hk ha (by rw [hl]; exact vp_in_nI hi (by omega)) ?_
  rw [nI_clamp (by omega)]
  exact kk
theorem T_iastN {bc bs a N i : Nat} {x v : Int32} {Q : Option Value → aS → aH → Prop} (hd : DI M pc .iastore 1 pc') (hk : kd S a = 20) (ha : a < nx S) (hl : ln S a = N) (hx : x = nI i) (hi : i < N) (hN : N ≤ 2000) (kk : TK Z M d bc bs S (sri h a i v) Q pc' ls st) : TK Z M d bc bs S h Q pc ls (.int v :: .int x :: .ref a :: st) := by
  subst hx
  refine T_iast hd hk ha (by rw [hl]; exact vp_in_nI hi (by omega)) ?_
  rw [nI_clamp (by omega)]
  exact kk
theorem T_lastN {bc bs a N i : Nat} {x : Int32} {v : Int64} {Q : Option Value → aS → aH → Prop} (hd : DI M pc .lastore 1 pc') (hk : kd S a = 21) (ha : a < nx S) (hl : ln S a = N) (hx : x = nI i) (hi : i < N) (hN : N ≤ 2000) (kk : TK Z M d bc bs S (srj h a i v) Q pc' ls st) : TK Z M d bc bs S h Q pc ls (.long v :: .int x :: .ref a :: st) := by
  subst hx
  refine T_last hd hk ha (by rw [hl]; exact vp_in_nI hi (by omega)) ?_
  rw [nI_clamp (by omega)]
  exact kk
theorem T_aaldN {bc bs a N i k b : Nat} {x : Int32} {Q : Option Value → aS → aH → Prop} (hd : DI M pc .aaload 1 pc') (hk : kd S a = 22 + k) (hk2 : k < 2) (ha : a < nx S) (hl : ln S a = N) (hx : x = nI i) (hi : i < N) (hN : N ≤ 2000) (hb : rr S a i = some b) (kk : TK Z M d bc bs S h Q pc' ls (.ref b :: st)) : TK Z M d bc bs S h Q pc ls (.int x :: .ref a :: st) := by
  subst hx
  exact T_aald hd hk hk2 ha (by rw [hl]; exact vp_in_nI hi (by omega)) (by rw [nI_clamp (by omega)]; exact hb) kk
theorem T_ialdSN {bc bs a N i : Nat} {x : Int32} {Q : Option Value → aS → aH → Prop} (hd : DI M pc .iaload 1 pc') (ha : a < 6) (hl : roN Z a = N) (hx : x = nI i) (hi : i < N) (hN : N ≤ 4000) (kk : TK Z M d bc bs S h Q pc' ls (.int (roC Z a i) :: st)) : TK Z M d bc bs S h Q pc ls (.int x :: .ref (1000 + a) :: st) := by
  subst hx
  refine T_ialdS hd ha (by rw [hl]; exact vp_in_nI hi (by omega)) ?_
  rw [nI_clamp (by omega)]
  exact kk
theorem T_iinc1 {bc bs i n : Nat} {Q : Option Value → aS → aH → Prop} (hd : DIN M pc i 1 pc') (hx : ls[i]? = some (.int (nI n))) (k : TK Z M d bc bs S h Q pc' (st1 ls i (.int (nI (n + 1)))) st) : TK Z M d bc bs S h Q pc ls st := by
  refine T_iinc hd hx ?_
  rw [nI_1]
  exact k
/-- a field whose value is known -/
theorem T_getfN {bc bs idx ci k a : Nat} {v : Int32} {Q : Option Value → aS → aH → Prop} (hv : fi h a k = v) (hd : DI M pc (.getfield idx) 3 pc') (hL : LnkF M.2.2.2.1 idx ci k) (ht : isRefTy (a_fty ci k) = false) (hk : kd S a = ci) (ha : a < nx S) (kk : TK Z M d bc bs S h Q pc' ls (.int v :: st)) : TK Z M d bc bs S h Q pc ls (.ref a :: st) := by
  subst hv
  exact T_getf hd hL ht hk ha kk
end T0RULES
/-! a Stand, a Shelf, wherever it lies -/
def SD (a : Nat) : Prop := a = 15 ∨ a = 19 ∨ a = 27 ∨ a = 31 ∨ a = 35 ∨ a = 39 ∨ a = 43
def SH (a : Nat) : Prop := a = 61 ∨ a = 63 ∨ a = 65 ∨ a = 67 ∨ a = 69 ∨ a = 71
theorem SD.all {a : Nat} (h : SD a) : (kd S0 a = 8 ∧ a < nx S0) ∧ (fr S0 a 0 = some 1 ∧ fr S0 a 1 = some 10 ∧ fr S0 a 2 = some (a + 1) ∧ fr S0 a 3 = some (a + 2) ∧ fr S0 a 4 = some (a + 3)) ∧ (kd S0 (a + 1) = 20 ∧ kd S0 (a + 2) = 20 ∧ kd S0 (a + 3) = 20) ∧ (a + 1 < nx S0 ∧ a + 2 < nx S0 ∧ a + 3 < nx S0) ∧ (ln S0 (a + 1) = 10 ∧ ln S0 (a + 2) = 5 ∧ ln S0 (a + 3) = 10) := by
  unfold SD at h
  rcases h with rfl | rfl | rfl | rfl | rfl | rfl | rfl <;> decide +kernel
theorem SH.all {a : Nat} (h : SH a) : (kd S0 a = 7 ∧ a < nx S0) ∧ fr S0 a 0 = some (a + 1) ∧ kd S0 (a + 1) = 21 ∧ a + 1 < nx S0 ∧ ln S0 (a + 1) = 60 := by
  unfold SH at h
  rcases h with rfl | rfl | rfl | rfl | rfl | rfl <;> decide +kernel
theorem SD.kd0 {a : Nat} (h : SD a) : kd S0 a = 8 := h.all.1.1
theorem SD.nx0 {a : Nat} (h : SD a) : a < nx S0 := h.all.1.2
theorem SD.f0 {a : Nat} (h : SD a) : fr S0 a 0 = some 1 := h.all.2.1.1
theorem SD.f1 {a : Nat} (h : SD a) : fr S0 a 1 = some 10 := h.all.2.1.2.1
theorem SD.f2 {a : Nat} (h : SD a) : fr S0 a 2 = some (a + 1) := h.all.2.1.2.2.1
theorem SD.f3 {a : Nat} (h : SD a) : fr S0 a 3 = some (a + 2) := h.all.2.1.2.2.2.1
theorem SD.f4 {a : Nat} (h : SD a) : fr S0 a 4 = some (a + 3) := h.all.2.1.2.2.2.2
theorem SD.k2 {a : Nat} (h : SD a) : kd S0 (a + 1) = 20 := h.all.2.2.1.1
theorem SD.k3 {a : Nat} (h : SD a) : kd S0 (a + 2) = 20 := h.all.2.2.1.2.1
theorem SD.k4 {a : Nat} (h : SD a) : kd S0 (a + 3) = 20 := h.all.2.2.1.2.2
theorem SD.n2 {a : Nat} (h : SD a) : a + 1 < nx S0 := h.all.2.2.2.1.1
theorem SD.n3 {a : Nat} (h : SD a) : a + 2 < nx S0 := h.all.2.2.2.1.2.1
theorem SD.n4 {a : Nat} (h : SD a) : a + 3 < nx S0 := h.all.2.2.2.1.2.2
theorem SD.l2 {a : Nat} (h : SD a) : ln S0 (a + 1) = 10 := h.all.2.2.2.2.1
theorem SD.l3 {a : Nat} (h : SD a) : ln S0 (a + 2) = 5 := h.all.2.2.2.2.2.1
theorem SD.l4 {a : Nat} (h : SD a) : ln S0 (a + 3) = 10 := h.all.2.2.2.2.2.2
theorem SH.kd0 {a : Nat} (h : SH a) : kd S0 a = 7 := h.all.1.1
theorem SH.nx0 {a : Nat} (h : SH a) : a < nx S0 := h.all.1.2
theorem SH.f0 {a : Nat} (h : SH a) : fr S0 a 0 = some (a + 1) := h.all.2.1
theorem SH.k0 {a : Nat} (h : SH a) : kd S0 (a + 1) = 21 := h.all.2.2.1
theorem SH.n0 {a : Nat} (h : SH a) : a + 1 < nx S0 := h.all.2.2.2.1
theorem SH.l0 {a : Nat} (h : SH a) : ln S0 (a + 1) = 60 := h.all.2.2.2.2
