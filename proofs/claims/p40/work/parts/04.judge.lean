/-! ===== classes by number; links; the judgement; contracts ===== -/
def c_C (ci : Nat) : String := (vwCl.getD ci ("", fun _ => ("", "", "", false), 0)).1
def c_T (ci : Nat) : u_T := (vwCl.getD ci ("", fun _ => ("", "", "", false), 0)).2.1
theorem c_at {ci : Nat} (h : ci < 12) : vwCl[ci]? = some (c_C ci, c_T ci, a_N ci) := by
  rcases (show ci = 0 ∨ ci = 1 ∨ ci = 2 ∨ ci = 3 ∨ ci = 4 ∨ ci = 5 ∨ ci = 6 ∨ ci = 7 ∨ ci = 8 ∨ ci = 9 ∨ ci = 10 ∨ ci = 11 by omega) with rfl | rfl | rfl | rfl | rfl | rfl | rfl | rfl | rfl | rfl | rfl | rfl <;> rfl
theorem c_in {ci : Nat} (h : ci < 12) : ∀ w ∈ u_ws (c_C ci) (c_T ci) (a_N ci), w ∈ TBL := by
  have key : ∀ ci, ci < 12 → (u_ws (c_C ci) (c_T ci) (a_N ci)).all (fun w => decide (w ∈ lw_tbl) && goodWord w) = true := by decide +kernel
  intro w hw
  have h1 := List.all_eq_true.mp (key ci h) w hw
  simp only [Bool.and_eq_true, decide_eq_true_eq] at h1
  exact List.mem_filter.mpr h1
theorem c_ty {ci : Nat} (h : ci < 12) : ∀ k, k < a_N ci → parseFieldDescriptor (c_T ci k).2.2.1 = some (a_fty ci k) := by
  have key : ∀ ci, ci < 12 → ∀ k, k < a_N ci → parseFieldDescriptor (c_T ci k).2.2.1 = some (a_fty ci k) := by decide +kernel
  exact key ci h
theorem c_nm {ci : Nat} (h : ci < 12) : ∀ a, a < a_N ci → ∀ b, b < a_N ci → a ≠ b → (c_T ci a).2.1 ≠ (c_T ci b).2.1 := by
  have key : ∀ ci, ci < 12 → ∀ a, a < a_N ci → ∀ b, b < a_N ci → a ≠ b → (c_T ci a).2.1 ≠ (c_T ci b).2.1 := by decide +kernel
  exact key ci h
theorem c_own {ci : Nat} (h : ci < 12) : ∀ k, k < a_N ci → (c_T ci k).1 = c_C ci := by
  have key : ∀ ci, ci < 12 → ∀ k, k < a_N ci → (c_T ci k).1 = c_C ci := by decide +kernel
  exact key ci h
/-- a field's link -/
def LnkF (own : String) (idx ci k : Nat) : Prop := ci < 12 ∧ k < a_N ci ∧ Cond.fieldLink own idx (c_T ci k).1 (c_T ci k).2.1 (c_T ci k).2.2.1 ∈ TBL
/-- a method's link: of an instance, by the object's class -/
def LnkV (own : String) (idx : Nat) (M2 : MD) (ci n : Nat) : Prop := ci < 12 ∧ Cond.methodLink own idx M2.2.2.2.2 ∈ TBL ∧ Cond.instanceMethod M2.2.2.2.2 ∈ TBL ∧ Cond.selects (c_C ci) M2.2.2.2.2 M2.2.2.2.2 ∈ TBL ∧ M2.2.2.2.2.cls = c_C ci ∧ (parseMethodDescriptor M2.2.2.2.2.desc).map (fun d => d.parameters.length) = some n ∧ MOK M2
def LnkS (own : String) (idx : Nat) (M2 : MD) (n : Nat) : Prop := Cond.methodLink own idx M2.2.2.2.2 ∈ TBL ∧ Cond.static M2.2.2.2.2 ∈ TBL ∧ (parseMethodDescriptor M2.2.2.2.2.desc).map (fun d => d.parameters.length) = some n ∧ MOK M2
def LnkI (own : String) (idx : Nat) (M2 : MD) (n : Nat) : Prop := (Cond.methodLink own idx M2.2.2.2.2 ∈ TBL ∨ (own = RX10 ∧ Cond.methodLinkNest own idx M2.2.2.2.2 "DrownedLight" ∈ nestW)) ∧ Cond.instanceMethod M2.2.2.2.2 ∈ TBL ∧ M2.2.2.2.2.name = "<init>" ∧ M2.2.2.1 = none ∧ (parseMethodDescriptor M2.2.2.2.2.desc).map (fun d => d.parameters.length) = some n ∧ MOK M2
/-! the world as a list -/
theorem ws_get {g : aG} {S : aS} {h : aH} {a : Nat} (ha : a < nx S) : (a_ws g S h)[a]? = some (g.1 + a, a_ent g S h a) := by
  unfold a_ws
  rw [List.getElem?_map, List.getElem?_range ha]
  rfl
theorem ws_put {g : aG} {S : aS} {h h' : aH} {a : Nat} (hne : ∀ b, b ≠ a → a_ent g S h' b = a_ent g S h b) : (a_ws g S h).set a (g.1 + a, a_ent g S h' a) = a_ws g S h' := by
  apply List.ext_getElem?
  intro b
  by_cases hb : b < nx S
  · rw [ws_get hb]
    by_cases hab : b = a
    · subst hab
      rw [List.getElem?_set_self (by unfold a_ws; simpa using hb)]
    · rw [List.getElem?_set_ne (Ne.symm hab), ws_get hb, hne b hab]
  · have h1 : (a_ws g S h').length ≤ b := by unfold a_ws; simpa using hb
    have h2 : ((a_ws g S h).set a (g.1 + a, a_ent g S h' a)).length ≤ b := by rw [List.length_set]; unfold a_ws; simpa using hb
    rw [List.getElem?_eq_none h1, List.getElem?_eq_none h2]
theorem ws_D (g : aG) (S : aS) (h : aH) : va_D (a_A g) (a_ws g S h) := by
  have key : ∀ (i : Nat) (p : Nat × va_E), (a_ws g S h)[i]? = some p → p.1 = g.1 + i := by
    intro i p hp
    have hi : i < nx S := by
      have := (List.getElem?_eq_some_iff.mp hp).1
      unfold a_ws at this
      simpa using this
    rw [ws_get hi] at hp
    cases hp
    rfl
  refine ⟨fun i j p q hp hq e => ?_, fun i p hp => ?_⟩
  · have h1 := key i p hp
    have h2 := key j q hq
    omega
  · show g.1 ≤ p.1
    rw [key i p hp]
    omega
theorem range_map_set {α : Type} (f f' : Nat → α) (N k : Nat) (hne : ∀ j, j < N → j ≠ k → f' j = f j) : ((List.range N).map f).set k (f' k) = (List.range N).map f' := by
  apply List.ext_getElem?
  intro b
  by_cases hb : b < N
  · by_cases hab : b = k
    · subst hab
      rw [List.getElem?_set_self (by simpa using hb), List.getElem?_map, List.getElem?_range hb]
      rfl
    · rw [List.getElem?_set_ne (Ne.symm hab), List.getElem?_map, List.getElem?_map, List.getElem?_range hb]
      show some (f b) = some (f' b)
      rw [hne b hb hab]
  · rw [List.getElem?_eq_none (by simpa using hb), List.getElem?_eq_none (by simpa using hb)]
theorem adr_lt {g : aG} {a : Nat} (h : a < 1000) : adr g a = g.1 + a := by unfold adr; rw [if_pos h]
theorem adr_ro {g : aG} {i : Nat} : adr g (1000 + i) = g.2.1 i := by
  unfold adr
  rw [if_neg (Nat.not_lt.mpr (Nat.le_add_right 1000 i)), Nat.add_sub_cancel_left]
theorem ent_obj {g : aG} {S : aS} {h : aH} {a ci : Nat} (hk : kd S a = ci) (hc : ci < 12) : a_ent g S h a = .inr (ci, (List.range (a_N ci)).map (a_fv g S h a)) := by
  unfold a_ent
  rw [hk, if_pos hc]
theorem ent_i {g : aG} {S : aS} {h : aH} {a : Nat} (hk : kd S a = 20) : a_ent g S h a = .inl (g.2.2.2 0, (ln S a, .inl (ri h a))) := by
  unfold a_ent
  rw [hk]
  rfl
theorem ent_j {g : aG} {S : aS} {h : aH} {a : Nat} (hk : kd S a = 21) : a_ent g S h a = .inl (g.2.2.2 1, (ln S a, .inr (.inl (rj h a)))) := by
  unfold a_ent
  rw [hk]
  rfl
theorem ent_q {g : aG} {S : aS} {h : aH} {a k : Nat} (hk : kd S a = 22 + k) : a_ent g S h a = .inl (g.2.2.2 (2 + k), (ln S a, .inr (.inr (.inr (.inr (fun j => (rr S a j).map (adr g))))))) := by
  unfold a_ent
  rw [hk, if_neg (by omega), if_neg (by omega), if_neg (by omega), show 22 + k - 20 = 2 + k by omega]
/-! what a frame rests on -/
def FR (g : aG) (Z : aZ) (M : MD) (d : Nat) (p : Program) (R : Room) (s : State) (m : MethodId) (args : Array Value) (meth : Method) (c : Code) : Prop :=
  p.tables.exec = Jvm.exec ∧ c.code = M.1 ∧ c.maxLocals = M.2.1 ∧ s.vm.findClass M.2.2.2.1 = some m.cls ∧ (∀ w ∈ TBL, w.before args s = true) ∧ meth.name = M.2.2.2.2.name ∧ KREL g Z s ∧ g.1 ≤ s.heap.size ∧ d + 2 ≤ R.frames ∧ 40 * d + 60 ≤ R.locals
/-- the instruction at pc returns r -/
def RI (M : MD) (pc : Nat) (r : Option Value) : Prop := match r with
  | none => decode M.1 pc = .ok (.return_, 1) ∧ M.2.2.1 = none
  | some (.int v) => decode M.1 pc = .ok (.ireturn, 1) ∧ ∃ ty, M.2.2.1 = some ty ∧ narrow ty (.int v) = .int v
  | some (.long _) => decode M.1 pc = .ok (.lreturn, 1) ∧ M.2.2.1 = some .long
  | some (.ref _) => decode M.1 pc = .ok (.areturn, 1) ∧ ∃ n, M.2.2.1 = some (.object n)
  | _ => False
def RET (g : aG) (M : MD) (Q : Option Value → aS → aH → Prop) (p : Program) (l : Launch) (e : Env) (R : Room) (s : State) (m : MethodId) (args : Array Value) (below : List Frame) (meth : Method) (c : Code) (QF : State → Prop) : Prop :=
  ∀ (r : Option Value) (S : aS) (h : aH) (H : Heap) (locs : List Loc) (cells slots : Nat) (lsA : Array Slot) (pc : Nat), Q r S h → HREL g S h H → va_S (a_A g) s.heap H locs → cells ≤ R.cells → slots ≤ R.slots → RI M pc r → W p l e R s m args below meth c H locs cells slots QF (F0 m pc lsA (r.toList.map (tv g)))
/-- THE JUDGEMENT: a frame of M at pc, with these locals and this stack, comes to its end with Q -/
def TJ (Z : aZ) (M : MD) (d bc bs pc : Nat) (ls st : List Value) (S : aS) (h : aH) (Q : Option Value → aS → aH → Prop) : Prop :=
  ∀ (g : aG) (p : Program) (l : Launch) (e : Env) (R : Room) (s : State) (m : MethodId) (args : Array Value) (below : List Frame) (meth : Method) (c : Code) (QF : State → Prop), FR g Z M d p R s m args meth c → RET g M Q p l e R s m args below meth c QF →
  ∀ (H : Heap) (locs : List Loc) (cells slots : Nat) (lsA : Array Slot), HREL g S h H → va_S (a_A g) s.heap H locs → lv_has lsA M.2.1 (a_lvl g ls) → (cells + bc ≤ R.cells ∧ s.heap.size + cells ≤ g.1 + nx S) → slots + bs ≤ R.slots →
  W p l e R s m args below meth c H locs cells slots QF (F0 m pc lsA (st.map (tv g)))
theorem TJ.mono {Z : aZ} {M : MD} {d d' bc bs pc : Nat} {ls st : List Value} {S : aS} {h : aH} {Q Q' : Option Value → aS → aH → Prop} (k : TJ Z M d bc bs pc ls st S h Q) (hd : d ≤ d') (hQ : ∀ r S h, Q r S h → Q' r S h) : TJ Z M d' bc bs pc ls st S h Q' := by
  intro g p l e R s m args below meth c QF hF hR H locs cells slots lsA
  obtain ⟨f1, f2, f3, f4, f5, f6, f7, f8, f9, f10⟩ := hF
  exact k g p l e R s m args below meth c QF ⟨f1, f2, f3, f4, f5, f6, f7, f8, by omega, by omega⟩ (fun r S h H locs cells slots lsA pc hq => hR r S h H locs cells slots lsA pc (hQ r S h hq)) H locs cells slots lsA
def rmOf (d mc ms : Nat) : Room := { frames := d + 2, cells := mc, slots := ms, locals := 40 * d + 60 }
def cPc (g : aG) (Z : aZ) (S : aS) (h : aH) (args : List Value) : Array Value → State → Prop := fun a U => a = (args.map (tv g)).toArray ∧ KREL g Z U ∧ HREL g S h U.heap ∧ g.1 ≤ U.heap.size ∧ U.heap.size ≤ g.1 + nx S
def cQc (g : aG) (n : Nat) (Q : Option Value → aS → aH → Prop) : Array Value → State → Outcome → State → Prop := fun _ s o t => (∃ (r : Option Value) (S : aS) (h : aH), o = .returned (r.map (tv g)) ∧ (Q r S h ∧ nx S = n) ∧ HREL g S h t.heap) ∧ va_F (a_A g) s t
/-- A CONTRACT -/
def CM (Z : aZ) (M : MD) (d mc ms : Nat) (args : List Value) (S : aS) (h : aH) (Q : Option Value → aS → aH → Prop) : Prop :=
  ∀ (g : aG) (l : Launch), Met l M.2.2.2.2 (M_ws M) (rmOf d mc ms) (cPc g Z S h args) (cQc g (nx S + mc) Q) mc ms (a_A g)
/-! entry -/
def a_exp : List Value → List Value
  | [] => []
  | v :: vs => if v.category = 2 then v :: .null :: a_exp vs else v :: a_exp vs
def a_entry (n : Nat) (args : List Value) : List Value := a_exp args ++ List.replicate (n - (a_exp args).length) .null
theorem exp_len (g : aG) (vs : List Value) : (lg_sl (vs.map (tv g))).length = (a_exp vs).length := by
  induction vs with
  | nil => rfl
  | cons v vs ih =>
    have e : lg_sl ((v :: vs).map (tv g)) = (if (tv g v).category = 2 then [.val (tv g v), .second] else [.val (tv g v)]) ++ lg_sl (vs.map (tv g)) := rfl
    have e2 : a_exp (v :: vs) = if v.category = 2 then v :: .null :: a_exp vs else v :: a_exp vs := rfl
    rw [e, List.length_append, ih, tv_cat, e2]
    split <;> simp <;> omega
theorem exp_args (g : aG) (vs : List Value) : ∀ (i k : Nat) (v : Value), (a_exp vs)[i]? = some v → v ≠ .null → (k + i, tv g v) ∈ lv_args k (vs.map (tv g)) := by
  induction vs with
  | nil => intro i k v h; simp [a_exp] at h
  | cons x vs ih =>
    intro i k v h hv
    show (k + i, tv g v) ∈ (k, tv g x) :: lv_args (if (tv g x).category = 2 then k + 2 else k + 1) (vs.map (tv g))
    rw [tv_cat]
    unfold a_exp at h
    split at h
    · rename_i hc
      rw [if_pos hc]
      match i, h with
      | 0, h => cases h; exact List.mem_cons_self
      | 1, h => cases h; exact absurd rfl hv
      | i + 2, h =>
        have := ih i (k + 2) v (by simpa using h) hv
        rw [show k + (i + 2) = k + 2 + i by omega]
        exact List.mem_cons_of_mem _ this
    · rename_i hc
      rw [if_neg hc]
      match i, h with
      | 0, h => cases h; exact List.mem_cons_self
      | i + 1, h =>
        have := ih i (k + 1) v (by simpa using h) hv
        rw [show k + (i + 1) = k + 1 + i by omega]
        exact List.mem_cons_of_mem _ this
theorem lvh_sub {ls : Array Slot} {n : Nat} {l l' : List (Nat × Value)} (h : lv_has ls n l) (hs : ∀ q ∈ l', q ∈ l) : lv_has ls n l' := ⟨h.1, h.2.1, fun q hq => h.2.2 q (hs q hq)⟩
theorem entry_lv (g : aG) (n : Nat) (args : List Value) (hn : (a_exp args).length ≤ n) : lv_has ((lg_sl (args.map (tv g)) ++ List.replicate (n - (lg_sl (args.map (tv g))).length) Slot.unset).toArray) n (a_lvl g (a_entry n args)) := by
  refine lvh_sub (lv_entry (args.map (tv g)) (n := n) (by rw [exp_len]; exact hn)) ?_
  rintro ⟨i, w⟩ hq
  obtain ⟨v, h1, h2, rfl⟩ := a_lvl_mem.mp hq
  have h3 : (a_exp args)[i]? = some v := by
    unfold a_entry at h1
    by_cases hi : i < (a_exp args).length
    · rwa [List.getElem?_append_left hi] at h1
    · rw [List.getElem?_append_right (by omega)] at h1
      exact absurd (List.eq_of_mem_replicate (List.mem_of_getElem? h1)) h2
  have := exp_args g args i 0 v h3 h2
  rwa [Nat.zero_add] at this
theorem CM.of {Z : aZ} {M : MD} {d mc ms : Nat} {args : List Value} {S : aS} {h : aH} {Q : Option Value → aS → aH → Prop} (hM : MOK M) (hn : (a_exp args).length ≤ M.2.1) (k : TJ Z M d mc ms 0 (a_entry M.2.1 args) [] S h (fun r S' h' => Q r S' h' ∧ nx S' = nx S + mc)) : CM Z M d mc ms args S h Q := by
  intro g l
  refine Met.ofW (cc := M.1) (maxL := M.2.1) (ret := M.2.2.1) hM.2.2.1 rfl ?_
  intro p e s m args' below meth c s₁ B hml hv
  obtain ⟨rfl, hK, hH, hz1, hz2⟩ := hv
  have hts := atoms_spec (ws := M_ws M) B.pre
  rw [lg_entry_eq]
  refine k g p l e _ s m _ below meth c _ ⟨B.exec, B.bytes, hml, ?_, fun w hw => hts w (List.mem_cons_of_mem _ hw), (name_of_methodNamed B.named B.method).1, hK, ?_, Nat.le_refl _, Nat.le_refl _⟩ ?_ s.heap [] 0 0 _ hH va_S.rf (entry_lv g _ args hn) ⟨by show 0 + mc ≤ mc; omega, by show s.heap.size + 0 ≤ _; omega⟩ (by show 0 + ms ≤ ms; omega)
  · have := findClass_of_methodNamed B.named
    rwa [hM.2.2.2.2.1] at this
  · exact hz1
  · intro r S' h' H locs cells slots lsA pc hq hH' hS hc hs hri
    have hlocks := B.notSynchronized
    refine W.widen (k := mc) (n := ms) hc hs ?_
    match r, hri with
    | none, hri =>
      exact W.vret B.exec B.bytes (by rw [B.returns]; exact hri.2) (fun t ht hW => ⟨⟨none, S', h', rfl, hq, by rw [ht]; exact hH'⟩, hS.F ht⟩) hS.2.2 hri.1
    | some (.int v), hri =>
      obtain ⟨hd, ty, hty, hnar⟩ := hri
      exact W.zret B.exec B.bytes (by rw [B.returns]; exact hty) hnar (fun t ht hW => ⟨⟨some (.int v), S', h', rfl, hq, by rw [ht]; exact hH'⟩, hS.F ht⟩) hS.2.2 hd
    | some (.long v), hri =>
      exact W.lret B.exec B.bytes (by rw [B.returns]; exact hri.2) (fun t ht hW => ⟨⟨some (.long v), S', h', rfl, hq, by rw [ht]; exact hH'⟩, hS.F ht⟩) hS.2.2 hri.1
    | some (.ref v), hri =>
      obtain ⟨hd, n, hty⟩ := hri
      exact W.aret B.exec B.bytes (by rw [B.returns]; exact hty) (Or.inl ⟨n, rfl⟩) (Or.inr ⟨_, rfl⟩) (fun t ht hW => ⟨⟨some (.ref v), S', h', rfl, hq, by rw [ht]; exact hH'⟩, hS.F ht⟩) hS.2.2 hd
