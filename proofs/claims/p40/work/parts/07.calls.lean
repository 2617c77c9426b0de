/-! ===== rows of numbers and of references, static rows ===== -/
theorem upd_up (f : Nat → Int32) (k : Nat) (x : Int32) : upd f k x = va_up f k x := rfl
theorem updL_up (f : Nat → Int64) (k : Nat) (x : Int64) : vp_updL f k x = va_up f k x := rfl
theorem ent_sri_ne {g : aG} {S : aS} {h : aH} {a k : Nat} {v : Int32} {b : Nat} (hb : b ≠ a) : a_ent g S (sri h a k v) b = a_ent g S h b := by
  unfold a_ent a_fv fi ri rj sri
  simp only [va_up_ne _ _ hb]
theorem ent_srj_ne {g : aG} {S : aS} {h : aH} {a k : Nat} {v : Int64} {b : Nat} (hb : b ≠ a) : a_ent g S (srj h a k v) b = a_ent g S h b := by
  unfold a_ent a_fv fi ri rj srj
  simp only [va_up_ne _ _ hb]
theorem ri_sri {h : aH} {a k : Nat} {v : Int32} : ri (sri h a k v) a = va_up (ri h a) k v := by unfold ri sri; simp only [va_up_self]
theorem rj_srj {h : aH} {a k : Nat} {v : Int64} : rj (srj h a k v) a = va_up (rj h a) k v := by unfold rj srj; simp only [va_up_self]
theorem tys_i (g : aG) : (a_tys g)[0]? = some (g.2.2.2 0, .int) := rfl
theorem tys_j (g : aG) : (a_tys g)[1]? = some (g.2.2.2 1, .long) := rfl
/-- the classes whose objects rows of references hold -/
def qC (k : Nat) : String := if k = 0 then "DrownedLight$Stand" else "DrownedLight$Shelf"
theorem tys_q (g : aG) {k : Nat} (hk : k < 2) : (a_tys g)[2 + k]? = some (g.2.2.2 (2 + k), .object (qC k)) := by
  rcases (show k = 0 ∨ k = 1 by omega) with rfl | rfl <;> rfl
section RRULES
variable {Z : aZ} {M : MD} {d bc bs pc pc' tgt : Nat} {ls st : List Value} {S : aS} {h : aH} {Q : Option Value → aS → aH → Prop}
theorem T_iald {a : Nat} {i : Int32} (hd : DI M pc .iaload 1 pc') (hk : kd S a = 20) (ha : a < nx S) (hin : vp_in i (ln S a)) (kk : TK Z M d bc bs S h Q pc' ls (.int (ri h a i.toNatClampNeg) :: st)) : TK Z M d bc bs S h Q pc ls (.int i :: .ref a :: st) := by
  intro g p l e R s m args below meth c QF hF hR H locs cells slots lsA hH hS hl hc hs
  obtain ⟨hd, rfl⟩ := hd
  show W p l e R s m args below meth c H locs cells slots QF (F0 m pc lsA (.int i :: .ref (adr g a) :: st.map (tv g)))
  rw [adr_lt (hH.lt ha)]
  exact va_iald (D := g.2.2.1) hF.1 hF.2.1 hF.2.2.2.2.2.2.1.1 hH.2 a 0 (by rw [ws_get ha, ent_i hk]) (tys_i g) hin hd (kk g p l e R s m args below meth c QF hF hR H locs cells slots lsA hH hS hl hc hs)
theorem T_lald {a : Nat} {i : Int32} (hd : DI M pc .laload 1 pc') (hk : kd S a = 21) (ha : a < nx S) (hin : vp_in i (ln S a)) (kk : TK Z M d bc bs S h Q pc' ls (.long (rj h a i.toNatClampNeg) :: st)) : TK Z M d bc bs S h Q pc ls (.int i :: .ref a :: st) := by
  intro g p l e R s m args below meth c QF hF hR H locs cells slots lsA hH hS hl hc hs
  obtain ⟨hd, rfl⟩ := hd
  show W p l e R s m args below meth c H locs cells slots QF (F0 m pc lsA (.int i :: .ref (adr g a) :: st.map (tv g)))
  rw [adr_lt (hH.lt ha)]
  exact va_lald (D := g.2.2.1) hF.1 hF.2.1 hF.2.2.2.2.2.2.1.1 hH.2 a 1 (by rw [ws_get ha, ent_j hk]) (tys_j g) hin hd (kk g p l e R s m args below meth c QF hF hR H locs cells slots lsA hH hS hl hc hs)
theorem T_iast {a : Nat} {i v : Int32} (hd : DI M pc .iastore 1 pc') (hk : kd S a = 20) (ha : a < nx S) (hin : vp_in i (ln S a)) (kk : TK Z M d bc bs S (sri h a i.toNatClampNeg v) Q pc' ls st) : TK Z M d bc bs S h Q pc ls (.int v :: .int i :: .ref a :: st) := by
  intro g p l e R s m args below meth c QF hF hR H locs cells slots lsA hH hS hl hc hs
  obtain ⟨hd, rfl⟩ := hd
  show W p l e R s m args below meth c H locs cells slots QF (F0 m pc lsA (.int v :: .int i :: .ref (adr g a) :: st.map (tv g)))
  rw [adr_lt (hH.lt ha)]
  exact va_iast (D := g.2.2.1) (A := a_A g) hF.1 hF.2.1 hF.2.2.2.2.2.2.1.1 hH.2 (ws_D g S h) hS a 0 (by rw [ws_get ha, ent_i hk]) (tys_i g) hin hd (fun H1 locs1 hP1 _ hS1 => kk g p l e R s m args below meth c QF hF hR H1 locs1 cells slots lsA (hH.to (by rw [ent_i hk, ri_sri]; rfl) (fun b hb => ent_sri_ne hb) hP1) hS1 hl hc hs)
theorem T_last {a : Nat} {i : Int32} {v : Int64} (hd : DI M pc .lastore 1 pc') (hk : kd S a = 21) (ha : a < nx S) (hin : vp_in i (ln S a)) (kk : TK Z M d bc bs S (srj h a i.toNatClampNeg v) Q pc' ls st) : TK Z M d bc bs S h Q pc ls (.long v :: .int i :: .ref a :: st) := by
  intro g p l e R s m args below meth c QF hF hR H locs cells slots lsA hH hS hl hc hs
  obtain ⟨hd, rfl⟩ := hd
  show W p l e R s m args below meth c H locs cells slots QF (F0 m pc lsA (.long v :: .int i :: .ref (adr g a) :: st.map (tv g)))
  rw [adr_lt (hH.lt ha)]
  exact va_last (D := g.2.2.1) (A := a_A g) hF.1 hF.2.1 hF.2.2.2.2.2.2.1.1 hH.2 (ws_D g S h) hS a 1 (by rw [ws_get ha, ent_j hk]) (tys_j g) hin hd (fun H1 locs1 hP1 _ hS1 => kk g p l e R s m args below meth c QF hF hR H1 locs1 cells slots lsA (hH.to (by rw [ent_j hk, rj_srj]; rfl) (fun b hb => ent_srj_ne hb) hP1) hS1 hl hc hs)
theorem T_aald {a k b : Nat} {i : Int32} (hd : DI M pc .aaload 1 pc') (hk : kd S a = 22 + k) (hk2 : k < 2) (ha : a < nx S) (hin : vp_in i (ln S a)) (hb : rr S a i.toNatClampNeg = some b) (kk : TK Z M d bc bs S h Q pc' ls (.ref b :: st)) : TK Z M d bc bs S h Q pc ls (.int i :: .ref a :: st) := by
  intro g p l e R s m args below meth c QF hF hR H locs cells slots lsA hH hS hl hc hs
  obtain ⟨hd, rfl⟩ := hd
  show W p l e R s m args below meth c H locs cells slots QF (F0 m pc lsA (.int i :: .ref (adr g a) :: st.map (tv g)))
  rw [adr_lt (hH.lt ha)]
  refine va_aldq (D := g.2.2.1) hF.1 hF.2.1 hF.2.2.2.2.2.2.1.1 hH.2 a (2 + k) (by rw [ws_get ha, ent_q hk]) (tys_q g hk2) hin hd ?_
  rw [hb]
  exact kk g p l e R s m args below meth c QF hF hR H locs cells slots lsA hH hS hl hc hs
theorem T_ialdS {a : Nat} {i : Int32} (hd : DI M pc .iaload 1 pc') (ha : a < 6) (hin : vp_in i (roN Z a)) (kk : TK Z M d bc bs S h Q pc' ls (.int (roC Z a i.toNatClampNeg) :: st)) : TK Z M d bc bs S h Q pc ls (.int i :: .ref (1000 + a) :: st) := by
  intro g p l e R s m args below meth c QF hF hR H locs cells slots lsA hH hS hl hc hs
  obtain ⟨hd, rfl⟩ := hd
  show W p l e R s m args below meth c H locs cells slots QF (F0 m pc lsA (.int i :: .ref (adr g (1000 + a)) :: st.map (tv g)))
  rw [adr_ro]
  exact va_ti (A := a_A g) hF.1 hF.2.1 (hF.2.2.2.2.2.2.1.2.1 a ha).2 hS hin rfl hd (kk g p l e R s m args below meth c QF hF hR H locs cells slots lsA hH hS hl hc hs)
theorem T_alenS {a : Nat} (hd : DI M pc .arraylength 1 pc') (ha : a < 6) (kk : TK Z M d bc bs S h Q pc' ls (.int (nI (roN Z a)) :: st)) : TK Z M d bc bs S h Q pc ls (.ref (1000 + a) :: st) := by
  intro g p l e R s m args below meth c QF hF hR H locs cells slots lsA hH hS hl hc hs
  obtain ⟨hd, rfl⟩ := hd
  show W p l e R s m args below meth c H locs cells slots QF (F0 m pc lsA (.ref (adr g (1000 + a)) :: st.map (tv g)))
  rw [adr_ro]
  exact va_tlen (A := a_A g) hF.1 hF.2.1 (hF.2.2.2.2.2.2.1.2.1 a ha).2 hS rfl hd (kk g p l e R s m args below meth c QF hF hR H locs cells slots lsA hH hS hl hc hs)
theorem T_alen {a : Nat} (hd : DI M pc .arraylength 1 pc') (hk : kd S a = 20) (ha : a < nx S) (kk : TK Z M d bc bs S h Q pc' ls (.int (nI (ln S a)) :: st)) : TK Z M d bc bs S h Q pc ls (.ref a :: st) := by
  intro g p l e R s m args below meth c QF hF hR H locs cells slots lsA hH hS hl hc hs
  obtain ⟨hd, rfl⟩ := hd
  show W p l e R s m args below meth c H locs cells slots QF (F0 m pc lsA (.ref (adr g a) :: st.map (tv g)))
  rw [adr_lt (hH.lt ha)]
  exact va_alen (D := g.2.2.1) (x := (ln S a, .inl (ri h a))) (v := nI (ln S a)) hF.1 hF.2.1 hF.2.2.2.2.2.2.1.1 hH.2 a 0 (by rw [ws_get ha, ent_i hk]) (tys_i g) rfl hd (kk g p l e R s m args below meth c QF hF hR H locs cells slots lsA hH hS hl hc hs)
def LnkG (own : String) (idx i : Nat) : Prop := i < 5 ∧ Cond.fieldLink own idx (stT.getD i ("", "")).1 (stT.getD i ("", "")).2 "[I" ∈ TBL
theorem T_gets {idx i : Nat} (hd : DI M pc (.getstatic idx) 3 pc') (hL : LnkG M.2.2.2.1 idx i) (kk : TK Z M d bc bs S h Q pc' ls (.ref (1000 + i) :: st)) : TK Z M d bc bs S h Q pc ls st := by
  intro g p l e R s m args below meth c QF hF hR H locs cells slots lsA hH hS hl hc hs
  obtain ⟨hd, rfl⟩ := hd
  have k2 := kk g p l e R s m args below meth c QF hF hR H locs cells slots lsA hH hS hl hc hs
  have e : (Value.ref (1000 + i) :: st).map (tv g) = .ref (g.2.1 i) :: st.map (tv g) := by
    show Value.ref (adr g (1000 + i)) :: _ = _
    rw [adr_ro]
  rw [e] at k2
  exact va_gets (A := a_A g) hF.1 hF.2.1 (hF.2.2.2.2.2.2.1.2.2.1 i hL.1) hS hF.2.2.2.1 (hF.2.2.2.2.1 _ hL.2) (fun _ q => q) hd k2
end RRULES
/-! ===== calls ===== -/
theorem KREL.moved {g : aG} {Z : aZ} {u U : State} (hvm : u.vm.Alike U.vm) (hn : ∀ w ∈ nestW, va_Nw w u → va_Nw w U) (hq : ∀ a : Nat, a < u.heap.size → ¬ a_A g a → U.heap[a]? = u.heap[a]?) (h : KREL g Z u) : KREL g Z U := by
  obtain ⟨h1, h2, h3, h4, h5, h6⟩ := h
  exact ⟨va_K.moved hvm h1, fun i hi => ⟨(h2 i hi).1, va_T.kept (va_T.moved hvm (h2 i hi).2) hq⟩, fun i hi => va_Z.kept (va_Z.moved hvm (h3 i hi)) hq, fun w hw => hn w hw (h4 w hw), va_AO.moved hvm h5, va_AO.moved hvm h6⟩
theorem nest_tab : ∀ w ∈ nestW, w.onTables = true := by decide +kernel
theorem nest_warm {s U : State} (hW : s.WarmedH U.vm) : ∀ w ∈ nestW, va_Nw w s → va_Nw w U := by
  intro w hw h
  unfold nestW at hw
  simp only [List.mem_cons, List.not_mem_nil, or_false] at hw
  rcases hw with rfl | rfl | rfl | rfl | rfl | rfl <;> exact va_Nw.warmM hW h
theorem cPc_blind (g : aG) (Z : aZ) (S : aS) (h : aH) (args : List Value) : FrameBlind (cPc g Z S h args) := by
  intro a U f mk hp
  obtain ⟨h1, h2, h3, h4, h5⟩ := hp
  exact ⟨h1, KREL.moved (u := U) (U := U.calling f mk a) (Vm.Alike.refl U.vm) (fun w hw q => va_Nw.same (u := U) (U := U.calling f mk a) (nest_tab w hw) rfl q) (fun _ _ _ => rfl) h2, h3, h4, h5⟩
theorem cPc_at {g : aG} {Z : aZ} {S : aS} {h : aH} {args : List Value} {s U : State} {H : Heap} {locs : List Loc} (hK : KREL g Z s) (hS : va_S (a_A g) s.heap H locs) (hH : HREL g S h H) (h1 : g.1 ≤ s.heap.size) (h2 : H.size ≤ g.1 + nx S) (hU : U.heap = H) (hW : s.WarmedH U.vm) : cPc g Z S h args (args.map (tv g)).toArray U := by
  refine ⟨rfl, KREL.moved hW.alike (nest_warm hW) (fun a ha hn => by rw [hU]; exact hS.2.1 a ha hn) hK, by rw [hU]; exact hH, ?_, by rw [hU]; exact h2⟩
  rw [hU]
  exact Nat.le_trans h1 hS.1
section CRULES
variable {Z : aZ} {M : MD} {d bc bs pc pc' tgt : Nat} {ls st : List Value} {S : aS} {h : aH} {Q : Option Value → aS → aH → Prop}
/-- behind a call -/
theorem W_ran {g : aG} {p : Program} {l : Launch} {e : Env} {R : Room} {s : State} {m : MethodId} {args : Array Value} {below : List Frame} {meth : Method} {c : Code} {QF : State → Prop} {H : Heap} {locs : List Loc} {cells slots mc ms : Nat} {lsA : Array Slot} {st0 : List Value} {a : Array Value} {Q2 : Option Value → aS → aH → Prop}
    (hr : H.size ≤ s.heap.size + cells → va_Run p l e R s m args below meth c H locs cells slots mc ms (F0 m pc lsA st0) (st.map (tv g)) (cQc g (nx S + mc) Q2 a) (a_A g)) (hF : FR g Z M d p R s m args meth c) (hR : RET g M Q p l e R s m args below meth c QF) (hH : HREL g S h H) (hS : va_S (a_A g) s.heap H locs) (hl : lv_has lsA M.2.1 (a_lvl g ls)) (hc : cells + bc ≤ R.cells ∧ s.heap.size + cells ≤ g.1 + nx S) (hs : slots + bs ≤ R.slots) (hb : mc ≤ bc ∧ ms ≤ bs)
    (k : ∀ r S' h', Q2 r S' h' → TK Z M d (bc - mc) (bs - ms) S' h' Q (pc + 3) ls (r.toList ++ st)) : W p l e R s m args below meth c H locs cells slots QF (F0 m pc lsA st0) := by
  intro T hT X
  obtain ⟨v, st₀, t, T', L, h0, X', hL, e1, e2, ⟨⟨r, S', h', hv, ⟨hq, hn⟩, hH'⟩, hz, hk⟩, stp⟩ := hr (by have := X.heapSize; rw [hT] at this; exact this) T hT X
  cases hv
  rw [h0] at hz hk
  have hS' : va_S (a_A g) s.heap T'.heap (locs ++ L) := ⟨Nat.le_trans hS.1 (by rw [e1]; exact hz), fun q h1 h2 => by rw [e1, hk q (Nat.lt_of_lt_of_le h1 hS.1) h2]; exact hS.2.1 q h1 h2, fun q hq => by
      rcases List.mem_append.mp hq with h | h
      · exact hS.2.2 q h
      · exact hL q h⟩
  have kk := k r S' h' hq g p l e R s m args below meth c QF hF hR T'.heap (locs ++ L) (cells + mc) (slots + ms) lsA (by rw [e1]; exact hH') hS' hl ⟨by omega, by omega⟩ (by omega) T' rfl X'
  obtain ⟨t2, a1, b1⟩ := kk
  refine ⟨t2, stp t2 ?_, b1⟩
  have e3 : (r.toList ++ st).map (tv g) = (r.map (tv g)).toList ++ st.map (tv g) := by
    rw [List.map_append]
    cases r <;> rfl
  rw [e3] at a1
  exact a1
theorem cat_sum (g : aG) (st : List Value) : ((st.map (tv g)).map fun v => v.category).sum = (st.map fun v => v.category).sum := by
  rw [List.map_map]
  congr 1
  exact List.map_congr_left (fun v _ => tv_cat g v)
theorem mok_room {M2 : MD} {d mc ms : Nat} {R : Room} (hM : MOK M2) (h1 : d + 1 + 2 ≤ R.frames) (h2 : 40 * (d + 1) + 60 ≤ R.locals) : (rmOf d mc ms).frames + 1 ≤ R.frames ∧ 8 + (M2.2.1 + 11) + (rmOf d mc ms).locals ≤ R.locals := by
  have := hM.2.2.2.1
  refine ⟨?_, ?_⟩
  · show d + 2 + 1 ≤ _; omega
  · show 8 + (M2.2.1 + 11) + (40 * d + 60) ≤ _; omega
theorem T_callV {idx n ci a mc ms : Nat} {M2 : MD} {As : List Value} {st0 : List Value} {Q2 : Option Value → aS → aH → Prop} (hd : DI M pc (.invokevirtual idx) 3 pc') (hL : LnkV M.2.2.2.1 idx M2 ci n) (hn : As.length = n) (hst : st0 = As.reverse ++ .ref a :: st) (hk : kd S a = ci) (ha : a < nx S) (hr : (st.map fun v => v.category).sum ≤ 8) (hb : mc ≤ bc ∧ ms ≤ bs) (hC : CM Z M2 d mc ms (.ref a :: As) S h Q2) (k : ∀ r S' h', Q2 r S' h' → TK Z M (d + 1) (bc - mc) (bs - ms) S' h' Q pc' ls (r.toList ++ st)) : TK Z M (d + 1) bc bs S h Q pc ls st0 := by
  intro g p l e R s m args below meth c QF hF hR H locs cells slots lsA hH hS hl hc hs
  obtain ⟨hd, rfl⟩ := hd
  subst hst
  obtain ⟨hci, w1, w2, w3, w4, w5, hM⟩ := hL
  obtain ⟨f1, f2, f3, f4, f5, f6, f7, f8, f9, f10⟩ := id hF
  have hrm := mok_room (mc := mc) (ms := ms) hM f9 f10
  obtain ⟨fs, e1, -, -⟩ : ∃ fs, (a_ws g S h)[a]? = some (g.1 + a, .inr (ci, fs)) ∧ True ∧ True := ⟨_, by rw [ws_get ha, ent_obj hk hci], trivial, trivial⟩
  refine W_ran (Q2 := Q2) (mc := mc) (ms := ms) (a := ((Value.ref a :: As).map (tv g)).toArray) (fun hz => ?_) hF hR hH hS hl hc hs hb k
  have hsk : ((As.reverse ++ .ref a :: st).map (tv g)) = (As.map (tv g)).reverse ++ .ref (g.1 + a) :: st.map (tv g) := by
    rw [List.map_append, List.map_reverse]
    show _ ++ Value.ref (adr g a) :: _ = _
    rw [adr_lt (hH.lt ha)]
  have e2 : (Value.ref a :: As).map (tv g) = .ref (g.1 + a) :: As.map (tv g) := by
    show Value.ref (adr g a) :: _ = _
    rw [adr_lt (hH.lt ha)]
  rw [e2]
  exact va_runV (l := l) (below := below) (H := H) (locs := locs) (cells := cells) (slots := slots) (As := As.map (tv g)) (rest := st.map (tv g)) (b := g.1 + a) (g := F0 m pc lsA ((As.reverse ++ .ref a :: st).map (tv g))) (Ts := TBL) (own := M.2.2.2.1) (C := c_C ci) (index := idx) (ws := M_ws M2) (bytes := M2.1) (maxL := M2.2.1) (ret := M2.2.2.1) (y := M2.2.2.2.2) (cc := M.1) (nL := M.2.1) (n := n) (rm := rmOf d mc ms) (mc := mc) (ms := ms)
    ⟨f1, f2, f3, f4, f5⟩ (hC g l) ⟨callB_of n f5 hM.good rfl rfl rfl (f5 _ hM.2.1) (f5 _ w1) ⟨hM.2.2.2.2.2.1, hM.2.2.2.2.2.2, w5⟩ hrm, f5 _ w2, f5 _ w3⟩
    ⟨cPc_blind _ _ _ _ _, va_recv f7.1 hH.2 (c_at hci) e1, fun U hU hW => by
      have := cPc_at (args := .ref a :: As) f7 hS hH f8 (Nat.le_trans hz hc.2) hU hW
      have e2 : (Value.ref a :: As).map (tv g) = .ref (g.1 + a) :: As.map (tv g) := by
        show Value.ref (adr g a) :: _ = _
        rw [adr_lt (hH.lt ha)]
      rwa [e2] at this⟩ rfl (by rw [List.length_map]; exact hn) (hl.1) hsk (lv_room (by rw [cat_sum]; exact hr)) hd ⟨by omega, by omega⟩
theorem T_callS {idx n mc ms : Nat} {M2 : MD} {As : List Value} {st0 : List Value} {Q2 : Option Value → aS → aH → Prop} (hd : DI M pc (.invokestatic idx) 3 pc') (hL : LnkS M.2.2.2.1 idx M2 n) (hn : As.length = n) (hst : st0 = As.reverse ++ st) (hr : (st.map fun v => v.category).sum ≤ 8) (hb : mc ≤ bc ∧ ms ≤ bs) (hC : CM Z M2 d mc ms As S h Q2) (k : ∀ r S' h', Q2 r S' h' → TK Z M (d + 1) (bc - mc) (bs - ms) S' h' Q pc' ls (r.toList ++ st)) : TK Z M (d + 1) bc bs S h Q pc ls st0 := by
  intro g p l e R s m args below meth c QF hF hR H locs cells slots lsA hH hS hl hc hs
  obtain ⟨hd, rfl⟩ := hd
  subst hst
  obtain ⟨w1, w2, w5, hM⟩ := hL
  obtain ⟨f1, f2, f3, f4, f5, f6, f7, f8, f9, f10⟩ := id hF
  have hrm := mok_room (mc := mc) (ms := ms) hM f9 f10
  refine W_ran (Q2 := Q2) (mc := mc) (ms := ms) (a := (As.map (tv g)).toArray) (fun hz => ?_) hF hR hH hS hl hc hs hb k
  exact va_runS (l := l) (below := below) (H := H) (locs := locs) (cells := cells) (slots := slots) (As := As.map (tv g)) (rest := st.map (tv g)) (g := F0 m pc lsA ((As.reverse ++ st).map (tv g))) (Ts := TBL) (own := M.2.2.2.1) (index := idx) (ws := M_ws M2) (bytes := M2.1) (maxL := M2.2.1) (ret := M2.2.2.1) (y := M2.2.2.2.2) (cc := M.1) (nL := M.2.1) (n := n) (rm := rmOf d mc ms) (mc := mc) (ms := ms)
    ⟨f1, f2, f3, f4, f5⟩ (hC g l) ⟨callB_of n f5 hM.good rfl rfl rfl (f5 _ hM.2.1) (f5 _ w1) ⟨hM.2.2.2.2.2.1, hM.2.2.2.2.2.2, w5⟩ hrm, f5 _ w2⟩
    ⟨cPc_blind _ _ _ _ _, fun U hU hW => cPc_at f7 hS hH f8 (Nat.le_trans hz hc.2) hU hW⟩ rfl (by rw [List.length_map]; exact hn) (hl.1) (by rw [List.map_append, List.map_reverse]) (lv_room (by rw [cat_sum]; exact hr)) hd ⟨by omega, by omega⟩
theorem T_callI {idx n a mc ms : Nat} {M2 : MD} {As : List Value} {st0 : List Value} {Q2 : Option Value → aS → aH → Prop} (hd : DI M pc (.invokespecial idx) 3 pc') (hL : LnkI M.2.2.2.1 idx M2 n) (hn : As.length = n) (hst : st0 = As.reverse ++ .ref a :: st) (ha : a < nx S) (hr : (st.map fun v => v.category).sum ≤ 8) (hb : mc ≤ bc ∧ ms ≤ bs) (hC : CM Z M2 d mc ms (.ref a :: As) S h Q2) (k : ∀ r S' h', Q2 r S' h' → TK Z M (d + 1) (bc - mc) (bs - ms) S' h' Q pc' ls (r.toList ++ st)) : TK Z M (d + 1) bc bs S h Q pc ls st0 := by
  intro g p l e R s m args below meth c QF hF hR H locs cells slots lsA hH hS hl hc hs
  obtain ⟨hd, rfl⟩ := hd
  subst hst
  obtain ⟨w1, w2, w3, w4, w5, hM⟩ := hL
  obtain ⟨f1, f2, f3, f4, f5, f6, f7, f8, f9, f10⟩ := id hF
  have hrm := mok_room (mc := mc) (ms := ms) hM f9 f10
  obtain ⟨by2, nL2, ret2, own2, y2⟩ := M2
  dsimp only at w4
  subst w4
  refine W_ran (Q2 := Q2) (mc := mc) (ms := ms) (a := ((Value.ref a :: As).map (tv g)).toArray) (fun hz => ?_) hF hR hH hS hl hc hs hb k
  have hsk : ((As.reverse ++ .ref a :: st).map (tv g)) = (As.map (tv g)).reverse ++ .ref (g.1 + a) :: st.map (tv g) := by
    rw [List.map_append, List.map_reverse]
    show _ ++ Value.ref (adr g a) :: _ = _
    rw [adr_lt (hH.lt ha)]
  have e2 : (Value.ref a :: As).map (tv g) = .ref (g.1 + a) :: As.map (tv g) := by
    show Value.ref (adr g a) :: _ = _
    rw [adr_lt (hH.lt ha)]
  have hp : PreS s H (cPc g Z S h (.ref a :: As)) (.ref (g.1 + a) :: As.map (tv g)) := ⟨cPc_blind _ _ _ _ _, fun U hU hW => by
      have := cPc_at (args := .ref a :: As) f7 hS hH f8 (Nat.le_trans hz hc.2) hU hW
      rwa [e2] at this⟩
  rw [e2]
  rcases w1 with w1 | ⟨ho, w1⟩
  · exact va_runI (l := l) (below := below) (H := H) (locs := locs) (cells := cells) (slots := slots) (As := As.map (tv g)) (rest := st.map (tv g)) (b := g.1 + a) (g := F0 m pc lsA ((As.reverse ++ .ref a :: st).map (tv g))) (Ts := TBL) (own := M.2.2.2.1) (index := idx) (ws := M_ws (by2, nL2, none, own2, y2)) (bytes := by2) (maxL := nL2) (y := y2) (cc := M.1) (nL := M.2.1) (n := n) (rm := rmOf d mc ms) (mc := mc) (ms := ms)
      ⟨f1, f2, f3, f4, f5⟩ (hC g l) ⟨callB_of n f5 hM.good rfl rfl rfl (f5 _ hM.2.1) (f5 _ w1) ⟨hM.2.2.2.2.2.1, hM.2.2.2.2.2.2, w5⟩ hrm, w3, f5 _ w2⟩ hp rfl (by rw [List.length_map]; exact hn) (hl.1) hsk (lv_room (by rw [cat_sum]; exact hr)) hd ⟨by omega, by omega⟩
  · rw [ho] at f4
    exact va_runIN (l := l) (below := below) (H := H) (locs := locs) (cells := cells) (slots := slots) (As := As.map (tv g)) (rest := st.map (tv g)) (b := g.1 + a) (g := F0 m pc lsA ((As.reverse ++ .ref a :: st).map (tv g))) (Ts := TBL) (own := RX10) (host := "DrownedLight") (index := idx) (ws := M_ws (by2, nL2, none, own2, y2)) (bytes := by2) (maxL := nL2) (y := y2) (cc := M.1) (nL := M.2.1) (n := n) (rm := rmOf d mc ms) (mc := mc) (ms := ms)
      ⟨f1, f2, f3, f4, f5⟩ (hC g l) ⟨va_cnB n f5 hM.good rfl rfl rfl (f7.2.2.2.1 _ (by rw [ho] at w1; exact w1)) (f5 _ hM.2.1) ⟨hM.2.2.2.2.2.1, hM.2.2.2.2.2.2, w5⟩ hrm, w3, f5 _ w2⟩ hp rfl (by rw [List.length_map]; exact hn) (hl.1) hsk (lv_room (by rw [cat_sum]; exact hr)) hd ⟨by omega, by omega⟩
end CRULES
