/-! ===== makings, final fields, copies, Math ===== -/
def sNew (S : aS) (ci : Nat) : aS := (va_up S.1 (nx S) ci, S.2.1, va_up S.2.2.1 (nx S) (fun _ => none), S.2.2.2.1, nx S + 1)
def sArr (S : aS) (k n : Nat) : aS := (va_up S.1 (nx S) k, va_up S.2.1 (nx S) n, S.2.2.1, va_up S.2.2.2.1 (nx S) (fun _ => none), nx S + 1)
def hNew (h : aH) (n : Nat) : aH := (va_up h.1 n (fun _ => 0), h.2.1, h.2.2)
def hArr (h : aH) (n : Nat) : aH := (h.1, va_up h.2.1 n (fun _ => 0), va_up h.2.2 n (fun _ => 0))
def sfr (S : aS) (a k b : Nat) : aS := (S.1, S.2.1, va_up S.2.2.1 a (va_up (S.2.2.1 a) k (some b)), S.2.2.2.1, S.2.2.2.2)
def srr (S : aS) (a k b : Nat) : aS := (S.1, S.2.1, S.2.2.1, va_up S.2.2.2.1 a (va_up (S.2.2.2.1 a) k (some b)), S.2.2.2.2)
theorem ws_push {g : aG} {S S' : aS} {h h' : aH} (hn : nx S' = nx S + 1) (hs : ∀ b, b < nx S → a_ent g S' h' b = a_ent g S h b) : a_ws g S' h' = a_ws g S h ++ [(g.1 + nx S, a_ent g S' h' (nx S))] := by
  unfold a_ws
  rw [hn, List.range_succ, List.map_append]
  congr 1
  exact List.map_congr_left (fun b hb => by rw [hs b (List.mem_range.mp hb)])
theorem map_ref {g : aG} {a : Nat} {st : List Value} (h : a < 1000) : (Value.ref a :: st).map (tv g) = .ref (g.1 + a) :: st.map (tv g) := by
  show Value.ref (adr g a) :: _ = _
  rw [adr_lt h]
theorem ws_last {g : aG} {S : aS} {h : aH} {x : Nat × va_E} : (a_ws g S h ++ [x])[nx S]? = some x := by
  have hl : (a_ws g S h).length = nx S := by unfold a_ws; simp
  rw [List.getElem?_append_right (by omega), hl, Nat.sub_self]
  rfl
theorem new_at {g : aG} {S : aS} {h : aH} {A : Nat → Prop} {q n : Nat} {e : va_E} (hA : ∀ q, A q → g.1 ≤ q) (hD : va_D A (a_ws g S h ++ [(q, e)])) (hq : q < n) (hn : n ≤ g.1 + nx S + 1) : q = g.1 + nx S := by
  have hl : (a_ws g S h).length = nx S := by unfold a_ws; simp
  have h1 : (a_ws g S h ++ [(q, e)])[nx S]? = some (q, e) := by rw [List.getElem?_append_right (by omega), hl, Nat.sub_self]; rfl
  have h2 : g.1 ≤ q := hA q (hD.2 _ _ h1)
  rcases Nat.lt_or_ge q (g.1 + nx S) with h3 | h3
  · have h4 : q - g.1 < nx S := by omega
    have h5 : (a_ws g S h ++ [(q, e)])[q - g.1]? = some (g.1 + (q - g.1), a_ent g S h (q - g.1)) := by rw [List.getElem?_append_left (by omega)]; exact ws_get h4
    have h6 := hD.1 _ _ _ _ h5 h1 (by show g.1 + (q - g.1) = q; omega)
    omega
  · omega
theorem c_def {ci : Nat} (h : ci < 12) : ∀ k, k < a_N ci → defaultValue (a_fty ci k) = if isRefTy (a_fty ci k) = true then .null else .int 0 := by
  have key : ∀ ci, ci < 12 → ∀ k, k < a_N ci → defaultValue (a_fty ci k) = if isRefTy (a_fty ci k) = true then .null else .int 0 := by decide +kernel
  exact key ci h
def LnkN (own : String) (idx ci : Nat) : Prop := ci < 12 ∧ Cond.classLink own idx (c_C ci) ∈ TBL ∧ Cond.instantiable (c_C ci) (a_N ci) ∈ TBL ∧ Cond.initialized (c_C ci) ∈ TBL
def LnkO (own : String) (idx : Nat) : Prop := Cond.methodLink own idx objectInit ∈ TBL ∧ Cond.instanceMethod objectInit ∈ TBL ∧ Cond.code objectInit ⟨#[0xb1]⟩ 1 none ∈ TBL
def LnkC (own : String) (idx : Nat) : Prop := Cond.methodLink own idx arraycopyName ∈ TBL ∧ Cond.native arraycopyName ∈ TBL ∧ Cond.static arraycopyName ∈ TBL ∧ Cond.initialized "java/lang/System" ∈ TBL
section MRULES
variable {Z : aZ} {M : MD} {d bc bs pc pc' tgt : Nat} {ls st : List Value} {S : aS} {h : aH} {Q : Option Value → aS → aH → Prop}
theorem T_new {idx ci : Nat} (hd : DI M pc (.new idx) 3 pc') (hL : LnkN M.2.2.2.1 idx ci) (hn : nx S + 1 ≤ 1000) (kk : TK Z M d bc bs (sNew S ci) (hNew h (nx S)) Q pc' ls (.ref (nx S) :: st)) : TK Z M d (bc + 1) (bs + a_N ci) S h Q pc ls st := by
  intro g p l e R s m args below meth c QF hF hR H locs cells slots lsA hH hS hl hc hs
  obtain ⟨hd, rfl⟩ := hd
  obtain ⟨hci, w1, w2, w3⟩ := hL
  have hA : ∀ q, s.heap.size ≤ q → a_A g q := fun q hq => Nat.le_trans hF.2.2.2.2.2.2.2.1 hq
  refine va_new (D := g.2.2.1) (A := a_A g) (ci := ci) (fs := (List.range (a_N ci)).map (fun k => if isRefTy (a_fty ci k) = true then Value.null else .int 0)) hF.1 hF.2.1 hF.2.2.2.2.1 (c_in hci) (a_fty ci) (c_ty hci) hF.2.2.2.1 (hF.2.2.2.2.1 _ w1) (hF.2.2.2.2.1 _ w2) (hF.2.2.2.2.1 _ w3) hF.2.2.2.2.2.2.1.1 hH.2 (ws_D g S h) hS hA (c_at hci) (fun j hj => ?_) (by omega) (by omega) hd (fun q H1 hP hD hS1 => ?_)
  · rw [c_def hci j hj]
    unfold vp_V
    rw [List.getD_eq_getElem?_getD, List.getElem?_map, List.getElem?_range hj]
    rfl
  · intro T hT X
    have hz := X.heapSize
    rw [hT] at hz
    have hq := new_at (g := g) (S := S) (h := h) (A := a_A g) (fun q hq => hq) hD (va_at.lt (hP (nx S) _ ws_last)) (show H1.size ≤ g.1 + nx S + 1 by omega)
    subst hq
    have hkd : ∀ b, b < nx S → a_ent g (sNew S ci) (hNew h (nx S)) b = a_ent g S h b := by
      intro b hb
      have hne : b ≠ nx S := Nat.ne_of_lt hb
      unfold a_ent a_fv kd ln fr rr fi ri rj sNew hNew
      simp only [va_up_ne _ _ hne]
    have hnew : a_ent g (sNew S ci) (hNew h (nx S)) (nx S) = .inr (ci, (List.range (a_N ci)).map (fun k => if isRefTy (a_fty ci k) = true then Value.null else .int 0)) := by
      have hk : kd (sNew S ci) (nx S) = ci := by unfold kd sNew; simp only [va_up_self]
      rw [ent_obj hk hci]
      congr 2
      apply List.map_congr_left
      intro k _
      unfold a_fv
      rw [hk]
      unfold fr fi sNew hNew
      simp only [va_up_self]
      rfl
    have k2 := kk g p l e R s m args below meth c QF hF hR H1 locs (cells + 1) (slots + a_N ci) lsA ⟨hn, by rw [ws_push (S := S) (h := h) rfl hkd, hnew]; exact hP⟩ hS1 hl ⟨by omega, by show s.heap.size + (cells + 1) ≤ g.1 + (nx S + 1); omega⟩ (by omega)
    rw [map_ref (show nx S < 1000 by omega)] at k2
    exact k2 T hT X
  
theorem T_newa {at_ : ArrayType} {n : Int32} {N k : Nat} (hd : DI M pc (.newarray at_) 2 pc') (hat : (at_ = .int ∧ k = 20) ∨ (at_ = .long ∧ k = 21)) (hN : n = nI N) (hNb : N ≤ 2000) (hw : Cond.arrayClass .int ∈ TBL ∧ Cond.arrayClass .long ∈ TBL) (hn : nx S + 1 ≤ 1000) (kk : TK Z M d bc bs (sArr S k N) (hArr h (nx S)) Q pc' ls (.ref (nx S) :: st)) : TK Z M d (bc + 1) (bs + N) S h Q pc ls (.int n :: st) := by
  intro g p l e R s m args below meth c QF hF hR H locs cells slots lsA hH hS hl hc hs
  obtain ⟨hd, rfl⟩ := hd
  subst hN
  have hA : ∀ q, s.heap.size ≤ q → a_A g q := fun q hq => Nat.le_trans hF.2.2.2.2.2.2.2.1 hq
  have hK := hF.2.2.2.2.2.2.1.1
  have hkd : ∀ b, b < nx S → a_ent g (sArr S k N) (hArr h (nx S)) b = a_ent g S h b := by
    intro b hb
    have hne : b ≠ nx S := Nat.ne_of_lt hb
    unfold a_ent a_fv kd ln fr rr fi ri rj sArr hArr
    simp only [va_up_ne _ _ hne]
  have hk : kd (sArr S k N) (nx S) = k := by unfold kd sArr; simp only [va_up_self]
  have hln : ln (sArr S k N) (nx S) = N := by unfold ln sArr; simp only [va_up_self]
  rcases hat with ⟨rfl, rfl⟩ | ⟨rfl, rfl⟩
  · refine va_newa (D := g.2.2.1) (A := a_A g) (atype := .int) (N' := N) (a0 := (N, .inl (fun _ => 0))) (ty := .int) hF.1 hF.2.1 (hF.2.2.2.2.1 _ hw.1) rfl hK hH.2 (ws_D g S h) hS hA (fun cA => rfl) (nI_pos (by omega)) (nI_clamp (by omega)) (by show N * 4 ≤ _; omega) (by omega) (by omega) hd (fun q cA H1 hK1 hP hD hS1 => ?_)
    intro T hT X
    have hz := X.heapSize
    rw [hT] at hz
    have hq := new_at (g := g) (S := S) (h := h) (A := a_A g) (fun q hq => hq) hD (va_at.lt (hP (nx S) _ ws_last)) (show H1.size ≤ g.1 + nx S + 1 by omega)
    subst hq
    have hcA : cA = g.2.2.2 0 := by
      have r1 := (hK1.2 4 (cA, .int) rfl).2
      have r2 := (hK.2 0 _ rfl).2
      exact Option.some.inj (r1.symm.trans r2)
    subst hcA
    have hnew : a_ent g (sArr S 20 N) (hArr h (nx S)) (nx S) = .inl (g.2.2.2 0, (N, .inl (fun _ => 0))) := by
      rw [ent_i hk, hln]
      unfold ri hArr
      simp only [va_up_self]
    have k2 := kk g p l e R s m args below meth c QF hF hR H1 locs (cells + 1) (slots + N) lsA ⟨hn, by rw [ws_push (S := S) (h := h) rfl hkd, hnew]; exact hP⟩ hS1 hl ⟨by omega, by show s.heap.size + (cells + 1) ≤ g.1 + (nx S + 1); omega⟩ (by omega)
    rw [map_ref (show nx S < 1000 by omega)] at k2
    exact k2 T hT X
  · refine va_newa (D := g.2.2.1) (A := a_A g) (atype := .long) (N' := N) (a0 := (N, .inr (.inl (fun _ => 0)))) (ty := .long) hF.1 hF.2.1 (hF.2.2.2.2.1 _ hw.2) rfl hK hH.2 (ws_D g S h) hS hA (fun cA => rfl) (nI_pos (by omega)) (nI_clamp (by omega)) (by show N * 8 ≤ _; omega) (by omega) (by omega) hd (fun q cA H1 hK1 hP hD hS1 => ?_)
    intro T hT X
    have hz := X.heapSize
    rw [hT] at hz
    have hq := new_at (g := g) (S := S) (h := h) (A := a_A g) (fun q hq => hq) hD (va_at.lt (hP (nx S) _ ws_last)) (show H1.size ≤ g.1 + nx S + 1 by omega)
    subst hq
    have hcA : cA = g.2.2.2 1 := by
      have r1 := (hK1.2 4 (cA, .long) rfl).2
      have r2 := (hK.2 1 _ rfl).2
      exact Option.some.inj (r1.symm.trans r2)
    subst hcA
    have hnew : a_ent g (sArr S 21 N) (hArr h (nx S)) (nx S) = .inl (g.2.2.2 1, (N, .inr (.inl (fun _ => 0)))) := by
      rw [ent_j hk, hln]
      unfold rj hArr
      simp only [va_up_self]
    have k2 := kk g p l e R s m args below meth c QF hF hR H1 locs (cells + 1) (slots + N) lsA ⟨hn, by rw [ws_push (S := S) (h := h) rfl hkd, hnew]; exact hP⟩ hS1 hl ⟨by omega, by show s.heap.size + (cells + 1) ≤ g.1 + (nx S + 1); omega⟩ (by omega)
    rw [map_ref (show nx S < 1000 by omega)] at k2
    exact k2 T hT X
theorem T_newq {idx k N : Nat} {n : Int32} (hd : DI M pc (.anewarray idx) 3 pc') (hk2 : k < 2) (hL : Cond.classLink M.2.2.2.1 idx (qC k) ∈ TBL) (hN : n = nI N) (hNb : N ≤ 2000) (hn : nx S + 1 ≤ 1000) (kk : TK Z M d bc bs (sArr S (22 + k) N) (hArr h (nx S)) Q pc' ls (.ref (nx S) :: st)) : TK Z M d (bc + 1) (bs + N) S h Q pc ls (.int n :: st) := by
  intro g p l e R s m args below meth c QF hF hR H locs cells slots lsA hH hS hl hc hs
  obtain ⟨hd, rfl⟩ := hd
  subst hN
  have hA : ∀ q, s.heap.size ≤ q → a_A g q := fun q hq => Nat.le_trans hF.2.2.2.2.2.2.2.1 hq
  have hK := hF.2.2.2.2.2.2.1.1
  have hkd : ∀ b, b < nx S → a_ent g (sArr S (22 + k) N) (hArr h (nx S)) b = a_ent g S h b := by
    intro b hb
    have hne : b ≠ nx S := Nat.ne_of_lt hb
    unfold a_ent a_fv kd ln fr rr fi ri rj sArr hArr
    simp only [va_up_ne _ _ hne]
  have hk : kd (sArr S (22 + k) N) (nx S) = 22 + k := by unfold kd sArr; simp only [va_up_self]
  have hln : ln (sArr S (22 + k) N) (nx S) = N := by unfold ln sArr; simp only [va_up_self]
  have hov : va_AO (qC k) s := by
    rcases (show k = 0 ∨ k = 1 by omega) with rfl | rfl
    · exact hF.2.2.2.2.2.2.1.2.2.2.2.1
    · exact hF.2.2.2.2.2.2.1.2.2.2.2.2
  refine va_newq (D := g.2.2.1) (A := a_A g) (N' := N) hF.1 hF.2.1 hF.2.2.2.1 (hF.2.2.2.2.1 _ hL) hov hK hH.2 (ws_D g S h) hS hA (nI_pos (by omega)) (nI_clamp (by omega)) (by omega) (by omega) (by omega) hd (fun q cA H1 hK1 hP hD hS1 => ?_)
  intro T hT X
  have hz := X.heapSize
  rw [hT] at hz
  have hq := new_at (g := g) (S := S) (h := h) (A := a_A g) (fun q hq => hq) hD (va_at.lt (hP (nx S) _ ws_last)) (show H1.size ≤ g.1 + nx S + 1 by omega)
  subst hq
  have hcA : cA = g.2.2.2 (2 + k) := by
    obtain ⟨_, _, _, _, _, r1⟩ := (hK1.2 4 (cA, .object (qC k)) rfl).2
    obtain ⟨_, _, _, _, _, r2⟩ := (hK.2 (2 + k) _ (tys_q g hk2)).2
    exact Option.some.inj (r1.symm.trans r2)
  subst hcA
  have hnew : a_ent g (sArr S (22 + k) N) (hArr h (nx S)) (nx S) = .inl (g.2.2.2 (2 + k), (N, .inr (.inr (.inr (.inr (fun _ => none)))))) := by
    rw [ent_q hk, hln]
    unfold rr sArr
    simp only [va_up_self]
    rfl
  have k2 := kk g p l e R s m args below meth c QF hF hR H1 locs (cells + 1) (slots + N) lsA ⟨hn, by rw [ws_push (S := S) (h := h) rfl hkd, hnew]; exact hP⟩ hS1 hl ⟨by omega, by show s.heap.size + (cells + 1) ≤ g.1 + (nx S + 1); omega⟩ (by omega)
  rw [map_ref (show nx S < 1000 by omega)] at k2
  exact k2 T hT X
theorem HREL.to2 {g : aG} {S S' : aS} {h : aH} {H H1 : Heap} {a : Nat} {e : va_E} (hn : nx S' = nx S) (hH : HREL g S h H) (he : a_ent g S' h a = e) (hne : ∀ b, b ≠ a → a_ent g S' h b = a_ent g S h b) (hP : va_P g.2.2.1 vwCl ((a_ws g S h).set a (g.1 + a, e)) H1) : HREL g S' h H1 := by
  refine ⟨by rw [hn]; exact hH.1, ?_⟩
  have : (a_ws g S h).set a (g.1 + a, a_ent g S' h a) = a_ws g S' h := by
    apply List.ext_getElem?
    intro b
    by_cases hb : b < nx S
    · rw [ws_get (S := S') (by rw [hn]; exact hb)]
      by_cases hab : b = a
      · subst hab
        rw [List.getElem?_set_self (by unfold a_ws; simpa using hb)]
      · rw [List.getElem?_set_ne (Ne.symm hab), ws_get hb, hne b hab]
    · have h1 : (a_ws g S' h).length ≤ b := by unfold a_ws; rw [hn]; simpa using hb
      have h2 : ((a_ws g S h).set a (g.1 + a, a_ent g S' h a)).length ≤ b := by rw [List.length_set]; unfold a_ws; simpa using hb
      rw [List.getElem?_eq_none h1, List.getElem?_eq_none h2]
  rw [← this, he]
  exact hP
theorem T_putF {idx ci k a b : Nat} (hd : DI M pc (.putfield idx) 3 pc') (hL : LnkF M.2.2.2.1 idx ci k) (ht : isRefTy (a_fty ci k) = true) (hfin : (c_T ci k).2.2.2 = true) (hin : M.2.2.2.2.name = "<init>" ∧ c_C ci = M.2.2.2.1) (hk : kd S a = ci) (ha : a < nx S) (kk : TK Z M d bc bs (sfr S a k b) h Q pc' ls st) : TK Z M d bc bs S h Q pc ls (.ref b :: .ref a :: st) := by
  intro g p l e R s m args below meth c QF hF hR H locs cells slots lsA hH hS hl hc hs
  obtain ⟨hd, rfl⟩ := hd
  obtain ⟨hci, hkn, hln⟩ := hL
  obtain ⟨fs, e1, e2, e3⟩ := obj_get (g := g) (h := h) hk hci hkn ha
  show W p l e R s m args below meth c H locs cells slots QF (F0 m pc lsA (.ref (adr g b) :: .ref (adr g a) :: st.map (tv g)))
  rw [adr_lt (hH.lt ha)]
  have hnf : narrow (a_fty ci k) (.ref (adr g b)) = .ref (adr g b) ∧ fits (a_fty ci k) (.ref (adr g b)) = true := by
    cases hty : a_fty ci k <;> rw [hty] at ht <;> first | (exact ⟨rfl, rfl⟩) | (cases ht)
  refine va_putF (D := g.2.2.1) (A := a_A g) hF.1 hF.2.1 hF.2.2.2.2.1 (c_in hci) (a_fty ci) (c_ty hci) (c_nm hci) hF.2.2.2.1 hF.2.2.2.2.2.2.1.1 hH.2 (ws_D g S h) hS a e1 (c_at hci) k hkn (hF.2.2.2.2.1 _ hln) (fun _ q => q) hfin (by rw [hF.2.2.2.2.2.1]; exact hin.1) ((c_own hci k hkn).trans hin.2) (c_ty hci k hkn) hnf.1 hnf.2 (by rw [e3]; simpa using hkn) hd (fun H1 locs1 hP1 hD1 hS1 => ?_)
  refine kk g p l e R s m args below meth c QF hF hR H1 locs1 cells slots lsA (HREL.to2 (S := S) (S' := sfr S a k b) rfl hH ?_ (fun b2 hb => ?_) hP1) hS1 hl hc hs
  · have hk' : kd (sfr S a k b) a = ci := hk
    rw [ent_obj hk' hci, e3]
    subst hk
    have ev : a_fv g (sfr S a k b) h a k = .ref (adr g b) := by
      refine a_fv_ref ht ?_
      unfold fr sfr
      simp only [va_up_self]
    rw [← ev, range_map_set (a_fv g S h a) (a_fv g (sfr S a k b) h a)]
    intro j _ hj
    unfold a_fv kd fr sfr
    simp only [va_up_self, va_up_ne _ _ hj]
  · unfold a_ent a_fv kd ln fr rr sfr
    simp only [va_up_ne _ _ hb]
theorem T_aast {a b k ci : Nat} {i : Int32} (hd : DI M pc .aastore 1 pc') (hk : kd S a = 22 + k) (hk2 : k < 2) (ha : a < nx S) (hb : b < nx S) (hkb : kd S b = ci) (hci : ci < 12) (hcq : c_C ci = qC k) (hin : vp_in i (ln S a)) (kk : TK Z M d bc bs (srr S a i.toNatClampNeg b) h Q pc' ls st) : TK Z M d bc bs S h Q pc ls (.ref b :: .int i :: .ref a :: st) := by
  intro g p l e R s m args below meth c QF hF hR H locs cells slots lsA hH hS hl hc hs
  obtain ⟨hd, rfl⟩ := hd
  show W p l e R s m args below meth c H locs cells slots QF (F0 m pc lsA (.ref (adr g b) :: .int i :: .ref (adr g a) :: st.map (tv g)))
  rw [adr_lt (hH.lt ha), adr_lt (hH.lt hb)]
  refine va_astq (D := g.2.2.1) (A := a_A g) (r := (c_C ci, c_T ci, a_N ci)) (v := g.1 + b) hF.1 hF.2.1 hF.2.2.2.2.2.2.1.1 hH.2 (ws_D g S h) hS a (2 + k) b ci (by rw [ws_get ha, ent_q hk]) (by rw [tys_q g hk2]; show _ = some (_, FieldType.object (c_C ci)); rw [hcq]) (by rw [ws_get hb, ent_obj hkb hci]) (c_at hci) hin hd (fun H1 locs1 hP1 _ hS1 => ?_)
  refine kk g p l e R s m args below meth c QF hF hR H1 locs1 cells slots lsA (HREL.to2 (S := S) (S' := srr S a i.toNatClampNeg b) rfl hH ?_ (fun b2 hb2 => ?_) hP1) hS1 hl hc hs
  · have hk' : kd (srr S a i.toNatClampNeg b) a = 22 + k := hk
    rw [ent_q hk']
    refine congrArg (fun f => (Sum.inl (g.2.2.2 (2 + k), (ln S a, .inr (.inr (.inr (.inr f))))) : va_E)) ?_
    funext j
    unfold rr srr
    simp only [va_up_self]
    by_cases hj : j = i.toNatClampNeg
    · subst hj
      simp only [va_up_self]
      show some (adr g b) = _
      rw [adr_lt (hH.lt hb)]
    · simp only [va_up_ne _ _ hj]
  · unfold a_ent a_fv kd ln fr rr srr
    simp only [va_up_ne _ _ hb2]
theorem T_objInit {idx a : Nat} (hd : DI M pc (.invokespecial idx) 3 pc') (hL : LnkO M.2.2.2.1 idx) (hr : (st.map fun v => v.category).sum ≤ 8) (kk : TK Z M d bc bs S h Q pc' ls st) : TK Z M d bc bs S h Q pc ls (.ref a :: st) := by
  intro g p l e R s m args below meth c QF hF hR H locs cells slots lsA hH hS hl hc hs
  obtain ⟨hd, rfl⟩ := hd
  have f9 := hF.2.2.2.2.2.2.2.2.1
  have f10 := hF.2.2.2.2.2.2.2.2.2
  exact W.objInit hF.1 hF.2.1 hF.2.2.2.1 (hF.2.2.2.2.1 _ hL.1) (hF.2.2.2.2.1 _ hL.2.1) (hF.2.2.2.2.1 _ hL.2.2) rfl (hl.1.trans hF.2.2.1.symm) rfl hd (by omega) (by have := cat_sum g st; show 2 * 0 + _ + 12 ≤ _; omega) (kk g p l e R s m args below meth c QF hF hR H locs cells slots lsA hH hS hl hc hs)
theorem ent_srow_ne {g : aG} {S : aS} {h : aH} {a : Nat} {f : Nat → Int32} {b : Nat} (hb : b ≠ a) : a_ent g S (srow h a f) b = a_ent g S h b := by
  unfold a_ent a_fv fi ri rj srow
  simp only [va_up_ne _ _ hb]
theorem ent_srowj_ne {g : aG} {S : aS} {h : aH} {a : Nat} {f : Nat → Int64} {b : Nat} (hb : b ≠ a) : a_ent g S (srowj h a f) b = a_ent g S h b := by
  unfold a_ent a_fv fi ri rj srowj
  simp only [va_up_ne _ _ hb]
theorem T_copyi {idx a0 a : Nat} {sp dp n : Int32} (hd : DI M pc (.invokestatic idx) 3 pc') (hL : LnkC M.2.2.2.1 idx) (hk0 : kd S a0 = 20) (ha0 : a0 < nx S) (hk : kd S a = 20) (ha : a < nx S) (h1 : ¬ sp < 0) (h2 : ¬ dp < 0) (h3 : ¬ n < 0) (h4 : sp.toNatClampNeg + n.toNatClampNeg ≤ ln S a0) (h5 : dp.toNatClampNeg + n.toNatClampNeg ≤ ln S a) (hr : (st.map fun v => v.category).sum ≤ 8) (kk : TK Z M d bc bs S (srow h a (va_cpy (ri h a0) (ri h a) sp.toNatClampNeg dp.toNatClampNeg n.toNatClampNeg)) Q pc' ls st) : TK Z M d bc bs S h Q pc ls (.int n :: .int dp :: .ref a :: .int sp :: .ref a0 :: st) := by
  intro g p l e R s m args below meth c QF hF hR H locs cells slots lsA hH hS hl hc hs
  obtain ⟨hd, rfl⟩ := hd
  have f9 := hF.2.2.2.2.2.2.2.2.1
  have f10 := hF.2.2.2.2.2.2.2.2.2
  show W p l e R s m args below meth c H locs cells slots QF (F0 m pc lsA (.int n :: .int dp :: .ref (adr g a) :: .int sp :: .ref (adr g a0) :: st.map (tv g)))
  rw [adr_lt (hH.lt ha), adr_lt (hH.lt ha0)]
  exact va_copyi (D := g.2.2.1) (A := a_A g) (ty := .int) hF.1 hF.2.1 (hF.2.2.1.trans hl.1.symm) hF.2.2.2.1 (hF.2.2.2.2.1 _ hL.1) (hF.2.2.2.2.1 _ hL.2.1) (hF.2.2.2.2.1 _ hL.2.2.1) (hF.2.2.2.2.1 _ hL.2.2.2) hF.2.2.2.2.2.2.1.1 hH.2 (ws_D g S h) hS a0 a 0 0 (by rw [ws_get ha0, ent_i hk0]) (by rw [ws_get ha, ent_i hk]) (tys_i g) (tys_i g) rfl h1 h2 h3 h4 h5 (fun _ _ => rfl) (by omega) (by have := cat_sum g st; show _ + (5 + 2 + 11) ≤ _; omega) hd (fun H1 locs1 hP1 _ hS1 => kk g p l e R s m args below meth c QF hF hR H1 locs1 cells slots lsA (hH.to (by rw [ent_i hk]; unfold ri srow; simp only [va_up_self]) (fun b hb => ent_srow_ne hb) hP1) hS1 hl hc hs)
theorem T_copyl {idx a0 a : Nat} {sp dp n : Int32} (hd : DI M pc (.invokestatic idx) 3 pc') (hL : LnkC M.2.2.2.1 idx) (hk0 : kd S a0 = 21) (ha0 : a0 < nx S) (hk : kd S a = 21) (ha : a < nx S) (h1 : ¬ sp < 0) (h2 : ¬ dp < 0) (h3 : ¬ n < 0) (h4 : sp.toNatClampNeg + n.toNatClampNeg ≤ ln S a0) (h5 : dp.toNatClampNeg + n.toNatClampNeg ≤ ln S a) (hr : (st.map fun v => v.category).sum ≤ 8) (kk : TK Z M d bc bs S (srowj h a (va_cpy (rj h a0) (rj h a) sp.toNatClampNeg dp.toNatClampNeg n.toNatClampNeg)) Q pc' ls st) : TK Z M d bc bs S h Q pc ls (.int n :: .int dp :: .ref a :: .int sp :: .ref a0 :: st) := by
  intro g p l e R s m args below meth c QF hF hR H locs cells slots lsA hH hS hl hc hs
  obtain ⟨hd, rfl⟩ := hd
  have f9 := hF.2.2.2.2.2.2.2.2.1
  have f10 := hF.2.2.2.2.2.2.2.2.2
  show W p l e R s m args below meth c H locs cells slots QF (F0 m pc lsA (.int n :: .int dp :: .ref (adr g a) :: .int sp :: .ref (adr g a0) :: st.map (tv g)))
  rw [adr_lt (hH.lt ha), adr_lt (hH.lt ha0)]
  exact va_copyl (D := g.2.2.1) (A := a_A g) (ty := .long) hF.1 hF.2.1 (hF.2.2.1.trans hl.1.symm) hF.2.2.2.1 (hF.2.2.2.2.1 _ hL.1) (hF.2.2.2.2.1 _ hL.2.1) (hF.2.2.2.2.1 _ hL.2.2.1) (hF.2.2.2.2.1 _ hL.2.2.2) hF.2.2.2.2.2.2.1.1 hH.2 (ws_D g S h) hS a0 a 1 1 (by rw [ws_get ha0, ent_j hk0]) (by rw [ws_get ha, ent_j hk]) (tys_j g) (tys_j g) rfl h1 h2 h3 h4 h5 (fun _ _ => rfl) (by omega) (by have := cat_sum g st; show _ + (5 + 2 + 11) ≤ _; omega) hd (fun H1 locs1 hP1 _ hS1 => kk g p l e R s m args below meth c QF hF hR H1 locs1 cells slots lsA (hH.to (by rw [ent_j hk]; unfold rj srowj; simp only [va_up_self]) (fun b hb => ent_srowj_ne hb) hP1) hS1 hl hc hs)
/-- Math -/
def LnkMx (own : String) (idx : Nat) : Prop := Cond.methodLink own idx Lib.Math.max.name ∈ TBL ∧ Cond.static Lib.Math.max.name ∈ TBL ∧ Cond.initialized "java/lang/Math" ∈ TBL ∧ Cond.code Lib.Math.max.name Lib.Math.max.code 2 (some .int) ∈ TBL
def LnkMn (own : String) (idx : Nat) : Prop := Cond.methodLink own idx Lib.Math.min.name ∈ TBL ∧ Cond.static Lib.Math.min.name ∈ TBL ∧ Cond.initialized "java/lang/Math" ∈ TBL ∧ Cond.code Lib.Math.min.name Lib.Math.min.code 2 (some .int) ∈ TBL
def LnkMa (own : String) (idx : Nat) : Prop := Cond.methodLink own idx Lib.Math.abs.name ∈ TBL ∧ Cond.static Lib.Math.abs.name ∈ TBL ∧ Cond.initialized "java/lang/Math" ∈ TBL ∧ Cond.code Lib.Math.abs.name Lib.Math.abs.code 1 (some .int) ∈ TBL
theorem T_max {idx : Nat} {x y : Int32} (hd : DI M pc (.invokestatic idx) 3 pc') (hL : LnkMx M.2.2.2.1 idx) (hr : (st.map fun v => v.category).sum ≤ 8) (kk : TK Z M d bc bs S h Q pc' ls (.int (if x < y then y else x) :: st)) : TK Z M d bc bs S h Q pc ls (.int y :: .int x :: st) := by
  intro g p l e R s m args below meth c QF hF hR H locs cells slots lsA hH hS hl hc hs
  obtain ⟨hd, rfl⟩ := hd
  have f9 := hF.2.2.2.2.2.2.2.2.1
  have f10 := hF.2.2.2.2.2.2.2.2.2
  exact va_mmax hF.1 hF.2.1 (hF.2.2.1.trans hl.1.symm) hF.2.2.2.1 (hF.2.2.2.2.1 _ hL.1) (hF.2.2.2.2.1 _ hL.2.1) (hF.2.2.2.2.1 _ hL.2.2.1) (hF.2.2.2.2.1 _ hL.2.2.2) (by omega) (by have := cat_sum g st; omega) (by omega) (by omega) hd (kk g p l e R s m args below meth c QF hF hR H locs cells slots lsA hH hS hl hc hs)
theorem T_min {idx : Nat} {x y : Int32} (hd : DI M pc (.invokestatic idx) 3 pc') (hL : LnkMn M.2.2.2.1 idx) (hr : (st.map fun v => v.category).sum ≤ 8) (kk : TK Z M d bc bs S h Q pc' ls (.int (if y < x then y else x) :: st)) : TK Z M d bc bs S h Q pc ls (.int y :: .int x :: st) := by
  intro g p l e R s m args below meth c QF hF hR H locs cells slots lsA hH hS hl hc hs
  obtain ⟨hd, rfl⟩ := hd
  have f9 := hF.2.2.2.2.2.2.2.2.1
  have f10 := hF.2.2.2.2.2.2.2.2.2
  exact va_mmin hF.1 hF.2.1 (hF.2.2.1.trans hl.1.symm) hF.2.2.2.1 (hF.2.2.2.2.1 _ hL.1) (hF.2.2.2.2.1 _ hL.2.1) (hF.2.2.2.2.1 _ hL.2.2.1) (hF.2.2.2.2.1 _ hL.2.2.2) (by omega) (by have := cat_sum g st; omega) (by omega) (by omega) hd (kk g p l e R s m args below meth c QF hF hR H locs cells slots lsA hH hS hl hc hs)
theorem T_abs {idx : Nat} {x : Int32} (hd : DI M pc (.invokestatic idx) 3 pc') (hL : LnkMa M.2.2.2.1 idx) (hr : (st.map fun v => v.category).sum ≤ 8) (kk : TK Z M d bc bs S h Q pc' ls (.int (if 0 ≤ x then x else 0 - x) :: st)) : TK Z M d bc bs S h Q pc ls (.int x :: st) := by
  intro g p l e R s m args below meth c QF hF hR H locs cells slots lsA hH hS hl hc hs
  obtain ⟨hd, rfl⟩ := hd
  have f9 := hF.2.2.2.2.2.2.2.2.1
  have f10 := hF.2.2.2.2.2.2.2.2.2
  exact va_mabs hF.1 hF.2.1 (hF.2.2.1.trans hl.1.symm) hF.2.2.2.1 (hF.2.2.2.2.1 _ hL.1) (hF.2.2.2.2.1 _ hL.2.1) (hF.2.2.2.2.1 _ hL.2.2.1) (hF.2.2.2.2.1 _ hL.2.2.2) (by omega) (by have := cat_sum g st; omega) (by omega) (by omega) hd (kk g p l e R s m args below meth c QF hF hR H locs cells slots lsA hH hS hl hc hs)
end MRULES
