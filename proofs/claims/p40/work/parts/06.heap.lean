/-! ===== the rules of the heap: fields, rows ===== -/
theorem HREL.lt {g : aG} {S : aS} {h : aH} {H : Heap} (hH : HREL g S h H) {a : Nat} (ha : a < nx S) : a < 1000 := Nat.lt_of_lt_of_le ha hH.1
theorem HREL.to {g : aG} {S : aS} {h h' : aH} {H H1 : Heap} {a : Nat} {e : va_E} (hH : HREL g S h H) (he : a_ent g S h' a = e) (hne : ∀ b, b ≠ a → a_ent g S h' b = a_ent g S h b) (hP : va_P g.2.2.1 vwCl ((a_ws g S h).set a (g.1 + a, e)) H1) : HREL g S h' H1 := by
  refine ⟨hH.1, ?_⟩
  rw [← ws_put hne, he]
  exact hP
theorem a_fv_int {g : aG} {S : aS} {h : aH} {a k : Nat} (ht : isRefTy (a_fty (kd S a) k) = false) : a_fv g S h a k = .int (fi h a k) := by
  unfold a_fv
  rw [ht]
  rfl
theorem a_fv_ref {g : aG} {S : aS} {h : aH} {a k b : Nat} (ht : isRefTy (a_fty (kd S a) k) = true) (hb : fr S a k = some b) : a_fv g S h a k = .ref (adr g b) := by
  unfold a_fv
  rw [if_pos ht, hb]
  rfl
theorem obj_get {g : aG} {S : aS} {h : aH} {a ci k : Nat} (hk : kd S a = ci) (hc : ci < 12) (hkn : k < a_N ci) (ha : a < nx S) : ∃ fs, (a_ws g S h)[a]? = some (g.1 + a, .inr (ci, fs)) ∧ fs[k]? = some (a_fv g S h a k) ∧ fs = (List.range (a_N ci)).map (a_fv g S h a) := by
  refine ⟨_, ?_, ?_, rfl⟩
  · rw [ws_get ha, ent_obj hk hc]
  · rw [List.getElem?_map, List.getElem?_range hkn]; rfl
section HRULES
variable {Z : aZ} {M : MD} {d bc bs pc pc' tgt : Nat} {ls st : List Value} {S : aS} {h : aH} {Q : Option Value → aS → aH → Prop}
theorem T_getf {idx ci k a : Nat} (hd : DI M pc (.getfield idx) 3 pc') (hL : LnkF M.2.2.2.1 idx ci k) (ht : isRefTy (a_fty ci k) = false) (hk : kd S a = ci) (ha : a < nx S) (kk : TK Z M d bc bs S h Q pc' ls (.int (fi h a k) :: st)) : TK Z M d bc bs S h Q pc ls (.ref a :: st) := by
  intro g p l e R s m args below meth c QF hF hR H locs cells slots lsA hH hS hl hc hs
  obtain ⟨hd, rfl⟩ := hd
  obtain ⟨hci, hkn, hln⟩ := hL
  obtain ⟨fs, e1, e2, -⟩ := obj_get (g := g) (h := h) hk hci hkn ha
  subst hk
  rw [a_fv_int ht] at e2
  show W p l e R s m args below meth c H locs cells slots QF (F0 m pc lsA (.ref (adr g a) :: st.map (tv g)))
  rw [adr_lt (hH.lt ha)]
  exact va_get (D := g.2.2.1) (v := .int (fi h a k)) hF.1 hF.2.1 hF.2.2.2.2.1 (c_in hci) hF.2.2.2.1 hF.2.2.2.2.2.2.1.1 hH.2 a e1 (c_at hci) k hkn (hF.2.2.2.2.1 _ hln) (fun _ q => q) e2 hd (kk g p l e R s m args below meth c QF hF hR H locs cells slots lsA hH hS hl hc hs)
theorem T_getr {idx ci k a b : Nat} (hd : DI M pc (.getfield idx) 3 pc') (hL : LnkF M.2.2.2.1 idx ci k) (ht : isRefTy (a_fty ci k) = true) (hk : kd S a = ci) (ha : a < nx S) (hb : fr S a k = some b) (kk : TK Z M d bc bs S h Q pc' ls (.ref b :: st)) : TK Z M d bc bs S h Q pc ls (.ref a :: st) := by
  intro g p l e R s m args below meth c QF hF hR H locs cells slots lsA hH hS hl hc hs
  obtain ⟨hd, rfl⟩ := hd
  obtain ⟨hci, hkn, hln⟩ := hL
  obtain ⟨fs, e1, e2, -⟩ := obj_get (g := g) (h := h) hk hci hkn ha
  subst hk
  rw [a_fv_ref ht hb] at e2
  show W p l e R s m args below meth c H locs cells slots QF (F0 m pc lsA (.ref (adr g a) :: st.map (tv g)))
  rw [adr_lt (hH.lt ha)]
  exact va_get (D := g.2.2.1) (v := .ref (adr g b)) hF.1 hF.2.1 hF.2.2.2.2.1 (c_in hci) hF.2.2.2.1 hF.2.2.2.2.2.2.1.1 hH.2 a e1 (c_at hci) k hkn (hF.2.2.2.2.1 _ hln) (fun _ q => q) e2 hd (kk g p l e R s m args below meth c QF hF hR H locs cells slots lsA hH hS hl hc hs)
/-- what a field keeps: an int as it is; of a boolean 0 and 1 -/
def FOK (ty : FieldType) (v : Int32) : Prop := narrow ty (.int v) = .int v ∧ fits ty (.int v) = true
theorem ent_sfi_ne {g : aG} {S : aS} {h : aH} {a k : Nat} {v : Int32} {b : Nat} (hb : b ≠ a) : a_ent g S (sfi h a k v) b = a_ent g S h b := by
  unfold a_ent a_fv fi ri rj sfi
  simp only [va_up_ne _ _ hb]
theorem ent_sfi {g : aG} {S : aS} {h : aH} {a ci k : Nat} {v : Int32} (hk : kd S a = ci) (hc : ci < 12) (ht : isRefTy (a_fty ci k) = false) : a_ent g S (sfi h a k v) a = .inr (ci, ((List.range (a_N ci)).map (a_fv g S h a)).set k (.int v)) := by
  rw [ent_obj hk hc]
  subst hk
  have e : a_fv g S (sfi h a k v) a k = .int v := by
    rw [a_fv_int ht]
    unfold fi sfi
    simp only [va_up_self]
  rw [← e, range_map_set (a_fv g S h a) (a_fv g S (sfi h a k v) a)]
  intro j _ hj
  unfold a_fv fi sfi
  simp only [va_up_self, va_up_ne _ _ hj]
theorem T_putf {idx ci k a : Nat} {v : Int32} (hd : DI M pc (.putfield idx) 3 pc') (hL : LnkF M.2.2.2.1 idx ci k) (ht : isRefTy (a_fty ci k) = false) (hfin : (c_T ci k).2.2.2 = false) (hk : kd S a = ci) (ha : a < nx S) (hv : FOK (a_fty ci k) v) (kk : TK Z M d bc bs S (sfi h a k v) Q pc' ls st) : TK Z M d bc bs S h Q pc ls (.int v :: .ref a :: st) := by
  intro g p l e R s m args below meth c QF hF hR H locs cells slots lsA hH hS hl hc hs
  obtain ⟨hd, rfl⟩ := hd
  obtain ⟨hci, hkn, hln⟩ := hL
  obtain ⟨fs, e1, e2, e3⟩ := obj_get (g := g) (h := h) hk hci hkn ha
  show W p l e R s m args below meth c H locs cells slots QF (F0 m pc lsA (.int v :: .ref (adr g a) :: st.map (tv g)))
  rw [adr_lt (hH.lt ha)]
  refine va_put (D := g.2.2.1) (A := a_A g) hF.1 hF.2.1 hF.2.2.2.2.1 (c_in hci) (a_fty ci) (c_ty hci) (c_nm hci) hF.2.2.2.1 hF.2.2.2.2.2.2.1.1 hH.2 (ws_D g S h) hS a e1 (c_at hci) k hkn (hF.2.2.2.2.1 _ hln) (fun _ q => q) hfin (c_ty hci k hkn) hv.1 hv.2 (by rw [e3]; simpa using hkn) hd (fun H1 locs1 hP1 hD1 hS1 => ?_)
  exact kk g p l e R s m args below meth c QF hF hR H1 locs1 cells slots lsA (hH.to (ent_sfi hk hci ht) (fun b hb => ent_sfi_ne hb) (by rw [← e3]; exact hP1)) hS1 hl hc hs
end HRULES
