/-! ===== the law's start: what the Statement gives, as the abstract machine has it ===== -/
theorem kr_arr {args : Array Value} {s : State} {ty : FieldType} (h : (Cond.arrayClass ty).before args s = true) : ∃ c, ArrOfT s c ty ∧ s.vm.findClass ("[" ++ ty.toString) = some c := by
  obtain ⟨c, k, comp, h1, h2, h3⟩ := Cond.arrayClass_spec h
  exact ⟨c, fun n z => ⟨fun q hq => (by cases hq), k, h2, comp, h3⟩, h1⟩
theorem kr_over {s : State} {C : String} (h : va_AO C s) : ∃ c, ArrOfT s c (.object C) ∧ va_RA s c (.object C) := by
  obtain ⟨comp, c, k, h1, h2, h3, h4, h5⟩ := Cond.arrayOver_spec h
  exact ⟨c, fun n z => ⟨fun q hq => (by cases hq), k, h3, comp, h4⟩, k, comp, h3, h4, h1, h5⟩
theorem st_key : ∀ i, i < 5 → Cond.arrayOf (.static (stT.getD i ("", "")).1 (stT.getD i ("", "")).2 "[I") .int ∈ flatC (Jvm.Cond.and given_1 narrow_1) ∧ Cond.eq (.length (.static (stT.getD i ("", "")).1 (stT.getD i ("", "")).2 "[I")) (.int (Int32.ofNat (stL.getD i []).length)) ∈ flatC (Jvm.Cond.and given_1 narrow_1) ∧ ∀ j, j < (stL.getD i []).length → Cond.eq (.elem (.static (stT.getD i ("", "")).1 (stT.getD i ("", "")).2 "[I") (.int (Int32.ofNat j))) (.int (Int32.ofInt ((stL.getD i []).getD j 0))) ∈ flatC (Jvm.Cond.and given_1 narrow_1) := by decide +kernel
theorem st_len : ∀ i, i < 5 → (stL.getD i []).length < 2 ^ 31 := by decide +kernel
theorem st_wrd : ∀ i, i < 5 → Cond.initialized (stT.getD i ("", "")).1 ∈ lw_tbl ∧ Cond.laysStatic (stT.getD i ("", "")).1 (stT.getD i ("", "")).2 "[I" ∈ lw_tbl := by decide +kernel
theorem st_row {s : State} {args : Array Value} {A : Nat → Prop} (hs : ∀ w ∈ flatC (Jvm.Cond.and given_1 narrow_1), w.before args s = true) (hA : ∀ a : Nat, a < s.heap.size → ¬ A a) (hts : ∀ w ∈ lw_tbl, w.before args s = true) (i : Nat) (hi : i < 5) :
    ∃ t : Nat, va_T .int t ((stL.getD i []).length) (fun j => .int (Int32.ofInt ((stL.getD i []).getD j 0))) A s s.heap ∧ va_Z (stT.getD i ("", "")).1 (stT.getD i ("", "")).2 "[I" (.ref t) A s s.heap := by
  obtain ⟨k1, k2, k3⟩ := st_key i hi
  obtain ⟨w1, w2⟩ := st_wrd i hi
  obtain ⟨t, ht, hT⟩ := va_Tof (tm := .static (stT.getD i ("", "")).1 (stT.getD i ("", "")).2 "[I") (N := (stL.getD i []).length) (f := fun j => .int (Int32.ofInt ((stL.getD i []).getD j 0))) (st_len i hi) (hs _ k1) (va_eqt (hs _ k2)) (fun j hj => va_eqt (hs _ (k3 j hj))) hA
  exact ⟨t, hT, va_Zref (hts _ w2) (hts _ w1) ht hA⟩
theorem st_inst : ∀ ci, ci < 12 → Cond.instantiable (c_C ci) (a_N ci) ∈ lw_tbl := by decide +kernel
theorem st_nest : ∀ w ∈ nestW, w ∈ lw_tbl := by decide +kernel
theorem st_over : Cond.arrayOver (.object "DrownedLight$Stand") ∈ lw_tbl ∧ Cond.arrayOver (.object "DrownedLight$Shelf") ∈ lw_tbl := by decide +kernel
theorem start_K {p : Program} {s : State} {m : MethodId} {meth : Method} {c : Code} {b L : Nat} {xs : Nat → Int32} (hL : L < 2 ^ 31) (C0 : lw_At p s m meth c b L xs) : ∃ g : aG, g.1 = s.heap.size ∧ g.2.1 5 = b ∧ KREL g (L, xs) s := by
  obtain ⟨hx, hb, hr, hml, hown, hts, hX, hbl, hlocks, hgv⟩ := id C0
  have hs := flat_of_before _ hgv
  have hA : ∀ a : Nat, a < s.heap.size → ¬ (fun q : Nat => s.heap.size ≤ q) a := fun a ha => Nat.not_le.mpr ha
  have hcl : ∀ ci, ci < 12 → ∃ (cC : ClassId) (iS : Nat → Nat), u_Kn s (c_C ci) (c_T ci) (a_N ci) cC iS := fun ci hci => u_known (n := a_N ci) hts (fun w hw => tb_in (c_in hci w hw)) (hts _ (st_inst ci hci))
  have hcl2 : ∃ (dC : Nat → ClassId) (dI : Nat → Nat → Nat), ∀ ci, ci < 12 → u_Kn s (c_C ci) (c_T ci) (a_N ci) (dC ci) (dI ci) := by
    refine ⟨fun ci => if h : ci < 12 then Classical.choose (hcl ci h) else Classical.choose (hcl 0 (by decide)), fun ci => if h : ci < 12 then Classical.choose (Classical.choose_spec (hcl ci h)) else fun _ => 0, fun ci hci => ?_⟩
    simp only [dif_pos hci]
    exact Classical.choose_spec (Classical.choose_spec (hcl ci hci))
  obtain ⟨dC, dI, hcl⟩ := hcl2
  have hrow2 : ∃ ro : Nat → Nat, ∀ i, i < 5 → va_T .int (ro i) ((stL.getD i []).length) (fun j => .int (Int32.ofInt ((stL.getD i []).getD j 0))) (fun q : Nat => s.heap.size ≤ q) s s.heap ∧ va_Z (stT.getD i ("", "")).1 (stT.getD i ("", "")).2 "[I" (.ref (ro i)) (fun q : Nat => s.heap.size ≤ q) s s.heap := by
    refine ⟨fun i => if h : i < 5 then Classical.choose (st_row hs hA hts i h) else 0, fun i hi => ?_⟩
    simp only [dif_pos hi]
    exact Classical.choose_spec (st_row hs hA hts i hi)
  obtain ⟨ro, hro⟩ := hrow2
  obtain ⟨ci, hci, nci⟩ := kr_arr (hts _ (tb_in arrW.1))
  obtain ⟨cj, hcj, ncj⟩ := kr_arr (hts _ (tb_in arrW.2))
  have ao1 : va_AO "DrownedLight$Stand" s := va_AO.of (hts _ st_over.1)
  have ao2 : va_AO "DrownedLight$Shelf" s := va_AO.of (hts _ st_over.2)
  obtain ⟨cq, hcq, ncq⟩ := kr_over ao1
  obtain ⟨cr, hcr, ncr⟩ := kr_over ao2
  refine ⟨(s.heap.size, fun i => if i < 5 then ro i else b, (dC, dI), fun k => match k with | 0 => ci | 1 => cj | 2 => cq | _ => cr), rfl, rfl, ⟨fun k q hq => ?_, fun k q hq => ?_⟩, fun i hi => ?_, fun i hi => ?_, fun w hw => va_Nw.of (nest_tab w hw) (hts w (st_nest w hw)), ao1, ao2⟩
  · have hk : k < 12 := by
      have := (List.getElem?_eq_some_iff.mp hq).1
      exact this
    rw [c_at hk] at hq
    cases hq
    exact hcl k hk
  · match k, hq with
    | 0, hq => cases hq; exact ⟨hci, nci⟩
    | 1, hq => cases hq; exact ⟨hcj, ncj⟩
    | 2, hq => cases hq; exact ⟨hcq, ncq⟩
    | 3, hq => cases hq; exact ⟨hcr, ncr⟩
    | k + 4, hq => simp [a_tys] at hq
  · by_cases h5 : i < 5
    · unfold roN roC
      simp only [if_pos h5]
      exact ⟨st_len i h5, (hro i h5).1⟩
    · obtain rfl : i = 5 := by omega
      obtain ⟨scr, x1, x2, x3, x4, x5⟩ := hX
      refine ⟨hL, scr, x1, x2, x3, ?_, ?_, fun j hj => x5 j hj, Nat.not_le.mpr hbl⟩
      · rw [x4]; exact Nat.le_refl _
      · rw [x4]; rfl
  · show va_Z _ _ _ (.ref (if i < 5 then ro i else b)) _ s s.heap
    rw [if_pos hi]
    exact (hro i hi).2
/-- the law's method, whatever its name is -/
abbrev mLn (nm : String) : MD := (code, 4, ret, RL, ⟨RL, nm, "([I)Z"⟩)
theorem law_W {p : Program} {e : Env} {s : State} {m : MethodId} {below : List Frame} {meth : Method} {c : Code} (l : Launch) {b L N : Nat} {xs : Nat → Int32} (hL : L ≤ N) (hN : N < 2 ^ 31 := by decide) (C0 : lw_At p s m meth c b L xs) (k : ∀ nm, TJ (L, xs) (mLn nm) 2000 98 6060 0 [.ref 1005, .null, .null, .null] [] Sh0 He0 (fun r _ _ => r = some (.int 1))) : W p l e room_1 s m #[Value.ref b] below meth c s.heap [] 0 0 (lw_Z below #[Value.ref b] s) (entryFrame m ([Value.ref b] : List Value).toArray 4) := by
  obtain ⟨g, g1, g2, gK⟩ := start_K (Nat.lt_of_le_of_lt hL hN) C0
  obtain ⟨hx, hb, hr, hml, hown, hts, hX, hbl, hlocks, hgv⟩ := id C0
  have hl := lv_entry ([.ref b]) (n := 4) (Nat.le_of_ble_eq_true rfl)
  rw [lg_entry_eq]
  refine k meth.name g p l e room_1 s m #[Value.ref b] below meth c _ ⟨hx, hb, hml, hown, fun w hw => hts w (tb_in hw), rfl, gK, Nat.le_of_eq g1, by decide, by decide⟩ ?_ s.heap [] 0 0 _ ⟨Nat.zero_le _, fun k q h => by cases h⟩ ⟨Nat.le_refl _, fun _ _ _ => rfl, fun q hq => by cases hq⟩ ?_ ⟨by decide, ?_⟩ (by decide)
  · intro r S h H locs cells slots lsA pc hq hH hS hc hs hri
    subst hq
    refine va_forget (fun q hq => by have := hS.2.2 q hq; rw [← g1]; exact this) ?_
    exact W.widen (k := 600000) (n := 7302250) hc hs (lw_ret hx hb hr hlocks hri.1)
  · refine lvh_sub hl ?_
    rintro ⟨i, w⟩ hq
    obtain ⟨v, h1, h2, rfl⟩ := a_lvl_mem.mp hq
    match i, h1 with
    | 0, h1 =>
      cases h1
      show (0, Value.ref (adr g (1000 + 5))) ∈ _
      rw [adr_ro, g2]
      exact List.mem_cons_self
    | 1, h1 => cases h1; exact absurd rfl h2
    | 2, h1 => cases h1; exact absurd rfl h2
    | 3, h1 => cases h1; exact absurd rfl h2
    | i + 4, h1 => simp at h1
  · show s.heap.size + 0 ≤ g.1 + 0
    rw [g1]
    exact Nat.le_refl _
/-- one shape for another that is the same where there are cells -/
def SEQ (S S' : aS) : Prop := nx S = nx S' ∧ ∀ a, a < nx S → (kd S a = kd S' a ∧ ln S a = ln S' a ∧ ∀ k, k < a_N (kd S a) → fr S a k = fr S' a k) ∧ (¬ kd S a < 12 → kd S a ≠ 20 → kd S a ≠ 21 → rr S a = rr S' a)
theorem SEQ.ws {S S' : aS} (h : SEQ S S') (g : aG) (x : aH) : a_ws g S x = a_ws g S' x := by
  unfold a_ws
  rw [← h.1]
  refine List.map_congr_left (fun a ha => ?_)
  obtain ⟨⟨h1, h2, h3⟩, h4⟩ := h.2 a (List.mem_range.mp ha)
  have : a_ent g S x a = a_ent g S' x a := by
    have e : (List.range (a_N (kd S a))).map (a_fv g S x a) = (List.range (a_N (kd S a))).map (a_fv g S' x a) := by
      refine List.map_congr_left (fun k hk => ?_)
      unfold a_fv
      rw [← h1, h3 k (List.mem_range.mp hk)]
    unfold a_ent
    rw [← h1, ← h2, e]
    by_cases c1 : kd S a < 12
    · rw [if_pos c1, if_pos c1]
    · rw [if_neg c1, if_neg c1]
      by_cases c2 : kd S a = 20
      · rw [if_pos c2, if_pos c2]
      · rw [if_neg c2, if_neg c2]
        by_cases c3 : kd S a = 21
        · rw [if_pos c3, if_pos c3]
        · rw [if_neg c3, if_neg c3, h4 c1 c2 c3]
  rw [this]
theorem TJ.reshape {Z : aZ} {M : MD} {d bc bs pc : Nat} {ls st : List Value} {S S' : aS} {h : aH} {Q : Option Value → aS → aH → Prop} (hs : SEQ S S') (k : TJ Z M d bc bs pc ls st S' h Q) : TJ Z M d bc bs pc ls st S h Q := by
  intro g p l e R s m args below meth c QF hF hR H locs cells slots lsA hH hS hl hc hs2
  refine k g p l e R s m args below meth c QF hF hR H locs cells slots lsA ⟨by rw [← hs.1]; exact hH.1, by rw [← hs.ws]; exact hH.2⟩ hS hl ?_ hs2
  rw [← hs.1]
  exact hc
