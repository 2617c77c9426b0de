/-! ===== all calls in one shape; the first two heaps stand alike ===== -/
theorem op_laterJ {x m : aH} (hJ : JJ x m) (p1 p2 p3 p4 : Int32) : OK2 (fX10_later x p1 p2 p3 p4) (fX11_later m p1 p2 p3 p4) PJ := by
  obtain ⟨w, t, hR⟩ := hJ
  exact OK2.th hR (op_later hR.1.1 hR.2.2.2.2 p1 p2 p3 p4)
theorem op_homeJ {x m : aH} (hJ : JJ x m) (p1 p2 p3 : Int32) : OK2 (fX10_home x p1 p2 p3) (fX11_home m p1 p2 p3) PJ := by
  obtain ⟨w, t, hR⟩ := hJ
  exact OK2.th hR (op_home hR.1.1 hR.2.2.2.2 p1 p2 p3)
theorem op_sinceJ {x m : aH} (hJ : JJ x m) (p1 p2 : Int32) : OK2 (fX10_since x p1 p2) (fX11_since m p1 p2) PJ := by
  obtain ⟨w, t, hR⟩ := hJ
  exact OK2.th hR (op_since hR.1.1 hR.2.2.2.2 p1 p2)
theorem op_drawsJ {x m : aH} (hJ : JJ x m) (p1 : Int32) : OK2 (fX10_draws x p1) (fX11_draws m p1) PJ := by
  obtain ⟨w, t, hR⟩ := hJ
  exact OK2.th hR (op_draws hR.1.1 p1)
theorem op_drawnJ {x m : aH} (hJ : JJ x m) (p1 p2 p3 : Int32) : OK2 (fX10_drawn x p1 p2 p3) (fX11_drawn m p1 p2 p3) PJ := by
  obtain ⟨w, t, hR⟩ := hJ
  exact OK2.th hR (op_drawn hR.1.1 p1 p2 p3)
theorem op_bestJ {x m : aH} (hJ : JJ x m) (p1 p2 : Int32) : OK2 (fX10_best x p1 p2) (fX11_best m p1 p2) PJ := by
  obtain ⟨w, t, hR⟩ := hJ
  exact OK2.th hR (op_best hR.1.1 p1 p2)
theorem op_fetchJ {x m : aH} (hJ : JJ x m) (p1 p2 : Int32) : OK2 (fX10_fetch x p1 p2) (fX11_fetch m p1 p2) PJ := by
  obtain ⟨w, t, hR⟩ := hJ
  exact OK2.th hR (op_fetch hR.1.1 p1 p2)
theorem op_byTurnsJ {x m : aH} (hJ : JJ x m) (p1 p2 p3 : Int32) : OK2 (fX10_byTurns x p1 p2 p3) (fX11_byTurns m p1 p2 p3) PJ := by
  obtain ⟨w, t, hR⟩ := hJ
  exact OK2.th hR (op_byTurns hR.1.1 p1 p2 p3)
abbrev PJo : Int32 × aH → Int32 × aH → Prop := fun a b => JJ a.2 b.2
theorem op_orderJ {x m : aH} (hJ : JJ x m) (p1 p2 : Int32) : OK2 (fX10_order x p1 p2) (fX11_order m p1 p2) PJo := by
  obtain ⟨w, t, hR⟩ := hJ
  exact (op_order hR.1.1 hR.2.2.2.2 p1 p2).mono (fun a b h => ⟨w, t, hR.TH h⟩)
theorem op_clashJ {x m : aH} (hJ : JJ x m) (p1 p2 : Int32) : OK2 (fX10_clash x p1 p2) (fX11_clash m p1 p2) PJo := by
  obtain ⟨w, t, hR⟩ := hJ
  exact (op_clash hR.1.1 hR.2.2.2.2 p1 p2).mono (fun a b h => ⟨w, t, hR.TH h⟩)
theorem op_mayJ {x m : aH} (hJ : JJ x m) (p1 p2 : Int32) : OK2 (fX10_may x p1 p2) (fX11_may m p1 p2) PJo := by
  obtain ⟨w, t, hR⟩ := hJ
  exact (op_may hR.1.1 hR.2.2.2.2 p1 p2).mono (fun a b h => ⟨w, t, hR.TH h⟩)
theorem of_S {o u : Option (Int32 × aH)} (h : OK2 o u PJ) : ∃ qx qm, o = some qx ∧ u = some qm ∧ JJ qx.2 qm.2 := by
  obtain ⟨a, b, e1, e2, e3, e4⟩ := h
  exact ⟨a, b, e1, e2, e3⟩
theorem of_Se {o u : Option (Int32 × aH)} (h : OK2 o u PJ) : ∃ qx qm, o = some qx ∧ u = some qm ∧ JJ qx.2 qm.2 ∧ qx.1 = qm.1 := h
theorem of_T {o u : Option (Int32 × aH)} (h : OK2 o u PJo) : ∃ qx qm, o = some qx ∧ u = some qm ∧ JJ qx.2 qm.2 := h
theorem of_V {α β : Type} {o : Option α} {u : Option β} {P : α → β → Prop} {x m : aH} (hJ : JJ x m) (h : OK2 o u P) : ∃ qx qm, o = some qx ∧ u = some qm ∧ JJ x m := by
  obtain ⟨a, b, e1, e2, e3⟩ := h
  exact ⟨a, b, e1, e2, hJ⟩
theorem of_Ve {α : Type} {o u : Option α} {x m : aH} (hJ : JJ x m) (h : OK2 o u (fun a b => a = b)) : ∃ qx qm, o = some qx ∧ u = some qm ∧ JJ x m ∧ qx = qm := by
  obtain ⟨a, b, e1, e2, e3⟩ := h
  exact ⟨a, b, e1, e2, hJ, e3⟩
theorem of_C {o : Option Int32} {u : Option (Int32 × aH)} {x : aH} (h : OK2 o u (fun a b => JJ x b.2 ∧ a = b.1)) : ∃ qx qm, o = some qx ∧ u = some qm ∧ JJ x qm.2 := by
  obtain ⟨a, b, e1, e2, e3, e4⟩ := h
  exact ⟨a, b, e1, e2, e3⟩
theorem of_Ce {o : Option Int32} {u : Option (Int32 × aH)} {x : aH} (h : OK2 o u (fun a b => JJ x b.2 ∧ a = b.1)) : ∃ qx qm, o = some qx ∧ u = some qm ∧ JJ x qm.2 ∧ qx = qm.1 := h
def w0 : SEA := (0, fun _ => 0, fun _ => 4, fun _ => 0, fun _ => 0, 27, 3, 3, fun f => (6 : Int32) - f 1 / (2 : Int32) - f 2 / (3 : Int32))
def t0 : STD := (fun _ => 0, fun _ => 0, 50)
theorem first_lf : LFC w0.lf := fun f f' e => by
  show (6 : Int32) - f 1 / (2 : Int32) - f 2 / (3 : Int32) = (6 : Int32) - f' 1 / (2 : Int32) - f' 2 / (3 : Int32)
  rw [e 1 (by omega), e 2 (by omega)]
theorem hJ0 : JJ He259 He259 := by
  have no : ∀ i, ¬ i < w0.lost := fun i => Nat.not_lt_zero i
  refine ⟨w0, t0, ⟨⟨⟨⟨Nat.zero_le _, fun c _ => ⟨by show 0 < 10; omega, by show 4 < 5; omega⟩, fun i hi => absurd hi (no i), by show 27 < 64; omega, ⟨by show 1 ≤ 3; omega, by show 3 < 10; omega⟩, ⟨by show 1 ≤ 3; omega, by show 3 < 10; omega⟩⟩, fun i hi => absurd hi (no i), by show 50 < 1000; omega⟩, ⟨⟨he_x1, fun i hi => he_x2 i hi, he_x3, first_lf, fun y _ _ h3 => ?_⟩, ⟨he_x4.2.1, fun i hi => absurd hi (no i), he_x4.2.2.1, he_x4.2.2.2⟩, fun a ha => ?_⟩, ⟨he_m1, fun i hi => ⟨(he_m2 i hi).1, (he_m2 i hi).2.1⟩, ⟨he_m3.1, he_m3.2.2.1, he_m3.2.2.2⟩, he_m4.2.2.1, first_lf, Or.inl ⟨by rw [he_m4.2.2.2.2.1]; decide, fun f => rfl⟩⟩, fun i hi => absurd hi (no i), he_m3.2.1, fun i _ hi => (he_m2 i hi).2.2⟩, fun k hk => (he_x8 k hk).1.trans (he_x8 k hk).2.symm⟩, ⟨⟨he_x6.1.trans he_m4.2.2.2.2.2.1.symm, Or.inl he_x6.1⟩, ⟨0, 0, ⟨Nat.le_refl _, Nat.zero_le _⟩, ⟨he_x6.2.1, he_x6.2.2.1, he_m4.2.1, he_m4.1⟩, fun j hj => absurd hj (Nat.not_lt_zero _)⟩⟩, ⟨0, Nat.zero_le _, he_x6.2.2.2.1, he_m4.2.2.2.1, fun j hj => absurd hj (Nat.not_lt_zero _)⟩, ⟨0, 0, ⟨Nat.zero_le _, he_x6.2.2.2.2.1, he_m4.2.2.2.2.2.2.1, fun j hj => absurd hj (Nat.not_lt_zero _)⟩, ⟨Nat.zero_le _, he_x6.2.2.2.2.2, he_m4.2.2.2.2.2.2.2, fun j _ hj => absurd hj (Nat.not_lt_zero _)⟩⟩, fun d hd => Or.inl ⟨⟨(he_x7 d hd).1, (he_x7 d hd).2.1, (he_m5 d hd).2⟩, Or.inl ⟨(he_x7 d hd).2.2, (he_m5 d hd).1⟩⟩⟩
  · unfold fX3_workOut
    rw [h3, he_x4.1, if_pos rfl]
    exact OK.ret ⟨rfl, Fr.rf _ _ _⟩
  · refine ⟨0, ?_, by show 0 < 2 ^ 0; omega⟩
    have q := he_x5
    have q19 : fi He259 19 6 = 0 := by decide +kernel
    rcases ha with rfl | rfl | rfl | rfl | rfl | rfl | rfl
    · exact he_x4.2.2.1
    · exact q19
    · exact q.1
    · exact q.2.1
    · exact q.2.2.1
    · exact q.2.2.2.1
    · exact q.2.2.2.2
