def F1 (i : Nat) (x m : aH) : Prop := i = 0 → x = He259 ∧ m = He259
theorem law_TJ (nm : String) {L : Nat} {xs : Nat → Int32} (hL : L ≤ 6) : TJ (L, xs) (mLn nm) 2000 98 6060 0 [.ref 1005, .null, .null, .null] [] Sh0 He0 (fun r _ _ => r = some (.int 1)) := by
  obtain ⟨w9, t9, hR9⟩ := hJ0
  have first_S := hR9.2.2.2.2
  have first_N := hR9.1.1
  have h_0 : ∀ (i : Nat) (x m : aH) (p1 : Int32) (p2 : Int32), i + 6 ≤ L → F1 i x m → ∃ qx qm, fX10_lost x p1 p2 = some qx ∧ fX11_lost m p1 p2 = some qm ∧ F1 (i + 6) qx.2 qm.2 ∧ qx.1 = qm.1 := by
    intro i x m p1 p2 h6 hJ
    obtain ⟨rfl, rfl⟩ := hJ (by omega)
    obtain ⟨a, b, e1, e2, e3⟩ := op_lost hJ0 p1 p2
    exact ⟨a, b, e1, e2, fun z => absurd z (by omega), e3.2⟩
  have h_1 : ∀ (i : Nat) (x m : aH) (p1 : Int32) (p2 : Int32) (p3 : Int32), i + 6 ≤ L → F1 i x m → ∃ qx qm, fX10_losts x p1 p2 p3 = some qx ∧ fX11_losts m p1 p2 p3 = some qm ∧ F1 (i + 6) qx.2 qm.2 ∧ qx.1 = qm.1 := by
    intro i x m p1 p2 p3 h6 hJ
    obtain ⟨rfl, rfl⟩ := hJ (by omega)
    obtain ⟨a, b, e1, e2, e3⟩ := op_losts hJ0 p1 p2 p3
    exact ⟨a, b, e1, e2, fun z => absurd z (by omega), e3.2⟩
  have h_2 : ∀ (i : Nat) (x m : aH) (p1 : Int32) (p2 : Int32) (p3 : Int32), i + 6 ≤ L → F1 i x m → ∃ qx qm, fX10_mend x p1 p2 p3 = some qx ∧ fX11_mend m p1 p2 p3 = some qm ∧ F1 (i + 6) qx.2 qm.2 ∧ qx.1 = qm.1 := by
    intro i x m p1 p2 p3 h6 hJ
    obtain ⟨rfl, rfl⟩ := hJ (by omega)
    obtain ⟨a, b, e1, e2, e3⟩ := op_mend hJ0 p1 p2 p3
    exact ⟨a, b, e1, e2, fun z => absurd z (by omega), e3.2⟩
  have h_3 : ∀ (i : Nat) (x m : aH) (p1 : Int32) (p2 : Int32), i + 6 ≤ L → F1 i x m → ∃ qx qm, fX10_of x p1 p2 = some qx ∧ fX11_of m p1 p2 = some qm ∧ F1 (i + 6) x m ∧ qx = qm := by
    intro i x m p1 p2 h6 hJ
    obtain ⟨rfl, rfl⟩ := hJ (by omega)
    obtain ⟨a, b, e1, e2, e3⟩ := op_of hJ0 p1 p2
    exact ⟨a, b, e1, e2, fun z => absurd z (by omega), e3⟩
  have h_4 : ∀ (i : Nat) (x m : aH) (p1 : Int32), i + 6 ≤ L → F1 i x m → ∃ qx qm, fX10_feed x p1 = some qx ∧ fX11_feed m p1 = some qm ∧ F1 (i + 6) qx.2 qm.2 ∧ qx.1 = qm.1 := by
    intro i x m p1 h6 hJ
    obtain ⟨rfl, rfl⟩ := hJ (by omega)
    obtain ⟨a, b, e1, e2, e3⟩ := op_feed hJ0 p1
    exact ⟨a, b, e1, e2, fun z => absurd z (by omega), e3.2⟩
  have h_5 : ∀ (i : Nat) (x m : aH), i + 6 ≤ L → F1 i x m → ∃ qx qm, fX10_law x = some qx ∧ fX11_law m = some qm ∧ F1 (i + 6) qx.2 qm.2 ∧ qx.1 = qm.1 := by
    intro i x m h6 hJ
    obtain ⟨rfl, rfl⟩ := hJ (by omega)
    obtain ⟨a, b, e1, e2, e3⟩ := op_law hJ0
    exact ⟨a, b, e1, e2, fun z => absurd z (by omega), e3.2⟩
  have h_6 : ∀ (i : Nat) (x m : aH) (p1 : Int32), i + 6 ≤ L → F1 i x m → ∃ qx qm, fX10_draws x p1 = some qx ∧ fX11_draws m p1 = some qm ∧ F1 (i + 6) qx.2 qm.2 ∧ qx.1 = qm.1 := by
    intro i x m p1 h6 hJ
    obtain ⟨rfl, rfl⟩ := hJ (by omega)
    obtain ⟨a, b, e1, e2, e3⟩ := op_drawsJ hJ0 p1
    exact ⟨a, b, e1, e2, fun z => absurd z (by omega), e3.2⟩
  have h_7 : ∀ (i : Nat) (x m : aH) (p1 : Int32), i + 6 ≤ L → F1 i x m → ∃ qx qm, fX10_seen x p1 = some qx ∧ fX11_seen m p1 = some qm ∧ F1 (i + 6) x m ∧ qx = qm := by
    intro i x m p1 h6 hJ
    obtain ⟨rfl, rfl⟩ := hJ (by omega)
    obtain ⟨a, b, e1, e2, e3⟩ := op_seen hJ0 p1
    exact ⟨a, b, e1, e2, fun z => absurd z (by omega), e3⟩
  have h_8 : ∀ (i : Nat) (x m : aH) (p1 : Int32) (p2 : Int32) (p3 : Int32) (p4 : Int32), i + 6 ≤ L → F1 i x m → ∃ qx qm, fX10_later x p1 p2 p3 p4 = some qx ∧ fX11_later m p1 p2 p3 p4 = some qm ∧ F1 (i + 6) qx.2 qm.2 ∧ qx.1 = qm.1 := by
    intro i x m p1 p2 p3 p4 h6 hJ
    obtain ⟨rfl, rfl⟩ := hJ (by omega)
    obtain ⟨a, b, e1, e2, e3⟩ := op_laterJ hJ0 p1 p2 p3 p4
    exact ⟨a, b, e1, e2, fun z => absurd z (by omega), e3.2⟩
  have h_9 : ∀ (i : Nat) (x m : aH) (p1 : Int32) (p2 : Int32) (p3 : Int32), i + 6 ≤ L → F1 i x m → ∃ qx qm, fX10_home x p1 p2 p3 = some qx ∧ fX11_home m p1 p2 p3 = some qm ∧ F1 (i + 6) qx.2 qm.2 ∧ qx.1 = qm.1 := by
    intro i x m p1 p2 p3 h6 hJ
    obtain ⟨rfl, rfl⟩ := hJ (by omega)
    obtain ⟨a, b, e1, e2, e3⟩ := op_homeJ hJ0 p1 p2 p3
    exact ⟨a, b, e1, e2, fun z => absurd z (by omega), e3.2⟩
  have h_10 : ∀ (i : Nat) (x m : aH) (p1 : Int32) (p2 : Int32), i + 6 ≤ L → F1 i x m → ∃ qx qm, fX10_since x p1 p2 = some qx ∧ fX11_since m p1 p2 = some qm ∧ F1 (i + 6) qx.2 qm.2 ∧ qx.1 = qm.1 := by
    intro i x m p1 p2 h6 hJ
    obtain ⟨rfl, rfl⟩ := hJ (by omega)
    obtain ⟨a, b, e1, e2, e3⟩ := op_sinceJ hJ0 p1 p2
    exact ⟨a, b, e1, e2, fun z => absurd z (by omega), e3.2⟩
  have h_11 : ∀ (i : Nat) (x m : aH) (p1 : Int32) (p2 : Int32), i + 6 ≤ L → F1 i x m → ∃ qx qm, fX10_best x p1 p2 = some qx ∧ fX11_best m p1 p2 = some qm ∧ F1 (i + 6) qx.2 qm.2 ∧ qx.1 = qm.1 := by
    intro i x m p1 p2 h6 hJ
    obtain ⟨rfl, rfl⟩ := hJ (by omega)
    obtain ⟨a, b, e1, e2, e3⟩ := op_bestJ hJ0 p1 p2
    exact ⟨a, b, e1, e2, fun z => absurd z (by omega), e3.2⟩
  have h_12 : ∀ (i : Nat) (x m : aH) (p1 : Int32) (p2 : Int32), i + 6 ≤ L → F1 i x m → ∃ qx qm, fX10_fetch x p1 p2 = some qx ∧ fX11_fetch m p1 p2 = some qm ∧ F1 (i + 6) qx.2 qm.2 ∧ qx.1 = qm.1 := by
    intro i x m p1 p2 h6 hJ
    obtain ⟨rfl, rfl⟩ := hJ (by omega)
    obtain ⟨a, b, e1, e2, e3⟩ := op_fetchJ hJ0 p1 p2
    exact ⟨a, b, e1, e2, fun z => absurd z (by omega), e3.2⟩
  have h_13 : ∀ (i : Nat) (x m : aH) (p1 : Int32) (p2 : Int32), i + 6 ≤ L → F1 i x m → ∃ qx qm, fX10_drifted x p1 p2 = some qx ∧ fX11_drifted m p1 p2 = some qm ∧ F1 (i + 6) x m ∧ qx = qm := by
    intro i x m p1 p2 h6 hJ
    obtain ⟨rfl, rfl⟩ := hJ (by omega)
    obtain ⟨a, b, e1, e2, e3⟩ := op_drifted hJ0 p1 p2
    exact ⟨a, b, e1, e2, fun z => absurd z (by omega), e3⟩
  have h_14 : ∀ (i : Nat) (x m : aH) (p1 : Int32) (p2 : Int32) (p3 : Int32), i + 6 ≤ L → F1 i x m → ∃ qx qm, fX10_ashore x p1 p2 p3 = some qx ∧ fX11_ashore m p1 p2 p3 = some qm ∧ F1 (i + 6) x m ∧ qx = qm := by
    intro i x m p1 p2 p3 h6 hJ
    obtain ⟨rfl, rfl⟩ := hJ (by omega)
    obtain ⟨a, b, e1, e2, e3⟩ := op_ashore hJ0 p1 p2 p3
    exact ⟨a, b, e1, e2, fun z => absurd z (by omega), e3⟩
  have h_15 : ∀ (i : Nat) (x m : aH) (p1 : Int32) (p2 : Int32), i + 6 ≤ L → F1 i x m → ∃ qx qm, fX10_order x p1 p2 = some qx ∧ fX11_order m p1 p2 = some qm ∧ F1 (i + 6) qx.2 qm.2 ∧ qx.1 = qm.1 := by
    intro i x m p1 p2 h6 hJ
    obtain ⟨rfl, rfl⟩ := hJ (by omega)
    obtain ⟨a, b, e1, e2, e3⟩ := op_orderE first_S frNo p1 p2
    exact ⟨a, b, e1, e2, fun z => absurd z (by omega), e3⟩
  have h_16 : ∀ (i : Nat) (x m : aH) (p1 : Int32) (p2 : Int32), i + 6 ≤ L → F1 i x m → ∃ qx qm, fX10_clash x p1 p2 = some qx ∧ fX11_clash m p1 p2 = some qm ∧ F1 (i + 6) qx.2 qm.2 ∧ qx.1 = qm.1 := by
    intro i x m p1 p2 h6 hJ
    obtain ⟨rfl, rfl⟩ := hJ (by omega)
    obtain ⟨a, b, e1, e2, e3⟩ := op_clashE first_S frNo p1 p2
    exact ⟨a, b, e1, e2, fun z => absurd z (by omega), e3⟩
  have h_17 : ∀ (i : Nat) (x m : aH) (p1 : Int32) (p2 : Int32), i + 6 ≤ L → F1 i x m → ∃ qx qm, fX10_may x p1 p2 = some qx ∧ fX11_may m p1 p2 = some qm ∧ F1 (i + 6) qx.2 qm.2 ∧ qx.1 = qm.1 := by
    intro i x m p1 p2 h6 hJ
    obtain ⟨rfl, rfl⟩ := hJ (by omega)
    obtain ⟨a, b, e1, e2, e3⟩ := op_mayE first_N first_S frNo p1 p2
    exact ⟨a, b, e1, e2, fun z => absurd z (by omega), e3⟩
  have h_18 : ∀ (i : Nat) (x m : aH) (p1 : Int32) (p2 : Int32), i + 6 ≤ L → F1 i x m → ∃ qx qm, fX10_share x p1 p2 = some qx ∧ fX11_share m p1 p2 = some qm ∧ F1 (i + 6) x m ∧ qx = qm := by
    intro i x m p1 p2 h6 hJ
    obtain ⟨rfl, rfl⟩ := hJ (by omega)
    obtain ⟨a, b, e1, e2, e3⟩ := op_share hJ0 p1 p2
    exact ⟨a, b, e1, e2, fun z => absurd z (by omega), e3⟩
  have h_19 : ∀ (i : Nat) (x m : aH) (p1 : Int32) (p2 : Int32), i + 6 ≤ L → F1 i x m → ∃ qx qm, fX10_heard x p1 p2 = some qx ∧ fX11_heard m p1 p2 = some qm ∧ F1 (i + 6) x m ∧ qx = qm := by
    intro i x m p1 p2 h6 hJ
    obtain ⟨rfl, rfl⟩ := hJ (by omega)
    obtain ⟨a, b, e1, e2, e3⟩ := op_heardV hJ0 p1 p2
    exact ⟨a, b, e1, e2, fun z => absurd z (by omega), e3⟩
  have h_20 : ∀ (i : Nat) (x m : aH) (p1 : Int32) (p2 : Int32) (p3 : Int32), i + 6 ≤ L → F1 i x m → ∃ qx qm, fX10_byTurns x p1 p2 p3 = some qx ∧ fX11_byTurns m p1 p2 p3 = some qm ∧ F1 (i + 6) qx.2 qm.2 ∧ qx.1 = qm.1 := by
    intro i x m p1 p2 p3 h6 hJ
    obtain ⟨rfl, rfl⟩ := hJ (by omega)
    obtain ⟨a, b, e1, e2, e3⟩ := op_byTurnsJ hJ0 p1 p2 p3
    exact ⟨a, b, e1, e2, fun z => absurd z (by omega), e3.2⟩
  have h_21 : ∀ (i : Nat) (x m : aH) (p1 : Int32) (p2 : Int32) (p3 : Int32), i + 6 ≤ L → F1 i x m → ∃ qx qm, fX10_drawn x p1 p2 p3 = some qx ∧ fX11_drawn m p1 p2 p3 = some qm ∧ F1 (i + 6) qx.2 qm.2 ∧ qx.1 = qm.1 := by
    intro i x m p1 p2 p3 h6 hJ
    obtain ⟨rfl, rfl⟩ := hJ (by omega)
    obtain ⟨a, b, e1, e2, e3⟩ := op_drawnJ hJ0 p1 p2 p3
    exact ⟨a, b, e1, e2, fun z => absurd z (by omega), e3.2⟩
  have h_22 : ∀ (i : Nat) (x m : aH) (p1 : Int32), i + 6 ≤ L → F1 i x m → ∃ qx qm, fX10_night x p1 = some qx ∧ fX11_night m p1 = some qm ∧ F1 (i + 6) qx.2 qm.2 ∧ qx.1 = qm.1 := by
    intro i x m p1 h6 hJ
    obtain ⟨rfl, rfl⟩ := hJ (by omega)
    obtain ⟨a, b, e1, e2, e3⟩ := op_nightJ hJ0 p1
    exact ⟨a, b, e1, e2, fun z => absurd z (by omega), e3.2⟩
  have h_23 : ∀ (i : Nat) (x m : aH) (p1 : Int32), i + 6 ≤ L → F1 i x m → ∃ qx qm, fX10_oil x p1 = some qx ∧ fX11_oil m p1 = some qm ∧ F1 (i + 6) qx.2 qm.2 ∧ qx.1 = qm.1 := by
    intro i x m p1 h6 hJ
    obtain ⟨rfl, rfl⟩ := hJ (by omega)
    obtain ⟨a, b, e1, e2, e3⟩ := op_oil hJ0 p1
    exact ⟨a, b, e1, e2, fun z => absurd z (by omega), e3.2⟩
  have h_24 : ∀ (i : Nat) (x m : aH) (p1 : Int32), i + 6 ≤ L → F1 i x m → ∃ qx qm, fX10_led x p1 = some qx ∧ fX11_led m p1 = some qm ∧ F1 (i + 6) x m ∧ qx = qm := by
    intro i x m p1 h6 hJ
    obtain ⟨rfl, rfl⟩ := hJ (by omega)
    obtain ⟨a, b, e1, e2, e3⟩ := op_led hJ0 p1
    exact ⟨a, b, e1, e2, fun z => absurd z (by omega), e3⟩
  have h_25 : ∀ (i : Nat) (x m : aH), i + 6 ≤ L → F1 i x m → ∃ qx qm, fX10_image x = some qx ∧ fX11_image m = some qm ∧ F1 (i + 6) qx.2 qm.2 ∧ qx.1 = qm.1 := by
    intro i x m h6 hJ
    obtain ⟨rfl, rfl⟩ := hJ (by omega)
    obtain ⟨a, b, e1, e2, e3⟩ := op_image hJ0
    exact ⟨a, b, e1, e2, fun z => absurd z (by omega), e3.2⟩
  have h_26 : ∀ (i : Nat) (x m : aH), i + 6 ≤ L → F1 i x m → ∃ qx qm, fX10_back x = some qx ∧ fX11_back m = some qm ∧ F1 (i + 6) qx.2 qm.2 ∧ qx.1 = qm.1 := by
    intro i x m h6 hJ
    obtain ⟨rfl, rfl⟩ := hJ (by omega)
    obtain ⟨a, b, e1, e2, e3⟩ := op_back hJ0
    exact ⟨a, b, e1, e2, fun z => absurd z (by omega), e3.2⟩
  have h_27 : ∀ (i : Nat) (x m : aH), i + 6 ≤ L → F1 i x m → ∃ qx qm, fX10_undo x = some qx ∧ fX11_undo m = some qm ∧ F1 (i + 6) qx.2 qm.2 ∧ qx.1 = qm.1 := by
    intro i x m h6 hJ
    obtain ⟨rfl, rfl⟩ := hJ (by omega)
    obtain ⟨a, b, e1, e2, e3⟩ := op_undo hJ0
    exact ⟨a, b, e1, e2, fun z => absurd z (by omega), e3.2⟩
  have h_28 : ∀ (i : Nat) (x m : aH), i + 6 ≤ L → F1 i x m → ∃ qx qm, fX10_redo x = some qx ∧ fX11_redo m = some qm ∧ F1 (i + 6) qx.2 qm.2 ∧ qx.1 = qm.1 := by
    intro i x m h6 hJ
    obtain ⟨rfl, rfl⟩ := hJ (by omega)
    obtain ⟨a, b, e1, e2, e3⟩ := op_redo hJ0
    exact ⟨a, b, e1, e2, fun z => absurd z (by omega), e3.2⟩
  have h_29 : ∀ (i : Nat) (x m : aH) (p1 : Int32), i + 6 ≤ L → F1 i x m → ∃ qx qm, fX10_body x p1 = some qx ∧ fX11_body m p1 = some qm ∧ F1 (i + 6) qx.2 qm.2 ∧ qx.1 = qm.1 := by
    intro i x m p1 h6 hJ
    obtain ⟨rfl, rfl⟩ := hJ (by omega)
    obtain ⟨a, b, e1, e2, e3⟩ := op_body hJ0 p1
    exact ⟨a, b, e1, e2, fun z => absurd z (by omega), e3.2⟩
  have h_30 : ∀ (i : Nat) (x m : aH) (p1 : Int32) (p2 : Int32) (p3 : Int32), i + 6 ≤ L → F1 i x m → ∃ qx qm, fX10_act x p1 p2 p3 = some qx ∧ fX11_act m p1 p2 p3 = some qm ∧ F1 (i + 6) qx.2 qm.2 ∧ qx.1 = qm.1 := by
    intro i x m p1 p2 p3 h6 hJ
    obtain ⟨rfl, rfl⟩ := hJ (by omega)
    obtain ⟨a, b, e1, e2, e3⟩ := op_act hJ0 p1 p2 p3
    exact ⟨a, b, e1, e2, fun z => absurd z (by omega), e3.2⟩
  have h_31 : ∀ (i : Nat) (x m : aH) (p1 : Int32), i + 6 ≤ L → F1 i x m → ∃ qx qm, fX10_trace x p1 = some qx ∧ fX11_trace m p1 = some qm ∧ F1 (i + 6) x m ∧ qx = qm := by
    intro i x m p1 h6 hJ
    obtain ⟨rfl, rfl⟩ := hJ (by omega)
    obtain ⟨a, b, e1, e2, e3⟩ := op_trace hJ0 p1
    exact ⟨a, b, e1, e2, fun z => absurd z (by omega), e3⟩
  have h_32 : ∀ (i : Nat) (x m : aH) (p1 : Int32) (p2 : Int32), i + 6 ≤ L → F1 i x m → ∃ qx qm, fX10_keep x p1 p2 = some qx ∧ fX11_keep m p1 p2 = some qm ∧ F1 (i + 6) qx.2 qm.2 ∧ qx.1 = qm.1 := by
    intro i x m p1 p2 h6 hJ
    obtain ⟨rfl, rfl⟩ := hJ (by omega)
    obtain ⟨a, b, e1, e2, e3⟩ := op_keep hJ0 p1 p2
    exact ⟨a, b, e1, e2, fun z => absurd z (by omega), e3.2⟩
  have h_33 : ∀ (i : Nat) (x m : aH) (p1 : Int32) (p2 : Int32) (p3 : Int32), i + 6 ≤ L → F1 i x m → ∃ qx qm, fX10_row x p1 p2 p3 = some qx ∧ fX11_row m p1 p2 p3 = some qm ∧ F1 (i + 6) qx.2 qm.2 ∧ qx.1 = qm.1 := by
    intro i x m p1 p2 p3 h6 hJ
    obtain ⟨rfl, rfl⟩ := hJ (by omega)
    obtain ⟨a, b, e1, e2, e3⟩ := op_row hJ0 p1 p2 p3
    exact ⟨a, b, e1, e2, fun z => absurd z (by omega), e3.2⟩
  have h_34 : ∀ (i : Nat) (x m : aH) (p1 : Int32) (p2 : Int32) (p3 : Int64), i + 6 ≤ L → F1 i x m → ∃ qx qm, fX10_put x p1 p2 p3 = some qx ∧ fX11_put m p1 p2 p3 = some qm ∧ F1 (i + 6) qx.2 qm.2 ∧ qx.1 = qm.1 := by
    intro i x m p1 p2 p3 h6 hJ
    obtain ⟨rfl, rfl⟩ := hJ (by omega)
    obtain ⟨a, b, e1, e2, e3⟩ := op_put hJ0 p1 p2 p3
    exact ⟨a, b, e1, e2, fun z => absurd z (by omega), e3.2⟩
  have h_35 : ∀ (i : Nat) (x m : aH) (p1 : Int32) (p2 : Int32), i + 6 ≤ L → F1 i x m → ∃ qx qm, fX10_element x p1 p2 = some qx ∧ fX11_element m p1 p2 = some qm ∧ F1 (i + 6) x m ∧ qx = qm := by
    intro i x m p1 p2 h6 hJ
    obtain ⟨rfl, rfl⟩ := hJ (by omega)
    obtain ⟨a, b, e1, e2, e3⟩ := op_element hJ0 p1 p2
    exact ⟨a, b, e1, e2, fun z => absurd z (by omega), e3⟩
  have h_36 : ∀ (i : Nat) (x m : aH) (p1 : Int32) (p2 : Int32) (p3 : Int32) (p4 : Int32) (p5 : Int32), i + 6 ≤ L → F1 i x m → ∃ qx qm, fX10_shift x p1 p2 p3 p4 p5 = some qx ∧ fX11_shift m p1 p2 p3 p4 p5 = some qm ∧ F1 (i + 6) qx.2 qm.2 ∧ qx.1 = qm.1 := by
    intro i x m p1 p2 p3 p4 p5 h6 hJ
    obtain ⟨rfl, rfl⟩ := hJ (by omega)
    obtain ⟨a, b, e1, e2, e3⟩ := op_shift hJ0 p1 p2 p3 p4 p5
    exact ⟨a, b, e1, e2, fun z => absurd z (by omega), e3.2⟩
  have h_37 : ∀ (i : Nat) (x m : aH) (p1 : Int32) (p2 : Int32), i + 6 ≤ L → F1 i x m → ∃ qx qm, fX10_taken x p1 p2 = some qx ∧ fX11_taken m p1 p2 = some qm ∧ F1 (i + 6) x m ∧ qx = qm := by
    intro i x m p1 p2 h6 hJ
    obtain ⟨rfl, rfl⟩ := hJ (by omega)
    obtain ⟨a, b, e1, e2, e3⟩ := op_taken hJ0 p1 p2
    exact ⟨a, b, e1, e2, fun z => absurd z (by omega), e3⟩
  have h_38 : ∀ (i : Nat) (x m : aH) (p1 : Int32), i + 6 ≤ L → F1 i x m → ∃ qx qm, fX10_count x p1 = some qx ∧ fX11_count m p1 = some qm ∧ F1 (i + 6) x qm.2 ∧ qx = qm.1 := by
    intro i x m p1 h6 hJ
    obtain ⟨rfl, rfl⟩ := hJ (by omega)
    obtain ⟨a, b, e1, e2, e3⟩ := op_count hJ0 p1
    exact ⟨a, b, e1, e2, fun z => absurd z (by omega), e3.2⟩
  exact law_from (nm := nm) (xs := xs) (by omega) F1 (fun i x m _ _ z => absurd z (by omega)) h_0 h_1 h_2 h_3 h_4 h_5 h_6 h_7 h_8 h_9 h_10 h_11 h_12 h_13 h_14 h_15 h_16 h_17 h_18 h_19 h_20 h_21 h_22 h_23 h_24 h_25 h_26 h_27 h_28 h_29 h_30 h_31 h_32 h_33 h_34 h_35 h_36 h_37 h_38 (fun _ => ⟨rfl, rfl⟩)
