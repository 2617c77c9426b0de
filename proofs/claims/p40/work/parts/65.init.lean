set_option maxRecDepth 20000 in
theorem seq_k1 : ∀ a, a < 98 → kd Sh209 a = kd S0 a ∧ ln Sh209 a = ln S0 a ∧ ∀ k, k < a_N (kd Sh209 a) → fr Sh209 a k = fr S0 a k := by decide +kernel
set_option maxRecDepth 20000 in
theorem seq_k2 : ∀ a, a < 98 → ¬ kd Sh209 a < 12 → kd Sh209 a ≠ 20 → kd Sh209 a ≠ 21 → a = 24 ∨ a = 60 := by decide +kernel
set_option maxRecDepth 20000 in
theorem seq_24 : rr Sh209 24 = rr S0 24 := by
  funext j
  match j with
  | 0 => rfl
  | 1 => rfl
  | 2 => rfl
  | 3 => rfl
  | 4 => rfl
  | n + 5 => rfl
set_option maxRecDepth 20000 in
theorem seq_60 : rr Sh209 60 = rr S0 60 := by
  funext j
  match j with
  | 0 => rfl
  | 1 => rfl
  | 2 => rfl
  | 3 => rfl
  | 4 => rfl
  | 5 => rfl
  | n + 6 => rfl
set_option maxRecDepth 20000 in
theorem seq_nx : nx Sh209 = 98 := rfl
theorem seq_0 : SEQ Sh209 S0 := ⟨seq_nx, fun a ha => ⟨seq_k1 a (by rw [seq_nx] at ha; exact ha), fun h1 h2 h3 => by
  rcases seq_k2 a (by rw [seq_nx] at ha; exact ha) h1 h2 h3 with rfl | rfl
  · exact seq_24
  · exact seq_60⟩⟩
set_option maxRecDepth 20000 in
theorem law_from {nm : String} {L : Nat} {xs : Nat → Int32} (hL : L ≤ 3072) (J : aH → aH → Prop)
  (h_0 : ∀ (x m : aH) (p1 : Int32) (p2 : Int32), J x m → ∃ qx qm, fX10_lost x p1 p2 = some qx ∧ fX11_lost m p1 p2 = some qm ∧ J qx.2 qm.2)
  (h_1 : ∀ (x m : aH) (p1 : Int32) (p2 : Int32) (p3 : Int32), J x m → ∃ qx qm, fX10_losts x p1 p2 p3 = some qx ∧ fX11_losts m p1 p2 p3 = some qm ∧ J qx.2 qm.2)
  (h_2 : ∀ (x m : aH) (p1 : Int32) (p2 : Int32) (p3 : Int32), J x m → ∃ qx qm, fX10_mend x p1 p2 p3 = some qx ∧ fX11_mend m p1 p2 p3 = some qm ∧ J qx.2 qm.2)
  (h_3 : ∀ (x m : aH) (p1 : Int32) (p2 : Int32), J x m → ∃ qx qm, fX10_of x p1 p2 = some qx ∧ fX11_of m p1 p2 = some qm ∧ J x m)
  (h_4 : ∀ (x m : aH) (p1 : Int32), J x m → ∃ qx qm, fX10_feed x p1 = some qx ∧ fX11_feed m p1 = some qm ∧ J qx.2 qm.2)
  (h_5 : ∀ (x m : aH), J x m → ∃ qx qm, fX10_law x = some qx ∧ fX11_law m = some qm ∧ J qx.2 qm.2)
  (h_6 : ∀ (x m : aH) (p1 : Int32), J x m → ∃ qx qm, fX10_draws x p1 = some qx ∧ fX11_draws m p1 = some qm ∧ J qx.2 qm.2)
  (h_7 : ∀ (x m : aH) (p1 : Int32), J x m → ∃ qx qm, fX10_seen x p1 = some qx ∧ fX11_seen m p1 = some qm ∧ J x m)
  (h_8 : ∀ (x m : aH) (p1 : Int32) (p2 : Int32) (p3 : Int32) (p4 : Int32), J x m → ∃ qx qm, fX10_later x p1 p2 p3 p4 = some qx ∧ fX11_later m p1 p2 p3 p4 = some qm ∧ J qx.2 qm.2)
  (h_9 : ∀ (x m : aH) (p1 : Int32) (p2 : Int32) (p3 : Int32), J x m → ∃ qx qm, fX10_home x p1 p2 p3 = some qx ∧ fX11_home m p1 p2 p3 = some qm ∧ J qx.2 qm.2)
  (h_10 : ∀ (x m : aH) (p1 : Int32) (p2 : Int32), J x m → ∃ qx qm, fX10_since x p1 p2 = some qx ∧ fX11_since m p1 p2 = some qm ∧ J qx.2 qm.2)
  (h_11 : ∀ (x m : aH) (p1 : Int32) (p2 : Int32), J x m → ∃ qx qm, fX10_best x p1 p2 = some qx ∧ fX11_best m p1 p2 = some qm ∧ J qx.2 qm.2)
  (h_12 : ∀ (x m : aH) (p1 : Int32) (p2 : Int32), J x m → ∃ qx qm, fX10_fetch x p1 p2 = some qx ∧ fX11_fetch m p1 p2 = some qm ∧ J qx.2 qm.2)
  (h_13 : ∀ (x m : aH) (p1 : Int32) (p2 : Int32), J x m → ∃ qx qm, fX10_drifted x p1 p2 = some qx ∧ fX11_drifted m p1 p2 = some qm ∧ J x m)
  (h_14 : ∀ (x m : aH) (p1 : Int32) (p2 : Int32) (p3 : Int32), J x m → ∃ qx qm, fX10_ashore x p1 p2 p3 = some qx ∧ fX11_ashore m p1 p2 p3 = some qm ∧ J x m)
  (h_15 : ∀ (x m : aH) (p1 : Int32) (p2 : Int32), J x m → ∃ qx qm, fX10_order x p1 p2 = some qx ∧ fX11_order m p1 p2 = some qm ∧ J qx.2 qm.2)
  (h_16 : ∀ (x m : aH) (p1 : Int32) (p2 : Int32), J x m → ∃ qx qm, fX10_clash x p1 p2 = some qx ∧ fX11_clash m p1 p2 = some qm ∧ J qx.2 qm.2)
  (h_17 : ∀ (x m : aH) (p1 : Int32) (p2 : Int32), J x m → ∃ qx qm, fX10_may x p1 p2 = some qx ∧ fX11_may m p1 p2 = some qm ∧ J qx.2 qm.2)
  (h_18 : ∀ (x m : aH) (p1 : Int32) (p2 : Int32), J x m → ∃ qx qm, fX10_share x p1 p2 = some qx ∧ fX11_share m p1 p2 = some qm ∧ J x m)
  (h_19 : ∀ (x m : aH) (p1 : Int32) (p2 : Int32), J x m → ∃ qx qm, fX10_heard x p1 p2 = some qx ∧ fX11_heard m p1 p2 = some qm ∧ J x m)
  (h_20 : ∀ (x m : aH) (p1 : Int32) (p2 : Int32) (p3 : Int32), J x m → ∃ qx qm, fX10_byTurns x p1 p2 p3 = some qx ∧ fX11_byTurns m p1 p2 p3 = some qm ∧ J qx.2 qm.2)
  (h_21 : ∀ (x m : aH) (p1 : Int32) (p2 : Int32) (p3 : Int32), J x m → ∃ qx qm, fX10_drawn x p1 p2 p3 = some qx ∧ fX11_drawn m p1 p2 p3 = some qm ∧ J qx.2 qm.2)
  (h_22 : ∀ (x m : aH) (p1 : Int32), J x m → ∃ qx qm, fX10_night x p1 = some qx ∧ fX11_night m p1 = some qm ∧ J qx.2 qm.2)
  (h_23 : ∀ (x m : aH) (p1 : Int32), J x m → ∃ qx qm, fX10_oil x p1 = some qx ∧ fX11_oil m p1 = some qm ∧ J qx.2 qm.2)
  (h_24 : ∀ (x m : aH) (p1 : Int32), J x m → ∃ qx qm, fX10_led x p1 = some qx ∧ fX11_led m p1 = some qm ∧ J x m)
  (h_25 : ∀ (x m : aH), J x m → ∃ qx qm, fX10_image x = some qx ∧ fX11_image m = some qm ∧ J qx.2 qm.2)
  (h_26 : ∀ (x m : aH), J x m → ∃ qx qm, fX10_back x = some qx ∧ fX11_back m = some qm ∧ J qx.2 qm.2)
  (h_27 : ∀ (x m : aH), J x m → ∃ qx qm, fX10_undo x = some qx ∧ fX11_undo m = some qm ∧ J qx.2 qm.2)
  (h_28 : ∀ (x m : aH), J x m → ∃ qx qm, fX10_redo x = some qx ∧ fX11_redo m = some qm ∧ J qx.2 qm.2)
  (h_29 : ∀ (x m : aH) (p1 : Int32), J x m → ∃ qx qm, fX10_body x p1 = some qx ∧ fX11_body m p1 = some qm ∧ J qx.2 qm.2)
  (h_30 : ∀ (x m : aH) (p1 : Int32) (p2 : Int32) (p3 : Int32), J x m → ∃ qx qm, fX10_act x p1 p2 p3 = some qx ∧ fX11_act m p1 p2 p3 = some qm ∧ J qx.2 qm.2)
  (h_31 : ∀ (x m : aH) (p1 : Int32), J x m → ∃ qx qm, fX10_trace x p1 = some qx ∧ fX11_trace m p1 = some qm ∧ J x m)
  (h_32 : ∀ (x m : aH) (p1 : Int32) (p2 : Int32), J x m → ∃ qx qm, fX10_keep x p1 p2 = some qx ∧ fX11_keep m p1 p2 = some qm ∧ J qx.2 qm.2)
  (h_33 : ∀ (x m : aH) (p1 : Int32) (p2 : Int32) (p3 : Int32), J x m → ∃ qx qm, fX10_row x p1 p2 p3 = some qx ∧ fX11_row m p1 p2 p3 = some qm ∧ J qx.2 qm.2)
  (h_34 : ∀ (x m : aH) (p1 : Int32) (p2 : Int32) (p3 : Int64), J x m → ∃ qx qm, fX10_put x p1 p2 p3 = some qx ∧ fX11_put m p1 p2 p3 = some qm ∧ J qx.2 qm.2)
  (h_35 : ∀ (x m : aH) (p1 : Int32) (p2 : Int32), J x m → ∃ qx qm, fX10_element x p1 p2 = some qx ∧ fX11_element m p1 p2 = some qm ∧ J x m)
  (h_36 : ∀ (x m : aH) (p1 : Int32) (p2 : Int32) (p3 : Int32) (p4 : Int32) (p5 : Int32), J x m → ∃ qx qm, fX10_shift x p1 p2 p3 p4 p5 = some qx ∧ fX11_shift m p1 p2 p3 p4 p5 = some qm ∧ J qx.2 qm.2)
  (h_37 : ∀ (x m : aH) (p1 : Int32) (p2 : Int32), J x m → ∃ qx qm, fX10_taken x p1 p2 = some qx ∧ fX11_taken m p1 p2 = some qm ∧ J x m)
  (h_38 : ∀ (x m : aH) (p1 : Int32), J x m → ∃ qx qm, fX10_count x p1 = some qx ∧ fX11_count m p1 = some qm ∧ J x qm.2 ∧ qx = qm.1)
  (hJ0 : J He259 He259) : TJ (L, xs) (mLn nm) 2000 98 6060 0 [.ref 1005, .null, .null, .null] [] Sh0 He0 (fun r _ _ => r = some (.int 1)) := by
  refine T_new (bc := 97) (bs := 6048) dL_law_0 lnL_7 (Nat.le_of_ble_eq_true rfl) ?_
  show TK _ _ _ _ _ Sh1 He1 _ _ _ (.ref 0 :: _)
  refine T_dup dL_law_3 rfl ?_
  refine T_callI (mc := 72) (ms := 3514) (As := []) (Q2 := fun r S h => r = none ∧ S = Sh160 ∧ h = He159) dL_law_4 liL_9 rfl rfl (Nat.le_of_ble_eq_true rfl) (Nat.le_of_ble_eq_true rfl) ⟨Nat.le_of_ble_eq_true rfl, Nat.le_of_ble_eq_true rfl⟩ (nX10_init _ _ (Nat.le_of_ble_eq_true rfl)) ?_
  intro r S h qr
  obtain ⟨rfl, rfl, rfl⟩ := qr
  show TK _ _ _ 25 2534 _ _ _ _ _ _
  refine T_astore dL_law_7 ?_
  show TK _ _ _ _ _ _ _ _ _ [.ref 1005, .ref 0, .null, .null] _
  refine T_new (bc := 24) (bs := 2488) dL_law_8 lnL_10 (Nat.le_of_ble_eq_true rfl) ?_
  show TK _ _ _ _ _ Sh161 He160 _ _ _ (.ref 73 :: _)
  refine T_dup dL_law_11 rfl ?_
  refine T_callI (mc := 24) (ms := 2488) (As := []) (Q2 := fun r S h => r = none ∧ S = Sh209 ∧ h = He259) dL_law_12 liL_12 rfl rfl (Nat.le_of_ble_eq_true rfl) (Nat.le_of_ble_eq_true rfl) ⟨Nat.le_of_ble_eq_true rfl, Nat.le_of_ble_eq_true rfl⟩ (nX11_init _ _ (Nat.le_of_ble_eq_true rfl)) ?_
  intro r S h qr
  obtain ⟨rfl, rfl, rfl⟩ := qr
  show TK _ _ _ 0 0 _ _ _ _ _ _
  refine T_astore dL_law_15 ?_
  show TK _ _ _ _ _ _ _ _ _ [.ref 1005, .ref 0, .ref 73, .null] _
  refine T_const dL_law_16 ?_
  refine T_istore dL_law_17 ?_
  show TK _ _ _ _ _ _ _ _ _ [.ref 1005, .ref 0, .ref 73, .int (nI 0)] _
  refine TJ.mono (Q := fun r S h => S = S0 ∧ r = some (.int 1)) (TJ.reshape seq_0 ?_) (Nat.le_refl _) (fun _ _ _ q => q.2)
  have k := law_loop (nm := nm) (xs := xs) hL J h_0 h_1 h_2 h_3 h_4 h_5 h_6 h_7 h_8 h_9 h_10 h_11 h_12 h_13 h_14 h_15 h_16 h_17 h_18 h_19 h_20 h_21 h_22 h_23 h_24 h_25 h_26 h_27 h_28 h_29 h_30 h_31 h_32 h_33 h_34 h_35 h_36 h_37 h_38 (L + 1) 0 He259 He259 (by omega) (by omega) hJ0
  rw [show He259 = hp true He259 He259 from (hp_self _).symm]
  exact k
