/-! ===== Sea ===== -/
def farF (lamp c : Nat) : Nat := dist (c % 8) (lamp % 8) + dist (c / 8) (lamp / 8)
theorem c_far (Z : aZ) (d : Nat) (h : aH) {lamp c : Nat} (hl : fi h 1 4 = nI lamp) (hlamp : lamp < 64) (hc : c < 64) : C0 Z mX5_far d [.ref 1, .int (nI c)] h (PV h (.int (nI (farF lamp c)))) := by
  refine C0.of mokX5_far (Nat.le_of_ble_eq_true rfl) ?_
  show T0 _ _ _ _ _ _ [_, _] _
  refine T_iload dX5_far_0 rfl ?_
  refine T_const dX5_far_1 ?_
  refine T_irem dX5_far_3 (by decide) ?_
  refine T_aload dX5_far_4 rfl ?_
  refine T_getfN (by first | assumption | rfl) dX5_far_5 lfX5_24 rfl rfl (by decide) ?_
  refine T_const dX5_far_8 ?_
  refine T_irem dX5_far_10 (by decide) ?_
  refine T_isub dX5_far_11 ?_
  refine T_abs dX5_far_12 lmX5_34 (Nat.le_of_ble_eq_true rfl) ?_
  refine T_iload dX5_far_15 rfl ?_
  refine T_const dX5_far_16 ?_
  refine T_idiv dX5_far_18 (by decide) ?_
  refine T_aload dX5_far_19 rfl ?_
  refine T_getfN (by first | assumption | rfl) dX5_far_20 lfX5_24 rfl rfl (by decide) ?_
  refine T_const dX5_far_23 ?_
  refine T_idiv dX5_far_25 (by decide) ?_
  refine T_isub dX5_far_26 ?_
  refine T_abs dX5_far_27 lmX5_34 (Nat.le_of_ble_eq_true rfl) ?_
  refine T_iadd dX5_far_30 ?_
  rw [nI_rem8 (by omega), nI_rem8 (by omega), nI_div8 (by omega), nI_div8 (by omega), abs_dist _ _ (by omega) (by omega), abs_dist _ _ (by omega) (by omega), nI_add]
  exact T0_ireti dX5_far_31 ⟨rfl, rfl⟩
