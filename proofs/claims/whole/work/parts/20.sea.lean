/-! ===== Sea ===== -/
theorem c_far (Z : aZ) (d : Nat) (h : aH) {lamp c : Nat} (hl : fi h 1 4 = nI lamp) (hlamp : lamp < 64) (hc : c < 64) : C0 Z mX5_far d [.ref 1, .int (nI c)] h (PV h (.int (nI (farF lamp c)))) := by
  refine C0.of mokX5_far (Nat.le_of_ble_eq_true rfl) ?_
  show T0 _ _ _ _ _ _ [_, _] _
  refine T_iload dX5_far_0 rfl ?_
  refine T_const dX5_far_1 ?_
  refine T_irem dX5_far_3 (by decide) ?_
  refine T_aload dX5_far_4 rfl ?_
  refine T_getfN (by first | assumption | rfl) dX5_far_5 lfX5_24 rfl rfl (by decide) ?_
  refine T_const dX5_far_8 ?_
  refine T_irem dX5_far_10 (by decide) ?_
  refine T_isub dX5_far_11 ?_
  refine T_abs dX5_far_12 lmX5_34 (Nat.le_of_ble_eq_true rfl) ?_
  refine T_iload dX5_far_15 rfl ?_
  refine T_const dX5_far_16 ?_
  refine T_idiv dX5_far_18 (by decide) ?_
  refine T_aload dX5_far_19 rfl ?_
  refine T_getfN (by first | assumption | rfl) dX5_far_20 lfX5_24 rfl rfl (by decide) ?_
  refine T_const dX5_far_23 ?_
  refine T_idiv dX5_far_25 (by decide) ?_
  refine T_isub dX5_far_26 ?_
  refine T_abs dX5_far_27 lmX5_34 (Nat.le_of_ble_eq_true rfl) ?_
  refine T_iadd dX5_far_30 ?_
  rw [nI_rem8 (by omega), nI_rem8 (by omega), nI_div8 (by omega), nI_div8 (by omega), abs_dist _ _ (by omega) (by omega), abs_dist _ _ (by omega) (by omega), nI_add]
  exact T0_ireti dX5_far_31 ⟨rfl, rfl⟩
theorem rgt_b {lamp c : Nat} : -8 < rgt lamp c ∧ rgt lamp c < 8 := by unfold rgt; omega
theorem dwn_b {lamp c : Nat} (hl : lamp < 64) (hc : c < 64) : -8 < dwn lamp c ∧ dwn lamp c < 8 := by unfold dwn; omega
theorem rgt_i {lamp c : Nat} (hl : lamp < 64) (hc : c < 64) : (nI c - nI c / 8 * 8) - (nI lamp - nI lamp / 8 * 8) = iI (rgt lamp c) := by
  rw [nI_rem8 (by omega), nI_rem8 (by omega), nI_subI]
  rfl
theorem dwn_i {lamp c : Nat} (hl : lamp < 64) (hc : c < 64) : nI c / 8 - nI lamp / 8 = iI (dwn lamp c) := by
  rw [nI_div8 (by omega), nI_div8 (by omega), nI_subI]
  rfl
theorem lit_ret {lamp way c : Nat} (hl : lamp < 64) (hc : c < 64) {al ac : Int} (h1 : alongF lamp way c = al) (h2 : acrossF lamp way c = ac) (b1 : -8 < al ∧ al < 8) (b2 : 0 ≤ ac ∧ ac < 8) : (iI al ≤ 0 → bI (litF lamp way c = true) = 0) ∧ (¬ iI al ≤ 0 → iI al < iI ac → bI (litF lamp way c = true) = 0) ∧ (¬ iI al ≤ 0 → ¬ iI al < iI ac → bI (litF lamp way c = true) = 1) := by
  rw [iI_0, iI_le (by omega) (by omega) (by omega) (by omega), iI_lt (by omega) (by omega) (by omega) (by omega)]
  unfold litF
  rw [h1, h2]
  refine ⟨fun a => bI_f (by simp only [decide_eq_true_eq]; omega), fun _ b => bI_f (by simp only [decide_eq_true_eq]; omega), fun a b => bI_t (by simp only [decide_eq_true_eq]; omega)⟩
theorem c_isLit (Z : aZ) (d : Nat) (h : aH) {lamp way c : Nat} (hl : fi h 1 4 = nI lamp) (hlamp : lamp < 64) (hw : way < 4) (hc : c < 64) : C0 Z mX5_isLit d [.ref 1, .int (nI way), .int (nI c)] h (PV h (.int (bI (litF lamp way c = true)))) := by
  have hr := @rgt_b lamp c
  have hd := dwn_b hlamp hc
  have e1 := rgt_i hlamp hc
  have e2 := dwn_i hlamp hc
  refine C0.of mokX5_isLit (Nat.le_of_ble_eq_true rfl) ?_
  show T0 _ _ _ _ _ _ [_, _, _, _, _, _, _, _, _] _
  rcases (show way = 0 ∨ way = 1 ∨ way = 2 ∨ way = 3 by omega) with rfl | rfl | rfl | rfl
  · have L := @lit_ret lamp 0 c hlamp hc (-dwn lamp c) ((rgt lamp c).natAbs) rfl rfl (by omega) (by omega)
    refine T_iload dX5_isLit_0 rfl ?_
    refine T_const dX5_isLit_1 ?_
    refine T_irem dX5_isLit_3 (by decide) ?_
    refine T_aload dX5_isLit_4 rfl ?_
    refine T_getfN (by first | assumption | rfl) dX5_isLit_5 lfX5_24 rfl rfl (by decide) ?_
    refine T_const dX5_isLit_8 ?_
    refine T_irem dX5_isLit_10 (by decide) ?_
    refine T_isub dX5_isLit_11 ?_
    refine T_istore dX5_isLit_12 ?_
    show TK _ _ _ _ _ _ _ _ _ [_, _, _, _, _, _, _, _, _] _
    refine T_iload dX5_isLit_13 rfl ?_
    refine T_const dX5_isLit_14 ?_
    refine T_idiv dX5_isLit_16 (by decide) ?_
    refine T_aload dX5_isLit_17 rfl ?_
    refine T_getfN (by first | assumption | rfl) dX5_isLit_18 lfX5_24 rfl rfl (by decide) ?_
    refine T_const dX5_isLit_21 ?_
    refine T_idiv dX5_isLit_23 (by decide) ?_
    refine T_isub dX5_isLit_24 ?_
    refine T_istore dX5_isLit_25 ?_
    show TK _ _ _ _ _ _ _ _ _ [_, _, _, _, _, _, _, _, _] _
    refine T_iload dX5_isLit_27 rfl ?_
    refine T_if_eq dX5_isLit_28 (fun c28 => ?_) (fun c28 => by first | exact absurd c28 (by decide) | exact absurd (by decide) c28)
    refine T_const dX5_isLit_36 ?_
    refine T_goto dX5_isLit_37 ?_
    refine T_istore dX5_isLit_41 ?_
    show TK _ _ _ _ _ _ _ _ _ [_, _, _, _, _, _, _, _, _] _
    refine T_iload dX5_isLit_43 rfl ?_
    refine T_if_eq dX5_isLit_45 (fun c45 => by first | exact absurd c45 (by decide) | exact absurd (by decide) c45) (fun c45 => ?_)
    refine T_iload dX5_isLit_48 rfl ?_
    refine T_goto dX5_isLit_50 ?_
    refine T_istore dX5_isLit_54 ?_
    show TK _ _ _ _ _ _ _ _ _ [_, _, _, _, _, _, _, _, _] _
    refine T_iload dX5_isLit_56 rfl ?_
    refine T_if_eq dX5_isLit_57 (fun c57 => ?_) (fun c57 => by first | exact absurd c57 (by decide) | exact absurd (by decide) c57)
    refine T_iload dX5_isLit_65 rfl ?_
    refine T_ineg dX5_isLit_67 ?_
    refine T_goto dX5_isLit_68 ?_
    refine T_istore dX5_isLit_73 ?_
    show TK _ _ _ _ _ _ _ _ _ [_, _, _, _, _, _, _, _, _] _
    refine T_iload dX5_isLit_75 rfl ?_
    refine T_if_eq dX5_isLit_77 (fun c77 => by first | exact absurd c77 (by decide) | exact absurd (by decide) c77) (fun c77 => ?_)
    refine T_iload dX5_isLit_80 rfl ?_
    refine T_goto dX5_isLit_81 ?_
    refine T_abs dX5_isLit_86 lmX5_34 (Nat.le_of_ble_eq_true rfl) ?_
    refine T_istore dX5_isLit_89 ?_
    show TK _ _ _ _ _ _ _ _ _ [_, _, _, _, _, _, _, _, _] _
    rw [e1, e2, iI_neg, iI_abs (by omega) (by omega), nI_iI]
    refine T_iload dX5_isLit_91 rfl ?_
    refine T_if_le dX5_isLit_93 (fun c93 => ?_) (fun c93 => ?_)
    · refine T_const dX5_isLit_107 ?_
      exact T0_iretz dX5_isLit_108 (by first | exact Or.inl rfl | exact Or.inr rfl) ⟨by first | rw [L.1 c93] | rw [L.2.1 c93 c100] | rw [L.2.2 c93 c100], rfl⟩
    · refine T_iload dX5_isLit_96 rfl ?_
      refine T_iload dX5_isLit_98 rfl ?_
      refine T_icmp_gt dX5_isLit_100 (fun c100 => ?_) (fun c100 => ?_)
      · refine T_const dX5_isLit_107 ?_
        exact T0_iretz dX5_isLit_108 (by first | exact Or.inl rfl | exact Or.inr rfl) ⟨by first | rw [L.1 c93] | rw [L.2.1 c93 c100] | rw [L.2.2 c93 c100], rfl⟩
      · refine T_const dX5_isLit_103 ?_
        refine T_goto dX5_isLit_104 ?_
        exact T0_iretz dX5_isLit_108 (by first | exact Or.inl rfl | exact Or.inr rfl) ⟨by first | rw [L.1 c93] | rw [L.2.1 c93 c100] | rw [L.2.2 c93 c100], rfl⟩
  · have L := @lit_ret lamp 1 c hlamp hc (rgt lamp c) ((dwn lamp c).natAbs) rfl rfl (by omega) (by omega)
    refine T_iload dX5_isLit_0 rfl ?_
    refine T_const dX5_isLit_1 ?_
    refine T_irem dX5_isLit_3 (by decide) ?_
    refine T_aload dX5_isLit_4 rfl ?_
    refine T_getfN (by first | assumption | rfl) dX5_isLit_5 lfX5_24 rfl rfl (by decide) ?_
    refine T_const dX5_isLit_8 ?_
    refine T_irem dX5_isLit_10 (by decide) ?_
    refine T_isub dX5_isLit_11 ?_
    refine T_istore dX5_isLit_12 ?_
    show TK _ _ _ _ _ _ _ _ _ [_, _, _, _, _, _, _, _, _] _
    refine T_iload dX5_isLit_13 rfl ?_
    refine T_const dX5_isLit_14 ?_
    refine T_idiv dX5_isLit_16 (by decide) ?_
    refine T_aload dX5_isLit_17 rfl ?_
    refine T_getfN (by first | assumption | rfl) dX5_isLit_18 lfX5_24 rfl rfl (by decide) ?_
    refine T_const dX5_isLit_21 ?_
    refine T_idiv dX5_isLit_23 (by decide) ?_
    refine T_isub dX5_isLit_24 ?_
    refine T_istore dX5_isLit_25 ?_
    show TK _ _ _ _ _ _ _ _ _ [_, _, _, _, _, _, _, _, _] _
    refine T_iload dX5_isLit_27 rfl ?_
    refine T_if_eq dX5_isLit_28 (fun c28 => by first | exact absurd c28 (by decide) | exact absurd (by decide) c28) (fun c28 => ?_)
    refine T_iload dX5_isLit_31 rfl ?_
    refine T_const dX5_isLit_32 ?_
    refine T_icmp_ne dX5_isLit_33 (fun c33 => ?_) (fun c33 => by first | exact absurd c33 (by decide) | exact absurd (by decide) c33)
    refine T_const dX5_isLit_40 ?_
    refine T_istore dX5_isLit_41 ?_
    show TK _ _ _ _ _ _ _ _ _ [_, _, _, _, _, _, _, _, _] _
    refine T_iload dX5_isLit_43 rfl ?_
    refine T_if_eq dX5_isLit_45 (fun c45 => ?_) (fun c45 => by first | exact absurd c45 (by decide) | exact absurd (by decide) c45)
    refine T_iload dX5_isLit_53 rfl ?_
    refine T_istore dX5_isLit_54 ?_
    show TK _ _ _ _ _ _ _ _ _ [_, _, _, _, _, _, _, _, _] _
    refine T_iload dX5_isLit_56 rfl ?_
    refine T_if_eq dX5_isLit_57 (fun c57 => by first | exact absurd c57 (by decide) | exact absurd (by decide) c57) (fun c57 => ?_)
    refine T_iload dX5_isLit_60 rfl ?_
    refine T_const dX5_isLit_61 ?_
    refine T_icmp_ne dX5_isLit_62 (fun c62 => ?_) (fun c62 => by first | exact absurd c62 (by decide) | exact absurd (by decide) c62)
    refine T_iload dX5_isLit_71 rfl ?_
    refine T_istore dX5_isLit_73 ?_
    show TK _ _ _ _ _ _ _ _ _ [_, _, _, _, _, _, _, _, _] _
    refine T_iload dX5_isLit_75 rfl ?_
    refine T_if_eq dX5_isLit_77 (fun c77 => ?_) (fun c77 => by first | exact absurd c77 (by decide) | exact absurd (by decide) c77)
    refine T_iload dX5_isLit_84 rfl ?_
    refine T_abs dX5_isLit_86 lmX5_34 (Nat.le_of_ble_eq_true rfl) ?_
    refine T_istore dX5_isLit_89 ?_
    show TK _ _ _ _ _ _ _ _ _ [_, _, _, _, _, _, _, _, _] _
    rw [e1, e2, iI_abs (by omega) (by omega), nI_iI]
    refine T_iload dX5_isLit_91 rfl ?_
    refine T_if_le dX5_isLit_93 (fun c93 => ?_) (fun c93 => ?_)
    · refine T_const dX5_isLit_107 ?_
      exact T0_iretz dX5_isLit_108 (by first | exact Or.inl rfl | exact Or.inr rfl) ⟨by first | rw [L.1 c93] | rw [L.2.1 c93 c100] | rw [L.2.2 c93 c100], rfl⟩
    · refine T_iload dX5_isLit_96 rfl ?_
      refine T_iload dX5_isLit_98 rfl ?_
      refine T_icmp_gt dX5_isLit_100 (fun c100 => ?_) (fun c100 => ?_)
      · refine T_const dX5_isLit_107 ?_
        exact T0_iretz dX5_isLit_108 (by first | exact Or.inl rfl | exact Or.inr rfl) ⟨by first | rw [L.1 c93] | rw [L.2.1 c93 c100] | rw [L.2.2 c93 c100], rfl⟩
      · refine T_const dX5_isLit_103 ?_
        refine T_goto dX5_isLit_104 ?_
        exact T0_iretz dX5_isLit_108 (by first | exact Or.inl rfl | exact Or.inr rfl) ⟨by first | rw [L.1 c93] | rw [L.2.1 c93 c100] | rw [L.2.2 c93 c100], rfl⟩
  · have L := @lit_ret lamp 2 c hlamp hc (dwn lamp c) ((rgt lamp c).natAbs) rfl rfl (by omega) (by omega)
    refine T_iload dX5_isLit_0 rfl ?_
    refine T_const dX5_isLit_1 ?_
    refine T_irem dX5_isLit_3 (by decide) ?_
    refine T_aload dX5_isLit_4 rfl ?_
    refine T_getfN (by first | assumption | rfl) dX5_isLit_5 lfX5_24 rfl rfl (by decide) ?_
    refine T_const dX5_isLit_8 ?_
    refine T_irem dX5_isLit_10 (by decide) ?_
    refine T_isub dX5_isLit_11 ?_
    refine T_istore dX5_isLit_12 ?_
    show TK _ _ _ _ _ _ _ _ _ [_, _, _, _, _, _, _, _, _] _
    refine T_iload dX5_isLit_13 rfl ?_
    refine T_const dX5_isLit_14 ?_
    refine T_idiv dX5_isLit_16 (by decide) ?_
    refine T_aload dX5_isLit_17 rfl ?_
    refine T_getfN (by first | assumption | rfl) dX5_isLit_18 lfX5_24 rfl rfl (by decide) ?_
    refine T_const dX5_isLit_21 ?_
    refine T_idiv dX5_isLit_23 (by decide) ?_
    refine T_isub dX5_isLit_24 ?_
    refine T_istore dX5_isLit_25 ?_
    show TK _ _ _ _ _ _ _ _ _ [_, _, _, _, _, _, _, _, _] _
    refine T_iload dX5_isLit_27 rfl ?_
    refine T_if_eq dX5_isLit_28 (fun c28 => by first | exact absurd c28 (by decide) | exact absurd (by decide) c28) (fun c28 => ?_)
    refine T_iload dX5_isLit_31 rfl ?_
    refine T_const dX5_isLit_32 ?_
    refine T_icmp_ne dX5_isLit_33 (fun c33 => by first | exact absurd c33 (by decide) | exact absurd (by decide) c33) (fun c33 => ?_)
    refine T_const dX5_isLit_36 ?_
    refine T_goto dX5_isLit_37 ?_
    refine T_istore dX5_isLit_41 ?_
    show TK _ _ _ _ _ _ _ _ _ [_, _, _, _, _, _, _, _, _] _
    refine T_iload dX5_isLit_43 rfl ?_
    refine T_if_eq dX5_isLit_45 (fun c45 => by first | exact absurd c45 (by decide) | exact absurd (by decide) c45) (fun c45 => ?_)
    refine T_iload dX5_isLit_48 rfl ?_
    refine T_goto dX5_isLit_50 ?_
    refine T_istore dX5_isLit_54 ?_
    show TK _ _ _ _ _ _ _ _ _ [_, _, _, _, _, _, _, _, _] _
    refine T_iload dX5_isLit_56 rfl ?_
    refine T_if_eq dX5_isLit_57 (fun c57 => by first | exact absurd c57 (by decide) | exact absurd (by decide) c57) (fun c57 => ?_)
    refine T_iload dX5_isLit_60 rfl ?_
    refine T_const dX5_isLit_61 ?_
    refine T_icmp_ne dX5_isLit_62 (fun c62 => ?_) (fun c62 => by first | exact absurd c62 (by decide) | exact absurd (by decide) c62)
    refine T_iload dX5_isLit_71 rfl ?_
    refine T_istore dX5_isLit_73 ?_
    show TK _ _ _ _ _ _ _ _ _ [_, _, _, _, _, _, _, _, _] _
    refine T_iload dX5_isLit_75 rfl ?_
    refine T_if_eq dX5_isLit_77 (fun c77 => by first | exact absurd c77 (by decide) | exact absurd (by decide) c77) (fun c77 => ?_)
    refine T_iload dX5_isLit_80 rfl ?_
    refine T_goto dX5_isLit_81 ?_
    refine T_abs dX5_isLit_86 lmX5_34 (Nat.le_of_ble_eq_true rfl) ?_
    refine T_istore dX5_isLit_89 ?_
    show TK _ _ _ _ _ _ _ _ _ [_, _, _, _, _, _, _, _, _] _
    rw [e1, e2, iI_abs (by omega) (by omega), nI_iI]
    refine T_iload dX5_isLit_91 rfl ?_
    refine T_if_le dX5_isLit_93 (fun c93 => ?_) (fun c93 => ?_)
    · refine T_const dX5_isLit_107 ?_
      exact T0_iretz dX5_isLit_108 (by first | exact Or.inl rfl | exact Or.inr rfl) ⟨by first | rw [L.1 c93] | rw [L.2.1 c93 c100] | rw [L.2.2 c93 c100], rfl⟩
    · refine T_iload dX5_isLit_96 rfl ?_
      refine T_iload dX5_isLit_98 rfl ?_
      refine T_icmp_gt dX5_isLit_100 (fun c100 => ?_) (fun c100 => ?_)
      · refine T_const dX5_isLit_107 ?_
        exact T0_iretz dX5_isLit_108 (by first | exact Or.inl rfl | exact Or.inr rfl) ⟨by first | rw [L.1 c93] | rw [L.2.1 c93 c100] | rw [L.2.2 c93 c100], rfl⟩
      · refine T_const dX5_isLit_103 ?_
        refine T_goto dX5_isLit_104 ?_
        exact T0_iretz dX5_isLit_108 (by first | exact Or.inl rfl | exact Or.inr rfl) ⟨by first | rw [L.1 c93] | rw [L.2.1 c93 c100] | rw [L.2.2 c93 c100], rfl⟩
  · have L := @lit_ret lamp 3 c hlamp hc (-rgt lamp c) ((dwn lamp c).natAbs) rfl rfl (by omega) (by omega)
    refine T_iload dX5_isLit_0 rfl ?_
    refine T_const dX5_isLit_1 ?_
    refine T_irem dX5_isLit_3 (by decide) ?_
    refine T_aload dX5_isLit_4 rfl ?_
    refine T_getfN (by first | assumption | rfl) dX5_isLit_5 lfX5_24 rfl rfl (by decide) ?_
    refine T_const dX5_isLit_8 ?_
    refine T_irem dX5_isLit_10 (by decide) ?_
    refine T_isub dX5_isLit_11 ?_
    refine T_istore dX5_isLit_12 ?_
    show TK _ _ _ _ _ _ _ _ _ [_, _, _, _, _, _, _, _, _] _
    refine T_iload dX5_isLit_13 rfl ?_
    refine T_const dX5_isLit_14 ?_
    refine T_idiv dX5_isLit_16 (by decide) ?_
    refine T_aload dX5_isLit_17 rfl ?_
    refine T_getfN (by first | assumption | rfl) dX5_isLit_18 lfX5_24 rfl rfl (by decide) ?_
    refine T_const dX5_isLit_21 ?_
    refine T_idiv dX5_isLit_23 (by decide) ?_
    refine T_isub dX5_isLit_24 ?_
    refine T_istore dX5_isLit_25 ?_
    show TK _ _ _ _ _ _ _ _ _ [_, _, _, _, _, _, _, _, _] _
    refine T_iload dX5_isLit_27 rfl ?_
    refine T_if_eq dX5_isLit_28 (fun c28 => by first | exact absurd c28 (by decide) | exact absurd (by decide) c28) (fun c28 => ?_)
    refine T_iload dX5_isLit_31 rfl ?_
    refine T_const dX5_isLit_32 ?_
    refine T_icmp_ne dX5_isLit_33 (fun c33 => ?_) (fun c33 => by first | exact absurd c33 (by decide) | exact absurd (by decide) c33)
    refine T_const dX5_isLit_40 ?_
    refine T_istore dX5_isLit_41 ?_
    show TK _ _ _ _ _ _ _ _ _ [_, _, _, _, _, _, _, _, _] _
    refine T_iload dX5_isLit_43 rfl ?_
    refine T_if_eq dX5_isLit_45 (fun c45 => ?_) (fun c45 => by first | exact absurd c45 (by decide) | exact absurd (by decide) c45)
    refine T_iload dX5_isLit_53 rfl ?_
    refine T_istore dX5_isLit_54 ?_
    show TK _ _ _ _ _ _ _ _ _ [_, _, _, _, _, _, _, _, _] _
    refine T_iload dX5_isLit_56 rfl ?_
    refine T_if_eq dX5_isLit_57 (fun c57 => by first | exact absurd c57 (by decide) | exact absurd (by decide) c57) (fun c57 => ?_)
    refine T_iload dX5_isLit_60 rfl ?_
    refine T_const dX5_isLit_61 ?_
    refine T_icmp_ne dX5_isLit_62 (fun c62 => by first | exact absurd c62 (by decide) | exact absurd (by decide) c62) (fun c62 => ?_)
    refine T_iload dX5_isLit_65 rfl ?_
    refine T_ineg dX5_isLit_67 ?_
    refine T_goto dX5_isLit_68 ?_
    refine T_istore dX5_isLit_73 ?_
    show TK _ _ _ _ _ _ _ _ _ [_, _, _, _, _, _, _, _, _] _
    refine T_iload dX5_isLit_75 rfl ?_
    refine T_if_eq dX5_isLit_77 (fun c77 => ?_) (fun c77 => by first | exact absurd c77 (by decide) | exact absurd (by decide) c77)
    refine T_iload dX5_isLit_84 rfl ?_
    refine T_abs dX5_isLit_86 lmX5_34 (Nat.le_of_ble_eq_true rfl) ?_
    refine T_istore dX5_isLit_89 ?_
    show TK _ _ _ _ _ _ _ _ _ [_, _, _, _, _, _, _, _, _] _
    rw [e1, e2, iI_neg, iI_abs (by omega) (by omega), nI_iI]
    refine T_iload dX5_isLit_91 rfl ?_
    refine T_if_le dX5_isLit_93 (fun c93 => ?_) (fun c93 => ?_)
    · refine T_const dX5_isLit_107 ?_
      exact T0_iretz dX5_isLit_108 (by first | exact Or.inl rfl | exact Or.inr rfl) ⟨by first | rw [L.1 c93] | rw [L.2.1 c93 c100] | rw [L.2.2 c93 c100], rfl⟩
    · refine T_iload dX5_isLit_96 rfl ?_
      refine T_iload dX5_isLit_98 rfl ?_
      refine T_icmp_gt dX5_isLit_100 (fun c100 => ?_) (fun c100 => ?_)
      · refine T_const dX5_isLit_107 ?_
        exact T0_iretz dX5_isLit_108 (by first | exact Or.inl rfl | exact Or.inr rfl) ⟨by first | rw [L.1 c93] | rw [L.2.1 c93 c100] | rw [L.2.2 c93 c100], rfl⟩
      · refine T_const dX5_isLit_103 ?_
        refine T_goto dX5_isLit_104 ?_
        exact T0_iretz dX5_isLit_108 (by first | exact Or.inl rfl | exact Or.inr rfl) ⟨by first | rw [L.1 c93] | rw [L.2.1 c93 c100] | rw [L.2.2 c93 c100], rfl⟩
theorem c_nearer (Z : aZ) (d : Nat) (h : aH) {lamp c : Nat} (hl : fi h 1 4 = nI lamp) (hlamp : lamp < 64) (hc : c < 64) (hne : c ≠ lamp) : C0 Z mX5_nearer d [.ref 1, .int (nI c)] h (PV h (.int (nI (nearF lamp c)))) := by
  have hr := @rgt_b c lamp
  have hd := dwn_b hc hlamp
  have e1 := rgt_i (lamp := c) (c := lamp) hc hlamp
  have e2 := dwn_i (lamp := c) (c := lamp) hc hlamp
  have hne2 : rgt c lamp ≠ 0 ∨ dwn c lamp ≠ 0 := by unfold rgt dwn; omega
  have key : nearF lamp c = if (dwn c lamp).natAbs ≤ (rgt c lamp).natAbs then (if 0 < rgt c lamp then c + 1 else c - 1) else (if 0 < dwn c lamp then c + 8 else c - 8) := by
    unfold nearF
    exact ite_iff (by unfold dist rgt dwn; omega) (ite_iff (by unfold rgt; omega) rfl rfl) (ite_iff (by unfold dwn; omega) rfl rfl)
  refine C0.of mokX5_nearer (Nat.le_of_ble_eq_true rfl) ?_
  show T0 _ _ _ _ _ _ [_, _, _, _] _
  refine T_aload dX5_nearer_0 rfl ?_
  refine T_getfN (by first | assumption | rfl) dX5_nearer_1 lfX5_24 rfl rfl (by decide) ?_
  refine T_const dX5_nearer_4 ?_
  refine T_irem dX5_nearer_6 (by decide) ?_
  refine T_iload dX5_nearer_7 rfl ?_
  refine T_const dX5_nearer_8 ?_
  refine T_irem dX5_nearer_10 (by decide) ?_
  refine T_isub dX5_nearer_11 ?_
  refine T_istore dX5_nearer_12 ?_
  show TK _ _ _ _ _ _ _ _ _ [_, _, _, _] _
  refine T_aload dX5_nearer_13 rfl ?_
  refine T_getfN (by first | assumption | rfl) dX5_nearer_14 lfX5_24 rfl rfl (by decide) ?_
  refine T_const dX5_nearer_17 ?_
  refine T_idiv dX5_nearer_19 (by decide) ?_
  refine T_iload dX5_nearer_20 rfl ?_
  refine T_const dX5_nearer_21 ?_
  refine T_idiv dX5_nearer_23 (by decide) ?_
  refine T_isub dX5_nearer_24 ?_
  refine T_istore dX5_nearer_25 ?_
  show TK _ _ _ _ _ _ _ _ _ [_, _, _, _] _
  refine T_iload dX5_nearer_26 rfl ?_
  refine T_abs dX5_nearer_27 lmX5_34 (Nat.le_of_ble_eq_true rfl) ?_
  refine T_iload dX5_nearer_30 rfl ?_
  refine T_abs dX5_nearer_31 lmX5_34 (Nat.le_of_ble_eq_true rfl) ?_
  rw [e1, e2, iI_abs (by omega) (by omega), iI_abs (by omega) (by omega)]
  rw [key]
  refine T_icmp_lt dX5_nearer_34 (fun c34 => ?_) (fun c34 => ?_)
  · rw [nI_lt' (by omega) (by omega)] at c34
    rw [if_neg (by omega)]
    refine T_iload dX5_nearer_51 rfl ?_
    refine T_if_le dX5_nearer_52 (fun c52 => ?_) (fun c52 => ?_)
    · rw [iI_0, iI_le (by omega) (by omega) (by omega) (by omega)] at c52
      rw [if_neg (by omega)]
      refine T_iload dX5_nearer_62 rfl ?_
      refine T_const dX5_nearer_63 ?_
      refine T_isub dX5_nearer_65 ?_
      exact T0_ireti dX5_nearer_66 ⟨by rw [show (8 : Int32) = nI 8 from rfl, pk_sub (by unfold dwn at *; omega)], rfl⟩
    · rw [iI_0, iI_le (by omega) (by omega) (by omega) (by omega)] at c52
      rw [if_pos (by omega)]
      refine T_iload dX5_nearer_55 rfl ?_
      refine T_const dX5_nearer_56 ?_
      refine T_iadd dX5_nearer_58 ?_
      refine T_goto dX5_nearer_59 ?_
      exact T0_ireti dX5_nearer_66 ⟨by rw [show (8 : Int32) = nI 8 from rfl, nI_add], rfl⟩
  · rw [nI_lt' (by omega) (by omega)] at c34
    rw [if_pos (by omega)]
    refine T_iload dX5_nearer_37 rfl ?_
    refine T_if_le dX5_nearer_38 (fun c38 => ?_) (fun c38 => ?_)
    · rw [iI_0, iI_le (by omega) (by omega) (by omega) (by omega)] at c38
      rw [if_neg (by omega)]
      refine T_iload dX5_nearer_47 rfl ?_
      refine T_const dX5_nearer_48 ?_
      refine T_isub dX5_nearer_49 ?_
      exact T0_ireti dX5_nearer_50 ⟨by rw [show (1 : Int32) = nI 1 from rfl, pk_sub (by unfold rgt at *; omega)], rfl⟩
    · rw [iI_0, iI_le (by omega) (by omega) (by omega) (by omega)] at c38
      rw [if_pos (by omega)]
      refine T_iload dX5_nearer_41 rfl ?_
      refine T_const dX5_nearer_42 ?_
      refine T_iadd dX5_nearer_43 ?_
      refine T_goto dX5_nearer_44 ?_
      exact T0_ireti dX5_nearer_50 ⟨by rw [nI_1], rfl⟩
theorem c_carried (Z : aZ) (d : Nat) (h : aH) {df c : Nat} (hl : ri h 3 c = nI df) (hdf : df < 5) (hc : c < 64) : C0 Z mX5_carried d [.ref 1, .int (nI c)] h (PV h (.int (nI (carF df c)))) := by
  refine C0.of mokX5_carried (Nat.le_of_ble_eq_true rfl) ?_
  show T0 _ _ _ _ _ _ [_, _, _, _] _
  refine T_iload dX5_carried_0 rfl ?_
  refine T_const dX5_carried_1 ?_
  refine T_irem dX5_carried_3 (by decide) ?_
  refine T_istore dX5_carried_4 ?_
  show TK _ _ _ _ _ _ _ _ _ [_, _, _, _] _
  refine T_iload dX5_carried_5 rfl ?_
  refine T_const dX5_carried_6 ?_
  refine T_idiv dX5_carried_8 (by decide) ?_
  refine T_istore dX5_carried_9 ?_
  show TK _ _ _ _ _ _ _ _ _ [_, _, _, _] _
  refine T_aload dX5_carried_10 rfl ?_
  refine T_getr dX5_carried_11 lfX5_15 rfl rfl (by decide) rfl ?_
  refine T_iload dX5_carried_14 rfl ?_
  refine T_ialdN (N := 64) dX5_carried_15 rfl (by decide) rfl rfl (by omega) (by decide) ?_
  rw [hl, nI_rem8 (by omega), nI_div8 (by omega)]
  rcases (show df = 0 ∨ df = 1 ∨ df = 2 ∨ df = 3 ∨ df = 4 by omega) with rfl | rfl | rfl | rfl | rfl
  · refine T_tabIn (off := 32) (tgt := 48) dX5_carried_16 (by decide) (by decide) (by decide) (by decide) ?_
    refine T_iload dX5_carried_48 rfl ?_
    refine T_if_le dX5_carried_49 (fun c49 => ?_) (fun c49 => ?_)
    · rw [iI_0, nI_iI, iI_le (by omega) (by omega) (by omega) (by omega)] at c49
      refine T_iload dX5_carried_59 rfl ?_
      exact T0_ireti dX5_carried_60 ⟨by rw [show carF 0 c = c by unfold carF; rw [if_pos rfl, if_neg (by omega)]], rfl⟩
    · rw [iI_0, nI_iI, iI_le (by omega) (by omega) (by omega) (by omega)] at c49
      refine T_iload dX5_carried_52 rfl ?_
      refine T_const dX5_carried_53 ?_
      refine T_isub dX5_carried_55 ?_
      refine T_goto dX5_carried_56 ?_
      exact T0_ireti dX5_carried_60 ⟨by rw [show carF 0 c = c - 8 by unfold carF; rw [if_pos rfl, if_pos (by omega)], show (8 : Int32) = nI 8 from rfl, pk_sub (by omega)], rfl⟩
  · refine T_tabIn (off := 45) (tgt := 61) dX5_carried_16 (by decide) (by decide) (by decide) (by decide) ?_
    refine T_iload dX5_carried_61 rfl ?_
    refine T_const dX5_carried_62 ?_
    refine T_icmp_ge dX5_carried_64 (fun c64 => ?_) (fun c64 => ?_)
    · rw [show (7 : Int32) = nI 7 from rfl, nI_le' (by omega) (by omega)] at c64
      refine T_iload dX5_carried_73 rfl ?_
      exact T0_ireti dX5_carried_74 ⟨by rw [show carF 1 c = c by unfold carF; rw [if_neg (by decide), if_pos rfl, if_neg (by omega)]], rfl⟩
    · rw [show (7 : Int32) = nI 7 from rfl, nI_le' (by omega) (by omega)] at c64
      refine T_iload dX5_carried_67 rfl ?_
      refine T_const dX5_carried_68 ?_
      refine T_iadd dX5_carried_69 ?_
      refine T_goto dX5_carried_70 ?_
      exact T0_ireti dX5_carried_74 ⟨by rw [show carF 1 c = c + 1 by unfold carF; rw [if_neg (by decide), if_pos rfl, if_pos (by omega)], nI_1], rfl⟩
  · refine T_tabIn (off := 59) (tgt := 75) dX5_carried_16 (by decide) (by decide) (by decide) (by decide) ?_
    refine T_iload dX5_carried_75 rfl ?_
    refine T_const dX5_carried_76 ?_
    refine T_icmp_ge dX5_carried_78 (fun c78 => ?_) (fun c78 => ?_)
    · rw [show (7 : Int32) = nI 7 from rfl, nI_le' (by omega) (by omega)] at c78
      refine T_iload dX5_carried_88 rfl ?_
      exact T0_ireti dX5_carried_89 ⟨by rw [show carF 2 c = c by unfold carF; rw [if_neg (by decide), if_neg (by decide), if_pos rfl, if_neg (by omega)]], rfl⟩
    · rw [show (7 : Int32) = nI 7 from rfl, nI_le' (by omega) (by omega)] at c78
      refine T_iload dX5_carried_81 rfl ?_
      refine T_const dX5_carried_82 ?_
      refine T_iadd dX5_carried_84 ?_
      refine T_goto dX5_carried_85 ?_
      exact T0_ireti dX5_carried_89 ⟨by rw [show carF 2 c = c + 8 by unfold carF; rw [if_neg (by decide), if_neg (by decide), if_pos rfl, if_pos (by omega)], show (8 : Int32) = nI 8 from rfl, nI_add], rfl⟩
  · refine T_tabIn (off := 74) (tgt := 90) dX5_carried_16 (by decide) (by decide) (by decide) (by decide) ?_
    refine T_iload dX5_carried_90 rfl ?_
    refine T_if_le dX5_carried_91 (fun c91 => ?_) (fun c91 => ?_)
    · rw [iI_0, nI_iI, iI_le (by omega) (by omega) (by omega) (by omega)] at c91
      refine T_iload dX5_carried_100 rfl ?_
      exact T0_ireti dX5_carried_101 ⟨by rw [show carF 3 c = c by unfold carF; rw [if_neg (by decide), if_neg (by decide), if_neg (by decide), if_pos rfl, if_neg (by omega)]], rfl⟩
    · rw [iI_0, nI_iI, iI_le (by omega) (by omega) (by omega) (by omega)] at c91
      refine T_iload dX5_carried_94 rfl ?_
      refine T_const dX5_carried_95 ?_
      refine T_isub dX5_carried_96 ?_
      refine T_goto dX5_carried_97 ?_
      exact T0_ireti dX5_carried_101 ⟨by rw [show carF 3 c = c - 1 by unfold carF; rw [if_neg (by decide), if_neg (by decide), if_neg (by decide), if_pos rfl, if_pos (by omega)], show (1 : Int32) = nI 1 from rfl, pk_sub (by omega)], rfl⟩
  · refine T_tabOut (tgt := 102) ⟨dX5_carried_16, by decide⟩ (Or.inr (by decide)) ?_
    refine T_iload dX5_carried_102 rfl ?_
    exact T0_ireti dX5_carried_103 ⟨by rw [show carF 4 c = c by unfold carF; rw [if_neg (by decide), if_neg (by decide), if_neg (by decide), if_neg (by decide)]], rfl⟩
theorem c_lit_loop (Z : aZ) (d : Nat) (h : aH) {lamp way : Nat} (hl : fi h 1 4 = nI lamp) (hlamp : lamp < 64) (hw : way < 4) (Q : Option Value → aH → Prop) (hQ : Q (some (.long (lN (bsum (fun i => if litF lamp way i = true then 1 else 0) 64)))) h) :
    ∀ n i, i + n = 64 → T0 Z mX5_lit (d + 1) h Q 5 [.ref 1, .int (nI way), .long (lN (bsum (fun i => if litF lamp way i = true then 1 else 0) i)), .null, .int (nI i)] [] := by
  intro n
  induction n with
  | zero =>
    intro i hi
    obtain rfl : i = 64 := by omega
    refine T_iload dX5_lit_5 rfl ?_
    refine T_const dX5_lit_7 ?_
    refine T_icmp_ge dX5_lit_9 (fun c9 => ?_) (fun c9 => by first | exact absurd c9 (by decide) | exact absurd (by decide) c9)
    refine T_lload dX5_lit_35 rfl ?_
    exact T0_lret dX5_lit_36 hQ
  | succ n ih =>
    intro i hi
    have hb : bsum (fun i => if litF lamp way i = true then 1 else 0) i < 2 ^ i := bsum_lt (fun j _ => by split <;> omega)
    refine T_iload dX5_lit_5 rfl ?_
    refine T_const dX5_lit_7 ?_
    refine T_icmp_ge dX5_lit_9 (fun c9 => by first | exact absurd c9 (by rw [show (64 : Int32) = nI 64 from rfl, nI_le' (by omega) (by omega)]; omega) | exact absurd (by rw [show (64 : Int32) = nI 64 from rfl, nI_le' (by omega) (by omega)]; omega) c9) (fun c9 => ?_)
    refine T_aload dX5_lit_12 rfl ?_
    refine T_iload dX5_lit_13 rfl ?_
    refine T_iload dX5_lit_14 rfl ?_
    refine T0_Vp (c_isLit Z d h hl hlamp hw (show i < 64 by omega)) dX5_lit_16 lvX5_40 rfl rfl rfl (by decide) (Nat.le_of_ble_eq_true rfl) ?_
    skip
    by_cases hlit : litF lamp way i = true
    · rw [bI_t hlit]
      refine T_if_eq dX5_lit_19 (fun c19 => by first | exact absurd c19 (by decide) | exact absurd (by decide) c19) (fun c19 => ?_)
      refine T_lload dX5_lit_22 rfl ?_
      refine T_constL dX5_lit_23 ?_
      refine T_iload dX5_lit_24 rfl ?_
      refine T_lshl dX5_lit_26 ?_
      refine T_lor dX5_lit_27 ?_
      refine T_lstore dX5_lit_28 ?_
      show TK _ _ _ _ _ _ _ _ _ [_, _, _, _, _] _
      first | refine T_iinc1 dX5_lit_29 rfl ?_ | refine T_iinc dX5_lit_29 rfl ?_
      show TK _ _ _ _ _ _ _ _ _ [_, _, _, _, _] _
      refine T_goto dX5_lit_32 ?_
      rw [lor_bit (by omega) hb]
      have e : bsum (fun i => if litF lamp way i = true then 1 else 0) (i + 1) = bsum (fun i => if litF lamp way i = true then 1 else 0) i + 2 ^ i := by
        show _ + (if litF lamp way i = true then 1 else 0) * 2 ^ i = _
        rw [if_pos hlit, Nat.one_mul]
      rw [← e]
      exact ih (i + 1) (by omega)
    · rw [bI_f hlit]
      refine T_if_eq dX5_lit_19 (fun c19 => ?_) (fun c19 => by first | exact absurd c19 (by decide) | exact absurd (by decide) c19)
      first | refine T_iinc1 dX5_lit_29 rfl ?_ | refine T_iinc dX5_lit_29 rfl ?_
      show TK _ _ _ _ _ _ _ _ _ [_, _, _, _, _] _
      refine T_goto dX5_lit_32 ?_
      have e : bsum (fun i => if litF lamp way i = true then 1 else 0) (i + 1) = bsum (fun i => if litF lamp way i = true then 1 else 0) i := by
        show _ + (if litF lamp way i = true then 1 else 0) * 2 ^ i = _
        rw [if_neg hlit, Nat.zero_mul, Nat.add_zero]
      rw [← e]
      exact ih (i + 1) (by omega)
def litB (lamp way : Nat) : Nat → Nat := fun i => if litF lamp way i = true then 1 else 0
theorem c_lit (Z : aZ) (d : Nat) (h : aH) {lamp way : Nat} (hl : fi h 1 4 = nI lamp) (hlamp : lamp < 64) (hw : way < 4) : C0 Z mX5_lit (d + 1) [.ref 1, .int (nI way)] h (PV h (.long (lN (bsum (litB lamp way) 64)))) := by
  refine C0.of mokX5_lit (Nat.le_of_ble_eq_true rfl) ?_
  show T0 _ _ _ _ _ _ [_, _, _, _, _] _
  refine T_constL dX5_lit_0 ?_
  refine T_lstore dX5_lit_1 ?_
  show TK _ _ _ _ _ _ _ _ _ [_, _, _, _, _] _
  refine T_const dX5_lit_2 ?_
  refine T_istore dX5_lit_3 ?_
  show TK _ _ _ _ _ _ _ _ _ [_, _, _, _, _] _
  exact c_lit_loop Z d h hl hlamp hw _ ⟨rfl, rfl⟩ 64 0 rfl
def flatB (dp : Nat → Nat) : Nat → Nat := fun i => if dp i = 0 then 1 else 0
theorem c_flat_loop (Z : aZ) (d : Nat) (h : aH) {dp : Nat → Nat} (hdp : ∀ c, c < 64 → ri h 2 c = nI (dp c) ∧ dp c < 10) (Q : Option Value → aH → Prop) (hQ : Q (some (.long (lN (bsum (flatB dp) 64)))) h) :
    ∀ n i, i + n = 64 → T0 Z mX5_flat d h Q 4 [.ref 1, .long (lN (bsum (flatB dp) i)), .null, .int (nI i)] [] := by
  intro n
  induction n with
  | zero =>
    intro i hi
    obtain rfl : i = 64 := by omega
    refine T_iload dX5_flat_4 rfl ?_
    refine T_const dX5_flat_5 ?_
    refine T_icmp_ge dX5_flat_7 (fun c7 => ?_) (fun c7 => by first | exact absurd c7 (by decide) | exact absurd (by decide) c7)
    refine T_lload dX5_flat_31 rfl ?_
    exact T0_lret dX5_flat_32 hQ
  | succ n ih =>
    intro i hi
    have hb : bsum (flatB dp) i < 2 ^ i := bsum_lt (fun j _ => by unfold flatB; split <;> omega)
    obtain ⟨h1, h2⟩ := hdp i (by omega)
    refine T_iload dX5_flat_4 rfl ?_
    refine T_const dX5_flat_5 ?_
    refine T_icmp_ge dX5_flat_7 (fun c7 => by first | exact absurd c7 (by rw [show (64 : Int32) = nI 64 from rfl, nI_le' (by omega) (by omega)]; omega) | exact absurd (by rw [show (64 : Int32) = nI 64 from rfl, nI_le' (by omega) (by omega)]; omega) c7) (fun c7 => ?_)
    refine T_aload dX5_flat_10 rfl ?_
    refine T_getr dX5_flat_11 lfX5_9 rfl rfl (by decide) rfl ?_
    refine T_iload dX5_flat_14 rfl ?_
    refine T_ialdN (N := 64) dX5_flat_15 rfl (by decide) rfl rfl (by omega) (by decide) ?_
    rw [h1]
    by_cases hz : dp i = 0
    · rw [hz]
      refine T_if_ne dX5_flat_16 (fun c16 => by first | exact absurd c16 (by decide) | exact absurd (by decide) c16) (fun c16 => ?_)
      refine T_lload dX5_flat_19 rfl ?_
      refine T_constL dX5_flat_20 ?_
      refine T_iload dX5_flat_21 rfl ?_
      refine T_lshl dX5_flat_22 ?_
      refine T_lor dX5_flat_23 ?_
      refine T_lstore dX5_flat_24 ?_
      show TK _ _ _ _ _ _ _ _ _ [_, _, _, _] _
      first | refine T_iinc1 dX5_flat_25 rfl ?_ | refine T_iinc dX5_flat_25 rfl ?_
      show TK _ _ _ _ _ _ _ _ _ [_, _, _, _] _
      refine T_goto dX5_flat_28 ?_
      rw [lor_bit (by omega) hb]
      have e : bsum (flatB dp) (i + 1) = bsum (flatB dp) i + 2 ^ i := by
        show _ + flatB dp i * 2 ^ i = _
        unfold flatB
        rw [if_pos hz, Nat.one_mul]
      rw [← e]
      exact ih (i + 1) (by omega)
    · refine T_if_ne dX5_flat_16 (fun c16 => ?_) (fun c16 => by first | exact absurd c16 (by rw [show (0 : Int32) = nI 0 from rfl, nI_inj (by omega) (by omega)]; exact hz) | exact absurd (by rw [show (0 : Int32) = nI 0 from rfl, nI_inj (by omega) (by omega)]; exact hz) c16)
      first | refine T_iinc1 dX5_flat_25 rfl ?_ | refine T_iinc dX5_flat_25 rfl ?_
      show TK _ _ _ _ _ _ _ _ _ [_, _, _, _] _
      refine T_goto dX5_flat_28 ?_
      have e : bsum (flatB dp) (i + 1) = bsum (flatB dp) i := by
        show _ + flatB dp i * 2 ^ i = _
        unfold flatB
        rw [if_neg hz, Nat.zero_mul, Nat.add_zero]
      rw [← e]
      exact ih (i + 1) (by omega)
theorem c_flat (Z : aZ) (d : Nat) (h : aH) {dp : Nat → Nat} (hdp : ∀ c, c < 64 → ri h 2 c = nI (dp c) ∧ dp c < 10) : C0 Z mX5_flat d [.ref 1] h (PV h (.long (lN (bsum (flatB dp) 64)))) := by
  refine C0.of mokX5_flat (Nat.le_of_ble_eq_true rfl) ?_
  show T0 _ _ _ _ _ _ [_, _, _, _] _
  refine T_constL dX5_flat_0 ?_
  refine T_lstore dX5_flat_1 ?_
  show TK _ _ _ _ _ _ _ _ _ [_, _, _, _] _
  refine T_const dX5_flat_2 ?_
  refine T_istore dX5_flat_3 ?_
  show TK _ _ _ _ _ _ _ _ _ [_, _, _, _] _
  exact c_flat_loop Z d h hdp _ ⟨rfl, rfl⟩ 64 0 rfl
