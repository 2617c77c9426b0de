noncomputable def fX1_isKept (x : aH) (p1 : Int32) : Option Int32 := if p1 < (0 : Int32) then some (0 : Int32) else if (fi x 52 5) ≤ p1 then some (0 : Int32) else some (1 : Int32)
theorem qX1_isKept (Z : aZ) (y : aH) {x : aH} {p1 : Int32} {q : Int32} (hf : fX1_isKept x p1 = some q) : CX true Z mX1_isKept 0 [.ref 52, .int p1] y x (RV (.int q) x) := by
  refine CX.of mokX1_isKept (Nat.le_of_ble_eq_true rfl) ?_
  show TX _ _ _ _ _ _ _ _ [_, _] _
  delta fX1_isKept at hf
  refine T_iload dX1_isKept_0 rfl ?_
  refine T_if_lt dX1_isKept_1 (fun c1_1 => ?_) (fun c1_1 => ?_)
  · replace hf := ite_t c1_1 hf
    refine T_const dX1_isKept_16 ?_
    obtain rfl := Option.some.inj hf
    exact X_rz dX1_isKept_17 (by first | exact Or.inl rfl | exact Or.inr rfl) ⟨rfl, rfl⟩
  · replace hf := ite_f c1_1 hf
    refine T_iload dX1_isKept_4 rfl ?_
    refine T_aload dX1_isKept_5 rfl ?_
    refine X_getf dX1_isKept_6 lfX1_22 rfl ob52 ?_
    refine T_icmp_ge dX1_isKept_9 (fun c9_2 => ?_) (fun c9_2 => ?_)
    · replace hf := ite_t c9_2 hf
      refine T_const dX1_isKept_16 ?_
      obtain rfl := Option.some.inj hf
      exact X_rz dX1_isKept_17 (by first | exact Or.inl rfl | exact Or.inr rfl) ⟨rfl, rfl⟩
    · replace hf := ite_f c9_2 hf
      refine T_const dX1_isKept_12 ?_
      refine T_goto dX1_isKept_13 ?_
      obtain rfl := Option.some.inj hf
      exact X_rz dX1_isKept_17 (by first | exact Or.inl rfl | exact Or.inr rfl) ⟨rfl, rfl⟩
noncomputable def jX1_dropOldest_60 (x : aH) : Option aH := some (sfi x 52 4 (39 : Int32))
noncomputable def jX1_dropOldest_30 (x : aH) : Option aH := if ¬ (1 : Int32) < 0 ∧ ¬ (0 : Int32) < 0 ∧ ¬ (39 : Int32) < 0 ∧ ix (1 : Int32) + ix (39 : Int32) ≤ 40 ∧ ix (0 : Int32) + ix (39 : Int32) ≤ 40 then if ¬ (1 : Int32) < 0 ∧ ¬ (0 : Int32) < 0 ∧ ¬ (39 : Int32) < 0 ∧ ix (1 : Int32) + ix (39 : Int32) ≤ 40 ∧ ix (0 : Int32) + ix (39 : Int32) ≤ 40 then jX1_dropOldest_60 (srow (srow x 55 (va_cpy (ri x 55) (ri x 55) (ix (1 : Int32)) (ix (0 : Int32)) (ix (39 : Int32)))) 56 (va_cpy (ri (srow x 55 (va_cpy (ri x 55) (ri x 55) (ix (1 : Int32)) (ix (0 : Int32)) (ix (39 : Int32)))) 56) (ri (srow x 55 (va_cpy (ri x 55) (ri x 55) (ix (1 : Int32)) (ix (0 : Int32)) (ix (39 : Int32)))) 56) (ix (1 : Int32)) (ix (0 : Int32)) (ix (39 : Int32)))) else none else none
noncomputable def fX1_dropOldest (x : aH) : Option aH := if ¬ (1 : Int32) < 0 ∧ ¬ (0 : Int32) < 0 ∧ ¬ (39 : Int32) < 0 ∧ ix (1 : Int32) + ix (39 : Int32) ≤ 40 ∧ ix (0 : Int32) + ix (39 : Int32) ≤ 40 then if ¬ (1 : Int32) < 0 ∧ ¬ (0 : Int32) < 0 ∧ ¬ (39 : Int32) < 0 ∧ ix (1 : Int32) + ix (39 : Int32) ≤ 40 ∧ ix (0 : Int32) + ix (39 : Int32) ≤ 40 then jX1_dropOldest_30 (srow (srow x 53 (va_cpy (ri x 53) (ri x 53) (ix (1 : Int32)) (ix (0 : Int32)) (ix (39 : Int32)))) 54 (va_cpy (ri (srow x 53 (va_cpy (ri x 53) (ri x 53) (ix (1 : Int32)) (ix (0 : Int32)) (ix (39 : Int32)))) 54) (ri (srow x 53 (va_cpy (ri x 53) (ri x 53) (ix (1 : Int32)) (ix (0 : Int32)) (ix (39 : Int32)))) 54) (ix (1 : Int32)) (ix (0 : Int32)) (ix (39 : Int32)))) else none else none
theorem qX1_dropOldest (Z : aZ) (y : aH) {x : aH} {q : aH} (hf : fX1_dropOldest x = some q) : CX true Z mX1_dropOldest 0 [.ref 52] y x (RN q) := by
  refine CX.of mokX1_dropOldest (Nat.le_of_ble_eq_true rfl) ?_
  show TX _ _ _ _ _ _ _ _ [_] _
  delta fX1_dropOldest at hf
  refine T_aload dX1_dropOldest_0 rfl ?_
  refine X_getr dX1_dropOldest_1 lfX1_9 rfl ob52 rfl ?_
  refine T_const dX1_dropOldest_4 ?_
  refine T_aload dX1_dropOldest_5 rfl ?_
  refine X_getr dX1_dropOldest_6 lfX1_9 rfl ob52 rfl ?_
  refine T_const dX1_dropOldest_9 ?_
  refine T_const dX1_dropOldest_10 ?_
  obtain ⟨hk1, hf⟩ := opt_t hf
  refine X_copyi dX1_dropOldest_12 lcX1_32 ar53 ar53 hk1 (Nat.le_of_ble_eq_true rfl) ?_
  refine T_aload dX1_dropOldest_15 rfl ?_
  refine X_getr dX1_dropOldest_16 lfX1_13 rfl ob52 rfl ?_
  refine T_const dX1_dropOldest_19 ?_
  refine T_aload dX1_dropOldest_20 rfl ?_
  refine X_getr dX1_dropOldest_21 lfX1_13 rfl ob52 rfl ?_
  refine T_const dX1_dropOldest_24 ?_
  refine T_const dX1_dropOldest_25 ?_
  obtain ⟨hk2, hf⟩ := opt_t hf
  refine X_copyi dX1_dropOldest_27 lcX1_32 ar54 ar54 hk2 (Nat.le_of_ble_eq_true rfl) ?_
  have J30 : ∀ (x : aH), jX1_dropOldest_30 x = some q → TX true Z mX1_dropOldest 0 y x (RN q) 30 [.ref 52] [] := by
    intro x hf
    delta jX1_dropOldest_30 at hf
    refine T_aload dX1_dropOldest_30 rfl ?_
    refine X_getr dX1_dropOldest_31 lfX1_16 rfl ob52 rfl ?_
    refine T_const dX1_dropOldest_34 ?_
    refine T_aload dX1_dropOldest_35 rfl ?_
    refine X_getr dX1_dropOldest_36 lfX1_16 rfl ob52 rfl ?_
    refine T_const dX1_dropOldest_39 ?_
    refine T_const dX1_dropOldest_40 ?_
    obtain ⟨hk3, hf⟩ := opt_t hf
    refine X_copyi dX1_dropOldest_42 lcX1_32 ar55 ar55 hk3 (Nat.le_of_ble_eq_true rfl) ?_
    refine T_aload dX1_dropOldest_45 rfl ?_
    refine X_getr dX1_dropOldest_46 lfX1_19 rfl ob52 rfl ?_
    refine T_const dX1_dropOldest_49 ?_
    refine T_aload dX1_dropOldest_50 rfl ?_
    refine X_getr dX1_dropOldest_51 lfX1_19 rfl ob52 rfl ?_
    refine T_const dX1_dropOldest_54 ?_
    refine T_const dX1_dropOldest_55 ?_
    obtain ⟨hk4, hf⟩ := opt_t hf
    refine X_copyi dX1_dropOldest_57 lcX1_32 ar56 ar56 hk4 (Nat.le_of_ble_eq_true rfl) ?_
    have J60 : ∀ (x : aH), jX1_dropOldest_60 x = some q → TX true Z mX1_dropOldest 0 y x (RN q) 60 [.ref 52] [] := by
      intro x hf
      delta jX1_dropOldest_60 at hf
      refine T_aload dX1_dropOldest_60 rfl ?_
      refine T_const dX1_dropOldest_61 ?_
      refine X_putf dX1_dropOldest_63 lfX1_26 rfl rfl ob52 ⟨rfl, rfl⟩ ?_
      obtain rfl := Option.some.inj hf
      exact X_rv dX1_dropOldest_66 ⟨rfl, rfl⟩
    exact X_wk (WK.s WK.e) (J60 _ hf)
  exact X_wk (WK.s WK.e) (J30 _ hf)
noncomputable def jX1_add_54 (x : aH) : Option aH := some (sfi (sfi x 52 4 ((fi x 52 4) + (1 : Int32))) 52 5 (fi (sfi x 52 4 ((fi x 52 4) + (1 : Int32))) 52 4))
noncomputable def jX1_add_13 (x : aH) (l1 : Int32) (l2 : Int32) (l3 : Int32) (l4 : Int32) : Option aH := if (0 : Int32) ≤ (fi x 52 4) ∧ (fi x 52 4) < (40 : Int32) then if (0 : Int32) ≤ (fi (sri x 53 (ix (fi x 52 4)) l1) 52 4) ∧ (fi (sri x 53 (ix (fi x 52 4)) l1) 52 4) < (40 : Int32) then if (0 : Int32) ≤ (fi (sri (sri x 53 (ix (fi x 52 4)) l1) 54 (ix (fi (sri x 53 (ix (fi x 52 4)) l1) 52 4)) l2) 52 4) ∧ (fi (sri (sri x 53 (ix (fi x 52 4)) l1) 54 (ix (fi (sri x 53 (ix (fi x 52 4)) l1) 52 4)) l2) 52 4) < (40 : Int32) then if (0 : Int32) ≤ (fi (sri (sri (sri x 53 (ix (fi x 52 4)) l1) 54 (ix (fi (sri x 53 (ix (fi x 52 4)) l1) 52 4)) l2) 55 (ix (fi (sri (sri x 53 (ix (fi x 52 4)) l1) 54 (ix (fi (sri x 53 (ix (fi x 52 4)) l1) 52 4)) l2) 52 4)) l3) 52 4) ∧ (fi (sri (sri (sri x 53 (ix (fi x 52 4)) l1) 54 (ix (fi (sri x 53 (ix (fi x 52 4)) l1) 52 4)) l2) 55 (ix (fi (sri (sri x 53 (ix (fi x 52 4)) l1) 54 (ix (fi (sri x 53 (ix (fi x 52 4)) l1) 52 4)) l2) 52 4)) l3) 52 4) < (40 : Int32) then jX1_add_54 (sri (sri (sri (sri x 53 (ix (fi x 52 4)) l1) 54 (ix (fi (sri x 53 (ix (fi x 52 4)) l1) 52 4)) l2) 55 (ix (fi (sri (sri x 53 (ix (fi x 52 4)) l1) 54 (ix (fi (sri x 53 (ix (fi x 52 4)) l1) 52 4)) l2) 52 4)) l3) 56 (ix (fi (sri (sri (sri x 53 (ix (fi x 52 4)) l1) 54 (ix (fi (sri x 53 (ix (fi x 52 4)) l1) 52 4)) l2) 55 (ix (fi (sri (sri x 53 (ix (fi x 52 4)) l1) 54 (ix (fi (sri x 53 (ix (fi x 52 4)) l1) 52 4)) l2) 52 4)) l3) 52 4)) l4) else none else none else none else none
noncomputable def fX1_add (x : aH) (p1 : Int32) (p2 : Int32) (p3 : Int32) (p4 : Int32) : Option aH := if (fi x 52 4) < (40 : Int32) then jX1_add_13 x p1 p2 p3 p4 else (fX1_dropOldest x).bind fun q10_6 => jX1_add_13 q10_6 p1 p2 p3 p4
theorem qX1_add (Z : aZ) (y : aH) {x : aH} {p1 : Int32} {p2 : Int32} {p3 : Int32} {p4 : Int32} {q : aH} (hf : fX1_add x p1 p2 p3 p4 = some q) : CX true Z mX1_add 1 [.ref 52, .int p1, .int p2, .int p3, .int p4] y x (RN q) := by
  refine CX.of mokX1_add (Nat.le_of_ble_eq_true rfl) ?_
  show TX _ _ _ _ _ _ _ _ [_, _, _, _, _] _
  delta fX1_add at hf
  refine T_aload dX1_add_0 rfl ?_
  refine X_getf dX1_add_1 lfX1_26 rfl ob52 ?_
  refine T_const dX1_add_4 ?_
  have J13 : ∀ (x : aH) (l1 : Int32) (l2 : Int32) (l3 : Int32) (l4 : Int32), jX1_add_13 x l1 l2 l3 l4 = some q → TX true Z mX1_add 1 y x (RN q) 13 [.ref 52, .int l1, .int l2, .int l3, .int l4] [] := by
    intro x l1 l2 l3 l4 hf
    delta jX1_add_13 at hf
    refine T_aload dX1_add_13 rfl ?_
    refine X_getr dX1_add_14 lfX1_9 rfl ob52 rfl ?_
    refine T_aload dX1_add_17 rfl ?_
    refine X_getf dX1_add_18 lfX1_26 rfl ob52 ?_
    refine T_iload dX1_add_21 rfl ?_
    obtain ⟨hb22_1, hf⟩ := opt_t hf
    refine X_iast (N := 40) dX1_add_22 ar53 rfl hb22_1 ?_
    refine T_aload dX1_add_23 rfl ?_
    refine X_getr dX1_add_24 lfX1_13 rfl ob52 rfl ?_
    refine T_aload dX1_add_27 rfl ?_
    refine X_getf dX1_add_28 lfX1_26 rfl ob52 ?_
    refine T_iload dX1_add_31 rfl ?_
    obtain ⟨hb32_2, hf⟩ := opt_t hf
    refine X_iast (N := 40) dX1_add_32 ar54 rfl hb32_2 ?_
    refine T_aload dX1_add_33 rfl ?_
    refine X_getr dX1_add_34 lfX1_16 rfl ob52 rfl ?_
    refine T_aload dX1_add_37 rfl ?_
    refine X_getf dX1_add_38 lfX1_26 rfl ob52 ?_
    refine T_iload dX1_add_41 rfl ?_
    obtain ⟨hb42_3, hf⟩ := opt_t hf
    refine X_iast (N := 40) dX1_add_42 ar55 rfl hb42_3 ?_
    refine T_aload dX1_add_43 rfl ?_
    refine X_getr dX1_add_44 lfX1_19 rfl ob52 rfl ?_
    refine T_aload dX1_add_47 rfl ?_
    refine X_getf dX1_add_48 lfX1_26 rfl ob52 ?_
    refine T_iload dX1_add_51 rfl ?_
    obtain ⟨hb53_4, hf⟩ := opt_t hf
    refine X_iast (N := 40) dX1_add_53 ar56 rfl hb53_4 ?_
    have J54 : ∀ (x : aH), jX1_add_54 x = some q → TX true Z mX1_add 1 y x (RN q) 54 [.ref 52, .null, .null, .null, .null] [] := by
      intro x hf
      delta jX1_add_54 at hf
      refine T_aload dX1_add_54 rfl ?_
      refine T_dup dX1_add_55 rfl ?_
      refine X_getf dX1_add_56 lfX1_26 rfl ob52 ?_
      refine T_const dX1_add_59 ?_
      refine T_iadd dX1_add_60 ?_
      refine X_putf dX1_add_61 lfX1_26 rfl rfl ob52 ⟨rfl, rfl⟩ ?_
      refine T_aload dX1_add_64 rfl ?_
      refine T_aload dX1_add_65 rfl ?_
      refine X_getf dX1_add_66 lfX1_26 rfl ob52 ?_
      refine X_putf dX1_add_69 lfX1_22 rfl rfl ob52 ⟨rfl, rfl⟩ ?_
      obtain rfl := Option.some.inj hf
      exact X_rv dX1_add_72 ⟨rfl, rfl⟩
    exact X_wk (WK.s (WK.n (WK.n (WK.n (WK.n WK.e))))) (J54 _ hf)
  refine T_icmp_lt dX1_add_6 (fun c6_5 => ?_) (fun c6_5 => ?_)
  · replace hf := ite_t c6_5 hf
    exact X_wk (WK.s (WK.s (WK.s (WK.s (WK.s WK.e))))) (J13 _ _ _ _ _ hf)
  · replace hf := ite_f c6_5 hf
    refine T_aload dX1_add_9 rfl ?_
    obtain ⟨q10_6, hc10_6, hf⟩ := bind_t hf
    refine X_Vn (qX1_dropOldest Z _ hc10_6) (Nat.le_of_ble_eq_true rfl) dX1_add_10 lvX1_29 rfl rfl ob52 (Nat.le_of_ble_eq_true rfl) ?_
    exact X_wk (WK.s (WK.s (WK.s (WK.s (WK.s WK.e))))) (J13 _ _ _ _ _ hf)
noncomputable def fX5_carried (x : aH) (p1 : Int32) : Option Int32 := if (0 : Int32) ≤ p1 ∧ p1 < (64 : Int32) then if (ri x 3 (ix p1)) = (0 : Int32) then if (p1 / (8 : Int32)) ≤ (0 : Int32) then some p1 else some (p1 - (8 : Int32)) else if (ri x 3 (ix p1)) = (1 : Int32) then if (7 : Int32) ≤ (p1 - p1 / (8 : Int32) * (8 : Int32)) then some p1 else some (p1 + (1 : Int32)) else if (ri x 3 (ix p1)) = (2 : Int32) then if (7 : Int32) ≤ (p1 / (8 : Int32)) then some p1 else some (p1 + (8 : Int32)) else if (ri x 3 (ix p1)) = (3 : Int32) then if (p1 - p1 / (8 : Int32) * (8 : Int32)) ≤ (0 : Int32) then some p1 else some (p1 - (1 : Int32)) else some p1 else none
theorem qX5_carried (Z : aZ) (y : aH) {x : aH} {p1 : Int32} {q : Int32} (hf : fX5_carried x p1 = some q) : CX true Z mX5_carried 0 [.ref 1, .int p1] y x (RV (.int q) x) := by
  refine CX.of mokX5_carried (Nat.le_of_ble_eq_true rfl) ?_
  show TX _ _ _ _ _ _ _ _ [_, _, _, _] _
  delta fX5_carried at hf
  refine T_iload dX5_carried_0 rfl ?_
  refine T_const dX5_carried_1 ?_
  refine T_irem dX5_carried_3 (by decide) ?_
  refine T_istore dX5_carried_4 ?_
  show TX _ _ _ _ _ _ _ _ [_, _, _, _] _
  refine T_iload dX5_carried_5 rfl ?_
  refine T_const dX5_carried_6 ?_
  refine T_idiv dX5_carried_8 (by decide) ?_
  refine T_istore dX5_carried_9 ?_
  show TX _ _ _ _ _ _ _ _ [_, _, _, _] _
  refine T_aload dX5_carried_10 rfl ?_
  refine X_getr dX5_carried_11 lfX5_15 rfl ob1 rfl ?_
  refine T_iload dX5_carried_14 rfl ?_
  obtain ⟨hb15_1, hf⟩ := opt_t hf
  refine X_iald (N := 64) dX5_carried_15 ar3 rfl hb15_1 ?_
  by_cases c16_2 : (ri x 3 (ix p1)) = (0 : Int32)
  · replace hf := ite_t c16_2 hf
    refine T_tabE (off := 32) (tgt := 48) c16_2 dX5_carried_16 (by decide) (by decide) (by decide) (by decide) ?_
    refine T_iload dX5_carried_48 rfl ?_
    refine T_if_le dX5_carried_49 (fun c49_3 => ?_) (fun c49_3 => ?_)
    · replace hf := ite_t c49_3 hf
      refine T_iload dX5_carried_59 rfl ?_
      obtain rfl := Option.some.inj hf
      exact X_ri dX5_carried_60 ⟨rfl, rfl⟩
    · replace hf := ite_f c49_3 hf
      refine T_iload dX5_carried_52 rfl ?_
      refine T_const dX5_carried_53 ?_
      refine T_isub dX5_carried_55 ?_
      refine T_goto dX5_carried_56 ?_
      obtain rfl := Option.some.inj hf
      exact X_ri dX5_carried_60 ⟨rfl, rfl⟩
  replace hf := ite_f c16_2 hf
  by_cases c16_4 : (ri x 3 (ix p1)) = (1 : Int32)
  · replace hf := ite_t c16_4 hf
    refine T_tabE (off := 45) (tgt := 61) c16_4 dX5_carried_16 (by decide) (by decide) (by decide) (by decide) ?_
    refine T_iload dX5_carried_61 rfl ?_
    refine T_const dX5_carried_62 ?_
    refine T_icmp_ge dX5_carried_64 (fun c64_5 => ?_) (fun c64_5 => ?_)
    · replace hf := ite_t c64_5 hf
      refine T_iload dX5_carried_73 rfl ?_
      obtain rfl := Option.some.inj hf
      exact X_ri dX5_carried_74 ⟨rfl, rfl⟩
    · replace hf := ite_f c64_5 hf
      refine T_iload dX5_carried_67 rfl ?_
      refine T_const dX5_carried_68 ?_
      refine T_iadd dX5_carried_69 ?_
      refine T_goto dX5_carried_70 ?_
      obtain rfl := Option.some.inj hf
      exact X_ri dX5_carried_74 ⟨rfl, rfl⟩
  replace hf := ite_f c16_4 hf
  by_cases c16_6 : (ri x 3 (ix p1)) = (2 : Int32)
  · replace hf := ite_t c16_6 hf
    refine T_tabE (off := 59) (tgt := 75) c16_6 dX5_carried_16 (by decide) (by decide) (by decide) (by decide) ?_
    refine T_iload dX5_carried_75 rfl ?_
    refine T_const dX5_carried_76 ?_
    refine T_icmp_ge dX5_carried_78 (fun c78_7 => ?_) (fun c78_7 => ?_)
    · replace hf := ite_t c78_7 hf
      refine T_iload dX5_carried_88 rfl ?_
      obtain rfl := Option.some.inj hf
      exact X_ri dX5_carried_89 ⟨rfl, rfl⟩
    · replace hf := ite_f c78_7 hf
      refine T_iload dX5_carried_81 rfl ?_
      refine T_const dX5_carried_82 ?_
      refine T_iadd dX5_carried_84 ?_
      refine T_goto dX5_carried_85 ?_
      obtain rfl := Option.some.inj hf
      exact X_ri dX5_carried_89 ⟨rfl, rfl⟩
  replace hf := ite_f c16_6 hf
  by_cases c16_8 : (ri x 3 (ix p1)) = (3 : Int32)
  · replace hf := ite_t c16_8 hf
    refine T_tabE (off := 74) (tgt := 90) c16_8 dX5_carried_16 (by decide) (by decide) (by decide) (by decide) ?_
    refine T_iload dX5_carried_90 rfl ?_
    refine T_if_le dX5_carried_91 (fun c91_9 => ?_) (fun c91_9 => ?_)
    · replace hf := ite_t c91_9 hf
      refine T_iload dX5_carried_100 rfl ?_
      obtain rfl := Option.some.inj hf
      exact X_ri dX5_carried_101 ⟨rfl, rfl⟩
    · replace hf := ite_f c91_9 hf
      refine T_iload dX5_carried_94 rfl ?_
      refine T_const dX5_carried_95 ?_
      refine T_isub dX5_carried_96 ?_
      refine T_goto dX5_carried_97 ?_
      obtain rfl := Option.some.inj hf
      exact X_ri dX5_carried_101 ⟨rfl, rfl⟩
  replace hf := ite_f c16_8 hf
  refine T_tabOut (tgt := 102) ⟨dX5_carried_16, by decide⟩ (by
    have n0 := ne_toInt c16_2; rw [show (0 : Int32).toInt = 0 from rfl] at n0
    have n1 := ne_toInt c16_4; rw [show (1 : Int32).toInt = 1 from rfl] at n1
    have n2 := ne_toInt c16_6; rw [show (2 : Int32).toInt = 2 from rfl] at n2
    have n3 := ne_toInt c16_8; rw [show (3 : Int32).toInt = 3 from rfl] at n3
    omega) ?_
  refine T_iload dX5_carried_102 rfl ?_
  obtain rfl := Option.some.inj hf
  exact X_ri dX5_carried_103 ⟨rfl, rfl⟩
noncomputable def fX7_number (x : aH) (a : Nat) (p1 : Int32) : Option Int32 := if (0 : Int32) ≤ p1 ∧ p1 < (60 : Int32) then some (Int64.toInt32 (rj x (a + 1) (ix p1))) else none
theorem qX7_number (Z : aZ) (y : aH) {x : aH} {a : Nat} {p1 : Int32} (hA : SH a) {q : Int32} (hf : fX7_number x a p1 = some q) : CX true Z mX7_number 0 [.ref a, .int p1] y x (RV (.int q) x) := by
  refine CX.of mokX7_number (Nat.le_of_ble_eq_true rfl) ?_
  show TX _ _ _ _ _ _ _ _ [_, _] _
  delta fX7_number at hf
  refine T_aload dX7_number_0 rfl ?_
  refine X_getr dX7_number_1 lfX7_9 rfl (SH.ob hA) (SH.f0 hA) ?_
  refine T_iload dX7_number_4 rfl ?_
  obtain ⟨hb5_1, hf⟩ := opt_t hf
  refine X_lald (N := 60) dX7_number_5 (SH.ar0 hA) rfl hb5_1 ?_
  refine T_l2i dX7_number_6 ?_
  obtain rfl := Option.some.inj hf
  exact X_ri dX7_number_7 ⟨rfl, rfl⟩
noncomputable def fX5_far (x : aH) (p1 : Int32) : Option Int32 := some ((if (0 : Int32) ≤ ((p1 - p1 / (8 : Int32) * (8 : Int32)) - ((fi x 1 4) - (fi x 1 4) / (8 : Int32) * (8 : Int32))) then ((p1 - p1 / (8 : Int32) * (8 : Int32)) - ((fi x 1 4) - (fi x 1 4) / (8 : Int32) * (8 : Int32))) else 0 - ((p1 - p1 / (8 : Int32) * (8 : Int32)) - ((fi x 1 4) - (fi x 1 4) / (8 : Int32) * (8 : Int32)))) + (if (0 : Int32) ≤ ((p1 / (8 : Int32)) - ((fi x 1 4) / (8 : Int32))) then ((p1 / (8 : Int32)) - ((fi x 1 4) / (8 : Int32))) else 0 - ((p1 / (8 : Int32)) - ((fi x 1 4) / (8 : Int32)))))
theorem qX5_far (Z : aZ) (y : aH) {x : aH} {p1 : Int32} {q : Int32} (hf : fX5_far x p1 = some q) : CX true Z mX5_far 0 [.ref 1, .int p1] y x (RV (.int q) x) := by
  refine CX.of mokX5_far (Nat.le_of_ble_eq_true rfl) ?_
  show TX _ _ _ _ _ _ _ _ [_, _] _
  delta fX5_far at hf
  refine T_iload dX5_far_0 rfl ?_
  refine T_const dX5_far_1 ?_
  refine T_irem dX5_far_3 (by decide) ?_
  refine T_aload dX5_far_4 rfl ?_
  refine X_getf dX5_far_5 lfX5_24 rfl ob1 ?_
  refine T_const dX5_far_8 ?_
  refine T_irem dX5_far_10 (by decide) ?_
  refine T_isub dX5_far_11 ?_
  refine T_abs dX5_far_12 lmX5_34 (Nat.le_of_ble_eq_true rfl) ?_
  refine T_iload dX5_far_15 rfl ?_
  refine T_const dX5_far_16 ?_
  refine T_idiv dX5_far_18 (by decide) ?_
  refine T_aload dX5_far_19 rfl ?_
  refine X_getf dX5_far_20 lfX5_24 rfl ob1 ?_
  refine T_const dX5_far_23 ?_
  refine T_idiv dX5_far_25 (by decide) ?_
  refine T_isub dX5_far_26 ?_
  refine T_abs dX5_far_27 lmX5_34 (Nat.le_of_ble_eq_true rfl) ?_
  refine T_iadd dX5_far_30 ?_
  obtain rfl := Option.some.inj hf
  exact X_ri dX5_far_31 ⟨rfl, rfl⟩
noncomputable def jX5_isLit_86 (x : aH) (l7 : Int32) (s0 : Int32) : Option Int32 := if l7 ≤ (0 : Int32) then some (0 : Int32) else if l7 < (if (0 : Int32) ≤ s0 then s0 else 0 - s0) then some (0 : Int32) else some (1 : Int32)
noncomputable def jX5_isLit_73 (x : aH) (l3 : Int32) (l4 : Int32) (l5 : Int32) (s0 : Int32) : Option Int32 := if l5 = (0 : Int32) then jX5_isLit_86 x s0 l4 else jX5_isLit_86 x s0 l3
noncomputable def jX5_isLit_65 (x : aH) (l3 : Int32) (l4 : Int32) (l5 : Int32) (l6 : Int32) : Option Int32 := jX5_isLit_73 x l3 l4 l5 (-l6)
noncomputable def jX5_isLit_54 (x : aH) (l1 : Int32) (l3 : Int32) (l4 : Int32) (l5 : Int32) (s0 : Int32) : Option Int32 := if l1 = (0 : Int32) then jX5_isLit_65 x l3 l4 l5 s0 else if l1 = (3 : Int32) then jX5_isLit_65 x l3 l4 l5 s0 else jX5_isLit_73 x l3 l4 l5 s0
noncomputable def jX5_isLit_41 (x : aH) (l1 : Int32) (l3 : Int32) (l4 : Int32) (s0 : Int32) : Option Int32 := if s0 = (0 : Int32) then jX5_isLit_54 x l1 l3 l4 s0 l3 else jX5_isLit_54 x l1 l3 l4 s0 l4
noncomputable def jX5_isLit_36 (x : aH) (l1 : Int32) (l3 : Int32) (l4 : Int32) : Option Int32 := jX5_isLit_41 x l1 l3 l4 (1 : Int32)
noncomputable def fX5_isLit (x : aH) (p1 : Int32) (p2 : Int32) : Option Int32 := if p1 = (0 : Int32) then jX5_isLit_36 x p1 ((p2 - p2 / (8 : Int32) * (8 : Int32)) - ((fi x 1 4) - (fi x 1 4) / (8 : Int32) * (8 : Int32))) ((p2 / (8 : Int32)) - ((fi x 1 4) / (8 : Int32))) else if p1 = (2 : Int32) then jX5_isLit_36 x p1 ((p2 - p2 / (8 : Int32) * (8 : Int32)) - ((fi x 1 4) - (fi x 1 4) / (8 : Int32) * (8 : Int32))) ((p2 / (8 : Int32)) - ((fi x 1 4) / (8 : Int32))) else jX5_isLit_41 x p1 ((p2 - p2 / (8 : Int32) * (8 : Int32)) - ((fi x 1 4) - (fi x 1 4) / (8 : Int32) * (8 : Int32))) ((p2 / (8 : Int32)) - ((fi x 1 4) / (8 : Int32))) (0 : Int32)
theorem qX5_isLit (Z : aZ) (y : aH) {x : aH} {p1 : Int32} {p2 : Int32} {q : Int32} (hf : fX5_isLit x p1 p2 = some q) : CX true Z mX5_isLit 0 [.ref 1, .int p1, .int p2] y x (RV (.int q) x) := by
  refine CX.of mokX5_isLit (Nat.le_of_ble_eq_true rfl) ?_
  show TX _ _ _ _ _ _ _ _ [_, _, _, _, _, _, _, _, _] _
  delta fX5_isLit at hf
  refine T_iload dX5_isLit_0 rfl ?_
  refine T_const dX5_isLit_1 ?_
  refine T_irem dX5_isLit_3 (by decide) ?_
  refine T_aload dX5_isLit_4 rfl ?_
  refine X_getf dX5_isLit_5 lfX5_24 rfl ob1 ?_
  refine T_const dX5_isLit_8 ?_
  refine T_irem dX5_isLit_10 (by decide) ?_
  refine T_isub dX5_isLit_11 ?_
  refine T_istore dX5_isLit_12 ?_
  show TX _ _ _ _ _ _ _ _ [_, _, _, _, _, _, _, _, _] _
  refine T_iload dX5_isLit_13 rfl ?_
  refine T_const dX5_isLit_14 ?_
  refine T_idiv dX5_isLit_16 (by decide) ?_
  refine T_aload dX5_isLit_17 rfl ?_
  refine X_getf dX5_isLit_18 lfX5_24 rfl ob1 ?_
  refine T_const dX5_isLit_21 ?_
  refine T_idiv dX5_isLit_23 (by decide) ?_
  refine T_isub dX5_isLit_24 ?_
  refine T_istore dX5_isLit_25 ?_
  show TX _ _ _ _ _ _ _ _ [_, _, _, _, _, _, _, _, _] _
  refine T_iload dX5_isLit_27 rfl ?_
  have J41 : ∀ (l1 : Int32) (l3 : Int32) (l4 : Int32) (s0 : Int32), jX5_isLit_41 x l1 l3 l4 s0 = some q → TX true Z mX5_isLit 0 y x (RV (.int q) x) 41 [.null, .int l1, .null, .int l3, .int l4, .null, .null, .null, .null] [.int s0] := by
    intro l1 l3 l4 s0 hf
    delta jX5_isLit_41 at hf
    refine T_istore dX5_isLit_41 ?_
    show TX _ _ _ _ _ _ _ _ [_, _, _, _, _, _, _, _, _] _
    refine T_iload dX5_isLit_43 rfl ?_
    have J54 : ∀ (l1 : Int32) (l3 : Int32) (l4 : Int32) (l5 : Int32) (s0 : Int32), jX5_isLit_54 x l1 l3 l4 l5 s0 = some q → TX true Z mX5_isLit 0 y x (RV (.int q) x) 54 [.null, .int l1, .null, .int l3, .int l4, .int l5, .null, .null, .null] [.int s0] := by
      intro l1 l3 l4 l5 s0 hf
      delta jX5_isLit_54 at hf
      refine T_istore dX5_isLit_54 ?_
      show TX _ _ _ _ _ _ _ _ [_, _, _, _, _, _, _, _, _] _
      refine T_iload dX5_isLit_56 rfl ?_
      have J73 : ∀ (l3 : Int32) (l4 : Int32) (l5 : Int32) (s0 : Int32), jX5_isLit_73 x l3 l4 l5 s0 = some q → TX true Z mX5_isLit 0 y x (RV (.int q) x) 73 [.null, .null, .null, .int l3, .int l4, .int l5, .null, .null, .null] [.int s0] := by
        intro l3 l4 l5 s0 hf
        delta jX5_isLit_73 at hf
        refine T_istore dX5_isLit_73 ?_
        show TX _ _ _ _ _ _ _ _ [_, _, _, _, _, _, _, _, _] _
        refine T_iload dX5_isLit_75 rfl ?_
        have J86 : ∀ (l7 : Int32) (s0 : Int32), jX5_isLit_86 x l7 s0 = some q → TX true Z mX5_isLit 0 y x (RV (.int q) x) 86 [.null, .null, .null, .null, .null, .null, .null, .int l7, .null] [.int s0] := by
          intro l7 s0 hf
          delta jX5_isLit_86 at hf
          refine T_abs dX5_isLit_86 lmX5_34 (Nat.le_of_ble_eq_true rfl) ?_
          refine T_istore dX5_isLit_89 ?_
          show TX _ _ _ _ _ _ _ _ [_, _, _, _, _, _, _, _, _] _
          refine T_iload dX5_isLit_91 rfl ?_
          refine T_if_le dX5_isLit_93 (fun c93_1 => ?_) (fun c93_1 => ?_)
          · replace hf := ite_t c93_1 hf
            refine T_const dX5_isLit_107 ?_
            obtain rfl := Option.some.inj hf
            exact X_rz dX5_isLit_108 (by first | exact Or.inl rfl | exact Or.inr rfl) ⟨rfl, rfl⟩
          · replace hf := ite_f c93_1 hf
            refine T_iload dX5_isLit_96 rfl ?_
            refine T_iload dX5_isLit_98 rfl ?_
            refine T_icmp_gt dX5_isLit_100 (fun c100_2 => ?_) (fun c100_2 => ?_)
            · replace hf := ite_t c100_2 hf
              refine T_const dX5_isLit_107 ?_
              obtain rfl := Option.some.inj hf
              exact X_rz dX5_isLit_108 (by first | exact Or.inl rfl | exact Or.inr rfl) ⟨rfl, rfl⟩
            · replace hf := ite_f c100_2 hf
              refine T_const dX5_isLit_103 ?_
              refine T_goto dX5_isLit_104 ?_
              obtain rfl := Option.some.inj hf
              exact X_rz dX5_isLit_108 (by first | exact Or.inl rfl | exact Or.inr rfl) ⟨rfl, rfl⟩
        refine T_if_eq dX5_isLit_77 (fun c77_3 => ?_) (fun c77_3 => ?_)
        · replace hf := ite_t c77_3 hf
          refine T_iload dX5_isLit_84 rfl ?_
          exact X_wk (WK.n (WK.n (WK.n (WK.n (WK.n (WK.n (WK.n (WK.s (WK.n WK.e))))))))) (J86 _ _ hf)
        · replace hf := ite_f c77_3 hf
          refine T_iload dX5_isLit_80 rfl ?_
          refine T_goto dX5_isLit_81 ?_
          exact X_wk (WK.n (WK.n (WK.n (WK.n (WK.n (WK.n (WK.n (WK.s (WK.n WK.e))))))))) (J86 _ _ hf)
      have J65 : ∀ (l3 : Int32) (l4 : Int32) (l5 : Int32) (l6 : Int32), jX5_isLit_65 x l3 l4 l5 l6 = some q → TX true Z mX5_isLit 0 y x (RV (.int q) x) 65 [.null, .null, .null, .int l3, .int l4, .int l5, .int l6, .null, .null] [] := by
        intro l3 l4 l5 l6 hf
        delta jX5_isLit_65 at hf
        refine T_iload dX5_isLit_65 rfl ?_
        refine T_ineg dX5_isLit_67 ?_
        refine T_goto dX5_isLit_68 ?_
        exact X_wk (WK.n (WK.n (WK.n (WK.s (WK.s (WK.s (WK.n (WK.n (WK.n WK.e))))))))) (J73 _ _ _ _ hf)
      refine T_if_eq dX5_isLit_57 (fun c57_4 => ?_) (fun c57_4 => ?_)
      · replace hf := ite_t c57_4 hf
        exact X_wk (WK.n (WK.n (WK.n (WK.s (WK.s (WK.s (WK.s (WK.n (WK.n WK.e))))))))) (J65 _ _ _ _ hf)
      · replace hf := ite_f c57_4 hf
        refine T_iload dX5_isLit_60 rfl ?_
        refine T_const dX5_isLit_61 ?_
        refine T_icmp_ne dX5_isLit_62 (fun c62_5 => ?_) (fun c62_5 => ?_)
        · replace hf := ite_f c62_5 hf
          refine T_iload dX5_isLit_71 rfl ?_
          exact X_wk (WK.n (WK.n (WK.n (WK.s (WK.s (WK.s (WK.n (WK.n (WK.n WK.e))))))))) (J73 _ _ _ _ hf)
        · replace hf := ite_t c62_5 hf
          exact X_wk (WK.n (WK.n (WK.n (WK.s (WK.s (WK.s (WK.s (WK.n (WK.n WK.e))))))))) (J65 _ _ _ _ hf)
    refine T_if_eq dX5_isLit_45 (fun c45_6 => ?_) (fun c45_6 => ?_)
    · replace hf := ite_t c45_6 hf
      refine T_iload dX5_isLit_53 rfl ?_
      exact X_wk (WK.n (WK.s (WK.n (WK.s (WK.s (WK.s (WK.n (WK.n (WK.n WK.e))))))))) (J54 _ _ _ _ _ hf)
    · replace hf := ite_f c45_6 hf
      refine T_iload dX5_isLit_48 rfl ?_
      refine T_goto dX5_isLit_50 ?_
      exact X_wk (WK.n (WK.s (WK.n (WK.s (WK.s (WK.s (WK.n (WK.n (WK.n WK.e))))))))) (J54 _ _ _ _ _ hf)
  have J36 : ∀ (l1 : Int32) (l3 : Int32) (l4 : Int32), jX5_isLit_36 x l1 l3 l4 = some q → TX true Z mX5_isLit 0 y x (RV (.int q) x) 36 [.null, .int l1, .null, .int l3, .int l4, .null, .null, .null, .null] [] := by
    intro l1 l3 l4 hf
    delta jX5_isLit_36 at hf
    refine T_const dX5_isLit_36 ?_
    refine T_goto dX5_isLit_37 ?_
    exact X_wk (WK.n (WK.s (WK.n (WK.s (WK.s (WK.n (WK.n (WK.n (WK.n WK.e))))))))) (J41 _ _ _ _ hf)
  refine T_if_eq dX5_isLit_28 (fun c28_7 => ?_) (fun c28_7 => ?_)
  · replace hf := ite_t c28_7 hf
    exact X_wk (WK.n (WK.s (WK.n (WK.s (WK.s (WK.n (WK.n (WK.n (WK.n WK.e))))))))) (J36 _ _ _ hf)
  · replace hf := ite_f c28_7 hf
    refine T_iload dX5_isLit_31 rfl ?_
    refine T_const dX5_isLit_32 ?_
    refine T_icmp_ne dX5_isLit_33 (fun c33_8 => ?_) (fun c33_8 => ?_)
    · replace hf := ite_f c33_8 hf
      refine T_const dX5_isLit_40 ?_
      exact X_wk (WK.n (WK.s (WK.n (WK.s (WK.s (WK.n (WK.n (WK.n (WK.n WK.e))))))))) (J41 _ _ _ _ hf)
    · replace hf := ite_t c33_8 hf
      exact X_wk (WK.n (WK.s (WK.n (WK.s (WK.s (WK.n (WK.n (WK.n (WK.n WK.e))))))))) (J36 _ _ _ hf)
noncomputable def jX5_lit_29 (ih : Int64 → Int32 → Option Int64) (x : aH) (l1 : Int32) (l2 : Int64) (l4 : Int32) : Option Int64 := ih l2 (l4 + (1 : Int32))
noncomputable def sX5_lit_5 (x : aH) (l1 : Int32) (ih : Int64 → Int32 → Option Int64) (l2 : Int64) (l4 : Int32) : Option Int64 := if (64 : Int32) ≤ l4 then some l2 else (fX5_isLit x l1 l4).bind fun q16_2 => if q16_2 = (0 : Int32) then jX5_lit_29 ih x l1 l2 l4 else jX5_lit_29 ih x l1 (l2 ||| ((1 : Int64) <<< (Int32.toInt64 l4 &&& 63))) l4
noncomputable def wX5_lit_5 (x : aH) (l1 : Int32) : Nat → Int64 → Int32 → Option Int64
  | 0 => fun _ _ => none
  | n + 1 => sX5_lit_5 x l1 (wX5_lit_5 x l1 n)
noncomputable def fX5_lit (x : aH) (p1 : Int32) : Option Int64 := (wX5_lit_5 x p1 2000 (0 : Int64) (0 : Int32)).bind fun q5_4 => some q5_4
theorem lX5_lit_5 (Z : aZ) (y : aH) (x : aH) (l1 : Int32) {Q : Option Value → aH → Prop} {R : Int64} : ∀ (n : Nat) (l2 : Int64) (l4 : Int32), wX5_lit_5 x l1 n l2 l4 = some R → (∀ q, R = q → TX true Z mX5_lit 1 y x Q 35 [.null, .null, .long q, .null, .null] []) → TX true Z mX5_lit 1 y x Q 5 [.ref 1, .int l1, .long l2, .null, .int l4] [] := by
  intro n
  induction n with
  | zero => intro l2 l4 hf; cases hf
  | succ n ih =>
    intro l2 l4 hf ke
    replace hf : sX5_lit_5 x l1 (wX5_lit_5 x l1 n) l2 l4 = some R := hf
    delta sX5_lit_5 at hf
    refine T_iload dX5_lit_5 rfl ?_
    refine T_const dX5_lit_7 ?_
    refine T_icmp_ge dX5_lit_9 (fun c9_1 => ?_) (fun c9_1 => ?_)
    · replace hf := ite_t c9_1 hf
      exact X_wk (WK.n (WK.n (WK.s (WK.n (WK.n WK.e))))) (ke l2 (Option.some.inj hf).symm)
    · replace hf := ite_f c9_1 hf
      refine T_aload dX5_lit_12 rfl ?_
      refine T_iload dX5_lit_13 rfl ?_
      refine T_iload dX5_lit_14 rfl ?_
      obtain ⟨q16_2, hc16_2, hf⟩ := bind_t hf
      refine X_Vv (qX5_isLit Z _ hc16_2) (Nat.le_of_ble_eq_true rfl) dX5_lit_16 lvX5_40 rfl rfl ob1 (Nat.le_of_ble_eq_true rfl) ?_
      have J29 : ∀ (l2 : Int64) (l4 : Int32), jX5_lit_29 (wX5_lit_5 x l1 n) x l1 l2 l4 = some R → TX true Z mX5_lit 1 y x Q 29 [.ref 1, .int l1, .long l2, .null, .int l4] [] := by
        intro l2 l4 hf
        delta jX5_lit_29 at hf
        refine T_iinc dX5_lit_29 rfl ?_
        show TX _ _ _ _ _ _ _ _ [_, _, _, _, _] _
        refine T_goto dX5_lit_32 ?_
        exact X_wk (WK.s (WK.s (WK.s (WK.n (WK.s WK.e))))) (ih _ _ hf ke)
      refine T_if_eq dX5_lit_19 (fun c19_3 => ?_) (fun c19_3 => ?_)
      · replace hf := ite_t c19_3 hf
        exact X_wk (WK.s (WK.s (WK.s (WK.n (WK.s WK.e))))) (J29 _ _ hf)
      · replace hf := ite_f c19_3 hf
        refine T_lload dX5_lit_22 rfl ?_
        refine T_constL dX5_lit_23 ?_
        refine T_iload dX5_lit_24 rfl ?_
        refine T_lshl dX5_lit_26 ?_
        refine T_lor dX5_lit_27 ?_
        refine T_lstore dX5_lit_28 ?_
        show TX _ _ _ _ _ _ _ _ [_, _, _, _, _] _
        exact X_wk (WK.s (WK.s (WK.s (WK.n (WK.s WK.e))))) (J29 _ _ hf)
theorem qX5_lit (Z : aZ) (y : aH) {x : aH} {p1 : Int32} {q : Int64} (hf : fX5_lit x p1 = some q) : CX true Z mX5_lit 1 [.ref 1, .int p1] y x (RV (.long q) x) := by
  refine CX.of mokX5_lit (Nat.le_of_ble_eq_true rfl) ?_
  show TX _ _ _ _ _ _ _ _ [_, _, _, _, _] _
  delta fX5_lit at hf
  refine T_constL dX5_lit_0 ?_
  refine T_lstore dX5_lit_1 ?_
  show TX _ _ _ _ _ _ _ _ [_, _, _, _, _] _
  refine T_const dX5_lit_2 ?_
  refine T_istore dX5_lit_3 ?_
  show TX _ _ _ _ _ _ _ _ [_, _, _, _, _] _
  obtain ⟨q5_4, hc5_4, hf⟩ := bind_t hf
  refine X_wk (WK.s (WK.s (WK.s (WK.n (WK.s WK.e))))) (lX5_lit_5 Z _ _ _ 2000 _ _ hc5_4 ?_)
  intro q5_4z hr
  subst hr
  refine T_lload dX5_lit_35 rfl ?_
  obtain rfl := Option.some.inj hf
  exact X_rl dX5_lit_36 ⟨rfl, rfl⟩
noncomputable def jX5_flat_25 (ih : Int64 → Int32 → Option Int64) (x : aH) (l1 : Int64) (l3 : Int32) : Option Int64 := ih l1 (l3 + (1 : Int32))
noncomputable def sX5_flat_4 (x : aH) (ih : Int64 → Int32 → Option Int64) (l1 : Int64) (l3 : Int32) : Option Int64 := if (64 : Int32) ≤ l3 then some l1 else if (0 : Int32) ≤ l3 ∧ l3 < (64 : Int32) then if (ri x 2 (ix l3)) = (0 : Int32) then jX5_flat_25 ih x (l1 ||| ((1 : Int64) <<< (Int32.toInt64 l3 &&& 63))) l3 else jX5_flat_25 ih x l1 l3 else none
noncomputable def wX5_flat_4 (x : aH) : Nat → Int64 → Int32 → Option Int64
  | 0 => fun _ _ => none
  | n + 1 => sX5_flat_4 x (wX5_flat_4 x n)
noncomputable def fX5_flat (x : aH) : Option Int64 := (wX5_flat_4 x 2000 (0 : Int64) (0 : Int32)).bind fun q4_4 => some q4_4
theorem lX5_flat_4 (Z : aZ) (y : aH) (x : aH) {Q : Option Value → aH → Prop} {R : Int64} : ∀ (n : Nat) (l1 : Int64) (l3 : Int32), wX5_flat_4 x n l1 l3 = some R → (∀ q, R = q → TX true Z mX5_flat 0 y x Q 31 [.null, .long q, .null, .null] []) → TX true Z mX5_flat 0 y x Q 4 [.ref 1, .long l1, .null, .int l3] [] := by
  intro n
  induction n with
  | zero => intro l1 l3 hf; cases hf
  | succ n ih =>
    intro l1 l3 hf ke
    replace hf : sX5_flat_4 x (wX5_flat_4 x n) l1 l3 = some R := hf
    delta sX5_flat_4 at hf
    refine T_iload dX5_flat_4 rfl ?_
    refine T_const dX5_flat_5 ?_
    refine T_icmp_ge dX5_flat_7 (fun c7_1 => ?_) (fun c7_1 => ?_)
    · replace hf := ite_t c7_1 hf
      exact X_wk (WK.n (WK.s (WK.n (WK.n WK.e)))) (ke l1 (Option.some.inj hf).symm)
    · replace hf := ite_f c7_1 hf
      refine T_aload dX5_flat_10 rfl ?_
      refine X_getr dX5_flat_11 lfX5_9 rfl ob1 rfl ?_
      refine T_iload dX5_flat_14 rfl ?_
      obtain ⟨hb15_2, hf⟩ := opt_t hf
      refine X_iald (N := 64) dX5_flat_15 ar2 rfl hb15_2 ?_
      have J25 : ∀ (l1 : Int64) (l3 : Int32), jX5_flat_25 (wX5_flat_4 x n) x l1 l3 = some R → TX true Z mX5_flat 0 y x Q 25 [.ref 1, .long l1, .null, .int l3] [] := by
        intro l1 l3 hf
        delta jX5_flat_25 at hf
        refine T_iinc dX5_flat_25 rfl ?_
        show TX _ _ _ _ _ _ _ _ [_, _, _, _] _
        refine T_goto dX5_flat_28 ?_
        exact X_wk (WK.s (WK.s (WK.n (WK.s WK.e)))) (ih _ _ hf ke)
      refine T_if_ne dX5_flat_16 (fun c16_3 => ?_) (fun c16_3 => ?_)
      · replace hf := ite_f c16_3 hf
        exact X_wk (WK.s (WK.s (WK.n (WK.s WK.e)))) (J25 _ _ hf)
      · replace hf := ite_t c16_3 hf
        refine T_lload dX5_flat_19 rfl ?_
        refine T_constL dX5_flat_20 ?_
        refine T_iload dX5_flat_21 rfl ?_
        refine T_lshl dX5_flat_22 ?_
        refine T_lor dX5_flat_23 ?_
        refine T_lstore dX5_flat_24 ?_
        show TX _ _ _ _ _ _ _ _ [_, _, _, _] _
        exact X_wk (WK.s (WK.s (WK.n (WK.s WK.e)))) (J25 _ _ hf)
theorem qX5_flat (Z : aZ) (y : aH) {x : aH} {q : Int64} (hf : fX5_flat x = some q) : CX true Z mX5_flat 0 [.ref 1] y x (RV (.long q) x) := by
  refine CX.of mokX5_flat (Nat.le_of_ble_eq_true rfl) ?_
  show TX _ _ _ _ _ _ _ _ [_, _, _, _] _
  delta fX5_flat at hf
  refine T_constL dX5_flat_0 ?_
  refine T_lstore dX5_flat_1 ?_
  show TX _ _ _ _ _ _ _ _ [_, _, _, _] _
  refine T_const dX5_flat_2 ?_
  refine T_istore dX5_flat_3 ?_
  show TX _ _ _ _ _ _ _ _ [_, _, _, _] _
  obtain ⟨q4_4, hc4_4, hf⟩ := bind_t hf
  refine X_wk (WK.s (WK.s (WK.n (WK.s WK.e)))) (lX5_flat_4 Z _ _ 2000 _ _ hc4_4 ?_)
  intro q4_4z hr
  subst hr
  refine T_lload dX5_flat_31 rfl ?_
  obtain rfl := Option.some.inj hf
  exact X_rl dX5_flat_32 ⟨rfl, rfl⟩
noncomputable def fX5_nearer (x : aH) (p1 : Int32) : Option Int32 := if (if (0 : Int32) ≤ (((fi x 1 4) - (fi x 1 4) / (8 : Int32) * (8 : Int32)) - (p1 - p1 / (8 : Int32) * (8 : Int32))) then (((fi x 1 4) - (fi x 1 4) / (8 : Int32) * (8 : Int32)) - (p1 - p1 / (8 : Int32) * (8 : Int32))) else 0 - (((fi x 1 4) - (fi x 1 4) / (8 : Int32) * (8 : Int32)) - (p1 - p1 / (8 : Int32) * (8 : Int32)))) < (if (0 : Int32) ≤ (((fi x 1 4) / (8 : Int32)) - (p1 / (8 : Int32))) then (((fi x 1 4) / (8 : Int32)) - (p1 / (8 : Int32))) else 0 - (((fi x 1 4) / (8 : Int32)) - (p1 / (8 : Int32)))) then if (((fi x 1 4) / (8 : Int32)) - (p1 / (8 : Int32))) ≤ (0 : Int32) then some (p1 - (8 : Int32)) else some (p1 + (8 : Int32)) else if (((fi x 1 4) - (fi x 1 4) / (8 : Int32) * (8 : Int32)) - (p1 - p1 / (8 : Int32) * (8 : Int32))) ≤ (0 : Int32) then some (p1 - (1 : Int32)) else some (p1 + (1 : Int32))
theorem qX5_nearer (Z : aZ) (y : aH) {x : aH} {p1 : Int32} {q : Int32} (hf : fX5_nearer x p1 = some q) : CX true Z mX5_nearer 0 [.ref 1, .int p1] y x (RV (.int q) x) := by
  refine CX.of mokX5_nearer (Nat.le_of_ble_eq_true rfl) ?_
  show TX _ _ _ _ _ _ _ _ [_, _, _, _] _
  delta fX5_nearer at hf
  refine T_aload dX5_nearer_0 rfl ?_
  refine X_getf dX5_nearer_1 lfX5_24 rfl ob1 ?_
  refine T_const dX5_nearer_4 ?_
  refine T_irem dX5_nearer_6 (by decide) ?_
  refine T_iload dX5_nearer_7 rfl ?_
  refine T_const dX5_nearer_8 ?_
  refine T_irem dX5_nearer_10 (by decide) ?_
  refine T_isub dX5_nearer_11 ?_
  refine T_istore dX5_nearer_12 ?_
  show TX _ _ _ _ _ _ _ _ [_, _, _, _] _
  refine T_aload dX5_nearer_13 rfl ?_
  refine X_getf dX5_nearer_14 lfX5_24 rfl ob1 ?_
  refine T_const dX5_nearer_17 ?_
  refine T_idiv dX5_nearer_19 (by decide) ?_
  refine T_iload dX5_nearer_20 rfl ?_
  refine T_const dX5_nearer_21 ?_
  refine T_idiv dX5_nearer_23 (by decide) ?_
  refine T_isub dX5_nearer_24 ?_
  refine T_istore dX5_nearer_25 ?_
  show TX _ _ _ _ _ _ _ _ [_, _, _, _] _
  refine T_iload dX5_nearer_26 rfl ?_
  refine T_abs dX5_nearer_27 lmX5_34 (Nat.le_of_ble_eq_true rfl) ?_
  refine T_iload dX5_nearer_30 rfl ?_
  refine T_abs dX5_nearer_31 lmX5_34 (Nat.le_of_ble_eq_true rfl) ?_
  refine T_icmp_lt dX5_nearer_34 (fun c34_1 => ?_) (fun c34_1 => ?_)
  · replace hf := ite_t c34_1 hf
    refine T_iload dX5_nearer_51 rfl ?_
    refine T_if_le dX5_nearer_52 (fun c52_2 => ?_) (fun c52_2 => ?_)
    · replace hf := ite_t c52_2 hf
      refine T_iload dX5_nearer_62 rfl ?_
      refine T_const dX5_nearer_63 ?_
      refine T_isub dX5_nearer_65 ?_
      obtain rfl := Option.some.inj hf
      exact X_ri dX5_nearer_66 ⟨rfl, rfl⟩
    · replace hf := ite_f c52_2 hf
      refine T_iload dX5_nearer_55 rfl ?_
      refine T_const dX5_nearer_56 ?_
      refine T_iadd dX5_nearer_58 ?_
      refine T_goto dX5_nearer_59 ?_
      obtain rfl := Option.some.inj hf
      exact X_ri dX5_nearer_66 ⟨rfl, rfl⟩
  · replace hf := ite_f c34_1 hf
    refine T_iload dX5_nearer_37 rfl ?_
    refine T_if_le dX5_nearer_38 (fun c38_3 => ?_) (fun c38_3 => ?_)
    · replace hf := ite_t c38_3 hf
      refine T_iload dX5_nearer_47 rfl ?_
      refine T_const dX5_nearer_48 ?_
      refine T_isub dX5_nearer_49 ?_
      obtain rfl := Option.some.inj hf
      exact X_ri dX5_nearer_50 ⟨rfl, rfl⟩
    · replace hf := ite_f c38_3 hf
      refine T_iload dX5_nearer_41 rfl ?_
      refine T_const dX5_nearer_42 ?_
      refine T_iadd dX5_nearer_43 ?_
      refine T_goto dX5_nearer_44 ?_
      obtain rfl := Option.some.inj hf
      exact X_ri dX5_nearer_50 ⟨rfl, rfl⟩
noncomputable def jJ6_bitCount_0f7a4_41 (l0 : Int32) : Option Int32 := some ((l0 + ((Int32.toUInt32 l0 >>> (Int32.toUInt32 (16 : Int32) &&& Int32.toUInt32 31)).toInt32)) &&& (63 : Int32))
noncomputable def jJ6_bitCount_0f7a4_24 (l0 : Int32) : Option Int32 := jJ6_bitCount_0f7a4_41 (((l0 + ((Int32.toUInt32 l0 >>> (Int32.toUInt32 (4 : Int32) &&& Int32.toUInt32 31)).toInt32)) &&& (252645135 : Int32)) + ((Int32.toUInt32 ((l0 + ((Int32.toUInt32 l0 >>> (Int32.toUInt32 (4 : Int32) &&& Int32.toUInt32 31)).toInt32)) &&& (252645135 : Int32)) >>> (Int32.toUInt32 (8 : Int32) &&& Int32.toUInt32 31)).toInt32))
noncomputable def fJ6_bitCount_0f7a4 (p0 : Int32) : Option Int32 := jJ6_bitCount_0f7a4_24 (((p0 - (((Int32.toUInt32 p0 >>> (Int32.toUInt32 (1 : Int32) &&& Int32.toUInt32 31)).toInt32) &&& (1431655765 : Int32))) &&& (858993459 : Int32)) + (((Int32.toUInt32 (p0 - (((Int32.toUInt32 p0 >>> (Int32.toUInt32 (1 : Int32) &&& Int32.toUInt32 31)).toInt32) &&& (1431655765 : Int32))) >>> (Int32.toUInt32 (2 : Int32) &&& Int32.toUInt32 31)).toInt32) &&& (858993459 : Int32)))
theorem qJ6_bitCount_0f7a4 (sd : Bool) (Z : aZ) (y : aH) (x : aH) {p0 : Int32} {q : Int32} (hf : fJ6_bitCount_0f7a4 p0 = some q) : CX sd Z mJ6_bitCount_0f7a4 0 [.int p0] y x (RV (.int q) x) := by
  refine CX.of mokJ6_bitCount_0f7a4 (Nat.le_of_ble_eq_true rfl) ?_
  show TX _ _ _ _ _ _ _ _ [_] _
  delta fJ6_bitCount_0f7a4 at hf
  refine T_iload dJ6_bitCount_0f7a4_0 rfl ?_
  refine T_iload dJ6_bitCount_0f7a4_1 rfl ?_
  refine T_const dJ6_bitCount_0f7a4_2 ?_
  refine T_iushr dJ6_bitCount_0f7a4_3 ?_
  refine T_const dJ6_bitCount_0f7a4_4 ?_
  refine T_iand dJ6_bitCount_0f7a4_7 ?_
  refine T_isub dJ6_bitCount_0f7a4_8 ?_
  refine T_istore dJ6_bitCount_0f7a4_9 ?_
  show TX _ _ _ _ _ _ _ _ [_] _
  refine T_iload dJ6_bitCount_0f7a4_10 rfl ?_
  refine T_const dJ6_bitCount_0f7a4_11 ?_
  refine T_iand dJ6_bitCount_0f7a4_14 ?_
  refine T_iload dJ6_bitCount_0f7a4_15 rfl ?_
  refine T_const dJ6_bitCount_0f7a4_16 ?_
  refine T_iushr dJ6_bitCount_0f7a4_17 ?_
  refine T_const dJ6_bitCount_0f7a4_18 ?_
  refine T_iand dJ6_bitCount_0f7a4_21 ?_
  refine T_iadd dJ6_bitCount_0f7a4_22 ?_
  refine T_istore dJ6_bitCount_0f7a4_23 ?_
  show TX _ _ _ _ _ _ _ _ [_] _
  have J24 : ∀ (l0 : Int32), jJ6_bitCount_0f7a4_24 l0 = some q → TX sd Z mJ6_bitCount_0f7a4 0 y x (RV (.int q) x) 24 [.int l0] [] := by
    intro l0 hf
    delta jJ6_bitCount_0f7a4_24 at hf
    refine T_iload dJ6_bitCount_0f7a4_24 rfl ?_
    refine T_iload dJ6_bitCount_0f7a4_25 rfl ?_
    refine T_const dJ6_bitCount_0f7a4_26 ?_
    refine T_iushr dJ6_bitCount_0f7a4_27 ?_
    refine T_iadd dJ6_bitCount_0f7a4_28 ?_
    refine T_const dJ6_bitCount_0f7a4_29 ?_
    refine T_iand dJ6_bitCount_0f7a4_32 ?_
    refine T_istore dJ6_bitCount_0f7a4_33 ?_
    show TX _ _ _ _ _ _ _ _ [_] _
    refine T_iload dJ6_bitCount_0f7a4_34 rfl ?_
    refine T_iload dJ6_bitCount_0f7a4_35 rfl ?_
    refine T_const dJ6_bitCount_0f7a4_36 ?_
    refine T_iushr dJ6_bitCount_0f7a4_38 ?_
    refine T_iadd dJ6_bitCount_0f7a4_39 ?_
    refine T_istore dJ6_bitCount_0f7a4_40 ?_
    show TX _ _ _ _ _ _ _ _ [_] _
    have J41 : ∀ (l0 : Int32), jJ6_bitCount_0f7a4_41 l0 = some q → TX sd Z mJ6_bitCount_0f7a4 0 y x (RV (.int q) x) 41 [.int l0] [] := by
      intro l0 hf
      delta jJ6_bitCount_0f7a4_41 at hf
      refine T_iload dJ6_bitCount_0f7a4_41 rfl ?_
      refine T_iload dJ6_bitCount_0f7a4_42 rfl ?_
      refine T_const dJ6_bitCount_0f7a4_43 ?_
      refine T_iushr dJ6_bitCount_0f7a4_45 ?_
      refine T_iadd dJ6_bitCount_0f7a4_46 ?_
      refine T_istore dJ6_bitCount_0f7a4_47 ?_
      show TX _ _ _ _ _ _ _ _ [_] _
      refine T_iload dJ6_bitCount_0f7a4_48 rfl ?_
      refine T_const dJ6_bitCount_0f7a4_49 ?_
      refine T_iand dJ6_bitCount_0f7a4_51 ?_
      obtain rfl := Option.some.inj hf
      exact X_ri dJ6_bitCount_0f7a4_52 ⟨rfl, rfl⟩
    exact X_wk (WK.s WK.e) (J41 _ hf)
  exact X_wk (WK.s WK.e) (J24 _ hf)
noncomputable def fX7_isEmpty (x : aH) (a : Nat) : Option Int32 := if (fi x a 1) = (-1 : Int32) then if (fi x a 3) = (-1 : Int32) then some (1 : Int32) else some (0 : Int32) else some (0 : Int32)
theorem qX7_isEmpty (Z : aZ) (y : aH) {x : aH} {a : Nat} (hA : SH a) {q : Int32} (hf : fX7_isEmpty x a = some q) : CX true Z mX7_isEmpty 0 [.ref a] y x (RV (.int q) x) := by
  refine CX.of mokX7_isEmpty (Nat.le_of_ble_eq_true rfl) ?_
  show TX _ _ _ _ _ _ _ _ [_] _
  delta fX7_isEmpty at hf
  refine T_aload dX7_isEmpty_0 rfl ?_
  refine X_getf dX7_isEmpty_1 lfX7_13 rfl (SH.ob hA) ?_
  refine T_const dX7_isEmpty_4 ?_
  refine T_icmp_ne dX7_isEmpty_5 (fun c5_1 => ?_) (fun c5_1 => ?_)
  · replace hf := ite_f c5_1 hf
    refine T_const dX7_isEmpty_20 ?_
    obtain rfl := Option.some.inj hf
    exact X_rz dX7_isEmpty_21 (by first | exact Or.inl rfl | exact Or.inr rfl) ⟨rfl, rfl⟩
  · replace hf := ite_t c5_1 hf
    refine T_aload dX7_isEmpty_8 rfl ?_
    refine X_getf dX7_isEmpty_9 lfX7_17 rfl (SH.ob hA) ?_
    refine T_const dX7_isEmpty_12 ?_
    refine T_icmp_ne dX7_isEmpty_13 (fun c13_2 => ?_) (fun c13_2 => ?_)
    · replace hf := ite_f c13_2 hf
      refine T_const dX7_isEmpty_20 ?_
      obtain rfl := Option.some.inj hf
      exact X_rz dX7_isEmpty_21 (by first | exact Or.inl rfl | exact Or.inr rfl) ⟨rfl, rfl⟩
    · replace hf := ite_t c13_2 hf
      refine T_const dX7_isEmpty_16 ?_
      refine T_goto dX7_isEmpty_17 ?_
      obtain rfl := Option.some.inj hf
      exact X_rz dX7_isEmpty_21 (by first | exact Or.inl rfl | exact Or.inr rfl) ⟨rfl, rfl⟩
noncomputable def fX7_isRow (x : aH) (a : Nat) : Option Int32 := if (fi x a 1) = (-1 : Int32) then some (0 : Int32) else some (1 : Int32)
theorem qX7_isRow (Z : aZ) (y : aH) {x : aH} {a : Nat} (hA : SH a) {q : Int32} (hf : fX7_isRow x a = some q) : CX true Z mX7_isRow 0 [.ref a] y x (RV (.int q) x) := by
  refine CX.of mokX7_isRow (Nat.le_of_ble_eq_true rfl) ?_
  show TX _ _ _ _ _ _ _ _ [_] _
  delta fX7_isRow at hf
  refine T_aload dX7_isRow_0 rfl ?_
  refine X_getf dX7_isRow_1 lfX7_13 rfl (SH.ob hA) ?_
  refine T_const dX7_isRow_4 ?_
  refine T_icmp_eq dX7_isRow_5 (fun c5_1 => ?_) (fun c5_1 => ?_)
  · replace hf := ite_t c5_1 hf
    refine T_const dX7_isRow_12 ?_
    obtain rfl := Option.some.inj hf
    exact X_rz dX7_isRow_13 (by first | exact Or.inl rfl | exact Or.inr rfl) ⟨rfl, rfl⟩
  · replace hf := ite_f c5_1 hf
    refine T_const dX7_isRow_8 ?_
    refine T_goto dX7_isRow_9 ?_
    obtain rfl := Option.some.inj hf
    exact X_rz dX7_isRow_13 (by first | exact Or.inl rfl | exact Or.inr rfl) ⟨rfl, rfl⟩
noncomputable def fX7_isRowOfBytes (x : aH) (a : Nat) : Option Int32 := if (fi x a 1) = (0 : Int32) then some (1 : Int32) else some (0 : Int32)
theorem qX7_isRowOfBytes (Z : aZ) (y : aH) {x : aH} {a : Nat} (hA : SH a) {q : Int32} (hf : fX7_isRowOfBytes x a = some q) : CX true Z mX7_isRowOfBytes 0 [.ref a] y x (RV (.int q) x) := by
  refine CX.of mokX7_isRowOfBytes (Nat.le_of_ble_eq_true rfl) ?_
  show TX _ _ _ _ _ _ _ _ [_] _
  delta fX7_isRowOfBytes at hf
  refine T_aload dX7_isRowOfBytes_0 rfl ?_
  refine X_getf dX7_isRowOfBytes_1 lfX7_13 rfl (SH.ob hA) ?_
  refine T_if_ne dX7_isRowOfBytes_4 (fun c4_1 => ?_) (fun c4_1 => ?_)
  · replace hf := ite_f c4_1 hf
    refine T_const dX7_isRowOfBytes_11 ?_
    obtain rfl := Option.some.inj hf
    exact X_rz dX7_isRowOfBytes_12 (by first | exact Or.inl rfl | exact Or.inr rfl) ⟨rfl, rfl⟩
  · replace hf := ite_t c4_1 hf
    refine T_const dX7_isRowOfBytes_7 ?_
    refine T_goto dX7_isRowOfBytes_8 ?_
    obtain rfl := Option.some.inj hf
    exact X_rz dX7_isRowOfBytes_12 (by first | exact Or.inl rfl | exact Or.inr rfl) ⟨rfl, rfl⟩
noncomputable def fX7_hasPlaces (x : aH) (a : Nat) (p1 : Int32) (p2 : Int32) : Option Int32 := if p1 < (0 : Int32) then some (0 : Int32) else if p2 < (0 : Int32) then some (0 : Int32) else if (fi x a 2) < p2 then some (0 : Int32) else if ((fi x a 2) - p2) < p1 then some (0 : Int32) else some (1 : Int32)
theorem qX7_hasPlaces (Z : aZ) (y : aH) {x : aH} {a : Nat} {p1 : Int32} {p2 : Int32} (hA : SH a) {q : Int32} (hf : fX7_hasPlaces x a p1 p2 = some q) : CX true Z mX7_hasPlaces 0 [.ref a, .int p1, .int p2] y x (RV (.int q) x) := by
  refine CX.of mokX7_hasPlaces (Nat.le_of_ble_eq_true rfl) ?_
  show TX _ _ _ _ _ _ _ _ [_, _, _] _
  delta fX7_hasPlaces at hf
  refine T_iload dX7_hasPlaces_0 rfl ?_
  refine T_if_lt dX7_hasPlaces_1 (fun c1_1 => ?_) (fun c1_1 => ?_)
  · replace hf := ite_t c1_1 hf
    refine T_const dX7_hasPlaces_30 ?_
    obtain rfl := Option.some.inj hf
    exact X_rz dX7_hasPlaces_31 (by first | exact Or.inl rfl | exact Or.inr rfl) ⟨rfl, rfl⟩
  · replace hf := ite_f c1_1 hf
    refine T_iload dX7_hasPlaces_4 rfl ?_
    refine T_if_lt dX7_hasPlaces_5 (fun c5_2 => ?_) (fun c5_2 => ?_)
    · replace hf := ite_t c5_2 hf
      refine T_const dX7_hasPlaces_30 ?_
      obtain rfl := Option.some.inj hf
      exact X_rz dX7_hasPlaces_31 (by first | exact Or.inl rfl | exact Or.inr rfl) ⟨rfl, rfl⟩
    · replace hf := ite_f c5_2 hf
      refine T_iload dX7_hasPlaces_8 rfl ?_
      refine T_aload dX7_hasPlaces_9 rfl ?_
      refine X_getf dX7_hasPlaces_10 lfX7_20 rfl (SH.ob hA) ?_
      refine T_icmp_gt dX7_hasPlaces_13 (fun c13_3 => ?_) (fun c13_3 => ?_)
      · replace hf := ite_t c13_3 hf
        refine T_const dX7_hasPlaces_30 ?_
        obtain rfl := Option.some.inj hf
        exact X_rz dX7_hasPlaces_31 (by first | exact Or.inl rfl | exact Or.inr rfl) ⟨rfl, rfl⟩
      · replace hf := ite_f c13_3 hf
        refine T_iload dX7_hasPlaces_16 rfl ?_
        refine T_aload dX7_hasPlaces_17 rfl ?_
        refine X_getf dX7_hasPlaces_18 lfX7_20 rfl (SH.ob hA) ?_
        refine T_iload dX7_hasPlaces_21 rfl ?_
        refine T_isub dX7_hasPlaces_22 ?_
        refine T_icmp_gt dX7_hasPlaces_23 (fun c23_4 => ?_) (fun c23_4 => ?_)
        · replace hf := ite_t c23_4 hf
          refine T_const dX7_hasPlaces_30 ?_
          obtain rfl := Option.some.inj hf
          exact X_rz dX7_hasPlaces_31 (by first | exact Or.inl rfl | exact Or.inr rfl) ⟨rfl, rfl⟩
        · replace hf := ite_f c23_4 hf
          refine T_const dX7_hasPlaces_26 ?_
          refine T_goto dX7_hasPlaces_27 ?_
          obtain rfl := Option.some.inj hf
          exact X_rz dX7_hasPlaces_31 (by first | exact Or.inl rfl | exact Or.inr rfl) ⟨rfl, rfl⟩
noncomputable def fX7_holdBody (x : aH) (a : Nat) (p1 : Int32) : Option aH := some (sfi (sfi (sfi x a 3 p1) a 1 (-1 : Int32)) a 2 (0 : Int32))
theorem qX7_holdBody (Z : aZ) (y : aH) {x : aH} {a : Nat} {p1 : Int32} (hA : SH a) {q : aH} (hf : fX7_holdBody x a p1 = some q) : CX true Z mX7_holdBody 0 [.ref a, .int p1] y x (RN q) := by
  refine CX.of mokX7_holdBody (Nat.le_of_ble_eq_true rfl) ?_
  show TX _ _ _ _ _ _ _ _ [_, _] _
  delta fX7_holdBody at hf
  refine T_aload dX7_holdBody_0 rfl ?_
  refine T_iload dX7_holdBody_1 rfl ?_
  refine X_putf dX7_holdBody_2 lfX7_17 rfl rfl (SH.ob hA) ⟨rfl, rfl⟩ ?_
  refine T_aload dX7_holdBody_5 rfl ?_
  refine T_const dX7_holdBody_6 ?_
  refine X_putf dX7_holdBody_7 lfX7_13 rfl rfl (SH.ob hA) ⟨rfl, rfl⟩ ?_
  refine T_aload dX7_holdBody_10 rfl ?_
  refine T_const dX7_holdBody_11 ?_
  refine X_putf dX7_holdBody_12 lfX7_20 rfl rfl (SH.ob hA) ⟨rfl, rfl⟩ ?_
  obtain rfl := Option.some.inj hf
  exact X_rv dX7_holdBody_15 ⟨rfl, rfl⟩
noncomputable def sX7_holdRow_17 (a : Nat) (l2 : Int32) (ih : aH → Int32 → Option aH) (x : aH) (l3 : Int32) : Option aH := if l2 ≤ l3 then some x else if (0 : Int32) ≤ l3 ∧ l3 < (60 : Int32) then ih (srj x (a + 1) (ix l3) (0 : Int64)) (l3 + (1 : Int32)) else none
noncomputable def wX7_holdRow_17 (a : Nat) (l2 : Int32) : Nat → aH → Int32 → Option aH
  | 0 => fun _ _ => none
  | n + 1 => sX7_holdRow_17 a l2 (wX7_holdRow_17 a l2 n)
noncomputable def fX7_holdRow (x : aH) (a : Nat) (p1 : Int32) (p2 : Int32) : Option aH := (wX7_holdRow_17 a p2 2000 (sfi (sfi (sfi x a 3 (-1 : Int32)) a 1 p1) a 2 p2) (0 : Int32)).bind fun q17_3 => some q17_3
theorem lX7_holdRow_17 (Z : aZ) (y : aH) {a : Nat} (hA : SH a) (l2 : Int32) {Q : Option Value → aH → Prop} {R : aH} : ∀ (n : Nat) (x : aH) (l3 : Int32), wX7_holdRow_17 a l2 n x l3 = some R → (∀ q, R = q → TX true Z mX7_holdRow 0 y q Q 35 [.null, .null, .null, .null] []) → TX true Z mX7_holdRow 0 y x Q 17 [.ref a, .null, .int l2, .int l3] [] := by
  intro n
  induction n with
  | zero => intro x l3 hf; cases hf
  | succ n ih =>
    intro x l3 hf ke
    replace hf : sX7_holdRow_17 a l2 (wX7_holdRow_17 a l2 n) x l3 = some R := hf
    delta sX7_holdRow_17 at hf
    refine T_iload dX7_holdRow_17 rfl ?_
    refine T_iload dX7_holdRow_18 rfl ?_
    refine T_icmp_ge dX7_holdRow_19 (fun c19_1 => ?_) (fun c19_1 => ?_)
    · replace hf := ite_t c19_1 hf
      exact X_wk (WK.n (WK.n (WK.n (WK.n WK.e)))) (ke x (Option.some.inj hf).symm)
    · replace hf := ite_f c19_1 hf
      refine T_aload dX7_holdRow_22 rfl ?_
      refine X_getr dX7_holdRow_23 lfX7_9 rfl (SH.ob hA) (SH.f0 hA) ?_
      refine T_iload dX7_holdRow_26 rfl ?_
      refine T_constL dX7_holdRow_27 ?_
      obtain ⟨hb28_2, hf⟩ := opt_t hf
      refine X_last (N := 60) dX7_holdRow_28 (SH.ar0 hA) rfl hb28_2 ?_
      refine T_iinc dX7_holdRow_29 rfl ?_
      show TX _ _ _ _ _ _ _ _ [_, _, _, _] _
      refine T_goto dX7_holdRow_32 ?_
      exact X_wk (WK.s (WK.n (WK.s (WK.s WK.e)))) (ih _ _ hf ke)
theorem qX7_holdRow (Z : aZ) (y : aH) {x : aH} {a : Nat} {p1 : Int32} {p2 : Int32} (hA : SH a) {q : aH} (hf : fX7_holdRow x a p1 p2 = some q) : CX true Z mX7_holdRow 0 [.ref a, .int p1, .int p2] y x (RN q) := by
  refine CX.of mokX7_holdRow (Nat.le_of_ble_eq_true rfl) ?_
  show TX _ _ _ _ _ _ _ _ [_, _, _, _] _
  delta fX7_holdRow at hf
  refine T_aload dX7_holdRow_0 rfl ?_
  refine T_const dX7_holdRow_1 ?_
  refine X_putf dX7_holdRow_2 lfX7_17 rfl rfl (SH.ob hA) ⟨rfl, rfl⟩ ?_
  refine T_aload dX7_holdRow_5 rfl ?_
  refine T_iload dX7_holdRow_6 rfl ?_
  refine X_putf dX7_holdRow_7 lfX7_13 rfl rfl (SH.ob hA) ⟨rfl, rfl⟩ ?_
  refine T_aload dX7_holdRow_10 rfl ?_
  refine T_iload dX7_holdRow_11 rfl ?_
  refine X_putf dX7_holdRow_12 lfX7_20 rfl rfl (SH.ob hA) ⟨rfl, rfl⟩ ?_
  refine T_const dX7_holdRow_15 ?_
  refine T_istore dX7_holdRow_16 ?_
  show TX _ _ _ _ _ _ _ _ [_, _, _, _] _
  obtain ⟨q17_3, hc17_3, hf⟩ := bind_t hf
  refine X_wk (WK.s (WK.n (WK.s (WK.s WK.e)))) (lX7_holdRow_17 Z _ hA _ 2000 _ _ hc17_3 ?_)
  intro q17_3z hr
  subst hr
  obtain rfl := Option.some.inj hf
  exact X_rv dX7_holdRow_35 ⟨rfl, rfl⟩
noncomputable def fX7_lowestBits (x : aH) (a : Nat) (p1 : Int64) : Option Int64 := if (fi x a 1) = (0 : Int32) then some (Int32.toInt64 (Int8.toInt32 (Int32.toInt8 (Int64.toInt32 p1)))) else if (fi x a 1) = (1 : Int32) then some (Int32.toInt64 (Int16.toInt32 (Int32.toInt16 (Int64.toInt32 p1)))) else if (fi x a 1) = (2 : Int32) then some (Int32.toInt64 (Int64.toInt32 p1)) else if (fi x a 1) = (3 : Int32) then some p1 else if (lg_cmp p1 (0 : Int64)) = (0 : Int32) then some (0 : Int64) else some (1 : Int64)
theorem qX7_lowestBits (Z : aZ) (y : aH) {x : aH} {a : Nat} {p1 : Int64} (hA : SH a) {q : Int64} (hf : fX7_lowestBits x a p1 = some q) : CX true Z mX7_lowestBits 0 [.ref a, .long p1] y x (RV (.long q) x) := by
  refine CX.of mokX7_lowestBits (Nat.le_of_ble_eq_true rfl) ?_
  show TX _ _ _ _ _ _ _ _ [_, _, _] _
  delta fX7_lowestBits at hf
  refine T_aload dX7_lowestBits_0 rfl ?_
  refine X_getf dX7_lowestBits_1 lfX7_13 rfl (SH.ob hA) ?_
  by_cases c4_1 : (fi x a 1) = (0 : Int32)
  · replace hf := ite_t c4_1 hf
    refine T_tabE (off := 32) (tgt := 36) c4_1 dX7_lowestBits_4 (by decide) (by decide) (by decide) (by decide) ?_
    refine T_lload dX7_lowestBits_36 rfl ?_
    refine T_l2i dX7_lowestBits_37 ?_
    refine T_i2b dX7_lowestBits_38 ?_
    refine T_i2l dX7_lowestBits_39 ?_
    obtain rfl := Option.some.inj hf
    exact X_rl dX7_lowestBits_40 ⟨rfl, rfl⟩
  replace hf := ite_f c4_1 hf
  by_cases c4_2 : (fi x a 1) = (1 : Int32)
  · replace hf := ite_t c4_2 hf
    refine T_tabE (off := 37) (tgt := 41) c4_2 dX7_lowestBits_4 (by decide) (by decide) (by decide) (by decide) ?_
    refine T_lload dX7_lowestBits_41 rfl ?_
    refine T_l2i dX7_lowestBits_42 ?_
    refine T_i2s dX7_lowestBits_43 ?_
    refine T_i2l dX7_lowestBits_44 ?_
    obtain rfl := Option.some.inj hf
    exact X_rl dX7_lowestBits_45 ⟨rfl, rfl⟩
  replace hf := ite_f c4_2 hf
  by_cases c4_3 : (fi x a 1) = (2 : Int32)
  · replace hf := ite_t c4_3 hf
    refine T_tabE (off := 42) (tgt := 46) c4_3 dX7_lowestBits_4 (by decide) (by decide) (by decide) (by decide) ?_
    refine T_lload dX7_lowestBits_46 rfl ?_
    refine T_l2i dX7_lowestBits_47 ?_
    refine T_i2l dX7_lowestBits_48 ?_
    obtain rfl := Option.some.inj hf
    exact X_rl dX7_lowestBits_49 ⟨rfl, rfl⟩
  replace hf := ite_f c4_3 hf
  by_cases c4_4 : (fi x a 1) = (3 : Int32)
  · replace hf := ite_t c4_4 hf
    refine T_tabE (off := 46) (tgt := 50) c4_4 dX7_lowestBits_4 (by decide) (by decide) (by decide) (by decide) ?_
    refine T_lload dX7_lowestBits_50 rfl ?_
    obtain rfl := Option.some.inj hf
    exact X_rl dX7_lowestBits_51 ⟨rfl, rfl⟩
  replace hf := ite_f c4_4 hf
  refine T_tabOut (tgt := 52) ⟨dX7_lowestBits_4, by decide⟩ (by
    have n0 := ne_toInt c4_1; rw [show (0 : Int32).toInt = 0 from rfl] at n0
    have n1 := ne_toInt c4_2; rw [show (1 : Int32).toInt = 1 from rfl] at n1
    have n2 := ne_toInt c4_3; rw [show (2 : Int32).toInt = 2 from rfl] at n2
    have n3 := ne_toInt c4_4; rw [show (3 : Int32).toInt = 3 from rfl] at n3
    omega) ?_
  refine T_lload dX7_lowestBits_52 rfl ?_
  refine T_constL dX7_lowestBits_53 ?_
  refine T_lcmp dX7_lowestBits_54 ?_
  refine T_if_eq dX7_lowestBits_55 (fun c55_5 => ?_) (fun c55_5 => ?_)
  · replace hf := ite_t c55_5 hf
    refine T_constL dX7_lowestBits_62 ?_
    obtain rfl := Option.some.inj hf
    exact X_rl dX7_lowestBits_63 ⟨rfl, rfl⟩
  · replace hf := ite_f c55_5 hf
    refine T_constL dX7_lowestBits_58 ?_
    refine T_goto dX7_lowestBits_59 ?_
    obtain rfl := Option.some.inj hf
    exact X_rl dX7_lowestBits_63 ⟨rfl, rfl⟩
noncomputable def fX7_set (x : aH) (a : Nat) (p1 : Int32) (p2 : Int64) : Option aH := (fX7_lowestBits x a p2).bind fun q7_1 => if (0 : Int32) ≤ p1 ∧ p1 < (60 : Int32) then some (srj x (a + 1) (ix p1) q7_1) else none
theorem qX7_set (Z : aZ) (y : aH) {x : aH} {a : Nat} {p1 : Int32} {p2 : Int64} (hA : SH a) {q : aH} (hf : fX7_set x a p1 p2 = some q) : CX true Z mX7_set 1 [.ref a, .int p1, .long p2] y x (RN q) := by
  refine CX.of mokX7_set (Nat.le_of_ble_eq_true rfl) ?_
  show TX _ _ _ _ _ _ _ _ [_, _, _, _] _
  delta fX7_set at hf
  refine T_aload dX7_set_0 rfl ?_
  refine X_getr dX7_set_1 lfX7_9 rfl (SH.ob hA) (SH.f0 hA) ?_
  refine T_iload dX7_set_4 rfl ?_
  refine T_aload dX7_set_5 rfl ?_
  refine T_lload dX7_set_6 rfl ?_
  obtain ⟨q7_1, hc7_1, hf⟩ := bind_t hf
  refine X_Vv (qX7_lowestBits Z _ hA hc7_1) (Nat.le_of_ble_eq_true rfl) dX7_set_7 lvX7_23 rfl rfl (SH.ob hA) (Nat.le_of_ble_eq_true rfl) ?_
  obtain ⟨hb10_2, hf⟩ := opt_t hf
  refine X_last (N := 60) dX7_set_10 (SH.ar0 hA) rfl hb10_2 ?_
  obtain rfl := Option.some.inj hf
  exact X_rv dX7_set_11 ⟨rfl, rfl⟩
noncomputable def jJ13_bitCount_95d88_55 (l0 : Int64) : Option Int32 := some ((Int64.toInt32 l0) &&& (127 : Int32))
noncomputable def jJ13_bitCount_95d88_41 (l0 : Int64) : Option Int32 := jJ13_bitCount_95d88_55 ((l0 + ((Int64.toUInt64 l0 >>> (Int64.toUInt64 (Int32.toInt64 (16 : Int32)) &&& Int64.toUInt64 63)).toInt64)) + ((Int64.toUInt64 (l0 + ((Int64.toUInt64 l0 >>> (Int64.toUInt64 (Int32.toInt64 (16 : Int32)) &&& Int64.toUInt64 63)).toInt64)) >>> (Int64.toUInt64 (Int32.toInt64 (32 : Int32)) &&& Int64.toUInt64 63)).toInt64))
noncomputable def jJ13_bitCount_95d88_24 (l0 : Int64) : Option Int32 := jJ13_bitCount_95d88_41 (((l0 + ((Int64.toUInt64 l0 >>> (Int64.toUInt64 (Int32.toInt64 (4 : Int32)) &&& Int64.toUInt64 63)).toInt64)) &&& (1085102592571150095 : Int64)) + ((Int64.toUInt64 ((l0 + ((Int64.toUInt64 l0 >>> (Int64.toUInt64 (Int32.toInt64 (4 : Int32)) &&& Int64.toUInt64 63)).toInt64)) &&& (1085102592571150095 : Int64)) >>> (Int64.toUInt64 (Int32.toInt64 (8 : Int32)) &&& Int64.toUInt64 63)).toInt64))
noncomputable def fJ13_bitCount_95d88 (p0 : Int64) : Option Int32 := jJ13_bitCount_95d88_24 (((p0 - (((Int64.toUInt64 p0 >>> (Int64.toUInt64 (Int32.toInt64 (1 : Int32)) &&& Int64.toUInt64 63)).toInt64) &&& (6148914691236517205 : Int64))) &&& (3689348814741910323 : Int64)) + (((Int64.toUInt64 (p0 - (((Int64.toUInt64 p0 >>> (Int64.toUInt64 (Int32.toInt64 (1 : Int32)) &&& Int64.toUInt64 63)).toInt64) &&& (6148914691236517205 : Int64))) >>> (Int64.toUInt64 (Int32.toInt64 (2 : Int32)) &&& Int64.toUInt64 63)).toInt64) &&& (3689348814741910323 : Int64)))
theorem qJ13_bitCount_95d88 (sd : Bool) (Z : aZ) (y : aH) (x : aH) {p0 : Int64} {q : Int32} (hf : fJ13_bitCount_95d88 p0 = some q) : CX sd Z mJ13_bitCount_95d88 0 [.long p0] y x (RV (.int q) x) := by
  refine CX.of mokJ13_bitCount_95d88 (Nat.le_of_ble_eq_true rfl) ?_
  show TX _ _ _ _ _ _ _ _ [_, _] _
  delta fJ13_bitCount_95d88 at hf
  refine T_lload dJ13_bitCount_95d88_0 rfl ?_
  refine T_lload dJ13_bitCount_95d88_1 rfl ?_
  refine T_const dJ13_bitCount_95d88_2 ?_
  refine T_lushr dJ13_bitCount_95d88_3 ?_
  refine T_constL dJ13_bitCount_95d88_4 ?_
  refine T_land dJ13_bitCount_95d88_7 ?_
  refine T_lsub dJ13_bitCount_95d88_8 ?_
  refine T_lstore dJ13_bitCount_95d88_9 ?_
  show TX _ _ _ _ _ _ _ _ [_, _] _
  refine T_lload dJ13_bitCount_95d88_10 rfl ?_
  refine T_constL dJ13_bitCount_95d88_11 ?_
  refine T_land dJ13_bitCount_95d88_14 ?_
  refine T_lload dJ13_bitCount_95d88_15 rfl ?_
  refine T_const dJ13_bitCount_95d88_16 ?_
  refine T_lushr dJ13_bitCount_95d88_17 ?_
  refine T_constL dJ13_bitCount_95d88_18 ?_
  refine T_land dJ13_bitCount_95d88_21 ?_
  refine T_ladd dJ13_bitCount_95d88_22 ?_
  refine T_lstore dJ13_bitCount_95d88_23 ?_
  show TX _ _ _ _ _ _ _ _ [_, _] _
  have J24 : ∀ (l0 : Int64), jJ13_bitCount_95d88_24 l0 = some q → TX sd Z mJ13_bitCount_95d88 0 y x (RV (.int q) x) 24 [.long l0, .null] [] := by
    intro l0 hf
    delta jJ13_bitCount_95d88_24 at hf
    refine T_lload dJ13_bitCount_95d88_24 rfl ?_
    refine T_lload dJ13_bitCount_95d88_25 rfl ?_
    refine T_const dJ13_bitCount_95d88_26 ?_
    refine T_lushr dJ13_bitCount_95d88_27 ?_
    refine T_ladd dJ13_bitCount_95d88_28 ?_
    refine T_constL dJ13_bitCount_95d88_29 ?_
    refine T_land dJ13_bitCount_95d88_32 ?_
    refine T_lstore dJ13_bitCount_95d88_33 ?_
    show TX _ _ _ _ _ _ _ _ [_, _] _
    refine T_lload dJ13_bitCount_95d88_34 rfl ?_
    refine T_lload dJ13_bitCount_95d88_35 rfl ?_
    refine T_const dJ13_bitCount_95d88_36 ?_
    refine T_lushr dJ13_bitCount_95d88_38 ?_
    refine T_ladd dJ13_bitCount_95d88_39 ?_
    refine T_lstore dJ13_bitCount_95d88_40 ?_
    show TX _ _ _ _ _ _ _ _ [_, _] _
    have J41 : ∀ (l0 : Int64), jJ13_bitCount_95d88_41 l0 = some q → TX sd Z mJ13_bitCount_95d88 0 y x (RV (.int q) x) 41 [.long l0, .null] [] := by
      intro l0 hf
      delta jJ13_bitCount_95d88_41 at hf
      refine T_lload dJ13_bitCount_95d88_41 rfl ?_
      refine T_lload dJ13_bitCount_95d88_42 rfl ?_
      refine T_const dJ13_bitCount_95d88_43 ?_
      refine T_lushr dJ13_bitCount_95d88_45 ?_
      refine T_ladd dJ13_bitCount_95d88_46 ?_
      refine T_lstore dJ13_bitCount_95d88_47 ?_
      show TX _ _ _ _ _ _ _ _ [_, _] _
      refine T_lload dJ13_bitCount_95d88_48 rfl ?_
      refine T_lload dJ13_bitCount_95d88_49 rfl ?_
      refine T_const dJ13_bitCount_95d88_50 ?_
      refine T_lushr dJ13_bitCount_95d88_52 ?_
      refine T_ladd dJ13_bitCount_95d88_53 ?_
      refine T_lstore dJ13_bitCount_95d88_54 ?_
      show TX _ _ _ _ _ _ _ _ [_, _] _
      have J55 : ∀ (l0 : Int64), jJ13_bitCount_95d88_55 l0 = some q → TX sd Z mJ13_bitCount_95d88 0 y x (RV (.int q) x) 55 [.long l0, .null] [] := by
        intro l0 hf
        delta jJ13_bitCount_95d88_55 at hf
        refine T_lload dJ13_bitCount_95d88_55 rfl ?_
        refine T_l2i dJ13_bitCount_95d88_56 ?_
        refine T_const dJ13_bitCount_95d88_57 ?_
        refine T_iand dJ13_bitCount_95d88_59 ?_
        obtain rfl := Option.some.inj hf
        exact X_ri dJ13_bitCount_95d88_60 ⟨rfl, rfl⟩
      exact X_wk (WK.s (WK.n WK.e)) (J55 _ hf)
    exact X_wk (WK.s (WK.n WK.e)) (J41 _ hf)
  exact X_wk (WK.s (WK.n WK.e)) (J24 _ hf)
