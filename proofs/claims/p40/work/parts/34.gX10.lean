noncomputable def fX10_isWithin (x : aH) (p1 : Int32) (p2 : Int32) : Option Int32 := if (0 : Int32) ≤ p1 ∧ p1 < (10 : Int32) then if p2 < (stR 0 (ix p1)) then some (0 : Int32) else if (0 : Int32) ≤ p1 ∧ p1 < (10 : Int32) then if (stR 1 (ix p1)) < p2 then some (0 : Int32) else some (1 : Int32) else none else none
theorem qX10_isWithin (Z : aZ) (y : aH) {x : aH} {p1 : Int32} {p2 : Int32} {q : Int32} (hf : fX10_isWithin x p1 p2 = some q) : CX true Z mX10_isWithin 0 [.ref 0, .int p1, .int p2] y x (RV (.int q) x) := by
  refine CX.of mokX10_isWithin (Nat.le_of_ble_eq_true rfl) ?_
  show TX _ _ _ _ _ _ _ _ [_, _, _] _
  delta fX10_isWithin at hf
  refine T_iload dX10_isWithin_0 rfl ?_
  refine T_gets dX10_isWithin_1 lgX10_386 ?_
  refine T_iload dX10_isWithin_4 rfl ?_
  obtain ⟨hb5_1, hf⟩ := opt_t hf
  refine X_ialdS (N := 10) dX10_isWithin_5 (by decide) rfl (by decide) rfl hb5_1 ?_
  refine T_icmp_lt dX10_isWithin_6 (fun c6_2 => ?_) (fun c6_2 => ?_)
  · replace hf := ite_t c6_2 hf
    refine T_const dX10_isWithin_22 ?_
    obtain rfl := Option.some.inj hf
    exact X_rz dX10_isWithin_23 (by first | exact Or.inl rfl | exact Or.inr rfl) ⟨rfl, rfl⟩
  · replace hf := ite_f c6_2 hf
    refine T_iload dX10_isWithin_9 rfl ?_
    refine T_gets dX10_isWithin_10 lgX10_389 ?_
    refine T_iload dX10_isWithin_13 rfl ?_
    obtain ⟨hb14_3, hf⟩ := opt_t hf
    refine X_ialdS (N := 10) dX10_isWithin_14 (by decide) rfl (by decide) rfl hb14_3 ?_
    refine T_icmp_gt dX10_isWithin_15 (fun c15_4 => ?_) (fun c15_4 => ?_)
    · replace hf := ite_t c15_4 hf
      refine T_const dX10_isWithin_22 ?_
      obtain rfl := Option.some.inj hf
      exact X_rz dX10_isWithin_23 (by first | exact Or.inl rfl | exact Or.inr rfl) ⟨rfl, rfl⟩
    · replace hf := ite_f c15_4 hf
      refine T_const dX10_isWithin_18 ?_
      refine T_goto dX10_isWithin_19 ?_
      obtain rfl := Option.some.inj hf
      exact X_rz dX10_isWithin_23 (by first | exact Or.inl rfl | exact Or.inr rfl) ⟨rfl, rfl⟩
noncomputable def fX10_addLost (x : aH) (p1 : Int32) (p2 : Int32) (p3 : Int32) : Option (Int32 × aH) := if (0 : Int32) ≤ (fi x 15 5) ∧ (fi x 15 5) < (10 : Int32) then if (0 : Int32) ≤ (fi x 15 5) ∧ (fi x 15 5) < (10 : Int32) then if (0 : Int32) ≤ (fi x 15 5) ∧ (fi x 15 5) < (10 : Int32) then some ((fi x 15 5), (sfi (sri (sri (sri x 16 (ix (fi x 15 5)) p1) 4 (ix (fi x 15 5)) p2) 5 (ix (fi x 15 5)) p3) 15 5 ((fi x 15 5) + (1 : Int32)))) else none else none else none
theorem qX10_addLost (Z : aZ) (y : aH) {x : aH} {p1 : Int32} {p2 : Int32} {p3 : Int32} {q : (Int32 × aH)} (hf : fX10_addLost x p1 p2 p3 = some q) : CX true Z mX10_addLost 0 [.ref 0, .int p1, .int p2, .int p3] y x (RV (.int q.1) q.2) := by
  refine CX.of mokX10_addLost (Nat.le_of_ble_eq_true rfl) ?_
  show TX _ _ _ _ _ _ _ _ [_, _, _, _, _] _
  delta fX10_addLost at hf
  refine T_aload dX10_addLost_0 rfl ?_
  refine X_getr dX10_addLost_1 lfX10_35 rfl ob0 rfl ?_
  refine X_getf dX10_addLost_4 lfX10_90 rfl ob15 ?_
  refine T_istore dX10_addLost_7 ?_
  show TX _ _ _ _ _ _ _ _ [_, _, _, _, _] _
  refine T_aload dX10_addLost_9 rfl ?_
  refine X_getr dX10_addLost_10 lfX10_35 rfl ob0 rfl ?_
  refine X_getr dX10_addLost_13 lfX10_176 rfl ob15 rfl ?_
  refine T_iload dX10_addLost_16 rfl ?_
  refine T_iload dX10_addLost_18 rfl ?_
  obtain ⟨hb19_1, hf⟩ := opt_t hf
  refine X_iast (N := 10) dX10_addLost_19 ar16 rfl hb19_1 ?_
  refine T_aload dX10_addLost_20 rfl ?_
  refine X_getr dX10_addLost_21 lfX10_10 rfl ob0 rfl ?_
  refine X_getr dX10_addLost_24 lfX10_392 rfl ob1 rfl ?_
  refine T_iload dX10_addLost_27 rfl ?_
  refine T_iload dX10_addLost_29 rfl ?_
  obtain ⟨hb30_2, hf⟩ := opt_t hf
  refine X_iast (N := 10) dX10_addLost_30 ar4 rfl hb30_2 ?_
  refine T_aload dX10_addLost_31 rfl ?_
  refine X_getr dX10_addLost_32 lfX10_10 rfl ob0 rfl ?_
  refine X_getr dX10_addLost_35 lfX10_395 rfl ob1 rfl ?_
  refine T_iload dX10_addLost_38 rfl ?_
  refine T_iload dX10_addLost_40 rfl ?_
  obtain ⟨hb41_3, hf⟩ := opt_t hf
  refine X_iast (N := 10) dX10_addLost_41 ar5 rfl hb41_3 ?_
  refine T_aload dX10_addLost_42 rfl ?_
  refine X_getr dX10_addLost_43 lfX10_35 rfl ob0 rfl ?_
  refine T_iload dX10_addLost_46 rfl ?_
  refine T_const dX10_addLost_48 ?_
  refine T_iadd dX10_addLost_49 ?_
  refine X_putf dX10_addLost_50 lfX10_90 rfl rfl ob15 ⟨rfl, rfl⟩ ?_
  refine T_iload dX10_addLost_53 rfl ?_
  obtain rfl := Option.some.inj hf
  exact X_ri dX10_addLost_55 ⟨rfl, rfl⟩
noncomputable def fX10_lost (x : aH) (p1 : Int32) (p2 : Int32) : Option (Int32 × aH) := (fX10_isWithin x (0 : Int32) p1).bind fun q3_1 => if q3_1 = (0 : Int32) then some ((-1 : Int32), x) else (fX10_isWithin x (1 : Int32) p2).bind fun q12_3 => if q12_3 = (0 : Int32) then some ((-1 : Int32), x) else if (fi x 15 5) < (10 : Int32) then (fX10_addLost x p1 p2 (0 : Int32)).bind fun q39_6 => some (q39_6.1, q39_6.2) else some ((-3 : Int32), x)
theorem qX10_lost (Z : aZ) (y : aH) {x : aH} {p1 : Int32} {p2 : Int32} {q : (Int32 × aH)} (hf : fX10_lost x p1 p2 = some q) : CX true Z mX10_lost 1 [.ref 0, .int p1, .int p2] y x (RV (.int q.1) q.2) := by
  refine CX.of mokX10_lost (Nat.le_of_ble_eq_true rfl) ?_
  show TX _ _ _ _ _ _ _ _ [_, _, _] _
  delta fX10_lost at hf
  refine T_aload dX10_lost_0 rfl ?_
  refine T_const dX10_lost_1 ?_
  refine T_iload dX10_lost_2 rfl ?_
  obtain ⟨q3_1, hc3_1, hf⟩ := bind_t hf
  refine X_Vv (qX10_isWithin Z _ hc3_1) (Nat.le_of_ble_eq_true rfl) dX10_lost_3 lvX10_86 rfl rfl ob0 (Nat.le_of_ble_eq_true rfl) ?_
  refine T_if_eq dX10_lost_6 (fun c6_2 => ?_) (fun c6_2 => ?_)
  · replace hf := ite_t c6_2 hf
    refine T_const dX10_lost_18 ?_
    obtain rfl := Option.some.inj hf
    exact X_ri dX10_lost_19 ⟨rfl, rfl⟩
  · replace hf := ite_f c6_2 hf
    refine T_aload dX10_lost_9 rfl ?_
    refine T_const dX10_lost_10 ?_
    refine T_iload dX10_lost_11 rfl ?_
    obtain ⟨q12_3, hc12_3, hf⟩ := bind_t hf
    refine X_Vv (qX10_isWithin Z _ hc12_3) (Nat.le_of_ble_eq_true rfl) dX10_lost_12 lvX10_86 rfl rfl ob0 (Nat.le_of_ble_eq_true rfl) ?_
    refine T_if_ne dX10_lost_15 (fun c15_4 => ?_) (fun c15_4 => ?_)
    · replace hf := ite_f c15_4 hf
      refine T_aload dX10_lost_20 rfl ?_
      refine X_getr dX10_lost_21 lfX10_35 rfl ob0 rfl ?_
      refine X_getf dX10_lost_24 lfX10_90 rfl ob15 ?_
      refine T_const dX10_lost_27 ?_
      refine T_icmp_lt dX10_lost_29 (fun c29_5 => ?_) (fun c29_5 => ?_)
      · replace hf := ite_t c29_5 hf
        refine T_aload dX10_lost_35 rfl ?_
        refine T_iload dX10_lost_36 rfl ?_
        refine T_iload dX10_lost_37 rfl ?_
        refine T_const dX10_lost_38 ?_
        obtain ⟨q39_6, hc39_6, hf⟩ := bind_t hf
        refine X_Vv (qX10_addLost Z _ hc39_6) (Nat.le_of_ble_eq_true rfl) dX10_lost_39 lvX10_94 rfl rfl ob0 (Nat.le_of_ble_eq_true rfl) ?_
        obtain rfl := Option.some.inj hf
        exact X_ri dX10_lost_42 ⟨rfl, rfl⟩
      · replace hf := ite_f c29_5 hf
        refine T_const dX10_lost_32 ?_
        obtain rfl := Option.some.inj hf
        exact X_ri dX10_lost_34 ⟨rfl, rfl⟩
    · replace hf := ite_t c15_4 hf
      refine T_const dX10_lost_18 ?_
      obtain rfl := Option.some.inj hf
      exact X_ri dX10_lost_19 ⟨rfl, rfl⟩
noncomputable def fX10_isShelf (x : aH) (p1 : Int32) : Option Int32 := if p1 < (0 : Int32) then some (0 : Int32) else if (6 : Int32) ≤ p1 then some (0 : Int32) else some (1 : Int32)
theorem qX10_isShelf (Z : aZ) (y : aH) {x : aH} {p1 : Int32} {q : Int32} (hf : fX10_isShelf x p1 = some q) : CX true Z mX10_isShelf 0 [.ref 0, .int p1] y x (RV (.int q) x) := by
  refine CX.of mokX10_isShelf (Nat.le_of_ble_eq_true rfl) ?_
  show TX _ _ _ _ _ _ _ _ [_, _] _
  delta fX10_isShelf at hf
  refine T_iload dX10_isShelf_0 rfl ?_
  refine T_if_lt dX10_isShelf_1 (fun c1_1 => ?_) (fun c1_1 => ?_)
  · replace hf := ite_t c1_1 hf
    refine T_const dX10_isShelf_14 ?_
    obtain rfl := Option.some.inj hf
    exact X_rz dX10_isShelf_15 (by first | exact Or.inl rfl | exact Or.inr rfl) ⟨rfl, rfl⟩
  · replace hf := ite_f c1_1 hf
    refine T_iload dX10_isShelf_4 rfl ?_
    refine T_const dX10_isShelf_5 ?_
    refine T_icmp_ge dX10_isShelf_7 (fun c7_2 => ?_) (fun c7_2 => ?_)
    · replace hf := ite_t c7_2 hf
      refine T_const dX10_isShelf_14 ?_
      obtain rfl := Option.some.inj hf
      exact X_rz dX10_isShelf_15 (by first | exact Or.inl rfl | exact Or.inr rfl) ⟨rfl, rfl⟩
    · replace hf := ite_f c7_2 hf
      refine T_const dX10_isShelf_10 ?_
      refine T_goto dX10_isShelf_11 ?_
      obtain rfl := Option.some.inj hf
      exact X_rz dX10_isShelf_15 (by first | exact Or.inl rfl | exact Or.inr rfl) ⟨rfl, rfl⟩
noncomputable def fX10_isLostOne (x : aH) (p1 : Nat) (p2 : Int32) : Option Int32 := (fX7_number x p1 p2).bind fun q4_1 => (fX10_isWithin x (0 : Int32) q4_1).bind fun q7_2 => if q7_2 = (0 : Int32) then some (0 : Int32) else (fX7_number x p1 (p2 + (1 : Int32))).bind fun q19_4 => (fX10_isWithin x (1 : Int32) q19_4).bind fun q22_5 => if q22_5 = (0 : Int32) then some (0 : Int32) else (fX7_number x p1 (p2 + (2 : Int32))).bind fun q34_7 => (fX10_isWithin x (2 : Int32) q34_7).bind fun q37_8 => if q37_8 = (0 : Int32) then some (0 : Int32) else some (1 : Int32)
theorem qX10_isLostOne (Z : aZ) (y : aH) {x : aH} {p1 : Nat} {p2 : Int32} (hp1 : SH p1) {q : Int32} (hf : fX10_isLostOne x p1 p2 = some q) : CX true Z mX10_isLostOne 1 [.ref 0, .ref p1, .int p2] y x (RV (.int q) x) := by
  refine CX.of mokX10_isLostOne (Nat.le_of_ble_eq_true rfl) ?_
  show TX _ _ _ _ _ _ _ _ [_, _, _] _
  delta fX10_isLostOne at hf
  refine T_aload dX10_isLostOne_0 rfl ?_
  refine T_const dX10_isLostOne_1 ?_
  refine T_aload dX10_isLostOne_2 rfl ?_
  refine T_iload dX10_isLostOne_3 rfl ?_
  obtain ⟨q4_1, hc4_1, hf⟩ := bind_t hf
  refine X_Vv (qX7_number Z _ hp1 hc4_1) (Nat.le_of_ble_eq_true rfl) dX10_isLostOne_4 lvX10_116 rfl rfl (SH.ob hp1) (Nat.le_of_ble_eq_true rfl) ?_
  obtain ⟨q7_2, hc7_2, hf⟩ := bind_t hf
  refine X_Vv (qX10_isWithin Z _ hc7_2) (Nat.le_of_ble_eq_true rfl) dX10_isLostOne_7 lvX10_86 rfl rfl ob0 (Nat.le_of_ble_eq_true rfl) ?_
  refine T_if_eq dX10_isLostOne_10 (fun c10_3 => ?_) (fun c10_3 => ?_)
  · replace hf := ite_t c10_3 hf
    refine T_const dX10_isLostOne_47 ?_
    obtain rfl := Option.some.inj hf
    exact X_rz dX10_isLostOne_48 (by first | exact Or.inl rfl | exact Or.inr rfl) ⟨rfl, rfl⟩
  · replace hf := ite_f c10_3 hf
    refine T_aload dX10_isLostOne_13 rfl ?_
    refine T_const dX10_isLostOne_14 ?_
    refine T_aload dX10_isLostOne_15 rfl ?_
    refine T_iload dX10_isLostOne_16 rfl ?_
    refine T_const dX10_isLostOne_17 ?_
    refine T_iadd dX10_isLostOne_18 ?_
    obtain ⟨q19_4, hc19_4, hf⟩ := bind_t hf
    refine X_Vv (qX7_number Z _ hp1 hc19_4) (Nat.le_of_ble_eq_true rfl) dX10_isLostOne_19 lvX10_116 rfl rfl (SH.ob hp1) (Nat.le_of_ble_eq_true rfl) ?_
    obtain ⟨q22_5, hc22_5, hf⟩ := bind_t hf
    refine X_Vv (qX10_isWithin Z _ hc22_5) (Nat.le_of_ble_eq_true rfl) dX10_isLostOne_22 lvX10_86 rfl rfl ob0 (Nat.le_of_ble_eq_true rfl) ?_
    refine T_if_eq dX10_isLostOne_25 (fun c25_6 => ?_) (fun c25_6 => ?_)
    · replace hf := ite_t c25_6 hf
      refine T_const dX10_isLostOne_47 ?_
      obtain rfl := Option.some.inj hf
      exact X_rz dX10_isLostOne_48 (by first | exact Or.inl rfl | exact Or.inr rfl) ⟨rfl, rfl⟩
    · replace hf := ite_f c25_6 hf
      refine T_aload dX10_isLostOne_28 rfl ?_
      refine T_const dX10_isLostOne_29 ?_
      refine T_aload dX10_isLostOne_30 rfl ?_
      refine T_iload dX10_isLostOne_31 rfl ?_
      refine T_const dX10_isLostOne_32 ?_
      refine T_iadd dX10_isLostOne_33 ?_
      obtain ⟨q34_7, hc34_7, hf⟩ := bind_t hf
      refine X_Vv (qX7_number Z _ hp1 hc34_7) (Nat.le_of_ble_eq_true rfl) dX10_isLostOne_34 lvX10_116 rfl rfl (SH.ob hp1) (Nat.le_of_ble_eq_true rfl) ?_
      obtain ⟨q37_8, hc37_8, hf⟩ := bind_t hf
      refine X_Vv (qX10_isWithin Z _ hc37_8) (Nat.le_of_ble_eq_true rfl) dX10_isLostOne_37 lvX10_86 rfl rfl ob0 (Nat.le_of_ble_eq_true rfl) ?_
      refine T_if_eq dX10_isLostOne_40 (fun c40_9 => ?_) (fun c40_9 => ?_)
      · replace hf := ite_t c40_9 hf
        refine T_const dX10_isLostOne_47 ?_
        obtain rfl := Option.some.inj hf
        exact X_rz dX10_isLostOne_48 (by first | exact Or.inl rfl | exact Or.inr rfl) ⟨rfl, rfl⟩
      · replace hf := ite_f c40_9 hf
        refine T_const dX10_isLostOne_43 ?_
        refine T_goto dX10_isLostOne_44 ?_
        obtain rfl := Option.some.inj hf
        exact X_rz dX10_isLostOne_48 (by first | exact Or.inl rfl | exact Or.inr rfl) ⟨rfl, rfl⟩
noncomputable def sX10_losts_56 (l3 : Int32) (l4 : Nat) (ih : aH → Int32 → Int32 → Option (Int32 × aH)) (x : aH) (l5 : Int32) (l6 : Int32) : Option (Int32 × aH) := if l3 ≤ l5 then some (l5, x) else if (10 : Int32) ≤ (fi x 15 5) then some (l5, x) else (fX7_hasPlaces x l4 l6 (3 : Int32)).bind fun q79_12 => if q79_12 = (0 : Int32) then some (l5, x) else (fX10_isLostOne x l4 l6).bind fun q90_14 => if q90_14 = (0 : Int32) then some (l5, x) else (fX7_number x l4 l6).bind fun q101_16 => (fX7_number x l4 (l6 + (1 : Int32))).bind fun q110_17 => (fX7_number x l4 (l6 + (2 : Int32))).bind fun q119_18 => (fX10_addLost x q101_16 q110_17 q119_18).bind fun q122_19 => ih q122_19.2 (l5 + (1 : Int32)) (l6 + (3 : Int32))
noncomputable def wX10_losts_56 (l3 : Int32) (l4 : Nat) : Nat → aH → Int32 → Int32 → Option (Int32 × aH)
  | 0 => fun _ _ _ => none
  | n + 1 => sX10_losts_56 l3 l4 (wX10_losts_56 l3 l4 n)
noncomputable def fX10_losts (x : aH) (p1 : Int32) (p2 : Int32) (p3 : Int32) : Option (Int32 × aH) := (fX10_isShelf x p1).bind fun q2_1 => if q2_1 = (0 : Int32) then some ((-1 : Int32), x) else if p3 < (1 : Int32) then some ((-1 : Int32), x) else if p3 ≤ (10 : Int32) then if (0 : Int32) ≤ p1 ∧ p1 < (6 : Int32) then (fX7_isEmpty x (61 + 2 * ix p1)).bind fun q31_6 => if q31_6 = (0 : Int32) then (fX7_isRowOfBytes x (61 + 2 * ix p1)).bind fun q41_8 => if q41_8 = (0 : Int32) then some ((-12 : Int32), x) else (wX10_losts_56 p3 (61 + 2 * ix p1) 2000 x (0 : Int32) p2).bind fun q56_20 => some (q56_20.1, q56_20.2) else some ((0 : Int32), x) else none else some ((-1 : Int32), x)
theorem lX10_losts_56 (Z : aZ) (y : aH) (l3 : Int32) (l4 : Nat) (hl4 : SH l4) {Q : Option Value → aH → Prop} {R : (Int32 × aH)} : ∀ (n : Nat) (x : aH) (l5 : Int32) (l6 : Int32), wX10_losts_56 l3 l4 n x l5 l6 = some R → (∀ q, R = q → TX true Z mX10_losts 2 y q.2 Q 135 [.null, .null, .null, .null, .null, .int (q.1), .null] []) → TX true Z mX10_losts 2 y x Q 56 [.ref 0, .null, .null, .int l3, .ref l4, .int l5, .int l6] [] := by
  intro n
  induction n with
  | zero => intro x l5 l6 hf; cases hf
  | succ n ih =>
    intro x l5 l6 hf ke
    replace hf : sX10_losts_56 l3 l4 (wX10_losts_56 l3 l4 n) x l5 l6 = some R := hf
    delta sX10_losts_56 at hf
    refine T_iload dX10_losts_56 rfl ?_
    refine T_iload dX10_losts_58 rfl ?_
    refine T_icmp_ge dX10_losts_59 (fun c59_10 => ?_) (fun c59_10 => ?_)
    · replace hf := ite_t c59_10 hf
      exact X_wk (WK.n (WK.n (WK.n (WK.n (WK.n (WK.s (WK.n WK.e))))))) (ke (l5, x) (Option.some.inj hf).symm)
    · replace hf := ite_f c59_10 hf
      refine T_aload dX10_losts_62 rfl ?_
      refine X_getr dX10_losts_63 lfX10_35 rfl ob0 rfl ?_
      refine X_getf dX10_losts_66 lfX10_90 rfl ob15 ?_
      refine T_const dX10_losts_69 ?_
      refine T_icmp_ge dX10_losts_71 (fun c71_11 => ?_) (fun c71_11 => ?_)
      · replace hf := ite_t c71_11 hf
        exact X_wk (WK.n (WK.n (WK.n (WK.n (WK.n (WK.s (WK.n WK.e))))))) (ke (l5, x) (Option.some.inj hf).symm)
      · replace hf := ite_f c71_11 hf
        refine T_aload dX10_losts_74 rfl ?_
        refine T_iload dX10_losts_76 rfl ?_
        refine T_const dX10_losts_78 ?_
        obtain ⟨q79_12, hc79_12, hf⟩ := bind_t hf
        refine X_Vv (qX7_hasPlaces Z _ hl4 hc79_12) (Nat.le_of_ble_eq_true rfl) dX10_losts_79 lvX10_109 rfl rfl (SH.ob hl4) (Nat.le_of_ble_eq_true rfl) ?_
        refine T_if_eq dX10_losts_82 (fun c82_13 => ?_) (fun c82_13 => ?_)
        · replace hf := ite_t c82_13 hf
          exact X_wk (WK.n (WK.n (WK.n (WK.n (WK.n (WK.s (WK.n WK.e))))))) (ke (l5, x) (Option.some.inj hf).symm)
        · replace hf := ite_f c82_13 hf
          refine T_aload dX10_losts_85 rfl ?_
          refine T_aload dX10_losts_86 rfl ?_
          refine T_iload dX10_losts_88 rfl ?_
          obtain ⟨q90_14, hc90_14, hf⟩ := bind_t hf
          refine X_Vv (qX10_isLostOne Z _ hl4 hc90_14) (Nat.le_of_ble_eq_true rfl) dX10_losts_90 lvX10_112 rfl rfl ob0 (Nat.le_of_ble_eq_true rfl) ?_
          refine T_if_eq dX10_losts_93 (fun c93_15 => ?_) (fun c93_15 => ?_)
          · replace hf := ite_t c93_15 hf
            exact X_wk (WK.n (WK.n (WK.n (WK.n (WK.n (WK.s (WK.n WK.e))))))) (ke (l5, x) (Option.some.inj hf).symm)
          · replace hf := ite_f c93_15 hf
            refine T_aload dX10_losts_96 rfl ?_
            refine T_aload dX10_losts_97 rfl ?_
            refine T_iload dX10_losts_99 rfl ?_
            obtain ⟨q101_16, hc101_16, hf⟩ := bind_t hf
            refine X_Vv (qX7_number Z _ hl4 hc101_16) (Nat.le_of_ble_eq_true rfl) dX10_losts_101 lvX10_116 rfl rfl (SH.ob hl4) (Nat.le_of_ble_eq_true rfl) ?_
            refine T_aload dX10_losts_104 rfl ?_
            refine T_iload dX10_losts_106 rfl ?_
            refine T_const dX10_losts_108 ?_
            refine T_iadd dX10_losts_109 ?_
            obtain ⟨q110_17, hc110_17, hf⟩ := bind_t hf
            refine X_Vv (qX7_number Z _ hl4 hc110_17) (Nat.le_of_ble_eq_true rfl) dX10_losts_110 lvX10_116 rfl rfl (SH.ob hl4) (Nat.le_of_ble_eq_true rfl) ?_
            refine T_aload dX10_losts_113 rfl ?_
            refine T_iload dX10_losts_115 rfl ?_
            refine T_const dX10_losts_117 ?_
            refine T_iadd dX10_losts_118 ?_
            obtain ⟨q119_18, hc119_18, hf⟩ := bind_t hf
            refine X_Vv (qX7_number Z _ hl4 hc119_18) (Nat.le_of_ble_eq_true rfl) dX10_losts_119 lvX10_116 rfl rfl (SH.ob hl4) (Nat.le_of_ble_eq_true rfl) ?_
            obtain ⟨q122_19, hc122_19, hf⟩ := bind_t hf
            refine X_Vv (qX10_addLost Z _ hc122_19) (Nat.le_of_ble_eq_true rfl) dX10_losts_122 lvX10_94 rfl rfl ob0 (Nat.le_of_ble_eq_true rfl) ?_
            refine T_pop dX10_losts_125 rfl ?_
            refine T_iinc dX10_losts_126 rfl ?_
            show TX _ _ _ _ _ _ _ _ [_, _, _, _, _, _, _] _
            refine T_iinc dX10_losts_129 rfl ?_
            show TX _ _ _ _ _ _ _ _ [_, _, _, _, _, _, _] _
            refine T_goto dX10_losts_132 ?_
            exact X_wk (WK.s (WK.n (WK.n (WK.s (WK.s (WK.s (WK.s WK.e))))))) (ih _ _ _ hf ke)
theorem qX10_losts (Z : aZ) (y : aH) {x : aH} {p1 : Int32} {p2 : Int32} {p3 : Int32} {q : (Int32 × aH)} (hf : fX10_losts x p1 p2 p3 = some q) : CX true Z mX10_losts 2 [.ref 0, .int p1, .int p2, .int p3] y x (RV (.int q.1) q.2) := by
  refine CX.of mokX10_losts (Nat.le_of_ble_eq_true rfl) ?_
  show TX _ _ _ _ _ _ _ _ [_, _, _, _, _, _, _] _
  delta fX10_losts at hf
  refine T_aload dX10_losts_0 rfl ?_
  refine T_iload dX10_losts_1 rfl ?_
  obtain ⟨q2_1, hc2_1, hf⟩ := bind_t hf
  refine X_Vv (qX10_isShelf Z _ hc2_1) (Nat.le_of_ble_eq_true rfl) dX10_losts_2 lvX10_98 rfl rfl ob0 (Nat.le_of_ble_eq_true rfl) ?_
  refine T_if_eq dX10_losts_5 (fun c5_2 => ?_) (fun c5_2 => ?_)
  · replace hf := ite_t c5_2 hf
    refine T_const dX10_losts_19 ?_
    obtain rfl := Option.some.inj hf
    exact X_ri dX10_losts_20 ⟨rfl, rfl⟩
  · replace hf := ite_f c5_2 hf
    refine T_iload dX10_losts_8 rfl ?_
    refine T_const dX10_losts_9 ?_
    refine T_icmp_lt dX10_losts_10 (fun c10_3 => ?_) (fun c10_3 => ?_)
    · replace hf := ite_t c10_3 hf
      refine T_const dX10_losts_19 ?_
      obtain rfl := Option.some.inj hf
      exact X_ri dX10_losts_20 ⟨rfl, rfl⟩
    · replace hf := ite_f c10_3 hf
      refine T_iload dX10_losts_13 rfl ?_
      refine T_const dX10_losts_14 ?_
      refine T_icmp_le dX10_losts_16 (fun c16_4 => ?_) (fun c16_4 => ?_)
      · replace hf := ite_t c16_4 hf
        refine T_aload dX10_losts_21 rfl ?_
        refine X_getr dX10_losts_22 lfX10_81 rfl ob0 rfl ?_
        refine T_iload dX10_losts_25 rfl ?_
        obtain ⟨hb26_5, hf⟩ := opt_t hf
        refine X_aaldSH dX10_losts_26 hb26_5 ?_
        refine T_astore dX10_losts_27 ?_
        show TX _ _ _ _ _ _ _ _ [_, _, _, _, _, _, _] _
        refine T_aload dX10_losts_29 rfl ?_
        obtain ⟨q31_6, hc31_6, hf⟩ := bind_t hf
        refine X_Vv (qX7_isEmpty Z _ (SH_at hb26_5) hc31_6) (Nat.le_of_ble_eq_true rfl) dX10_losts_31 lvX10_102 rfl rfl (SH.ob (SH_at hb26_5)) (Nat.le_of_ble_eq_true rfl) ?_
        refine T_if_eq dX10_losts_34 (fun c34_7 => ?_) (fun c34_7 => ?_)
        · replace hf := ite_t c34_7 hf
          refine T_aload dX10_losts_39 rfl ?_
          obtain ⟨q41_8, hc41_8, hf⟩ := bind_t hf
          refine X_Vv (qX7_isRowOfBytes Z _ (SH_at hb26_5) hc41_8) (Nat.le_of_ble_eq_true rfl) dX10_losts_41 lvX10_106 rfl rfl (SH.ob (SH_at hb26_5)) (Nat.le_of_ble_eq_true rfl) ?_
          refine T_if_ne dX10_losts_44 (fun c44_9 => ?_) (fun c44_9 => ?_)
          · replace hf := ite_f c44_9 hf
            refine T_const dX10_losts_50 ?_
            refine T_istore dX10_losts_51 ?_
            show TX _ _ _ _ _ _ _ _ [_, _, _, _, _, _, _] _
            refine T_iload dX10_losts_53 rfl ?_
            refine T_istore dX10_losts_54 ?_
            show TX _ _ _ _ _ _ _ _ [_, _, _, _, _, _, _] _
            obtain ⟨q56_20, hc56_20, hf⟩ := bind_t hf
            refine X_wk (WK.s (WK.n (WK.n (WK.s (WK.s (WK.s (WK.s WK.e))))))) (lX10_losts_56 Z _ _ _ (SH_at hb26_5) 2000 _ _ _ hc56_20 ?_)
            intro q56_20z hr
            subst hr
            refine T_iload dX10_losts_135 rfl ?_
            obtain rfl := Option.some.inj hf
            exact X_ri dX10_losts_137 ⟨rfl, rfl⟩
          · replace hf := ite_t c44_9 hf
            refine T_const dX10_losts_47 ?_
            obtain rfl := Option.some.inj hf
            exact X_ri dX10_losts_49 ⟨rfl, rfl⟩
        · replace hf := ite_f c34_7 hf
          refine T_const dX10_losts_37 ?_
          obtain rfl := Option.some.inj hf
          exact X_ri dX10_losts_38 ⟨rfl, rfl⟩
      · replace hf := ite_f c16_4 hf
        refine T_const dX10_losts_19 ?_
        obtain rfl := Option.some.inj hf
        exact X_ri dX10_losts_20 ⟨rfl, rfl⟩
noncomputable def fX10_isLost (x : aH) (p1 : Int32) : Option Int32 := if p1 < (0 : Int32) then some (0 : Int32) else if (fi x 15 5) ≤ p1 then some (0 : Int32) else some (1 : Int32)
theorem qX10_isLost (Z : aZ) (y : aH) {x : aH} {p1 : Int32} {q : Int32} (hf : fX10_isLost x p1 = some q) : CX true Z mX10_isLost 0 [.ref 0, .int p1] y x (RV (.int q) x) := by
  refine CX.of mokX10_isLost (Nat.le_of_ble_eq_true rfl) ?_
  show TX _ _ _ _ _ _ _ _ [_, _] _
  delta fX10_isLost at hf
  refine T_iload dX10_isLost_0 rfl ?_
  refine T_if_lt dX10_isLost_1 (fun c1_1 => ?_) (fun c1_1 => ?_)
  · replace hf := ite_t c1_1 hf
    refine T_const dX10_isLost_19 ?_
    obtain rfl := Option.some.inj hf
    exact X_rz dX10_isLost_20 (by first | exact Or.inl rfl | exact Or.inr rfl) ⟨rfl, rfl⟩
  · replace hf := ite_f c1_1 hf
    refine T_iload dX10_isLost_4 rfl ?_
    refine T_aload dX10_isLost_5 rfl ?_
    refine X_getr dX10_isLost_6 lfX10_35 rfl ob0 rfl ?_
    refine X_getf dX10_isLost_9 lfX10_90 rfl ob15 ?_
    refine T_icmp_ge dX10_isLost_12 (fun c12_2 => ?_) (fun c12_2 => ?_)
    · replace hf := ite_t c12_2 hf
      refine T_const dX10_isLost_19 ?_
      obtain rfl := Option.some.inj hf
      exact X_rz dX10_isLost_20 (by first | exact Or.inl rfl | exact Or.inr rfl) ⟨rfl, rfl⟩
    · replace hf := ite_f c12_2 hf
      refine T_const dX10_isLost_15 ?_
      refine T_goto dX10_isLost_16 ?_
      obtain rfl := Option.some.inj hf
      exact X_rz dX10_isLost_20 (by first | exact Or.inl rfl | exact Or.inr rfl) ⟨rfl, rfl⟩
noncomputable def fX10_isNumbered (x : aH) (p1 : Int32) (p2 : Int32) : Option Int32 := if p2 < (0 : Int32) then some (0 : Int32) else if p2 ≤ (9 : Int32) then if (3 : Int32) < p2 then if (5 : Int32) < p2 then if p1 = (0 : Int32) then some (1 : Int32) else some (0 : Int32) else if p1 < (0 : Int32) then some (0 : Int32) else if (64 : Int32) ≤ p1 then some (0 : Int32) else some (1 : Int32) else (fX10_isLost x p1).bind fun q19_8 => if q19_8 = (0 : Int32) ∨ q19_8 = (1 : Int32) then some q19_8 else none else some (0 : Int32)
theorem qX10_isNumbered (Z : aZ) (y : aH) {x : aH} {p1 : Int32} {p2 : Int32} {q : Int32} (hf : fX10_isNumbered x p1 p2 = some q) : CX true Z mX10_isNumbered 1 [.ref 0, .int p1, .int p2] y x (RV (.int q) x) := by
  refine CX.of mokX10_isNumbered (Nat.le_of_ble_eq_true rfl) ?_
  show TX _ _ _ _ _ _ _ _ [_, _, _] _
  delta fX10_isNumbered at hf
  refine T_iload dX10_isNumbered_0 rfl ?_
  refine T_if_lt dX10_isNumbered_1 (fun c1_1 => ?_) (fun c1_1 => ?_)
  · replace hf := ite_t c1_1 hf
    refine T_const dX10_isNumbered_10 ?_
    obtain rfl := Option.some.inj hf
    exact X_rz dX10_isNumbered_11 (by first | exact Or.inl rfl | exact Or.inr rfl) ⟨rfl, rfl⟩
  · replace hf := ite_f c1_1 hf
    refine T_iload dX10_isNumbered_4 rfl ?_
    refine T_const dX10_isNumbered_5 ?_
    refine T_icmp_le dX10_isNumbered_7 (fun c7_2 => ?_) (fun c7_2 => ?_)
    · replace hf := ite_t c7_2 hf
      refine T_iload dX10_isNumbered_12 rfl ?_
      refine T_const dX10_isNumbered_13 ?_
      refine T_icmp_gt dX10_isNumbered_14 (fun c14_3 => ?_) (fun c14_3 => ?_)
      · replace hf := ite_t c14_3 hf
        refine T_iload dX10_isNumbered_23 rfl ?_
        refine T_const dX10_isNumbered_24 ?_
        refine T_icmp_gt dX10_isNumbered_25 (fun c25_4 => ?_) (fun c25_4 => ?_)
        · replace hf := ite_t c25_4 hf
          refine T_iload dX10_isNumbered_44 rfl ?_
          refine T_if_ne dX10_isNumbered_45 (fun c45_5 => ?_) (fun c45_5 => ?_)
          · replace hf := ite_f c45_5 hf
            refine T_const dX10_isNumbered_52 ?_
            obtain rfl := Option.some.inj hf
            exact X_rz dX10_isNumbered_53 (by first | exact Or.inl rfl | exact Or.inr rfl) ⟨rfl, rfl⟩
          · replace hf := ite_t c45_5 hf
            refine T_const dX10_isNumbered_48 ?_
            refine T_goto dX10_isNumbered_49 ?_
            obtain rfl := Option.some.inj hf
            exact X_rz dX10_isNumbered_53 (by first | exact Or.inl rfl | exact Or.inr rfl) ⟨rfl, rfl⟩
        · replace hf := ite_f c25_4 hf
          refine T_iload dX10_isNumbered_28 rfl ?_
          refine T_if_lt dX10_isNumbered_29 (fun c29_6 => ?_) (fun c29_6 => ?_)
          · replace hf := ite_t c29_6 hf
            refine T_const dX10_isNumbered_42 ?_
            obtain rfl := Option.some.inj hf
            exact X_rz dX10_isNumbered_43 (by first | exact Or.inl rfl | exact Or.inr rfl) ⟨rfl, rfl⟩
          · replace hf := ite_f c29_6 hf
            refine T_iload dX10_isNumbered_32 rfl ?_
            refine T_const dX10_isNumbered_33 ?_
            refine T_icmp_ge dX10_isNumbered_35 (fun c35_7 => ?_) (fun c35_7 => ?_)
            · replace hf := ite_t c35_7 hf
              refine T_const dX10_isNumbered_42 ?_
              obtain rfl := Option.some.inj hf
              exact X_rz dX10_isNumbered_43 (by first | exact Or.inl rfl | exact Or.inr rfl) ⟨rfl, rfl⟩
            · replace hf := ite_f c35_7 hf
              refine T_const dX10_isNumbered_38 ?_
              refine T_goto dX10_isNumbered_39 ?_
              obtain rfl := Option.some.inj hf
              exact X_rz dX10_isNumbered_43 (by first | exact Or.inl rfl | exact Or.inr rfl) ⟨rfl, rfl⟩
      · replace hf := ite_f c14_3 hf
        refine T_aload dX10_isNumbered_17 rfl ?_
        refine T_iload dX10_isNumbered_18 rfl ?_
        obtain ⟨q19_8, hc19_8, hf⟩ := bind_t hf
        refine X_Vv (qX10_isLost Z _ hc19_8) (Nat.le_of_ble_eq_true rfl) dX10_isNumbered_19 lvX10_151 rfl rfl ob0 (Nat.le_of_ble_eq_true rfl) ?_
        obtain ⟨h01, hf⟩ := opt_t hf
        obtain rfl := Option.some.inj hf
        exact X_rz dX10_isNumbered_22 h01 ⟨rfl, rfl⟩
    · replace hf := ite_f c7_2 hf
      refine T_const dX10_isNumbered_10 ?_
      obtain rfl := Option.some.inj hf
      exact X_rz dX10_isNumbered_11 (by first | exact Or.inl rfl | exact Or.inr rfl) ⟨rfl, rfl⟩
noncomputable def fX10_told (x : aH) (p1 : Int32) (p2 : Int32) : Option Int32 := if p2 = (0 : Int32) then if (0 : Int32) ≤ p1 ∧ p1 < (10 : Int32) then some (ri x 16 (ix p1)) else none else if p2 = (1 : Int32) then if (0 : Int32) ≤ p1 ∧ p1 < (10 : Int32) then some (ri x 4 (ix p1)) else none else if p2 = (2 : Int32) then if (0 : Int32) ≤ p1 ∧ p1 < (10 : Int32) then some (ri x 5 (ix p1)) else none else if p2 = (3 : Int32) then (fX8_isHome x 15 p1).bind fun q87_8 => if q87_8 = (0 : Int32) then some (0 : Int32) else some (1 : Int32) else if p2 = (4 : Int32) then if (0 : Int32) ≤ p1 ∧ p1 < (64 : Int32) then some (ri x 2 (ix p1)) else none else if p2 = (5 : Int32) then if (0 : Int32) ≤ p1 ∧ p1 < (64 : Int32) then some (ri x 3 (ix p1)) else none else if p2 = (6 : Int32) then some (fi x 1 4) else if p2 = (7 : Int32) then some (fi x 15 7) else if p2 = (8 : Int32) then some (fi x 1 5) else some (fi x 1 6)
theorem qX10_told (Z : aZ) (y : aH) {x : aH} {p1 : Int32} {p2 : Int32} {q : Int32} (hf : fX10_told x p1 p2 = some q) : CX true Z mX10_told 1 [.ref 0, .int p1, .int p2] y x (RV (.int q) x) := by
  refine CX.of mokX10_told (Nat.le_of_ble_eq_true rfl) ?_
  show TX _ _ _ _ _ _ _ _ [_, _, _] _
  delta fX10_told at hf
  refine T_iload dX10_told_0 rfl ?_
  by_cases c1_1 : p2 = (0 : Int32)
  · replace hf := ite_t c1_1 hf
    refine T_tabE (off := 51) (tgt := 52) c1_1 dX10_told_1 (by decide) (by decide) (by decide) (by decide) ?_
    refine T_aload dX10_told_52 rfl ?_
    refine X_getr dX10_told_53 lfX10_35 rfl ob0 rfl ?_
    refine X_getr dX10_told_56 lfX10_176 rfl ob15 rfl ?_
    refine T_iload dX10_told_59 rfl ?_
    obtain ⟨hb60_2, hf⟩ := opt_t hf
    refine X_iald (N := 10) dX10_told_60 ar16 rfl hb60_2 ?_
    obtain rfl := Option.some.inj hf
    exact X_ri dX10_told_61 ⟨rfl, rfl⟩
  replace hf := ite_f c1_1 hf
  by_cases c1_3 : p2 = (1 : Int32)
  · replace hf := ite_t c1_3 hf
    refine T_tabE (off := 61) (tgt := 62) c1_3 dX10_told_1 (by decide) (by decide) (by decide) (by decide) ?_
    refine T_aload dX10_told_62 rfl ?_
    refine X_getr dX10_told_63 lfX10_10 rfl ob0 rfl ?_
    refine X_getr dX10_told_66 lfX10_392 rfl ob1 rfl ?_
    refine T_iload dX10_told_69 rfl ?_
    obtain ⟨hb70_4, hf⟩ := opt_t hf
    refine X_iald (N := 10) dX10_told_70 ar4 rfl hb70_4 ?_
    obtain rfl := Option.some.inj hf
    exact X_ri dX10_told_71 ⟨rfl, rfl⟩
  replace hf := ite_f c1_3 hf
  by_cases c1_5 : p2 = (2 : Int32)
  · replace hf := ite_t c1_5 hf
    refine T_tabE (off := 71) (tgt := 72) c1_5 dX10_told_1 (by decide) (by decide) (by decide) (by decide) ?_
    refine T_aload dX10_told_72 rfl ?_
    refine X_getr dX10_told_73 lfX10_10 rfl ob0 rfl ?_
    refine X_getr dX10_told_76 lfX10_395 rfl ob1 rfl ?_
    refine T_iload dX10_told_79 rfl ?_
    obtain ⟨hb80_6, hf⟩ := opt_t hf
    refine X_iald (N := 10) dX10_told_80 ar5 rfl hb80_6 ?_
    obtain rfl := Option.some.inj hf
    exact X_ri dX10_told_81 ⟨rfl, rfl⟩
  replace hf := ite_f c1_5 hf
  by_cases c1_7 : p2 = (3 : Int32)
  · replace hf := ite_t c1_7 hf
    refine T_tabE (off := 81) (tgt := 82) c1_7 dX10_told_1 (by decide) (by decide) (by decide) (by decide) ?_
    refine T_aload dX10_told_82 rfl ?_
    refine X_getr dX10_told_83 lfX10_35 rfl ob0 rfl ?_
    refine T_iload dX10_told_86 rfl ?_
    obtain ⟨q87_8, hc87_8, hf⟩ := bind_t hf
    refine X_Vv (qX8_isHome Z _ sd15 hc87_8) (Nat.le_of_ble_eq_true rfl) dX10_told_87 lvX10_180 rfl rfl ob15 (Nat.le_of_ble_eq_true rfl) ?_
    refine T_if_eq dX10_told_90 (fun c90_9 => ?_) (fun c90_9 => ?_)
    · replace hf := ite_t c90_9 hf
      refine T_const dX10_told_97 ?_
      obtain rfl := Option.some.inj hf
      exact X_ri dX10_told_98 ⟨rfl, rfl⟩
    · replace hf := ite_f c90_9 hf
      refine T_const dX10_told_93 ?_
      refine T_goto dX10_told_94 ?_
      obtain rfl := Option.some.inj hf
      exact X_ri dX10_told_98 ⟨rfl, rfl⟩
  replace hf := ite_f c1_7 hf
  by_cases c1_10 : p2 = (4 : Int32)
  · replace hf := ite_t c1_10 hf
    refine T_tabE (off := 98) (tgt := 99) c1_10 dX10_told_1 (by decide) (by decide) (by decide) (by decide) ?_
    refine T_aload dX10_told_99 rfl ?_
    refine X_getr dX10_told_100 lfX10_10 rfl ob0 rfl ?_
    refine X_getr dX10_told_103 lfX10_398 rfl ob1 rfl ?_
    refine T_iload dX10_told_106 rfl ?_
    obtain ⟨hb107_11, hf⟩ := opt_t hf
    refine X_iald (N := 64) dX10_told_107 ar2 rfl hb107_11 ?_
    obtain rfl := Option.some.inj hf
    exact X_ri dX10_told_108 ⟨rfl, rfl⟩
  replace hf := ite_f c1_10 hf
  by_cases c1_12 : p2 = (5 : Int32)
  · replace hf := ite_t c1_12 hf
    refine T_tabE (off := 108) (tgt := 109) c1_12 dX10_told_1 (by decide) (by decide) (by decide) (by decide) ?_
    refine T_aload dX10_told_109 rfl ?_
    refine X_getr dX10_told_110 lfX10_10 rfl ob0 rfl ?_
    refine X_getr dX10_told_113 lfX10_401 rfl ob1 rfl ?_
    refine T_iload dX10_told_116 rfl ?_
    obtain ⟨hb117_13, hf⟩ := opt_t hf
    refine X_iald (N := 64) dX10_told_117 ar3 rfl hb117_13 ?_
    obtain rfl := Option.some.inj hf
    exact X_ri dX10_told_118 ⟨rfl, rfl⟩
  replace hf := ite_f c1_12 hf
  by_cases c1_14 : p2 = (6 : Int32)
  · replace hf := ite_t c1_14 hf
    refine T_tabE (off := 118) (tgt := 119) c1_14 dX10_told_1 (by decide) (by decide) (by decide) (by decide) ?_
    refine T_aload dX10_told_119 rfl ?_
    refine X_getr dX10_told_120 lfX10_10 rfl ob0 rfl ?_
    refine X_getf dX10_told_123 lfX10_404 rfl ob1 ?_
    obtain rfl := Option.some.inj hf
    exact X_ri dX10_told_126 ⟨rfl, rfl⟩
  replace hf := ite_f c1_14 hf
  by_cases c1_15 : p2 = (7 : Int32)
  · replace hf := ite_t c1_15 hf
    refine T_tabE (off := 126) (tgt := 127) c1_15 dX10_told_1 (by decide) (by decide) (by decide) (by decide) ?_
    refine T_aload dX10_told_127 rfl ?_
    refine X_getr dX10_told_128 lfX10_35 rfl ob0 rfl ?_
    refine X_getf dX10_told_131 lfX10_186 rfl ob15 ?_
    obtain rfl := Option.some.inj hf
    exact X_ri dX10_told_134 ⟨rfl, rfl⟩
  replace hf := ite_f c1_15 hf
  by_cases c1_16 : p2 = (8 : Int32)
  · replace hf := ite_t c1_16 hf
    refine T_tabE (off := 134) (tgt := 135) c1_16 dX10_told_1 (by decide) (by decide) (by decide) (by decide) ?_
    refine T_aload dX10_told_135 rfl ?_
    refine X_getr dX10_told_136 lfX10_10 rfl ob0 rfl ?_
    refine X_getf dX10_told_139 lfX10_407 rfl ob1 ?_
    obtain rfl := Option.some.inj hf
    exact X_ri dX10_told_142 ⟨rfl, rfl⟩
  replace hf := ite_f c1_16 hf
  refine T_tabOut (tgt := 143) ⟨dX10_told_1, by decide⟩ (by
    have n0 := ne_toInt c1_1; rw [show (0 : Int32).toInt = 0 from rfl] at n0
    have n1 := ne_toInt c1_3; rw [show (1 : Int32).toInt = 1 from rfl] at n1
    have n2 := ne_toInt c1_5; rw [show (2 : Int32).toInt = 2 from rfl] at n2
    have n3 := ne_toInt c1_7; rw [show (3 : Int32).toInt = 3 from rfl] at n3
    have n4 := ne_toInt c1_10; rw [show (4 : Int32).toInt = 4 from rfl] at n4
    have n5 := ne_toInt c1_12; rw [show (5 : Int32).toInt = 5 from rfl] at n5
    have n6 := ne_toInt c1_14; rw [show (6 : Int32).toInt = 6 from rfl] at n6
    have n7 := ne_toInt c1_15; rw [show (7 : Int32).toInt = 7 from rfl] at n7
    have n8 := ne_toInt c1_16; rw [show (8 : Int32).toInt = 8 from rfl] at n8
    omega) ?_
  refine T_aload dX10_told_143 rfl ?_
  refine X_getr dX10_told_144 lfX10_10 rfl ob0 rfl ?_
  refine X_getf dX10_told_147 lfX10_410 rfl ob1 ?_
  obtain rfl := Option.some.inj hf
  exact X_ri dX10_told_150 ⟨rfl, rfl⟩
noncomputable def jX10_tell_106 (x : aH) (s1 : Int32) (s2 : Int32) : Option aH := (fX8_setHome x 15 s1 s2).bind fun q106_8 => some q106_8
noncomputable def fX10_tell (x : aH) (p1 : Int32) (p2 : Int32) (p3 : Int32) : Option aH := if p2 = (0 : Int32) then if (0 : Int32) ≤ p1 ∧ p1 < (10 : Int32) then some (sri x 16 (ix p1) p3) else none else if p2 = (1 : Int32) then if (0 : Int32) ≤ p1 ∧ p1 < (10 : Int32) then some (sri x 4 (ix p1) p3) else none else if p2 = (2 : Int32) then if (0 : Int32) ≤ p1 ∧ p1 < (10 : Int32) then some (sri x 5 (ix p1) p3) else none else if p2 = (3 : Int32) then if p3 = (1 : Int32) then jX10_tell_106 x p1 (1 : Int32) else jX10_tell_106 x p1 (0 : Int32) else if p2 = (4 : Int32) then if (0 : Int32) ≤ p1 ∧ p1 < (64 : Int32) then some (sri x 2 (ix p1) p3) else none else if p2 = (5 : Int32) then if (0 : Int32) ≤ p1 ∧ p1 < (64 : Int32) then some (sri x 3 (ix p1) p3) else none else if p2 = (6 : Int32) then some (sfi x 1 4 p3) else if p2 = (7 : Int32) then some (sfi x 15 7 p3) else if p2 = (8 : Int32) then some (sfi x 1 5 p3) else some (sfi x 1 6 p3)
theorem qX10_tell (Z : aZ) (y : aH) {x : aH} {p1 : Int32} {p2 : Int32} {p3 : Int32} {q : aH} (hf : fX10_tell x p1 p2 p3 = some q) : CX true Z mX10_tell 1 [.ref 0, .int p1, .int p2, .int p3] y x (RN q) := by
  refine CX.of mokX10_tell (Nat.le_of_ble_eq_true rfl) ?_
  show TX _ _ _ _ _ _ _ _ [_, _, _, _] _
  delta fX10_tell at hf
  refine T_iload dX10_tell_0 rfl ?_
  by_cases c1_1 : p2 = (0 : Int32)
  · replace hf := ite_t c1_1 hf
    refine T_tabE (off := 51) (tgt := 52) c1_1 dX10_tell_1 (by decide) (by decide) (by decide) (by decide) ?_
    refine T_aload dX10_tell_52 rfl ?_
    refine X_getr dX10_tell_53 lfX10_35 rfl ob0 rfl ?_
    refine X_getr dX10_tell_56 lfX10_176 rfl ob15 rfl ?_
    refine T_iload dX10_tell_59 rfl ?_
    refine T_iload dX10_tell_60 rfl ?_
    obtain ⟨hb61_2, hf⟩ := opt_t hf
    refine X_iast (N := 10) dX10_tell_61 ar16 rfl hb61_2 ?_
    refine T_goto dX10_tell_62 ?_
    obtain rfl := Option.some.inj hf
    exact X_rv dX10_tell_179 ⟨rfl, rfl⟩
  replace hf := ite_f c1_1 hf
  by_cases c1_3 : p2 = (1 : Int32)
  · replace hf := ite_t c1_3 hf
    refine T_tabE (off := 64) (tgt := 65) c1_3 dX10_tell_1 (by decide) (by decide) (by decide) (by decide) ?_
    refine T_aload dX10_tell_65 rfl ?_
    refine X_getr dX10_tell_66 lfX10_10 rfl ob0 rfl ?_
    refine X_getr dX10_tell_69 lfX10_392 rfl ob1 rfl ?_
    refine T_iload dX10_tell_72 rfl ?_
    refine T_iload dX10_tell_73 rfl ?_
    obtain ⟨hb74_4, hf⟩ := opt_t hf
    refine X_iast (N := 10) dX10_tell_74 ar4 rfl hb74_4 ?_
    refine T_goto dX10_tell_75 ?_
    obtain rfl := Option.some.inj hf
    exact X_rv dX10_tell_179 ⟨rfl, rfl⟩
  replace hf := ite_f c1_3 hf
  by_cases c1_5 : p2 = (2 : Int32)
  · replace hf := ite_t c1_5 hf
    refine T_tabE (off := 77) (tgt := 78) c1_5 dX10_tell_1 (by decide) (by decide) (by decide) (by decide) ?_
    refine T_aload dX10_tell_78 rfl ?_
    refine X_getr dX10_tell_79 lfX10_10 rfl ob0 rfl ?_
    refine X_getr dX10_tell_82 lfX10_395 rfl ob1 rfl ?_
    refine T_iload dX10_tell_85 rfl ?_
    refine T_iload dX10_tell_86 rfl ?_
    obtain ⟨hb87_6, hf⟩ := opt_t hf
    refine X_iast (N := 10) dX10_tell_87 ar5 rfl hb87_6 ?_
    refine T_goto dX10_tell_88 ?_
    obtain rfl := Option.some.inj hf
    exact X_rv dX10_tell_179 ⟨rfl, rfl⟩
  replace hf := ite_f c1_5 hf
  by_cases c1_7 : p2 = (3 : Int32)
  · replace hf := ite_t c1_7 hf
    refine T_tabE (off := 90) (tgt := 91) c1_7 dX10_tell_1 (by decide) (by decide) (by decide) (by decide) ?_
    refine T_aload dX10_tell_91 rfl ?_
    refine X_getr dX10_tell_92 lfX10_35 rfl ob0 rfl ?_
    refine T_iload dX10_tell_95 rfl ?_
    refine T_iload dX10_tell_96 rfl ?_
    refine T_const dX10_tell_97 ?_
    have J106 : ∀ (x : aH) (s1 : Int32) (s2 : Int32), jX10_tell_106 x s1 s2 = some q → TX true Z mX10_tell 1 y x (RN q) 106 [.null, .null, .null, .null] [.int s2, .int s1, .ref 15] := by
      intro x s1 s2 hf
      delta jX10_tell_106 at hf
      obtain ⟨q106_8, hc106_8, hf⟩ := bind_t hf
      refine X_Vn (qX8_setHome Z _ sd15 hc106_8) (Nat.le_of_ble_eq_true rfl) dX10_tell_106 lvX10_413 rfl rfl ob15 (Nat.le_of_ble_eq_true rfl) ?_
      refine T_goto dX10_tell_109 ?_
      obtain rfl := Option.some.inj hf
      exact X_rv dX10_tell_179 ⟨rfl, rfl⟩
    refine T_icmp_ne dX10_tell_98 (fun c98_9 => ?_) (fun c98_9 => ?_)
    · replace hf := ite_f c98_9 hf
      refine T_const dX10_tell_105 ?_
      exact X_wk (WK.n (WK.n (WK.n (WK.n WK.e)))) (J106 _ _ _ hf)
    · replace hf := ite_t c98_9 hf
      refine T_const dX10_tell_101 ?_
      refine T_goto dX10_tell_102 ?_
      exact X_wk (WK.n (WK.n (WK.n (WK.n WK.e)))) (J106 _ _ _ hf)
  replace hf := ite_f c1_7 hf
  by_cases c1_10 : p2 = (4 : Int32)
  · replace hf := ite_t c1_10 hf
    refine T_tabE (off := 111) (tgt := 112) c1_10 dX10_tell_1 (by decide) (by decide) (by decide) (by decide) ?_
    refine T_aload dX10_tell_112 rfl ?_
    refine X_getr dX10_tell_113 lfX10_10 rfl ob0 rfl ?_
    refine X_getr dX10_tell_116 lfX10_398 rfl ob1 rfl ?_
    refine T_iload dX10_tell_119 rfl ?_
    refine T_iload dX10_tell_120 rfl ?_
    obtain ⟨hb121_11, hf⟩ := opt_t hf
    refine X_iast (N := 64) dX10_tell_121 ar2 rfl hb121_11 ?_
    refine T_goto dX10_tell_122 ?_
    obtain rfl := Option.some.inj hf
    exact X_rv dX10_tell_179 ⟨rfl, rfl⟩
  replace hf := ite_f c1_10 hf
  by_cases c1_12 : p2 = (5 : Int32)
  · replace hf := ite_t c1_12 hf
    refine T_tabE (off := 124) (tgt := 125) c1_12 dX10_tell_1 (by decide) (by decide) (by decide) (by decide) ?_
    refine T_aload dX10_tell_125 rfl ?_
    refine X_getr dX10_tell_126 lfX10_10 rfl ob0 rfl ?_
    refine X_getr dX10_tell_129 lfX10_401 rfl ob1 rfl ?_
    refine T_iload dX10_tell_132 rfl ?_
    refine T_iload dX10_tell_133 rfl ?_
    obtain ⟨hb134_13, hf⟩ := opt_t hf
    refine X_iast (N := 64) dX10_tell_134 ar3 rfl hb134_13 ?_
    refine T_goto dX10_tell_135 ?_
    obtain rfl := Option.some.inj hf
    exact X_rv dX10_tell_179 ⟨rfl, rfl⟩
  replace hf := ite_f c1_12 hf
  by_cases c1_14 : p2 = (6 : Int32)
  · replace hf := ite_t c1_14 hf
    refine T_tabE (off := 137) (tgt := 138) c1_14 dX10_tell_1 (by decide) (by decide) (by decide) (by decide) ?_
    refine T_aload dX10_tell_138 rfl ?_
    refine X_getr dX10_tell_139 lfX10_10 rfl ob0 rfl ?_
    refine T_iload dX10_tell_142 rfl ?_
    refine X_putf dX10_tell_143 lfX10_404 rfl rfl ob1 ⟨rfl, rfl⟩ ?_
    refine T_goto dX10_tell_146 ?_
    obtain rfl := Option.some.inj hf
    exact X_rv dX10_tell_179 ⟨rfl, rfl⟩
  replace hf := ite_f c1_14 hf
  by_cases c1_15 : p2 = (7 : Int32)
  · replace hf := ite_t c1_15 hf
    refine T_tabE (off := 148) (tgt := 149) c1_15 dX10_tell_1 (by decide) (by decide) (by decide) (by decide) ?_
    refine T_aload dX10_tell_149 rfl ?_
    refine X_getr dX10_tell_150 lfX10_35 rfl ob0 rfl ?_
    refine T_iload dX10_tell_153 rfl ?_
    refine X_putf dX10_tell_154 lfX10_186 rfl rfl ob15 ⟨rfl, rfl⟩ ?_
    refine T_goto dX10_tell_157 ?_
    obtain rfl := Option.some.inj hf
    exact X_rv dX10_tell_179 ⟨rfl, rfl⟩
  replace hf := ite_f c1_15 hf
  by_cases c1_16 : p2 = (8 : Int32)
  · replace hf := ite_t c1_16 hf
    refine T_tabE (off := 159) (tgt := 160) c1_16 dX10_tell_1 (by decide) (by decide) (by decide) (by decide) ?_
    refine T_aload dX10_tell_160 rfl ?_
    refine X_getr dX10_tell_161 lfX10_10 rfl ob0 rfl ?_
    refine T_iload dX10_tell_164 rfl ?_
    refine X_putf dX10_tell_165 lfX10_407 rfl rfl ob1 ⟨rfl, rfl⟩ ?_
    refine T_goto dX10_tell_168 ?_
    obtain rfl := Option.some.inj hf
    exact X_rv dX10_tell_179 ⟨rfl, rfl⟩
  replace hf := ite_f c1_16 hf
  refine T_tabOut (tgt := 171) ⟨dX10_tell_1, by decide⟩ (by
    have n0 := ne_toInt c1_1; rw [show (0 : Int32).toInt = 0 from rfl] at n0
    have n1 := ne_toInt c1_3; rw [show (1 : Int32).toInt = 1 from rfl] at n1
    have n2 := ne_toInt c1_5; rw [show (2 : Int32).toInt = 2 from rfl] at n2
    have n3 := ne_toInt c1_7; rw [show (3 : Int32).toInt = 3 from rfl] at n3
    have n4 := ne_toInt c1_10; rw [show (4 : Int32).toInt = 4 from rfl] at n4
    have n5 := ne_toInt c1_12; rw [show (5 : Int32).toInt = 5 from rfl] at n5
    have n6 := ne_toInt c1_14; rw [show (6 : Int32).toInt = 6 from rfl] at n6
    have n7 := ne_toInt c1_15; rw [show (7 : Int32).toInt = 7 from rfl] at n7
    have n8 := ne_toInt c1_16; rw [show (8 : Int32).toInt = 8 from rfl] at n8
    omega) ?_
  refine T_aload dX10_tell_171 rfl ?_
  refine X_getr dX10_tell_172 lfX10_10 rfl ob0 rfl ?_
  refine T_iload dX10_tell_175 rfl ?_
  refine X_putf dX10_tell_176 lfX10_410 rfl rfl ob1 ⟨rfl, rfl⟩ ?_
  obtain rfl := Option.some.inj hf
  exact X_rv dX10_tell_179 ⟨rfl, rfl⟩
noncomputable def fX10_mend (x : aH) (p1 : Int32) (p2 : Int32) (p3 : Int32) : Option (Int32 × aH) := (fX10_isNumbered x p1 p2).bind fun q3_1 => if q3_1 = (0 : Int32) then some ((-1 : Int32), x) else (fX10_isWithin x p2 p3).bind fun q12_3 => if q12_3 = (0 : Int32) then some ((-1 : Int32), x) else (fX10_told x p1 p2).bind fun q23_5 => if q23_5 = p3 then some (q23_5, x) else (fX1_add x p1 p2 q23_5 p3).bind fun q43_7 => (fX10_tell q43_7 p1 p2 p3).bind fun q50_8 => some (q23_5, q50_8)
theorem qX10_mend (Z : aZ) (y : aH) {x : aH} {p1 : Int32} {p2 : Int32} {p3 : Int32} {q : (Int32 × aH)} (hf : fX10_mend x p1 p2 p3 = some q) : CX true Z mX10_mend 2 [.ref 0, .int p1, .int p2, .int p3] y x (RV (.int q.1) q.2) := by
  refine CX.of mokX10_mend (Nat.le_of_ble_eq_true rfl) ?_
  show TX _ _ _ _ _ _ _ _ [_, _, _, _, _] _
  delta fX10_mend at hf
  refine T_aload dX10_mend_0 rfl ?_
  refine T_iload dX10_mend_1 rfl ?_
  refine T_iload dX10_mend_2 rfl ?_
  obtain ⟨q3_1, hc3_1, hf⟩ := bind_t hf
  refine X_Vv (qX10_isNumbered Z _ hc3_1) (Nat.le_of_ble_eq_true rfl) dX10_mend_3 lvX10_120 rfl rfl ob0 (Nat.le_of_ble_eq_true rfl) ?_
  refine T_if_eq dX10_mend_6 (fun c6_2 => ?_) (fun c6_2 => ?_)
  · replace hf := ite_t c6_2 hf
    refine T_const dX10_mend_18 ?_
    obtain rfl := Option.some.inj hf
    exact X_ri dX10_mend_19 ⟨rfl, rfl⟩
  · replace hf := ite_f c6_2 hf
    refine T_aload dX10_mend_9 rfl ?_
    refine T_iload dX10_mend_10 rfl ?_
    refine T_iload dX10_mend_11 rfl ?_
    obtain ⟨q12_3, hc12_3, hf⟩ := bind_t hf
    refine X_Vv (qX10_isWithin Z _ hc12_3) (Nat.le_of_ble_eq_true rfl) dX10_mend_12 lvX10_86 rfl rfl ob0 (Nat.le_of_ble_eq_true rfl) ?_
    refine T_if_ne dX10_mend_15 (fun c15_4 => ?_) (fun c15_4 => ?_)
    · replace hf := ite_f c15_4 hf
      refine T_aload dX10_mend_20 rfl ?_
      refine T_iload dX10_mend_21 rfl ?_
      refine T_iload dX10_mend_22 rfl ?_
      obtain ⟨q23_5, hc23_5, hf⟩ := bind_t hf
      refine X_Vv (qX10_told Z _ hc23_5) (Nat.le_of_ble_eq_true rfl) dX10_mend_23 lvX10_123 rfl rfl ob0 (Nat.le_of_ble_eq_true rfl) ?_
      refine T_istore dX10_mend_26 ?_
      show TX _ _ _ _ _ _ _ _ [_, _, _, _, _] _
      refine T_iload dX10_mend_28 rfl ?_
      refine T_iload dX10_mend_30 rfl ?_
      refine T_icmp_eq dX10_mend_31 (fun c31_6 => ?_) (fun c31_6 => ?_)
      · replace hf := ite_t c31_6 hf
        refine T_iload dX10_mend_53 rfl ?_
        obtain rfl := Option.some.inj hf
        exact X_ri dX10_mend_55 ⟨rfl, rfl⟩
      · replace hf := ite_f c31_6 hf
        refine T_aload dX10_mend_34 rfl ?_
        refine X_getr dX10_mend_35 lfX10_68 rfl ob0 rfl ?_
        refine T_iload dX10_mend_38 rfl ?_
        refine T_iload dX10_mend_39 rfl ?_
        refine T_iload dX10_mend_40 rfl ?_
        refine T_iload dX10_mend_42 rfl ?_
        obtain ⟨q43_7, hc43_7, hf⟩ := bind_t hf
        refine X_Vn (qX1_add Z _ hc43_7) (Nat.le_of_ble_eq_true rfl) dX10_mend_43 lvX10_127 rfl rfl ob52 (Nat.le_of_ble_eq_true rfl) ?_
        refine T_aload dX10_mend_46 rfl ?_
        refine T_iload dX10_mend_47 rfl ?_
        refine T_iload dX10_mend_48 rfl ?_
        refine T_iload dX10_mend_49 rfl ?_
        obtain ⟨q50_8, hc50_8, hf⟩ := bind_t hf
        refine X_Vn (qX10_tell Z _ hc50_8) (Nat.le_of_ble_eq_true rfl) dX10_mend_50 lvX10_131 rfl rfl ob0 (Nat.le_of_ble_eq_true rfl) ?_
        refine T_iload dX10_mend_53 rfl ?_
        obtain rfl := Option.some.inj hf
        exact X_ri dX10_mend_55 ⟨rfl, rfl⟩
    · replace hf := ite_t c15_4 hf
      refine T_const dX10_mend_18 ?_
      obtain rfl := Option.some.inj hf
      exact X_ri dX10_mend_19 ⟨rfl, rfl⟩
noncomputable def fX10_of (x : aH) (p1 : Int32) (p2 : Int32) : Option Int32 := (fX10_isNumbered x p1 p2).bind fun q3_1 => if q3_1 = (0 : Int32) then some (-1 : Int32) else (fX10_told x p1 p2).bind fun q12_3 => some q12_3
theorem qX10_of (Z : aZ) (y : aH) {x : aH} {p1 : Int32} {p2 : Int32} {q : Int32} (hf : fX10_of x p1 p2 = some q) : CX true Z mX10_of 2 [.ref 0, .int p1, .int p2] y x (RV (.int q) x) := by
  refine CX.of mokX10_of (Nat.le_of_ble_eq_true rfl) ?_
  show TX _ _ _ _ _ _ _ _ [_, _, _] _
  delta fX10_of at hf
  refine T_aload dX10_of_0 rfl ?_
  refine T_iload dX10_of_1 rfl ?_
  refine T_iload dX10_of_2 rfl ?_
  obtain ⟨q3_1, hc3_1, hf⟩ := bind_t hf
  refine X_Vv (qX10_isNumbered Z _ hc3_1) (Nat.le_of_ble_eq_true rfl) dX10_of_3 lvX10_120 rfl rfl ob0 (Nat.le_of_ble_eq_true rfl) ?_
  refine T_if_eq dX10_of_6 (fun c6_2 => ?_) (fun c6_2 => ?_)
  · replace hf := ite_t c6_2 hf
    refine T_const dX10_of_18 ?_
    obtain rfl := Option.some.inj hf
    exact X_ri dX10_of_19 ⟨rfl, rfl⟩
  · replace hf := ite_f c6_2 hf
    refine T_aload dX10_of_9 rfl ?_
    refine T_iload dX10_of_10 rfl ?_
    refine T_iload dX10_of_11 rfl ?_
    obtain ⟨q12_3, hc12_3, hf⟩ := bind_t hf
    refine X_Vv (qX10_told Z _ hc12_3) (Nat.le_of_ble_eq_true rfl) dX10_of_12 lvX10_123 rfl rfl ob0 (Nat.le_of_ble_eq_true rfl) ?_
    refine T_goto dX10_of_15 ?_
    obtain rfl := Option.some.inj hf
    exact X_ri dX10_of_19 ⟨rfl, rfl⟩
noncomputable def fX10_feed (x : aH) (p1 : Int32) : Option (Int32 × aH) := if p1 < (0 : Int32) then some ((-1 : Int32), x) else if p1 ≤ (255 : Int32) then (fX9_take x p1).bind fun q18_3 => if q18_3.1 = (0 : Int32) then some ((-3 : Int32), q18_3.2) else some ((fi q18_3.2 6 1), q18_3.2) else some ((-1 : Int32), x)
theorem qX10_feed (Z : aZ) (y : aH) {x : aH} {p1 : Int32} {q : (Int32 × aH)} (hf : fX10_feed x p1 = some q) : CX true Z mX10_feed 1 [.ref 0, .int p1] y x (RV (.int q.1) q.2) := by
  refine CX.of mokX10_feed (Nat.le_of_ble_eq_true rfl) ?_
  show TX _ _ _ _ _ _ _ _ [_, _] _
  delta fX10_feed at hf
  refine T_iload dX10_feed_0 rfl ?_
  refine T_if_lt dX10_feed_1 (fun c1_1 => ?_) (fun c1_1 => ?_)
  · replace hf := ite_t c1_1 hf
    refine T_const dX10_feed_11 ?_
    obtain rfl := Option.some.inj hf
    exact X_ri dX10_feed_12 ⟨rfl, rfl⟩
  · replace hf := ite_f c1_1 hf
    refine T_iload dX10_feed_4 rfl ?_
    refine T_const dX10_feed_5 ?_
    refine T_icmp_le dX10_feed_8 (fun c8_2 => ?_) (fun c8_2 => ?_)
    · replace hf := ite_t c8_2 hf
      refine T_aload dX10_feed_13 rfl ?_
      refine X_getr dX10_feed_14 lfX10_19 rfl ob0 rfl ?_
      refine T_iload dX10_feed_17 rfl ?_
      obtain ⟨q18_3, hc18_3, hf⟩ := bind_t hf
      refine X_Vv (qX9_take Z _ hc18_3) (Nat.le_of_ble_eq_true rfl) dX10_feed_18 lvX10_135 rfl rfl ob6 (Nat.le_of_ble_eq_true rfl) ?_
      refine T_if_eq dX10_feed_21 (fun c21_4 => ?_) (fun c21_4 => ?_)
      · replace hf := ite_t c21_4 hf
        refine T_const dX10_feed_34 ?_
        obtain rfl := Option.some.inj hf
        exact X_ri dX10_feed_36 ⟨rfl, rfl⟩
      · replace hf := ite_f c21_4 hf
        refine T_aload dX10_feed_24 rfl ?_
        refine X_getr dX10_feed_25 lfX10_19 rfl ob0 rfl ?_
        refine X_getf dX10_feed_28 lfX10_138 rfl ob6 ?_
        refine T_goto dX10_feed_31 ?_
        obtain rfl := Option.some.inj hf
        exact X_ri dX10_feed_36 ⟨rfl, rfl⟩
    · replace hf := ite_f c8_2 hf
      refine T_const dX10_feed_11 ?_
      obtain rfl := Option.some.inj hf
      exact X_ri dX10_feed_12 ⟨rfl, rfl⟩
noncomputable def jX10_law_31 (x : aH) (l1 : Int32) (l2 : Int32) : Option (Int32 × aH) := if l1 = (0 : Int32) then some (((-100 : Int32) - l2), (sfi x 6 1 (0 : Int32))) else some ((1 : Int32), (sfi x 6 1 (0 : Int32)))
noncomputable def fX10_law (x : aH) : Option (Int32 × aH) := (fX9_read x).bind fun q4_1 => if q4_1.1 = (0 : Int32) then jX10_law_31 q4_1.2 q4_1.1 (fi q4_1.2 6 2) else (fX3_become q4_1.2).bind fun q28_4 => jX10_law_31 q28_4 q4_1.1 (fi q4_1.2 6 2)
theorem qX10_law (Z : aZ) (y : aH) {x : aH} {q : (Int32 × aH)} (hf : fX10_law x = some q) : CX true Z mX10_law 132 [.ref 0] y x (RV (.int q.1) q.2) := by
  refine CX.of mokX10_law (Nat.le_of_ble_eq_true rfl) ?_
  show TX _ _ _ _ _ _ _ _ [_, _, _] _
  delta fX10_law at hf
  refine T_aload dX10_law_0 rfl ?_
  refine X_getr dX10_law_1 lfX10_19 rfl ob0 rfl ?_
  obtain ⟨q4_1, hc4_1, hf⟩ := bind_t hf
  refine X_Vv (qX9_read Z _ hc4_1) (Nat.le_of_ble_eq_true rfl) dX10_law_4 lvX10_141 rfl rfl ob6 (Nat.le_of_ble_eq_true rfl) ?_
  refine T_istore dX10_law_7 ?_
  show TX _ _ _ _ _ _ _ _ [_, _, _] _
  refine T_aload dX10_law_8 rfl ?_
  refine X_getr dX10_law_9 lfX10_19 rfl ob0 rfl ?_
  refine X_getf dX10_law_12 lfX10_144 rfl ob6 ?_
  refine T_istore dX10_law_15 ?_
  show TX _ _ _ _ _ _ _ _ [_, _, _] _
  refine T_iload dX10_law_16 rfl ?_
  have J31 : ∀ (x : aH) (l1 : Int32) (l2 : Int32), jX10_law_31 x l1 l2 = some q → TX true Z mX10_law 132 y x (RV (.int q.1) q.2) 31 [.ref 0, .int l1, .int l2] [] := by
    intro x l1 l2 hf
    delta jX10_law_31 at hf
    refine T_aload dX10_law_31 rfl ?_
    refine X_getr dX10_law_32 lfX10_19 rfl ob0 rfl ?_
    refine T_const dX10_law_35 ?_
    refine X_putf dX10_law_36 lfX10_138 rfl rfl ob6 ⟨rfl, rfl⟩ ?_
    refine T_iload dX10_law_39 rfl ?_
    refine T_if_eq dX10_law_40 (fun c40_2 => ?_) (fun c40_2 => ?_)
    · replace hf := ite_t c40_2 hf
      refine T_const dX10_law_47 ?_
      refine T_iload dX10_law_49 rfl ?_
      refine T_isub dX10_law_50 ?_
      obtain rfl := Option.some.inj hf
      exact X_ri dX10_law_51 ⟨rfl, rfl⟩
    · replace hf := ite_f c40_2 hf
      refine T_const dX10_law_43 ?_
      refine T_goto dX10_law_44 ?_
      obtain rfl := Option.some.inj hf
      exact X_ri dX10_law_51 ⟨rfl, rfl⟩
  refine T_if_eq dX10_law_17 (fun c17_3 => ?_) (fun c17_3 => ?_)
  · replace hf := ite_t c17_3 hf
    exact X_wk (WK.s (WK.s (WK.s WK.e))) (J31 _ _ _ hf)
  · replace hf := ite_f c17_3 hf
    refine T_aload dX10_law_20 rfl ?_
    refine X_getr dX10_law_21 lfX10_26 rfl ob0 rfl ?_
    refine T_aload dX10_law_24 rfl ?_
    refine X_getr dX10_law_25 lfX10_19 rfl ob0 rfl ?_
    obtain ⟨q28_4, hc28_4, hf⟩ := bind_t hf
    refine X_Vn (qX3_become Z _ hc28_4) (Nat.le_of_ble_eq_true rfl) dX10_law_28 lvX10_147 rfl rfl ob10 (Nat.le_of_ble_eq_true rfl) ?_
    exact X_wk (WK.s (WK.s (WK.s WK.e))) (J31 _ _ _ hf)
noncomputable def fX10_draws (x : aH) (p1 : Int32) : Option (Int32 × aH) := (fX10_isLost x p1).bind fun q2_1 => if q2_1 = (0 : Int32) then some ((-1 : Int32), x) else (fX8_pull x 15 p1).bind fun q13_3 => some (q13_3.1, q13_3.2)
theorem qX10_draws (Z : aZ) (y : aH) {x : aH} {p1 : Int32} {q : (Int32 × aH)} (hf : fX10_draws x p1 = some q) : CX true Z mX10_draws 3 [.ref 0, .int p1] y x (RV (.int q.1) q.2) := by
  refine CX.of mokX10_draws (Nat.le_of_ble_eq_true rfl) ?_
  show TX _ _ _ _ _ _ _ _ [_, _] _
  delta fX10_draws at hf
  refine T_aload dX10_draws_0 rfl ?_
  refine T_iload dX10_draws_1 rfl ?_
  obtain ⟨q2_1, hc2_1, hf⟩ := bind_t hf
  refine X_Vv (qX10_isLost Z _ hc2_1) (Nat.le_of_ble_eq_true rfl) dX10_draws_2 lvX10_151 rfl rfl ob0 (Nat.le_of_ble_eq_true rfl) ?_
  refine T_if_eq dX10_draws_5 (fun c5_2 => ?_) (fun c5_2 => ?_)
  · replace hf := ite_t c5_2 hf
    refine T_const dX10_draws_19 ?_
    obtain rfl := Option.some.inj hf
    exact X_ri dX10_draws_20 ⟨rfl, rfl⟩
  · replace hf := ite_f c5_2 hf
    refine T_aload dX10_draws_8 rfl ?_
    refine X_getr dX10_draws_9 lfX10_35 rfl ob0 rfl ?_
    refine T_iload dX10_draws_12 rfl ?_
    obtain ⟨q13_3, hc13_3, hf⟩ := bind_t hf
    refine X_Vv (qX8_pull Z _ sd15 hc13_3) (Nat.le_of_ble_eq_true rfl) dX10_draws_13 lvX10_154 rfl rfl ob15 (Nat.le_of_ble_eq_true rfl) ?_
    refine T_goto dX10_draws_16 ?_
    obtain rfl := Option.some.inj hf
    exact X_ri dX10_draws_20 ⟨rfl, rfl⟩
noncomputable def fX10_isWay (x : aH) (p1 : Int32) : Option Int32 := if p1 < (0 : Int32) then some (0 : Int32) else if (4 : Int32) ≤ p1 then some (0 : Int32) else some (1 : Int32)
theorem qX10_isWay (Z : aZ) (y : aH) {x : aH} {p1 : Int32} {q : Int32} (hf : fX10_isWay x p1 = some q) : CX true Z mX10_isWay 0 [.ref 0, .int p1] y x (RV (.int q) x) := by
  refine CX.of mokX10_isWay (Nat.le_of_ble_eq_true rfl) ?_
  show TX _ _ _ _ _ _ _ _ [_, _] _
  delta fX10_isWay at hf
  refine T_iload dX10_isWay_0 rfl ?_
  refine T_if_lt dX10_isWay_1 (fun c1_1 => ?_) (fun c1_1 => ?_)
  · replace hf := ite_t c1_1 hf
    refine T_const dX10_isWay_13 ?_
    obtain rfl := Option.some.inj hf
    exact X_rz dX10_isWay_14 (by first | exact Or.inl rfl | exact Or.inr rfl) ⟨rfl, rfl⟩
  · replace hf := ite_f c1_1 hf
    refine T_iload dX10_isWay_4 rfl ?_
    refine T_const dX10_isWay_5 ?_
    refine T_icmp_ge dX10_isWay_6 (fun c6_2 => ?_) (fun c6_2 => ?_)
    · replace hf := ite_t c6_2 hf
      refine T_const dX10_isWay_13 ?_
      obtain rfl := Option.some.inj hf
      exact X_rz dX10_isWay_14 (by first | exact Or.inl rfl | exact Or.inr rfl) ⟨rfl, rfl⟩
    · replace hf := ite_f c6_2 hf
      refine T_const dX10_isWay_9 ?_
      refine T_goto dX10_isWay_10 ?_
      obtain rfl := Option.some.inj hf
      exact X_rz dX10_isWay_14 (by first | exact Or.inl rfl | exact Or.inr rfl) ⟨rfl, rfl⟩
noncomputable def fX10_seen (x : aH) (p1 : Int32) : Option Int64 := (fX10_isWay x p1).bind fun q2_1 => if q2_1 = (0 : Int32) then some (-9223372036854775808 : Int64) else (fX5_lit x p1).bind fun q13_3 => some q13_3
theorem qX10_seen (Z : aZ) (y : aH) {x : aH} {p1 : Int32} {q : Int64} (hf : fX10_seen x p1 = some q) : CX true Z mX10_seen 2 [.ref 0, .int p1] y x (RV (.long q) x) := by
  refine CX.of mokX10_seen (Nat.le_of_ble_eq_true rfl) ?_
  show TX _ _ _ _ _ _ _ _ [_, _] _
  delta fX10_seen at hf
  refine T_aload dX10_seen_0 rfl ?_
  refine T_iload dX10_seen_1 rfl ?_
  obtain ⟨q2_1, hc2_1, hf⟩ := bind_t hf
  refine X_Vv (qX10_isWay Z _ hc2_1) (Nat.le_of_ble_eq_true rfl) dX10_seen_2 lvX10_157 rfl rfl ob0 (Nat.le_of_ble_eq_true rfl) ?_
  refine T_if_eq dX10_seen_5 (fun c5_2 => ?_) (fun c5_2 => ?_)
  · replace hf := ite_t c5_2 hf
    refine T_constL dX10_seen_19 ?_
    obtain rfl := Option.some.inj hf
    exact X_rl dX10_seen_22 ⟨rfl, rfl⟩
  · replace hf := ite_f c5_2 hf
    refine T_aload dX10_seen_8 rfl ?_
    refine X_getr dX10_seen_9 lfX10_10 rfl ob0 rfl ?_
    refine T_iload dX10_seen_12 rfl ?_
    obtain ⟨q13_3, hc13_3, hf⟩ := bind_t hf
    refine X_Vv (qX5_lit Z _ hc13_3) (Nat.le_of_ble_eq_true rfl) dX10_seen_13 lvX10_160 rfl rfl ob1 (Nat.le_of_ble_eq_true rfl) ?_
    refine T_goto dX10_seen_16 ?_
    obtain rfl := Option.some.inj hf
    exact X_rl dX10_seen_22 ⟨rfl, rfl⟩
noncomputable def fX10_isCountOfNights (x : aH) (p1 : Int32) : Option Int32 := if p1 < (0 : Int32) then some (0 : Int32) else if (40 : Int32) < p1 then some (0 : Int32) else some (1 : Int32)
theorem qX10_isCountOfNights (Z : aZ) (y : aH) {x : aH} {p1 : Int32} {q : Int32} (hf : fX10_isCountOfNights x p1 = some q) : CX true Z mX10_isCountOfNights 0 [.ref 0, .int p1] y x (RV (.int q) x) := by
  refine CX.of mokX10_isCountOfNights (Nat.le_of_ble_eq_true rfl) ?_
  show TX _ _ _ _ _ _ _ _ [_, _] _
  delta fX10_isCountOfNights at hf
  refine T_iload dX10_isCountOfNights_0 rfl ?_
  refine T_if_lt dX10_isCountOfNights_1 (fun c1_1 => ?_) (fun c1_1 => ?_)
  · replace hf := ite_t c1_1 hf
    refine T_const dX10_isCountOfNights_14 ?_
    obtain rfl := Option.some.inj hf
    exact X_rz dX10_isCountOfNights_15 (by first | exact Or.inl rfl | exact Or.inr rfl) ⟨rfl, rfl⟩
  · replace hf := ite_f c1_1 hf
    refine T_iload dX10_isCountOfNights_4 rfl ?_
    refine T_const dX10_isCountOfNights_5 ?_
    refine T_icmp_gt dX10_isCountOfNights_7 (fun c7_2 => ?_) (fun c7_2 => ?_)
    · replace hf := ite_t c7_2 hf
      refine T_const dX10_isCountOfNights_14 ?_
      obtain rfl := Option.some.inj hf
      exact X_rz dX10_isCountOfNights_15 (by first | exact Or.inl rfl | exact Or.inr rfl) ⟨rfl, rfl⟩
    · replace hf := ite_f c7_2 hf
      refine T_const dX10_isCountOfNights_10 ?_
      refine T_goto dX10_isCountOfNights_11 ?_
      obtain rfl := Option.some.inj hf
      exact X_rz dX10_isCountOfNights_15 (by first | exact Or.inl rfl | exact Or.inr rfl) ⟨rfl, rfl⟩
noncomputable def fX10_refusalOfBytes (x : aH) (p1 : Int32) : Option Int32 := (fX10_isShelf x p1).bind fun q2_1 => if q2_1 = (0 : Int32) then some (-1 : Int32) else if (0 : Int32) ≤ p1 ∧ p1 < (6 : Int32) then (fX7_isEmpty x (61 + 2 * ix p1)).bind fun q16_4 => if q16_4 = (0 : Int32) then if (0 : Int32) ≤ p1 ∧ p1 < (6 : Int32) then (fX7_isRowOfBytes x (61 + 2 * ix p1)).bind fun q31_7 => if q31_7 = (0 : Int32) then some (-12 : Int32) else some (0 : Int32) else none else some (-11 : Int32) else none
theorem qX10_refusalOfBytes (Z : aZ) (y : aH) {x : aH} {p1 : Int32} {q : Int32} (hf : fX10_refusalOfBytes x p1 = some q) : CX true Z mX10_refusalOfBytes 1 [.ref 0, .int p1] y x (RV (.int q) x) := by
  refine CX.of mokX10_refusalOfBytes (Nat.le_of_ble_eq_true rfl) ?_
  show TX _ _ _ _ _ _ _ _ [_, _] _
  delta fX10_refusalOfBytes at hf
  refine T_aload dX10_refusalOfBytes_0 rfl ?_
  refine T_iload dX10_refusalOfBytes_1 rfl ?_
  obtain ⟨q2_1, hc2_1, hf⟩ := bind_t hf
  refine X_Vv (qX10_isShelf Z _ hc2_1) (Nat.le_of_ble_eq_true rfl) dX10_refusalOfBytes_2 lvX10_98 rfl rfl ob0 (Nat.le_of_ble_eq_true rfl) ?_
  refine T_if_ne dX10_refusalOfBytes_5 (fun c5_2 => ?_) (fun c5_2 => ?_)
  · replace hf := ite_f c5_2 hf
    refine T_aload dX10_refusalOfBytes_10 rfl ?_
    refine X_getr dX10_refusalOfBytes_11 lfX10_81 rfl ob0 rfl ?_
    refine T_iload dX10_refusalOfBytes_14 rfl ?_
    obtain ⟨hb15_3, hf⟩ := opt_t hf
    refine X_aaldSH dX10_refusalOfBytes_15 hb15_3 ?_
    obtain ⟨q16_4, hc16_4, hf⟩ := bind_t hf
    refine X_Vv (qX7_isEmpty Z _ (SH_at hb15_3) hc16_4) (Nat.le_of_ble_eq_true rfl) dX10_refusalOfBytes_16 lvX10_102 rfl rfl (SH.ob (SH_at hb15_3)) (Nat.le_of_ble_eq_true rfl) ?_
    refine T_if_eq dX10_refusalOfBytes_19 (fun c19_5 => ?_) (fun c19_5 => ?_)
    · replace hf := ite_t c19_5 hf
      refine T_aload dX10_refusalOfBytes_25 rfl ?_
      refine X_getr dX10_refusalOfBytes_26 lfX10_81 rfl ob0 rfl ?_
      refine T_iload dX10_refusalOfBytes_29 rfl ?_
      obtain ⟨hb30_6, hf⟩ := opt_t hf
      refine X_aaldSH dX10_refusalOfBytes_30 hb30_6 ?_
      obtain ⟨q31_7, hc31_7, hf⟩ := bind_t hf
      refine X_Vv (qX7_isRowOfBytes Z _ (SH_at hb30_6) hc31_7) (Nat.le_of_ble_eq_true rfl) dX10_refusalOfBytes_31 lvX10_106 rfl rfl (SH.ob (SH_at hb30_6)) (Nat.le_of_ble_eq_true rfl) ?_
      refine T_if_eq dX10_refusalOfBytes_34 (fun c34_8 => ?_) (fun c34_8 => ?_)
      · replace hf := ite_t c34_8 hf
        refine T_const dX10_refusalOfBytes_41 ?_
        obtain rfl := Option.some.inj hf
        exact X_ri dX10_refusalOfBytes_43 ⟨rfl, rfl⟩
      · replace hf := ite_f c34_8 hf
        refine T_const dX10_refusalOfBytes_37 ?_
        refine T_goto dX10_refusalOfBytes_38 ?_
        obtain rfl := Option.some.inj hf
        exact X_ri dX10_refusalOfBytes_43 ⟨rfl, rfl⟩
    · replace hf := ite_f c19_5 hf
      refine T_const dX10_refusalOfBytes_22 ?_
      obtain rfl := Option.some.inj hf
      exact X_ri dX10_refusalOfBytes_24 ⟨rfl, rfl⟩
  · replace hf := ite_t c5_2 hf
    refine T_const dX10_refusalOfBytes_8 ?_
    obtain rfl := Option.some.inj hf
    exact X_ri dX10_refusalOfBytes_9 ⟨rfl, rfl⟩
noncomputable def fX10_later (x : aH) (p1 : Int32) (p2 : Int32) (p3 : Int32) (p4 : Int32) : Option (Int32 × aH) := (fX10_isCountOfNights x p2).bind fun q2_1 => if q2_1 = (0 : Int32) then some ((-1 : Int32), x) else (fX10_isLost x p3).bind fun q10_3 => if q10_3 = (0 : Int32) then some ((-1 : Int32), x) else if p4 < (0 : Int32) then some ((-1 : Int32), x) else if p4 ≤ (1 : Int32) then (fX10_refusalOfBytes x p1).bind fun q31_7 => if q31_7 = (0 : Int32) then if (0 : Int32) ≤ p1 ∧ p1 < (6 : Int32) then (fX6_behind x 15 (61 + 2 * ix p1) p2).bind fun q59_10 => if q59_10.1 = 15 ∨ q59_10.1 = 19 ∨ q59_10.1 = 27 ∨ q59_10.1 = 31 ∨ q59_10.1 = 35 ∨ q59_10.1 = 39 ∨ q59_10.1 = 43 then if p4 = (0 : Int32) then if (0 : Int32) ≤ p3 ∧ p3 < (10 : Int32) then some ((ri q59_10.2 (q59_10.1 + 1) (ix p3)), q59_10.2) else none else (fX8_isHome q59_10.2 q59_10.1 p3).bind fun q80_12 => if q80_12 = (0 : Int32) then some ((0 : Int32), q59_10.2) else some ((1 : Int32), q59_10.2) else none else none else some (q31_7, x) else some ((-1 : Int32), x)
theorem qX10_later (Z : aZ) (y : aH) {x : aH} {p1 : Int32} {p2 : Int32} {p3 : Int32} {p4 : Int32} {q : (Int32 × aH)} (hf : fX10_later x p1 p2 p3 p4 = some q) : CX true Z mX10_later 5 [.ref 0, .int p1, .int p2, .int p3, .int p4] y x (RV (.int q.1) q.2) := by
  refine CX.of mokX10_later (Nat.le_of_ble_eq_true rfl) ?_
  show TX _ _ _ _ _ _ _ _ [_, _, _, _, _, _, _] _
  delta fX10_later at hf
  refine T_aload dX10_later_0 rfl ?_
  refine T_iload dX10_later_1 rfl ?_
  obtain ⟨q2_1, hc2_1, hf⟩ := bind_t hf
  refine X_Vv (qX10_isCountOfNights Z _ hc2_1) (Nat.le_of_ble_eq_true rfl) dX10_later_2 lvX10_166 rfl rfl ob0 (Nat.le_of_ble_eq_true rfl) ?_
  refine T_if_eq dX10_later_5 (fun c5_2 => ?_) (fun c5_2 => ?_)
  · replace hf := ite_t c5_2 hf
    refine T_const dX10_later_27 ?_
    obtain rfl := Option.some.inj hf
    exact X_ri dX10_later_28 ⟨rfl, rfl⟩
  · replace hf := ite_f c5_2 hf
    refine T_aload dX10_later_8 rfl ?_
    refine T_iload dX10_later_9 rfl ?_
    obtain ⟨q10_3, hc10_3, hf⟩ := bind_t hf
    refine X_Vv (qX10_isLost Z _ hc10_3) (Nat.le_of_ble_eq_true rfl) dX10_later_10 lvX10_151 rfl rfl ob0 (Nat.le_of_ble_eq_true rfl) ?_
    refine T_if_eq dX10_later_13 (fun c13_4 => ?_) (fun c13_4 => ?_)
    · replace hf := ite_t c13_4 hf
      refine T_const dX10_later_27 ?_
      obtain rfl := Option.some.inj hf
      exact X_ri dX10_later_28 ⟨rfl, rfl⟩
    · replace hf := ite_f c13_4 hf
      refine T_iload dX10_later_16 rfl ?_
      refine T_if_lt dX10_later_18 (fun c18_5 => ?_) (fun c18_5 => ?_)
      · replace hf := ite_t c18_5 hf
        refine T_const dX10_later_27 ?_
        obtain rfl := Option.some.inj hf
        exact X_ri dX10_later_28 ⟨rfl, rfl⟩
      · replace hf := ite_f c18_5 hf
        refine T_iload dX10_later_21 rfl ?_
        refine T_const dX10_later_23 ?_
        refine T_icmp_le dX10_later_24 (fun c24_6 => ?_) (fun c24_6 => ?_)
        · replace hf := ite_t c24_6 hf
          refine T_aload dX10_later_29 rfl ?_
          refine T_iload dX10_later_30 rfl ?_
          obtain ⟨q31_7, hc31_7, hf⟩ := bind_t hf
          refine X_Vv (qX10_refusalOfBytes Z _ hc31_7) (Nat.le_of_ble_eq_true rfl) dX10_later_31 lvX10_169 rfl rfl ob0 (Nat.le_of_ble_eq_true rfl) ?_
          refine T_istore dX10_later_34 ?_
          show TX _ _ _ _ _ _ _ _ [_, _, _, _, _, _, _] _
          refine T_iload dX10_later_36 rfl ?_
          refine T_if_eq dX10_later_38 (fun c38_8 => ?_) (fun c38_8 => ?_)
          · replace hf := ite_t c38_8 hf
            refine T_aload dX10_later_44 rfl ?_
            refine X_getr dX10_later_45 lfX10_45 rfl ob0 rfl ?_
            refine T_aload dX10_later_48 rfl ?_
            refine X_getr dX10_later_49 lfX10_35 rfl ob0 rfl ?_
            refine T_aload dX10_later_52 rfl ?_
            refine X_getr dX10_later_53 lfX10_81 rfl ob0 rfl ?_
            refine T_iload dX10_later_56 rfl ?_
            obtain ⟨hb57_9, hf⟩ := opt_t hf
            refine X_aaldSH dX10_later_57 hb57_9 ?_
            refine T_iload dX10_later_58 rfl ?_
            obtain ⟨q59_10, hc59_10, hf⟩ := bind_t hf
            obtain ⟨hsq59_10, hf⟩ := opt_t hf
            refine X_Vv (qX6_behind Z _ sd15 (SH_at hb57_9) hc59_10) (Nat.le_of_ble_eq_true rfl) dX10_later_59 lvX10_172 rfl rfl ob23 (Nat.le_of_ble_eq_true rfl) ?_
            refine T_astore dX10_later_62 ?_
            show TX _ _ _ _ _ _ _ _ [_, _, _, _, _, _, _] _
            refine T_iload dX10_later_64 rfl ?_
            refine T_if_ne dX10_later_66 (fun c66_11 => ?_) (fun c66_11 => ?_)
            · replace hf := ite_f c66_11 hf
              refine T_aload dX10_later_77 rfl ?_
              refine T_iload dX10_later_79 rfl ?_
              obtain ⟨q80_12, hc80_12, hf⟩ := bind_t hf
              refine X_Vv (qX8_isHome Z _ hsq59_10 hc80_12) (Nat.le_of_ble_eq_true rfl) dX10_later_80 lvX10_180 rfl rfl (SD.ob hsq59_10) (Nat.le_of_ble_eq_true rfl) ?_
              refine T_if_eq dX10_later_83 (fun c83_13 => ?_) (fun c83_13 => ?_)
              · replace hf := ite_t c83_13 hf
                refine T_const dX10_later_90 ?_
                obtain rfl := Option.some.inj hf
                exact X_ri dX10_later_91 ⟨rfl, rfl⟩
              · replace hf := ite_f c83_13 hf
                refine T_const dX10_later_86 ?_
                refine T_goto dX10_later_87 ?_
                obtain rfl := Option.some.inj hf
                exact X_ri dX10_later_91 ⟨rfl, rfl⟩
            · replace hf := ite_t c66_11 hf
              refine T_aload dX10_later_69 rfl ?_
              refine X_getr dX10_later_71 lfX10_176 rfl (SD.ob hsq59_10) (SD.f2 hsq59_10) ?_
              refine T_iload dX10_later_74 rfl ?_
              obtain ⟨hb75_14, hf⟩ := opt_t hf
              refine X_iald (N := 10) dX10_later_75 (SD.ar2 hsq59_10) rfl hb75_14 ?_
              obtain rfl := Option.some.inj hf
              exact X_ri dX10_later_76 ⟨rfl, rfl⟩
          · replace hf := ite_f c38_8 hf
            refine T_iload dX10_later_41 rfl ?_
            obtain rfl := Option.some.inj hf
            exact X_ri dX10_later_43 ⟨rfl, rfl⟩
        · replace hf := ite_f c24_6 hf
          refine T_const dX10_later_27 ?_
          obtain rfl := Option.some.inj hf
          exact X_ri dX10_later_28 ⟨rfl, rfl⟩
noncomputable def fX10_home (x : aH) (p1 : Int32) (p2 : Int32) (p3 : Int32) : Option (Int32 × aH) := (fX10_isCountOfNights x p2).bind fun q2_1 => if q2_1 = (0 : Int32) then some ((-1 : Int32), x) else if p3 < (0 : Int32) then some ((-1 : Int32), x) else if p3 ≤ (1 : Int32) then (fX10_refusalOfBytes x p1).bind fun q21_5 => if q21_5 = (0 : Int32) then if (0 : Int32) ≤ p1 ∧ p1 < (6 : Int32) then (fX6_behind x 15 (61 + 2 * ix p1) p2).bind fun q49_8 => if q49_8.1 = 15 ∨ q49_8.1 = 19 ∨ q49_8.1 = 27 ∨ q49_8.1 = 31 ∨ q49_8.1 = 35 ∨ q49_8.1 = 39 ∨ q49_8.1 = 43 then if p3 = (0 : Int32) then some ((fi q49_8.2 q49_8.1 6), q49_8.2) else some ((fi q49_8.2 q49_8.1 7), q49_8.2) else none else none else some (q21_5, x) else some ((-1 : Int32), x)
theorem qX10_home (Z : aZ) (y : aH) {x : aH} {p1 : Int32} {p2 : Int32} {p3 : Int32} {q : (Int32 × aH)} (hf : fX10_home x p1 p2 p3 = some q) : CX true Z mX10_home 5 [.ref 0, .int p1, .int p2, .int p3] y x (RV (.int q.1) q.2) := by
  refine CX.of mokX10_home (Nat.le_of_ble_eq_true rfl) ?_
  show TX _ _ _ _ _ _ _ _ [_, _, _, _, _, _] _
  delta fX10_home at hf
  refine T_aload dX10_home_0 rfl ?_
  refine T_iload dX10_home_1 rfl ?_
  obtain ⟨q2_1, hc2_1, hf⟩ := bind_t hf
  refine X_Vv (qX10_isCountOfNights Z _ hc2_1) (Nat.le_of_ble_eq_true rfl) dX10_home_2 lvX10_166 rfl rfl ob0 (Nat.le_of_ble_eq_true rfl) ?_
  refine T_if_eq dX10_home_5 (fun c5_2 => ?_) (fun c5_2 => ?_)
  · replace hf := ite_t c5_2 hf
    refine T_const dX10_home_17 ?_
    obtain rfl := Option.some.inj hf
    exact X_ri dX10_home_18 ⟨rfl, rfl⟩
  · replace hf := ite_f c5_2 hf
    refine T_iload dX10_home_8 rfl ?_
    refine T_if_lt dX10_home_9 (fun c9_3 => ?_) (fun c9_3 => ?_)
    · replace hf := ite_t c9_3 hf
      refine T_const dX10_home_17 ?_
      obtain rfl := Option.some.inj hf
      exact X_ri dX10_home_18 ⟨rfl, rfl⟩
    · replace hf := ite_f c9_3 hf
      refine T_iload dX10_home_12 rfl ?_
      refine T_const dX10_home_13 ?_
      refine T_icmp_le dX10_home_14 (fun c14_4 => ?_) (fun c14_4 => ?_)
      · replace hf := ite_t c14_4 hf
        refine T_aload dX10_home_19 rfl ?_
        refine T_iload dX10_home_20 rfl ?_
        obtain ⟨q21_5, hc21_5, hf⟩ := bind_t hf
        refine X_Vv (qX10_refusalOfBytes Z _ hc21_5) (Nat.le_of_ble_eq_true rfl) dX10_home_21 lvX10_169 rfl rfl ob0 (Nat.le_of_ble_eq_true rfl) ?_
        refine T_istore dX10_home_24 ?_
        show TX _ _ _ _ _ _ _ _ [_, _, _, _, _, _] _
        refine T_iload dX10_home_26 rfl ?_
        refine T_if_eq dX10_home_28 (fun c28_6 => ?_) (fun c28_6 => ?_)
        · replace hf := ite_t c28_6 hf
          refine T_aload dX10_home_34 rfl ?_
          refine X_getr dX10_home_35 lfX10_45 rfl ob0 rfl ?_
          refine T_aload dX10_home_38 rfl ?_
          refine X_getr dX10_home_39 lfX10_35 rfl ob0 rfl ?_
          refine T_aload dX10_home_42 rfl ?_
          refine X_getr dX10_home_43 lfX10_81 rfl ob0 rfl ?_
          refine T_iload dX10_home_46 rfl ?_
          obtain ⟨hb47_7, hf⟩ := opt_t hf
          refine X_aaldSH dX10_home_47 hb47_7 ?_
          refine T_iload dX10_home_48 rfl ?_
          obtain ⟨q49_8, hc49_8, hf⟩ := bind_t hf
          obtain ⟨hsq49_8, hf⟩ := opt_t hf
          refine X_Vv (qX6_behind Z _ sd15 (SH_at hb47_7) hc49_8) (Nat.le_of_ble_eq_true rfl) dX10_home_49 lvX10_172 rfl rfl ob23 (Nat.le_of_ble_eq_true rfl) ?_
          refine T_astore dX10_home_52 ?_
          show TX _ _ _ _ _ _ _ _ [_, _, _, _, _, _] _
          refine T_iload dX10_home_54 rfl ?_
          refine T_if_ne dX10_home_55 (fun c55_9 => ?_) (fun c55_9 => ?_)
          · replace hf := ite_f c55_9 hf
            refine T_aload dX10_home_66 rfl ?_
            refine X_getf dX10_home_68 lfX10_186 rfl (SD.ob hsq49_8) ?_
            obtain rfl := Option.some.inj hf
            exact X_ri dX10_home_71 ⟨rfl, rfl⟩
          · replace hf := ite_t c55_9 hf
            refine T_aload dX10_home_58 rfl ?_
            refine X_getf dX10_home_60 lfX10_183 rfl (SD.ob hsq49_8) ?_
            refine T_goto dX10_home_63 ?_
            obtain rfl := Option.some.inj hf
            exact X_ri dX10_home_71 ⟨rfl, rfl⟩
        · replace hf := ite_f c28_6 hf
          refine T_iload dX10_home_31 rfl ?_
          obtain rfl := Option.some.inj hf
          exact X_ri dX10_home_33 ⟨rfl, rfl⟩
      · replace hf := ite_f c14_4 hf
        refine T_const dX10_home_17 ?_
        obtain rfl := Option.some.inj hf
        exact X_ri dX10_home_18 ⟨rfl, rfl⟩
noncomputable def fX10_since (x : aH) (p1 : Int32) (p2 : Int32) : Option (Int32 × aH) := (fX10_isLost x p2).bind fun q2_1 => if q2_1 = (0 : Int32) then some ((-1 : Int32), x) else (fX10_refusalOfBytes x p1).bind fun q12_3 => if q12_3 = (0 : Int32) then if (0 : Int32) ≤ p1 ∧ p1 < (6 : Int32) then (fX6_firstHome x 15 (61 + 2 * ix p1) p2).bind fun q39_6 => some (q39_6.1, q39_6.2) else none else some (q12_3, x)
theorem qX10_since (Z : aZ) (y : aH) {x : aH} {p1 : Int32} {p2 : Int32} {q : (Int32 × aH)} (hf : fX10_since x p1 p2 = some q) : CX true Z mX10_since 5 [.ref 0, .int p1, .int p2] y x (RV (.int q.1) q.2) := by
  refine CX.of mokX10_since (Nat.le_of_ble_eq_true rfl) ?_
  show TX _ _ _ _ _ _ _ _ [_, _, _, _] _
  delta fX10_since at hf
  refine T_aload dX10_since_0 rfl ?_
  refine T_iload dX10_since_1 rfl ?_
  obtain ⟨q2_1, hc2_1, hf⟩ := bind_t hf
  refine X_Vv (qX10_isLost Z _ hc2_1) (Nat.le_of_ble_eq_true rfl) dX10_since_2 lvX10_151 rfl rfl ob0 (Nat.le_of_ble_eq_true rfl) ?_
  refine T_if_ne dX10_since_5 (fun c5_2 => ?_) (fun c5_2 => ?_)
  · replace hf := ite_f c5_2 hf
    refine T_aload dX10_since_10 rfl ?_
    refine T_iload dX10_since_11 rfl ?_
    obtain ⟨q12_3, hc12_3, hf⟩ := bind_t hf
    refine X_Vv (qX10_refusalOfBytes Z _ hc12_3) (Nat.le_of_ble_eq_true rfl) dX10_since_12 lvX10_169 rfl rfl ob0 (Nat.le_of_ble_eq_true rfl) ?_
    refine T_istore dX10_since_15 ?_
    show TX _ _ _ _ _ _ _ _ [_, _, _, _] _
    refine T_iload dX10_since_16 rfl ?_
    refine T_if_eq dX10_since_17 (fun c17_4 => ?_) (fun c17_4 => ?_)
    · replace hf := ite_t c17_4 hf
      refine T_aload dX10_since_24 rfl ?_
      refine X_getr dX10_since_25 lfX10_45 rfl ob0 rfl ?_
      refine T_aload dX10_since_28 rfl ?_
      refine X_getr dX10_since_29 lfX10_35 rfl ob0 rfl ?_
      refine T_aload dX10_since_32 rfl ?_
      refine X_getr dX10_since_33 lfX10_81 rfl ob0 rfl ?_
      refine T_iload dX10_since_36 rfl ?_
      obtain ⟨hb37_5, hf⟩ := opt_t hf
      refine X_aaldSH dX10_since_37 hb37_5 ?_
      refine T_iload dX10_since_38 rfl ?_
      obtain ⟨q39_6, hc39_6, hf⟩ := bind_t hf
      refine X_Vv (qX6_firstHome Z _ sd15 (SH_at hb37_5) hc39_6) (Nat.le_of_ble_eq_true rfl) dX10_since_39 lvX10_189 rfl rfl ob23 (Nat.le_of_ble_eq_true rfl) ?_
      obtain rfl := Option.some.inj hf
      exact X_ri dX10_since_42 ⟨rfl, rfl⟩
    · replace hf := ite_f c17_4 hf
      refine T_iload dX10_since_20 rfl ?_
      refine T_goto dX10_since_21 ?_
      obtain rfl := Option.some.inj hf
      exact X_ri dX10_since_42 ⟨rfl, rfl⟩
  · replace hf := ite_t c5_2 hf
    refine T_const dX10_since_8 ?_
    obtain rfl := Option.some.inj hf
    exact X_ri dX10_since_9 ⟨rfl, rfl⟩
noncomputable def fX10_best (x : aH) (p1 : Int32) (p2 : Int32) : Option (Int32 × aH) := if p1 < (0 : Int32) then some ((-1 : Int32), x) else if (4 : Int32) < p1 then some ((-1 : Int32), x) else if p2 < (-2 : Int32) then some ((-1 : Int32), x) else if p2 < p1 then (fX6_findBest x 15 p1).bind fun q31_5 => if p2 = (-1 : Int32) then some ((fi q31_5 23 3), q31_5) else if p2 = (-2 : Int32) then some ((fi q31_5 23 4), q31_5) else (fX6_wayOf q31_5 (fi q31_5 23 2) p1 p2).bind fun q76_8 => some (q76_8, q31_5) else some ((-1 : Int32), x)
theorem qX10_best (Z : aZ) (y : aH) {x : aH} {p1 : Int32} {p2 : Int32} {q : (Int32 × aH)} (hf : fX10_best x p1 p2 = some q) : CX true Z mX10_best 6 [.ref 0, .int p1, .int p2] y x (RV (.int q.1) q.2) := by
  refine CX.of mokX10_best (Nat.le_of_ble_eq_true rfl) ?_
  show TX _ _ _ _ _ _ _ _ [_, _, _] _
  delta fX10_best at hf
  refine T_iload dX10_best_0 rfl ?_
  refine T_if_lt dX10_best_1 (fun c1_1 => ?_) (fun c1_1 => ?_)
  · replace hf := ite_t c1_1 hf
    refine T_const dX10_best_20 ?_
    obtain rfl := Option.some.inj hf
    exact X_ri dX10_best_21 ⟨rfl, rfl⟩
  · replace hf := ite_f c1_1 hf
    refine T_iload dX10_best_4 rfl ?_
    refine T_const dX10_best_5 ?_
    refine T_icmp_gt dX10_best_6 (fun c6_2 => ?_) (fun c6_2 => ?_)
    · replace hf := ite_t c6_2 hf
      refine T_const dX10_best_20 ?_
      obtain rfl := Option.some.inj hf
      exact X_ri dX10_best_21 ⟨rfl, rfl⟩
    · replace hf := ite_f c6_2 hf
      refine T_iload dX10_best_9 rfl ?_
      refine T_const dX10_best_10 ?_
      refine T_icmp_lt dX10_best_12 (fun c12_3 => ?_) (fun c12_3 => ?_)
      · replace hf := ite_t c12_3 hf
        refine T_const dX10_best_20 ?_
        obtain rfl := Option.some.inj hf
        exact X_ri dX10_best_21 ⟨rfl, rfl⟩
      · replace hf := ite_f c12_3 hf
        refine T_iload dX10_best_15 rfl ?_
        refine T_iload dX10_best_16 rfl ?_
        refine T_icmp_lt dX10_best_17 (fun c17_4 => ?_) (fun c17_4 => ?_)
        · replace hf := ite_t c17_4 hf
          refine T_aload dX10_best_22 rfl ?_
          refine X_getr dX10_best_23 lfX10_45 rfl ob0 rfl ?_
          refine T_aload dX10_best_26 rfl ?_
          refine X_getr dX10_best_27 lfX10_35 rfl ob0 rfl ?_
          refine T_iload dX10_best_30 rfl ?_
          obtain ⟨q31_5, hc31_5, hf⟩ := bind_t hf
          refine X_Vn (qX6_findBest Z _ sd15 hc31_5) (Nat.le_of_ble_eq_true rfl) dX10_best_31 lvX10_193 rfl rfl ob23 (Nat.le_of_ble_eq_true rfl) ?_
          refine T_iload dX10_best_34 rfl ?_
          refine T_const dX10_best_35 ?_
          refine T_icmp_ne dX10_best_36 (fun c36_6 => ?_) (fun c36_6 => ?_)
          · replace hf := ite_f c36_6 hf
            refine T_iload dX10_best_47 rfl ?_
            refine T_const dX10_best_48 ?_
            refine T_icmp_ne dX10_best_50 (fun c50_7 => ?_) (fun c50_7 => ?_)
            · replace hf := ite_f c50_7 hf
              refine T_aload dX10_best_63 rfl ?_
              refine X_getr dX10_best_64 lfX10_45 rfl ob0 rfl ?_
              refine T_aload dX10_best_67 rfl ?_
              refine X_getr dX10_best_68 lfX10_45 rfl ob0 rfl ?_
              refine X_getf dX10_best_71 lfX10_203 rfl ob23 ?_
              refine T_iload dX10_best_74 rfl ?_
              refine T_iload dX10_best_75 rfl ?_
              obtain ⟨q76_8, hc76_8, hf⟩ := bind_t hf
              refine X_Vv (qX6_wayOf Z _ hc76_8) (Nat.le_of_ble_eq_true rfl) dX10_best_76 lvX10_206 rfl rfl ob23 (Nat.le_of_ble_eq_true rfl) ?_
              obtain rfl := Option.some.inj hf
              exact X_ri dX10_best_79 ⟨rfl, rfl⟩
            · replace hf := ite_t c50_7 hf
              refine T_aload dX10_best_53 rfl ?_
              refine X_getr dX10_best_54 lfX10_45 rfl ob0 rfl ?_
              refine X_getf dX10_best_57 lfX10_200 rfl ob23 ?_
              refine T_goto dX10_best_60 ?_
              obtain rfl := Option.some.inj hf
              exact X_ri dX10_best_79 ⟨rfl, rfl⟩
          · replace hf := ite_t c36_6 hf
            refine T_aload dX10_best_39 rfl ?_
            refine X_getr dX10_best_40 lfX10_45 rfl ob0 rfl ?_
            refine X_getf dX10_best_43 lfX10_197 rfl ob23 ?_
            obtain rfl := Option.some.inj hf
            exact X_ri dX10_best_46 ⟨rfl, rfl⟩
        · replace hf := ite_f c17_4 hf
          refine T_const dX10_best_20 ?_
          obtain rfl := Option.some.inj hf
          exact X_ri dX10_best_21 ⟨rfl, rfl⟩
noncomputable def fX10_fetch (x : aH) (p1 : Int32) (p2 : Int32) : Option (Int32 × aH) := (fX10_isLost x p1).bind fun q2_1 => if q2_1 = (0 : Int32) then some ((-1 : Int32), x) else if (-1 : Int32) ≤ p2 then (fX6_fewest x 15 p1).bind fun q24_4 => if q24_4.1 < (0 : Int32) then some ((-2 : Int32), q24_4.2) else if p2 < q24_4.1 then if p2 = (-1 : Int32) then some (q24_4.1, q24_4.2) else (fX6_wayOf q24_4.2 (fi q24_4.2 23 2) q24_4.1 p2).bind fun q62_8 => some (q62_8, q24_4.2) else some ((-2 : Int32), q24_4.2) else some ((-1 : Int32), x)
theorem qX10_fetch (Z : aZ) (y : aH) {x : aH} {p1 : Int32} {p2 : Int32} {q : (Int32 × aH)} (hf : fX10_fetch x p1 p2 = some q) : CX true Z mX10_fetch 6 [.ref 0, .int p1, .int p2] y x (RV (.int q.1) q.2) := by
  refine CX.of mokX10_fetch (Nat.le_of_ble_eq_true rfl) ?_
  show TX _ _ _ _ _ _ _ _ [_, _, _, _] _
  delta fX10_fetch at hf
  refine T_aload dX10_fetch_0 rfl ?_
  refine T_iload dX10_fetch_1 rfl ?_
  obtain ⟨q2_1, hc2_1, hf⟩ := bind_t hf
  refine X_Vv (qX10_isLost Z _ hc2_1) (Nat.le_of_ble_eq_true rfl) dX10_fetch_2 lvX10_151 rfl rfl ob0 (Nat.le_of_ble_eq_true rfl) ?_
  refine T_if_eq dX10_fetch_5 (fun c5_2 => ?_) (fun c5_2 => ?_)
  · replace hf := ite_t c5_2 hf
    refine T_const dX10_fetch_13 ?_
    obtain rfl := Option.some.inj hf
    exact X_ri dX10_fetch_14 ⟨rfl, rfl⟩
  · replace hf := ite_f c5_2 hf
    refine T_iload dX10_fetch_8 rfl ?_
    refine T_const dX10_fetch_9 ?_
    refine T_icmp_ge dX10_fetch_10 (fun c10_3 => ?_) (fun c10_3 => ?_)
    · replace hf := ite_t c10_3 hf
      refine T_aload dX10_fetch_15 rfl ?_
      refine X_getr dX10_fetch_16 lfX10_45 rfl ob0 rfl ?_
      refine T_aload dX10_fetch_19 rfl ?_
      refine X_getr dX10_fetch_20 lfX10_35 rfl ob0 rfl ?_
      refine T_iload dX10_fetch_23 rfl ?_
      obtain ⟨q24_4, hc24_4, hf⟩ := bind_t hf
      refine X_Vv (qX6_fewest Z _ sd15 hc24_4) (Nat.le_of_ble_eq_true rfl) dX10_fetch_24 lvX10_209 rfl rfl ob23 (Nat.le_of_ble_eq_true rfl) ?_
      refine T_istore dX10_fetch_27 ?_
      show TX _ _ _ _ _ _ _ _ [_, _, _, _] _
      refine T_iload dX10_fetch_28 rfl ?_
      refine T_if_lt dX10_fetch_29 (fun c29_5 => ?_) (fun c29_5 => ?_)
      · replace hf := ite_t c29_5 hf
        refine T_const dX10_fetch_37 ?_
        obtain rfl := Option.some.inj hf
        exact X_ri dX10_fetch_39 ⟨rfl, rfl⟩
      · replace hf := ite_f c29_5 hf
        refine T_iload dX10_fetch_32 rfl ?_
        refine T_iload dX10_fetch_33 rfl ?_
        refine T_icmp_lt dX10_fetch_34 (fun c34_6 => ?_) (fun c34_6 => ?_)
        · replace hf := ite_t c34_6 hf
          refine T_iload dX10_fetch_40 rfl ?_
          refine T_const dX10_fetch_41 ?_
          refine T_icmp_ne dX10_fetch_42 (fun c42_7 => ?_) (fun c42_7 => ?_)
          · replace hf := ite_f c42_7 hf
            refine T_aload dX10_fetch_49 rfl ?_
            refine X_getr dX10_fetch_50 lfX10_45 rfl ob0 rfl ?_
            refine T_aload dX10_fetch_53 rfl ?_
            refine X_getr dX10_fetch_54 lfX10_45 rfl ob0 rfl ?_
            refine X_getf dX10_fetch_57 lfX10_203 rfl ob23 ?_
            refine T_iload dX10_fetch_60 rfl ?_
            refine T_iload dX10_fetch_61 rfl ?_
            obtain ⟨q62_8, hc62_8, hf⟩ := bind_t hf
            refine X_Vv (qX6_wayOf Z _ hc62_8) (Nat.le_of_ble_eq_true rfl) dX10_fetch_62 lvX10_206 rfl rfl ob23 (Nat.le_of_ble_eq_true rfl) ?_
            obtain rfl := Option.some.inj hf
            exact X_ri dX10_fetch_65 ⟨rfl, rfl⟩
          · replace hf := ite_t c42_7 hf
            refine T_iload dX10_fetch_45 rfl ?_
            refine T_goto dX10_fetch_46 ?_
            obtain rfl := Option.some.inj hf
            exact X_ri dX10_fetch_65 ⟨rfl, rfl⟩
        · replace hf := ite_f c34_6 hf
          refine T_const dX10_fetch_37 ?_
          obtain rfl := Option.some.inj hf
          exact X_ri dX10_fetch_39 ⟨rfl, rfl⟩
    · replace hf := ite_f c10_3 hf
      refine T_const dX10_fetch_13 ?_
      obtain rfl := Option.some.inj hf
      exact X_ri dX10_fetch_14 ⟨rfl, rfl⟩
noncomputable def fX10_drifted (x : aH) (p1 : Int32) (p2 : Int32) : Option Int64 := (fX10_isWithin x (0 : Int32) p1).bind fun q3_1 => if q3_1 = (0 : Int32) then some (-9223372036854775808 : Int64) else if p2 < (0 : Int32) then some (-9223372036854775808 : Int64) else if p2 ≤ (20 : Int32) then (fX2_ago x p1 p2).bind fun q29_5 => some q29_5 else some (-9223372036854775808 : Int64)
theorem qX10_drifted (Z : aZ) (y : aH) {x : aH} {p1 : Int32} {p2 : Int32} {q : Int64} (hf : fX10_drifted x p1 p2 = some q) : CX true Z mX10_drifted 2 [.ref 0, .int p1, .int p2] y x (RV (.long q) x) := by
  refine CX.of mokX10_drifted (Nat.le_of_ble_eq_true rfl) ?_
  show TX _ _ _ _ _ _ _ _ [_, _, _] _
  delta fX10_drifted at hf
  refine T_aload dX10_drifted_0 rfl ?_
  refine T_const dX10_drifted_1 ?_
  refine T_iload dX10_drifted_2 rfl ?_
  obtain ⟨q3_1, hc3_1, hf⟩ := bind_t hf
  refine X_Vv (qX10_isWithin Z _ hc3_1) (Nat.le_of_ble_eq_true rfl) dX10_drifted_3 lvX10_86 rfl rfl ob0 (Nat.le_of_ble_eq_true rfl) ?_
  refine T_if_eq dX10_drifted_6 (fun c6_2 => ?_) (fun c6_2 => ?_)
  · replace hf := ite_t c6_2 hf
    refine T_constL dX10_drifted_19 ?_
    obtain rfl := Option.some.inj hf
    exact X_rl dX10_drifted_22 ⟨rfl, rfl⟩
  · replace hf := ite_f c6_2 hf
    refine T_iload dX10_drifted_9 rfl ?_
    refine T_if_lt dX10_drifted_10 (fun c10_3 => ?_) (fun c10_3 => ?_)
    · replace hf := ite_t c10_3 hf
      refine T_constL dX10_drifted_19 ?_
      obtain rfl := Option.some.inj hf
      exact X_rl dX10_drifted_22 ⟨rfl, rfl⟩
    · replace hf := ite_f c10_3 hf
      refine T_iload dX10_drifted_13 rfl ?_
      refine T_const dX10_drifted_14 ?_
      refine T_icmp_le dX10_drifted_16 (fun c16_4 => ?_) (fun c16_4 => ?_)
      · replace hf := ite_t c16_4 hf
        refine T_aload dX10_drifted_23 rfl ?_
        refine X_getr dX10_drifted_24 lfX10_54 rfl ob0 rfl ?_
        refine T_iload dX10_drifted_27 rfl ?_
        refine T_iload dX10_drifted_28 rfl ?_
        obtain ⟨q29_5, hc29_5, hf⟩ := bind_t hf
        refine X_Vv (qX2_ago Z _ hc29_5) (Nat.le_of_ble_eq_true rfl) dX10_drifted_29 lvX10_213 rfl rfl ob47 (Nat.le_of_ble_eq_true rfl) ?_
        obtain rfl := Option.some.inj hf
        exact X_rl dX10_drifted_32 ⟨rfl, rfl⟩
      · replace hf := ite_f c16_4 hf
        refine T_constL dX10_drifted_19 ?_
        obtain rfl := Option.some.inj hf
        exact X_rl dX10_drifted_22 ⟨rfl, rfl⟩
noncomputable def jX10_ashore_97 (x : aH) (s1 : Nat) (s2 : Int32) (s3 : Int32) : Option Int32 := (fX2_from x s1 s2 s3).bind fun q97_10 => some q97_10
noncomputable def fX10_ashore (x : aH) (p1 : Int32) (p2 : Int32) (p3 : Int32) : Option Int32 := (fX10_isLost x p2).bind fun q2_1 => if q2_1 = (0 : Int32) then some (-1 : Int32) else if p3 < (0 : Int32) then some (-1 : Int32) else if p3 ≤ (2 : Int32) then (fX10_refusalOfBytes x p1).bind fun q21_5 => if q21_5 = (0 : Int32) then if p3 = (0 : Int32) then if (0 : Int32) ≤ p1 ∧ p1 < (6 : Int32) then if (0 : Int32) ≤ p2 ∧ p2 < (10 : Int32) then (fX8_isHome x 15 p2).bind fun q62_14 => (fX2_firstUnlike x (61 + 2 * ix p1) (ri x 16 (ix p2)) q62_14).bind fun q65_15 => some q65_15 else none else none else if (0 : Int32) ≤ p1 ∧ p1 < (6 : Int32) then (fX8_isHome x 15 p2).bind fun q84_9 => if p3 = (2 : Int32) then jX10_ashore_97 x (61 + 2 * ix p1) q84_9 (1 : Int32) else jX10_ashore_97 x (61 + 2 * ix p1) q84_9 (0 : Int32) else none else some q21_5 else some (-1 : Int32)
theorem qX10_ashore (Z : aZ) (y : aH) {x : aH} {p1 : Int32} {p2 : Int32} {p3 : Int32} {q : Int32} (hf : fX10_ashore x p1 p2 p3 = some q) : CX true Z mX10_ashore 3 [.ref 0, .int p1, .int p2, .int p3] y x (RV (.int q) x) := by
  refine CX.of mokX10_ashore (Nat.le_of_ble_eq_true rfl) ?_
  show TX _ _ _ _ _ _ _ _ [_, _, _, _, _] _
  delta fX10_ashore at hf
  refine T_aload dX10_ashore_0 rfl ?_
  refine T_iload dX10_ashore_1 rfl ?_
  obtain ⟨q2_1, hc2_1, hf⟩ := bind_t hf
  refine X_Vv (qX10_isLost Z _ hc2_1) (Nat.le_of_ble_eq_true rfl) dX10_ashore_2 lvX10_151 rfl rfl ob0 (Nat.le_of_ble_eq_true rfl) ?_
  refine T_if_eq dX10_ashore_5 (fun c5_2 => ?_) (fun c5_2 => ?_)
  · replace hf := ite_t c5_2 hf
    refine T_const dX10_ashore_17 ?_
    obtain rfl := Option.some.inj hf
    exact X_ri dX10_ashore_18 ⟨rfl, rfl⟩
  · replace hf := ite_f c5_2 hf
    refine T_iload dX10_ashore_8 rfl ?_
    refine T_if_lt dX10_ashore_9 (fun c9_3 => ?_) (fun c9_3 => ?_)
    · replace hf := ite_t c9_3 hf
      refine T_const dX10_ashore_17 ?_
      obtain rfl := Option.some.inj hf
      exact X_ri dX10_ashore_18 ⟨rfl, rfl⟩
    · replace hf := ite_f c9_3 hf
      refine T_iload dX10_ashore_12 rfl ?_
      refine T_const dX10_ashore_13 ?_
      refine T_icmp_le dX10_ashore_14 (fun c14_4 => ?_) (fun c14_4 => ?_)
      · replace hf := ite_t c14_4 hf
        refine T_aload dX10_ashore_19 rfl ?_
        refine T_iload dX10_ashore_20 rfl ?_
        obtain ⟨q21_5, hc21_5, hf⟩ := bind_t hf
        refine X_Vv (qX10_refusalOfBytes Z _ hc21_5) (Nat.le_of_ble_eq_true rfl) dX10_ashore_21 lvX10_169 rfl rfl ob0 (Nat.le_of_ble_eq_true rfl) ?_
        refine T_istore dX10_ashore_24 ?_
        show TX _ _ _ _ _ _ _ _ [_, _, _, _, _] _
        refine T_iload dX10_ashore_26 rfl ?_
        refine T_if_eq dX10_ashore_28 (fun c28_6 => ?_) (fun c28_6 => ?_)
        · replace hf := ite_t c28_6 hf
          refine T_iload dX10_ashore_34 rfl ?_
          refine T_if_ne dX10_ashore_35 (fun c35_7 => ?_) (fun c35_7 => ?_)
          · replace hf := ite_f c35_7 hf
            refine T_aload dX10_ashore_69 rfl ?_
            refine X_getr dX10_ashore_70 lfX10_54 rfl ob0 rfl ?_
            refine T_aload dX10_ashore_73 rfl ?_
            refine X_getr dX10_ashore_74 lfX10_81 rfl ob0 rfl ?_
            refine T_iload dX10_ashore_77 rfl ?_
            obtain ⟨hb78_8, hf⟩ := opt_t hf
            refine X_aaldSH dX10_ashore_78 hb78_8 ?_
            refine T_aload dX10_ashore_79 rfl ?_
            refine X_getr dX10_ashore_80 lfX10_35 rfl ob0 rfl ?_
            refine T_iload dX10_ashore_83 rfl ?_
            obtain ⟨q84_9, hc84_9, hf⟩ := bind_t hf
            refine X_Vv (qX8_isHome Z _ sd15 hc84_9) (Nat.le_of_ble_eq_true rfl) dX10_ashore_84 lvX10_180 rfl rfl ob15 (Nat.le_of_ble_eq_true rfl) ?_
            refine T_iload dX10_ashore_87 rfl ?_
            refine T_const dX10_ashore_88 ?_
            have J97 : ∀ (s1 : Nat) (s2 : Int32) (s3 : Int32) (hs1 : SH s1), jX10_ashore_97 x s1 s2 s3 = some q → TX true Z mX10_ashore 3 y x (RV (.int q) x) 97 [.null, .null, .null, .null, .null] [.int s3, .int s2, .ref s1, .ref 47] := by
              intro s1 s2 s3 hs1 hf
              delta jX10_ashore_97 at hf
              obtain ⟨q97_10, hc97_10, hf⟩ := bind_t hf
              refine X_Vv (qX2_from Z _ hs1 hc97_10) (Nat.le_of_ble_eq_true rfl) dX10_ashore_97 lvX10_221 rfl rfl ob47 (Nat.le_of_ble_eq_true rfl) ?_
              obtain rfl := Option.some.inj hf
              exact X_ri dX10_ashore_100 ⟨rfl, rfl⟩
            refine T_icmp_ne dX10_ashore_89 (fun c89_11 => ?_) (fun c89_11 => ?_)
            · replace hf := ite_f c89_11 hf
              refine T_const dX10_ashore_96 ?_
              exact X_wk (WK.n (WK.n (WK.n (WK.n (WK.n WK.e))))) (J97 _ _ _ (SH_at hb78_8) hf)
            · replace hf := ite_t c89_11 hf
              refine T_const dX10_ashore_92 ?_
              refine T_goto dX10_ashore_93 ?_
              exact X_wk (WK.n (WK.n (WK.n (WK.n (WK.n WK.e))))) (J97 _ _ _ (SH_at hb78_8) hf)
          · replace hf := ite_t c35_7 hf
            refine T_aload dX10_ashore_38 rfl ?_
            refine X_getr dX10_ashore_39 lfX10_54 rfl ob0 rfl ?_
            refine T_aload dX10_ashore_42 rfl ?_
            refine X_getr dX10_ashore_43 lfX10_81 rfl ob0 rfl ?_
            refine T_iload dX10_ashore_46 rfl ?_
            obtain ⟨hb47_12, hf⟩ := opt_t hf
            refine X_aaldSH dX10_ashore_47 hb47_12 ?_
            refine T_aload dX10_ashore_48 rfl ?_
            refine X_getr dX10_ashore_49 lfX10_35 rfl ob0 rfl ?_
            refine X_getr dX10_ashore_52 lfX10_176 rfl ob15 rfl ?_
            refine T_iload dX10_ashore_55 rfl ?_
            obtain ⟨hb56_13, hf⟩ := opt_t hf
            refine X_iald (N := 10) dX10_ashore_56 ar16 rfl hb56_13 ?_
            refine T_aload dX10_ashore_57 rfl ?_
            refine X_getr dX10_ashore_58 lfX10_35 rfl ob0 rfl ?_
            refine T_iload dX10_ashore_61 rfl ?_
            obtain ⟨q62_14, hc62_14, hf⟩ := bind_t hf
            refine X_Vv (qX8_isHome Z _ sd15 hc62_14) (Nat.le_of_ble_eq_true rfl) dX10_ashore_62 lvX10_180 rfl rfl ob15 (Nat.le_of_ble_eq_true rfl) ?_
            obtain ⟨q65_15, hc65_15, hf⟩ := bind_t hf
            refine X_Vv (qX2_firstUnlike Z _ (SH_at hb47_12) hc65_15) (Nat.le_of_ble_eq_true rfl) dX10_ashore_65 lvX10_217 rfl rfl ob47 (Nat.le_of_ble_eq_true rfl) ?_
            obtain rfl := Option.some.inj hf
            exact X_ri dX10_ashore_68 ⟨rfl, rfl⟩
        · replace hf := ite_f c28_6 hf
          refine T_iload dX10_ashore_31 rfl ?_
          obtain rfl := Option.some.inj hf
          exact X_ri dX10_ashore_33 ⟨rfl, rfl⟩
      · replace hf := ite_f c14_4 hf
        refine T_const dX10_ashore_17 ?_
        obtain rfl := Option.some.inj hf
        exact X_ri dX10_ashore_18 ⟨rfl, rfl⟩
noncomputable def fX10_readRules (x : aH) (p1 : Int32) : Option (Int32 × aH) := (fX10_refusalOfBytes x p1).bind fun q2_1 => if q2_1 = (0 : Int32) then if (0 : Int32) ≤ p1 ∧ p1 < (6 : Int32) then (fX4_read x (61 + 2 * ix p1) (fi x 15 5)).bind fun q27_4 => some (q2_1, q27_4) else none else some (q2_1, x)
theorem qX10_readRules (Z : aZ) (y : aH) {x : aH} {p1 : Int32} {q : (Int32 × aH)} (hf : fX10_readRules x p1 = some q) : CX true Z mX10_readRules 2 [.ref 0, .int p1] y x (RV (.int q.1) q.2) := by
  refine CX.of mokX10_readRules (Nat.le_of_ble_eq_true rfl) ?_
  show TX _ _ _ _ _ _ _ _ [_, _, _] _
  delta fX10_readRules at hf
  refine T_aload dX10_readRules_0 rfl ?_
  refine T_iload dX10_readRules_1 rfl ?_
  obtain ⟨q2_1, hc2_1, hf⟩ := bind_t hf
  refine X_Vv (qX10_refusalOfBytes Z _ hc2_1) (Nat.le_of_ble_eq_true rfl) dX10_readRules_2 lvX10_169 rfl rfl ob0 (Nat.le_of_ble_eq_true rfl) ?_
  refine T_istore dX10_readRules_5 ?_
  show TX _ _ _ _ _ _ _ _ [_, _, _] _
  refine T_iload dX10_readRules_6 rfl ?_
  refine T_if_ne dX10_readRules_7 (fun c7_2 => ?_) (fun c7_2 => ?_)
  · replace hf := ite_f c7_2 hf
    refine T_iload dX10_readRules_30 rfl ?_
    obtain rfl := Option.some.inj hf
    exact X_ri dX10_readRules_31 ⟨rfl, rfl⟩
  · replace hf := ite_t c7_2 hf
    refine T_aload dX10_readRules_10 rfl ?_
    refine X_getr dX10_readRules_11 lfX10_61 rfl ob0 rfl ?_
    refine T_aload dX10_readRules_14 rfl ?_
    refine X_getr dX10_readRules_15 lfX10_81 rfl ob0 rfl ?_
    refine T_iload dX10_readRules_18 rfl ?_
    obtain ⟨hb19_3, hf⟩ := opt_t hf
    refine X_aaldSH dX10_readRules_19 hb19_3 ?_
    refine T_aload dX10_readRules_20 rfl ?_
    refine X_getr dX10_readRules_21 lfX10_35 rfl ob0 rfl ?_
    refine X_getf dX10_readRules_24 lfX10_90 rfl ob15 ?_
    obtain ⟨q27_4, hc27_4, hf⟩ := bind_t hf
    refine X_Vn (qX4_read Z _ (SH_at hb19_3) hc27_4) (Nat.le_of_ble_eq_true rfl) dX10_readRules_27 lvX10_417 rfl rfl ob48 (Nat.le_of_ble_eq_true rfl) ?_
    refine T_iload dX10_readRules_30 rfl ?_
    obtain rfl := Option.some.inj hf
    exact X_ri dX10_readRules_31 ⟨rfl, rfl⟩
noncomputable def jX10_order_13 (x : aH) (l2 : Int32) (s0 : Int32) : Option (Int32 × aH) := if s0 = (0 : Int32) then (fX4_inOrder x l2).bind fun q27_2 => some (q27_2, x) else some (s0, x)
noncomputable def fX10_order (x : aH) (p1 : Int32) (p2 : Int32) : Option (Int32 × aH) := if (0 : Int32) ≤ p2 then (fX10_readRules x p1).bind fun q10_4 => jX10_order_13 q10_4.2 p2 q10_4.1 else jX10_order_13 x p2 (-1 : Int32)
theorem qX10_order (Z : aZ) (y : aH) {x : aH} {p1 : Int32} {p2 : Int32} {q : (Int32 × aH)} (hf : fX10_order x p1 p2 = some q) : CX true Z mX10_order 3 [.ref 0, .int p1, .int p2] y x (RV (.int q.1) q.2) := by
  refine CX.of mokX10_order (Nat.le_of_ble_eq_true rfl) ?_
  show TX _ _ _ _ _ _ _ _ [_, _, _, _] _
  delta fX10_order at hf
  refine T_iload dX10_order_0 rfl ?_
  have J13 : ∀ (x : aH) (l2 : Int32) (s0 : Int32), jX10_order_13 x l2 s0 = some q → TX true Z mX10_order 3 y x (RV (.int q.1) q.2) 13 [.ref 0, .null, .int l2, .null] [.int s0] := by
    intro x l2 s0 hf
    delta jX10_order_13 at hf
    refine T_istore dX10_order_13 ?_
    show TX _ _ _ _ _ _ _ _ [_, _, _, _] _
    refine T_iload dX10_order_14 rfl ?_
    refine T_if_eq dX10_order_15 (fun c15_1 => ?_) (fun c15_1 => ?_)
    · replace hf := ite_t c15_1 hf
      refine T_aload dX10_order_22 rfl ?_
      refine X_getr dX10_order_23 lfX10_61 rfl ob0 rfl ?_
      refine T_iload dX10_order_26 rfl ?_
      obtain ⟨q27_2, hc27_2, hf⟩ := bind_t hf
      refine X_Vv (qX4_inOrder Z _ hc27_2) (Nat.le_of_ble_eq_true rfl) dX10_order_27 lvX10_228 rfl rfl ob48 (Nat.le_of_ble_eq_true rfl) ?_
      obtain rfl := Option.some.inj hf
      exact X_ri dX10_order_30 ⟨rfl, rfl⟩
    · replace hf := ite_f c15_1 hf
      refine T_iload dX10_order_18 rfl ?_
      refine T_goto dX10_order_19 ?_
      obtain rfl := Option.some.inj hf
      exact X_ri dX10_order_30 ⟨rfl, rfl⟩
  refine T_if_ge dX10_order_1 (fun c1_3 => ?_) (fun c1_3 => ?_)
  · replace hf := ite_t c1_3 hf
    refine T_aload dX10_order_8 rfl ?_
    refine T_iload dX10_order_9 rfl ?_
    obtain ⟨q10_4, hc10_4, hf⟩ := bind_t hf
    refine X_Vv (qX10_readRules Z _ hc10_4) (Nat.le_of_ble_eq_true rfl) dX10_order_10 lvX10_225 rfl rfl ob0 (Nat.le_of_ble_eq_true rfl) ?_
    exact X_wk (WK.s (WK.n (WK.s (WK.n WK.e)))) (J13 _ _ _ hf)
  · replace hf := ite_f c1_3 hf
    refine T_const dX10_order_4 ?_
    refine T_goto dX10_order_5 ?_
    exact X_wk (WK.s (WK.n (WK.s (WK.n WK.e)))) (J13 _ _ _ hf)
noncomputable def jX10_clash_18 (x : aH) (l2 : Int32) (s0 : Int32) : Option (Int32 × aH) := if s0 = (0 : Int32) then if l2 = (0 : Int32) then (fX4_smallestRing x).bind fun q33_4 => some (q33_4, x) else (fX4_fewestDropped x).bind fun q43_3 => some (q43_3.1, q43_3.2) else some (s0, x)
noncomputable def jX10_clash_9 (x : aH) (l2 : Int32) : Option (Int32 × aH) := jX10_clash_18 x l2 (-1 : Int32)
noncomputable def fX10_clash (x : aH) (p1 : Int32) (p2 : Int32) : Option (Int32 × aH) := if p2 < (0 : Int32) then jX10_clash_9 x p2 else if p2 ≤ (1 : Int32) then (fX10_readRules x p1).bind fun q15_7 => jX10_clash_18 q15_7.2 p2 q15_7.1 else jX10_clash_9 x p2
theorem qX10_clash (Z : aZ) (y : aH) {x : aH} {p1 : Int32} {p2 : Int32} {q : (Int32 × aH)} (hf : fX10_clash x p1 p2 = some q) : CX true Z mX10_clash 3 [.ref 0, .int p1, .int p2] y x (RV (.int q.1) q.2) := by
  refine CX.of mokX10_clash (Nat.le_of_ble_eq_true rfl) ?_
  show TX _ _ _ _ _ _ _ _ [_, _, _, _] _
  delta fX10_clash at hf
  refine T_iload dX10_clash_0 rfl ?_
  have J18 : ∀ (x : aH) (l2 : Int32) (s0 : Int32), jX10_clash_18 x l2 s0 = some q → TX true Z mX10_clash 3 y x (RV (.int q.1) q.2) 18 [.ref 0, .null, .int l2, .null] [.int s0] := by
    intro x l2 s0 hf
    delta jX10_clash_18 at hf
    refine T_istore dX10_clash_18 ?_
    show TX _ _ _ _ _ _ _ _ [_, _, _, _] _
    refine T_iload dX10_clash_19 rfl ?_
    refine T_if_eq dX10_clash_20 (fun c20_1 => ?_) (fun c20_1 => ?_)
    · replace hf := ite_t c20_1 hf
      refine T_iload dX10_clash_25 rfl ?_
      refine T_if_ne dX10_clash_26 (fun c26_2 => ?_) (fun c26_2 => ?_)
      · replace hf := ite_f c26_2 hf
        refine T_aload dX10_clash_39 rfl ?_
        refine X_getr dX10_clash_40 lfX10_61 rfl ob0 rfl ?_
        obtain ⟨q43_3, hc43_3, hf⟩ := bind_t hf
        refine X_Vv (qX4_fewestDropped Z _ hc43_3) (Nat.le_of_ble_eq_true rfl) dX10_clash_43 lvX10_235 rfl rfl ob48 (Nat.le_of_ble_eq_true rfl) ?_
        obtain rfl := Option.some.inj hf
        exact X_ri dX10_clash_46 ⟨rfl, rfl⟩
      · replace hf := ite_t c26_2 hf
        refine T_aload dX10_clash_29 rfl ?_
        refine X_getr dX10_clash_30 lfX10_61 rfl ob0 rfl ?_
        obtain ⟨q33_4, hc33_4, hf⟩ := bind_t hf
        refine X_Vv (qX4_smallestRing Z _ hc33_4) (Nat.le_of_ble_eq_true rfl) dX10_clash_33 lvX10_231 rfl rfl ob48 (Nat.le_of_ble_eq_true rfl) ?_
        refine T_goto dX10_clash_36 ?_
        obtain rfl := Option.some.inj hf
        exact X_ri dX10_clash_46 ⟨rfl, rfl⟩
    · replace hf := ite_f c20_1 hf
      refine T_iload dX10_clash_23 rfl ?_
      obtain rfl := Option.some.inj hf
      exact X_ri dX10_clash_24 ⟨rfl, rfl⟩
  have J9 : ∀ (x : aH) (l2 : Int32), jX10_clash_9 x l2 = some q → TX true Z mX10_clash 3 y x (RV (.int q.1) q.2) 9 [.ref 0, .null, .int l2, .null] [] := by
    intro x l2 hf
    delta jX10_clash_9 at hf
    refine T_const dX10_clash_9 ?_
    refine T_goto dX10_clash_10 ?_
    exact X_wk (WK.s (WK.n (WK.s (WK.n WK.e)))) (J18 _ _ _ hf)
  refine T_if_lt dX10_clash_1 (fun c1_5 => ?_) (fun c1_5 => ?_)
  · replace hf := ite_t c1_5 hf
    exact X_wk (WK.s (WK.n (WK.s (WK.n WK.e)))) (J9 _ _ hf)
  · replace hf := ite_f c1_5 hf
    refine T_iload dX10_clash_4 rfl ?_
    refine T_const dX10_clash_5 ?_
    refine T_icmp_le dX10_clash_6 (fun c6_6 => ?_) (fun c6_6 => ?_)
    · replace hf := ite_t c6_6 hf
      refine T_aload dX10_clash_13 rfl ?_
      refine T_iload dX10_clash_14 rfl ?_
      obtain ⟨q15_7, hc15_7, hf⟩ := bind_t hf
      refine X_Vv (qX10_readRules Z _ hc15_7) (Nat.le_of_ble_eq_true rfl) dX10_clash_15 lvX10_225 rfl rfl ob0 (Nat.le_of_ble_eq_true rfl) ?_
      exact X_wk (WK.s (WK.n (WK.s (WK.n WK.e)))) (J18 _ _ _ hf)
    · replace hf := ite_f c6_6 hf
      exact X_wk (WK.s (WK.n (WK.s (WK.n WK.e)))) (J9 _ _ hf)
noncomputable def jX10_may_26 (x : aH) (l2 : Int32) (s0 : Int32) : Option (Int32 × aH) := if s0 = (0 : Int32) then (fX4_next x l2).bind fun q40_2 => some (q40_2, x) else some (s0, x)
noncomputable def jX10_may_17 (x : aH) (l2 : Int32) : Option (Int32 × aH) := jX10_may_26 x l2 (-1 : Int32)
noncomputable def fX10_may (x : aH) (p1 : Int32) (p2 : Int32) : Option (Int32 × aH) := if p2 < (0 : Int32) then jX10_may_17 x p2 else if p2 < ((1 : Int32) <<< ((fi x 15 5) &&& 31)) then (fX10_readRules x p1).bind fun q23_5 => jX10_may_26 q23_5.2 p2 q23_5.1 else jX10_may_17 x p2
theorem qX10_may (Z : aZ) (y : aH) {x : aH} {p1 : Int32} {p2 : Int32} {q : (Int32 × aH)} (hf : fX10_may x p1 p2 = some q) : CX true Z mX10_may 3 [.ref 0, .int p1, .int p2] y x (RV (.int q.1) q.2) := by
  refine CX.of mokX10_may (Nat.le_of_ble_eq_true rfl) ?_
  show TX _ _ _ _ _ _ _ _ [_, _, _, _] _
  delta fX10_may at hf
  refine T_iload dX10_may_0 rfl ?_
  have J26 : ∀ (x : aH) (l2 : Int32) (s0 : Int32), jX10_may_26 x l2 s0 = some q → TX true Z mX10_may 3 y x (RV (.int q.1) q.2) 26 [.ref 0, .null, .int l2, .null] [.int s0] := by
    intro x l2 s0 hf
    delta jX10_may_26 at hf
    refine T_istore dX10_may_26 ?_
    show TX _ _ _ _ _ _ _ _ [_, _, _, _] _
    refine T_iload dX10_may_27 rfl ?_
    refine T_if_eq dX10_may_28 (fun c28_1 => ?_) (fun c28_1 => ?_)
    · replace hf := ite_t c28_1 hf
      refine T_aload dX10_may_35 rfl ?_
      refine X_getr dX10_may_36 lfX10_61 rfl ob0 rfl ?_
      refine T_iload dX10_may_39 rfl ?_
      obtain ⟨q40_2, hc40_2, hf⟩ := bind_t hf
      refine X_Vv (qX4_next Z _ hc40_2) (Nat.le_of_ble_eq_true rfl) dX10_may_40 lvX10_238 rfl rfl ob48 (Nat.le_of_ble_eq_true rfl) ?_
      obtain rfl := Option.some.inj hf
      exact X_ri dX10_may_43 ⟨rfl, rfl⟩
    · replace hf := ite_f c28_1 hf
      refine T_iload dX10_may_31 rfl ?_
      refine T_goto dX10_may_32 ?_
      obtain rfl := Option.some.inj hf
      exact X_ri dX10_may_43 ⟨rfl, rfl⟩
  have J17 : ∀ (x : aH) (l2 : Int32), jX10_may_17 x l2 = some q → TX true Z mX10_may 3 y x (RV (.int q.1) q.2) 17 [.ref 0, .null, .int l2, .null] [] := by
    intro x l2 hf
    delta jX10_may_17 at hf
    refine T_const dX10_may_17 ?_
    refine T_goto dX10_may_18 ?_
    exact X_wk (WK.s (WK.n (WK.s (WK.n WK.e)))) (J26 _ _ _ hf)
  refine T_if_lt dX10_may_1 (fun c1_3 => ?_) (fun c1_3 => ?_)
  · replace hf := ite_t c1_3 hf
    exact X_wk (WK.s (WK.n (WK.s (WK.n WK.e)))) (J17 _ _ hf)
  · replace hf := ite_f c1_3 hf
    refine T_iload dX10_may_4 rfl ?_
    refine T_const dX10_may_5 ?_
    refine T_aload dX10_may_6 rfl ?_
    refine X_getr dX10_may_7 lfX10_35 rfl ob0 rfl ?_
    refine X_getf dX10_may_10 lfX10_90 rfl ob15 ?_
    refine T_ishl dX10_may_13 ?_
    refine T_icmp_lt dX10_may_14 (fun c14_4 => ?_) (fun c14_4 => ?_)
    · replace hf := ite_t c14_4 hf
      refine T_aload dX10_may_21 rfl ?_
      refine T_iload dX10_may_22 rfl ?_
      obtain ⟨q23_5, hc23_5, hf⟩ := bind_t hf
      refine X_Vv (qX10_readRules Z _ hc23_5) (Nat.le_of_ble_eq_true rfl) dX10_may_23 lvX10_225 rfl rfl ob0 (Nat.le_of_ble_eq_true rfl) ?_
      exact X_wk (WK.s (WK.n (WK.s (WK.n WK.e)))) (J26 _ _ _ hf)
    · replace hf := ite_f c14_4 hf
      exact X_wk (WK.s (WK.n (WK.s (WK.n WK.e)))) (J17 _ _ hf)
noncomputable def sX10_share_27 (x : aH) (l1 : Int32) (l2 : Int32) (ih : Int32 → Int32 → Option Int32) (l3 : Int32) (l4 : Int32) : Option Int32 := if (4 : Int32) ≤ l4 then some l3 else (fX8_claim x 15 l4).bind fun q40_6 => ih (l3 + q40_6) (l4 + (1 : Int32))
noncomputable def wX10_share_27 (x : aH) (l1 : Int32) (l2 : Int32) : Nat → Int32 → Int32 → Option Int32
  | 0 => fun _ _ => none
  | n + 1 => sX10_share_27 x l1 l2 (wX10_share_27 x l1 l2 n)
noncomputable def fX10_share (x : aH) (p1 : Int32) (p2 : Int32) : Option Int32 := (fX10_isWithin x (1 : Int32) p1).bind fun q3_1 => if q3_1 = (0 : Int32) then some (-1 : Int32) else if p2 < (0 : Int32) then some (-1 : Int32) else if p2 ≤ (9999 : Int32) then (wX10_share_27 x p1 p2 2000 (0 : Int32) (0 : Int32)).bind fun q27_7 => if q27_7 = (0 : Int32) then some (0 : Int32) else (fX8_claim x 15 p1).bind fun q65_9 => if ¬ (q27_7 = (0 : Int32)) then some ((p2 * q65_9) / q27_7) else none else some (-1 : Int32)
theorem lX10_share_27 (Z : aZ) (y : aH) (x : aH) (l1 : Int32) (l2 : Int32) {Q : Option Value → aH → Prop} {R : Int32} : ∀ (n : Nat) (l3 : Int32) (l4 : Int32), wX10_share_27 x l1 l2 n l3 l4 = some R → (∀ q, R = q → TX true Z mX10_share 3 y x Q 51 [.ref 0, .int l1, .int l2, .int q, .null] []) → TX true Z mX10_share 3 y x Q 27 [.ref 0, .int l1, .int l2, .int l3, .int l4] [] := by
  intro n
  induction n with
  | zero => intro l3 l4 hf; cases hf
  | succ n ih =>
    intro l3 l4 hf ke
    replace hf : sX10_share_27 x l1 l2 (wX10_share_27 x l1 l2 n) l3 l4 = some R := hf
    delta sX10_share_27 at hf
    refine T_iload dX10_share_27 rfl ?_
    refine T_const dX10_share_29 ?_
    refine T_icmp_ge dX10_share_30 (fun c30_5 => ?_) (fun c30_5 => ?_)
    · replace hf := ite_t c30_5 hf
      exact X_wk (WK.s (WK.s (WK.s (WK.s (WK.n WK.e))))) (ke l3 (Option.some.inj hf).symm)
    · replace hf := ite_f c30_5 hf
      refine T_iload dX10_share_33 rfl ?_
      refine T_aload dX10_share_34 rfl ?_
      refine X_getr dX10_share_35 lfX10_35 rfl ob0 rfl ?_
      refine T_iload dX10_share_38 rfl ?_
      obtain ⟨q40_6, hc40_6, hf⟩ := bind_t hf
      refine X_Vv (qX8_claim Z _ sd15 hc40_6) (Nat.le_of_ble_eq_true rfl) dX10_share_40 lvX10_241 rfl rfl ob15 (Nat.le_of_ble_eq_true rfl) ?_
      refine T_iadd dX10_share_43 ?_
      refine T_istore dX10_share_44 ?_
      show TX _ _ _ _ _ _ _ _ [_, _, _, _, _] _
      refine T_iinc dX10_share_45 rfl ?_
      show TX _ _ _ _ _ _ _ _ [_, _, _, _, _] _
      refine T_goto dX10_share_48 ?_
      exact X_wk (WK.s (WK.s (WK.s (WK.s (WK.s WK.e))))) (ih _ _ hf ke)
theorem qX10_share (Z : aZ) (y : aH) {x : aH} {p1 : Int32} {p2 : Int32} {q : Int32} (hf : fX10_share x p1 p2 = some q) : CX true Z mX10_share 3 [.ref 0, .int p1, .int p2] y x (RV (.int q) x) := by
  refine CX.of mokX10_share (Nat.le_of_ble_eq_true rfl) ?_
  show TX _ _ _ _ _ _ _ _ [_, _, _, _, _] _
  delta fX10_share at hf
  refine T_aload dX10_share_0 rfl ?_
  refine T_const dX10_share_1 ?_
  refine T_iload dX10_share_2 rfl ?_
  obtain ⟨q3_1, hc3_1, hf⟩ := bind_t hf
  refine X_Vv (qX10_isWithin Z _ hc3_1) (Nat.le_of_ble_eq_true rfl) dX10_share_3 lvX10_86 rfl rfl ob0 (Nat.le_of_ble_eq_true rfl) ?_
  refine T_if_eq dX10_share_6 (fun c6_2 => ?_) (fun c6_2 => ?_)
  · replace hf := ite_t c6_2 hf
    refine T_const dX10_share_20 ?_
    obtain rfl := Option.some.inj hf
    exact X_ri dX10_share_21 ⟨rfl, rfl⟩
  · replace hf := ite_f c6_2 hf
    refine T_iload dX10_share_9 rfl ?_
    refine T_if_lt dX10_share_10 (fun c10_3 => ?_) (fun c10_3 => ?_)
    · replace hf := ite_t c10_3 hf
      refine T_const dX10_share_20 ?_
      obtain rfl := Option.some.inj hf
      exact X_ri dX10_share_21 ⟨rfl, rfl⟩
    · replace hf := ite_f c10_3 hf
      refine T_iload dX10_share_13 rfl ?_
      refine T_const dX10_share_14 ?_
      refine T_icmp_le dX10_share_17 (fun c17_4 => ?_) (fun c17_4 => ?_)
      · replace hf := ite_t c17_4 hf
        refine T_const dX10_share_22 ?_
        refine T_istore dX10_share_23 ?_
        show TX _ _ _ _ _ _ _ _ [_, _, _, _, _] _
        refine T_const dX10_share_24 ?_
        refine T_istore dX10_share_25 ?_
        show TX _ _ _ _ _ _ _ _ [_, _, _, _, _] _
        obtain ⟨q27_7, hc27_7, hf⟩ := bind_t hf
        refine X_wk (WK.s (WK.s (WK.s (WK.s (WK.s WK.e))))) (lX10_share_27 Z _ _ _ _ 2000 _ _ hc27_7 ?_)
        intro q27_7z hr
        subst hr
        refine T_iload dX10_share_51 rfl ?_
        refine T_if_ne dX10_share_52 (fun c52_8 => ?_) (fun c52_8 => ?_)
        · replace hf := ite_f c52_8 hf
          refine T_iload dX10_share_59 rfl ?_
          refine T_aload dX10_share_60 rfl ?_
          refine X_getr dX10_share_61 lfX10_35 rfl ob0 rfl ?_
          refine T_iload dX10_share_64 rfl ?_
          obtain ⟨q65_9, hc65_9, hf⟩ := bind_t hf
          refine X_Vv (qX8_claim Z _ sd15 hc65_9) (Nat.le_of_ble_eq_true rfl) dX10_share_65 lvX10_241 rfl rfl ob15 (Nat.le_of_ble_eq_true rfl) ?_
          refine T_imul dX10_share_68 ?_
          refine T_iload dX10_share_69 rfl ?_
          obtain ⟨h0, hf⟩ := opt_t hf
          refine T_idiv dX10_share_70 h0 ?_
          obtain rfl := Option.some.inj hf
          exact X_ri dX10_share_71 ⟨rfl, rfl⟩
        · replace hf := ite_t c52_8 hf
          refine T_const dX10_share_55 ?_
          refine T_goto dX10_share_56 ?_
          obtain rfl := Option.some.inj hf
          exact X_ri dX10_share_71 ⟨rfl, rfl⟩
      · replace hf := ite_f c17_4 hf
        refine T_const dX10_share_20 ?_
        obtain rfl := Option.some.inj hf
        exact X_ri dX10_share_21 ⟨rfl, rfl⟩
noncomputable def jX10_commonDivisor_21 (ih : Int32 → Option (Sum Int32 Unit)) (x : aH) (l1 : Int32) (l2 : Int32) (l3 : Int32) : Option (Sum Int32 Unit) := ih (l3 + (-1 : Int32))
noncomputable def sX10_commonDivisor_2 (x : aH) (l1 : Int32) (l2 : Int32) (ih : Int32 → Option (Sum Int32 Unit)) (l3 : Int32) : Option (Sum Int32 Unit) := if l3 ≤ (1 : Int32) then some (.inr ()) else if ¬ (l3 = (0 : Int32)) then if (l1 - l1 / l3 * l3) = (0 : Int32) then if ¬ (l3 = (0 : Int32)) then if (l2 - l2 / l3 * l3) = (0 : Int32) then some (.inl l3) else jX10_commonDivisor_21 ih x l1 l2 l3 else none else jX10_commonDivisor_21 ih x l1 l2 l3 else none
noncomputable def wX10_commonDivisor_2 (x : aH) (l1 : Int32) (l2 : Int32) : Nat → Int32 → Option (Sum Int32 Unit)
  | 0 => fun _ => none
  | n + 1 => sX10_commonDivisor_2 x l1 l2 (wX10_commonDivisor_2 x l1 l2 n)
noncomputable def fX10_commonDivisor (x : aH) (p1 : Int32) (p2 : Int32) : Option Int32 := (wX10_commonDivisor_2 x p1 p2 2000 p2).bind fun q2_4 => elS q2_4 (fun r => some r) (fun eq2_4 => some (1 : Int32))
theorem lX10_commonDivisor_2 (Z : aZ) (y : aH) (x : aH) (l1 : Int32) (l2 : Int32) {Q : Option Value → aH → Prop} {R : (Sum Int32 Unit)} : ∀ (n : Nat) (l3 : Int32), wX10_commonDivisor_2 x l1 l2 n l3 = some R → (∀ r, R = .inl r → Q (some (.int r)) x) → (∀ q, R = .inr q → TX true Z mX10_commonDivisor 0 y x Q 27 [.null, .null, .null, .null] []) → TX true Z mX10_commonDivisor 0 y x Q 2 [.null, .int l1, .int l2, .int l3] [] := by
  intro n
  induction n with
  | zero => intro l3 hf; cases hf
  | succ n ih =>
    intro l3 hf kr ke
    replace hf : sX10_commonDivisor_2 x l1 l2 (wX10_commonDivisor_2 x l1 l2 n) l3 = some R := hf
    delta sX10_commonDivisor_2 at hf
    refine T_iload dX10_commonDivisor_2 rfl ?_
    refine T_const dX10_commonDivisor_3 ?_
    refine T_icmp_le dX10_commonDivisor_4 (fun c4_1 => ?_) (fun c4_1 => ?_)
    · replace hf := ite_t c4_1 hf
      exact X_wk (WK.n (WK.n (WK.n (WK.n WK.e)))) (ke () (Option.some.inj hf).symm)
    · replace hf := ite_f c4_1 hf
      refine T_iload dX10_commonDivisor_7 rfl ?_
      refine T_iload dX10_commonDivisor_8 rfl ?_
      obtain ⟨h0, hf⟩ := opt_t hf
      refine T_irem dX10_commonDivisor_9 h0 ?_
      have J21 : ∀ (l3 : Int32), jX10_commonDivisor_21 (wX10_commonDivisor_2 x l1 l2 n) x l1 l2 l3 = some R → TX true Z mX10_commonDivisor 0 y x Q 21 [.null, .int l1, .int l2, .int l3] [] := by
        intro l3 hf
        delta jX10_commonDivisor_21 at hf
        refine T_iinc dX10_commonDivisor_21 rfl ?_
        show TX _ _ _ _ _ _ _ _ [_, _, _, _] _
        refine T_goto dX10_commonDivisor_24 ?_
        exact X_wk (WK.n (WK.s (WK.s (WK.s WK.e)))) (ih _ hf kr ke)
      refine T_if_ne dX10_commonDivisor_10 (fun c10_2 => ?_) (fun c10_2 => ?_)
      · replace hf := ite_f c10_2 hf
        exact X_wk (WK.n (WK.s (WK.s (WK.s WK.e)))) (J21 _ hf)
      · replace hf := ite_t c10_2 hf
        refine T_iload dX10_commonDivisor_13 rfl ?_
        refine T_iload dX10_commonDivisor_14 rfl ?_
        obtain ⟨h0, hf⟩ := opt_t hf
        refine T_irem dX10_commonDivisor_15 h0 ?_
        refine T_if_ne dX10_commonDivisor_16 (fun c16_3 => ?_) (fun c16_3 => ?_)
        · replace hf := ite_f c16_3 hf
          exact X_wk (WK.n (WK.s (WK.s (WK.s WK.e)))) (J21 _ hf)
        · replace hf := ite_t c16_3 hf
          refine T_iload dX10_commonDivisor_19 rfl ?_
          exact X_ri dX10_commonDivisor_20 (kr l3 (Option.some.inj hf).symm)
theorem qX10_commonDivisor (Z : aZ) (y : aH) {x : aH} {p1 : Int32} {p2 : Int32} {q : Int32} (hf : fX10_commonDivisor x p1 p2 = some q) : CX true Z mX10_commonDivisor 0 [.ref 0, .int p1, .int p2] y x (RV (.int q) x) := by
  refine CX.of mokX10_commonDivisor (Nat.le_of_ble_eq_true rfl) ?_
  show TX _ _ _ _ _ _ _ _ [_, _, _, _] _
  delta fX10_commonDivisor at hf
  refine T_iload dX10_commonDivisor_0 rfl ?_
  refine T_istore dX10_commonDivisor_1 ?_
  show TX _ _ _ _ _ _ _ _ [_, _, _, _] _
  obtain ⟨q2_4, hc2_4, hf⟩ := bind_t hf
  refine X_wk (WK.n (WK.s (WK.s (WK.s WK.e)))) (lX10_commonDivisor_2 Z _ _ _ _ 2000 _ hc2_4 ?_ ?_)
  · intro r hr
    subst hr
    replace hf := elS_l hf
    obtain rfl := Option.some.inj hf
    exact ⟨rfl, rfl⟩
  · intro eq2_4 hr
    subst hr
    replace hf := elS_r hf
    refine T_const dX10_commonDivisor_27 ?_
    obtain rfl := Option.some.inj hf
    exact X_ri dX10_commonDivisor_28 ⟨rfl, rfl⟩
noncomputable def jX10_heard_69 (x : aH) (l5 : Int32) (l6 : Int32) (s0 : Int32) : Option Int64 := (fX10_commonDivisor x l6 l5).bind fun q74_10 => if ¬ (q74_10 = (0 : Int32)) then some (Int32.toInt64 (s0 / q74_10)) else none
noncomputable def fX10_heard (x : aH) (p1 : Int32) (p2 : Int32) : Option Int64 := (fX10_isWay x p1).bind fun q2_1 => if q2_1 = (0 : Int32) then some (-9223372036854775808 : Int64) else if p2 < (0 : Int32) then some (-9223372036854775808 : Int64) else if p2 ≤ (1 : Int32) then (fX5_lit x p1).bind fun q26_5 => (fJ13_bitCount_95d88 q26_5).bind fun q31_6 => (fX5_flat x).bind fun q41_7 => (fJ13_bitCount_95d88 (q26_5 &&& q41_7)).bind fun q45_8 => if q31_6 = (0 : Int32) then some (Int32.toInt64 p2) else if p2 = (0 : Int32) then jX10_heard_69 x q31_6 q45_8 q45_8 else jX10_heard_69 x q31_6 q45_8 q31_6 else some (-9223372036854775808 : Int64)
theorem qX10_heard (Z : aZ) (y : aH) {x : aH} {p1 : Int32} {p2 : Int32} {q : Int64} (hf : fX10_heard x p1 p2 = some q) : CX true Z mX10_heard 2 [.ref 0, .int p1, .int p2] y x (RV (.long q) x) := by
  refine CX.of mokX10_heard (Nat.le_of_ble_eq_true rfl) ?_
  show TX _ _ _ _ _ _ _ _ [_, _, _, _, _, _, _] _
  delta fX10_heard at hf
  refine T_aload dX10_heard_0 rfl ?_
  refine T_iload dX10_heard_1 rfl ?_
  obtain ⟨q2_1, hc2_1, hf⟩ := bind_t hf
  refine X_Vv (qX10_isWay Z _ hc2_1) (Nat.le_of_ble_eq_true rfl) dX10_heard_2 lvX10_157 rfl rfl ob0 (Nat.le_of_ble_eq_true rfl) ?_
  refine T_if_eq dX10_heard_5 (fun c5_2 => ?_) (fun c5_2 => ?_)
  · replace hf := ite_t c5_2 hf
    refine T_constL dX10_heard_17 ?_
    obtain rfl := Option.some.inj hf
    exact X_rl dX10_heard_20 ⟨rfl, rfl⟩
  · replace hf := ite_f c5_2 hf
    refine T_iload dX10_heard_8 rfl ?_
    refine T_if_lt dX10_heard_9 (fun c9_3 => ?_) (fun c9_3 => ?_)
    · replace hf := ite_t c9_3 hf
      refine T_constL dX10_heard_17 ?_
      obtain rfl := Option.some.inj hf
      exact X_rl dX10_heard_20 ⟨rfl, rfl⟩
    · replace hf := ite_f c9_3 hf
      refine T_iload dX10_heard_12 rfl ?_
      refine T_const dX10_heard_13 ?_
      refine T_icmp_le dX10_heard_14 (fun c14_4 => ?_) (fun c14_4 => ?_)
      · replace hf := ite_t c14_4 hf
        refine T_aload dX10_heard_21 rfl ?_
        refine X_getr dX10_heard_22 lfX10_10 rfl ob0 rfl ?_
        refine T_iload dX10_heard_25 rfl ?_
        obtain ⟨q26_5, hc26_5, hf⟩ := bind_t hf
        refine X_Vv (qX5_lit Z _ hc26_5) (Nat.le_of_ble_eq_true rfl) dX10_heard_26 lvX10_160 rfl rfl ob1 (Nat.le_of_ble_eq_true rfl) ?_
        refine T_lstore dX10_heard_29 ?_
        show TX _ _ _ _ _ _ _ _ [_, _, _, _, _, _, _] _
        refine T_lload dX10_heard_30 rfl ?_
        obtain ⟨q31_6, hc31_6, hf⟩ := bind_t hf
        refine X_Sv (qJ13_bitCount_95d88 _ Z _ _ hc31_6) (Nat.le_of_ble_eq_true rfl) dX10_heard_31 lsX10_244 rfl rfl (Nat.le_of_ble_eq_true rfl) ?_
        refine T_istore dX10_heard_34 ?_
        show TX _ _ _ _ _ _ _ _ [_, _, _, _, _, _, _] _
        refine T_lload dX10_heard_36 rfl ?_
        refine T_aload dX10_heard_37 rfl ?_
        refine X_getr dX10_heard_38 lfX10_10 rfl ob0 rfl ?_
        obtain ⟨q41_7, hc41_7, hf⟩ := bind_t hf
        refine X_Vv (qX5_flat Z _ hc41_7) (Nat.le_of_ble_eq_true rfl) dX10_heard_41 lvX10_250 rfl rfl ob1 (Nat.le_of_ble_eq_true rfl) ?_
        refine T_land dX10_heard_44 ?_
        obtain ⟨q45_8, hc45_8, hf⟩ := bind_t hf
        refine X_Sv (qJ13_bitCount_95d88 _ Z _ _ hc45_8) (Nat.le_of_ble_eq_true rfl) dX10_heard_45 lsX10_244 rfl rfl (Nat.le_of_ble_eq_true rfl) ?_
        refine T_istore dX10_heard_48 ?_
        show TX _ _ _ _ _ _ _ _ [_, _, _, _, _, _, _] _
        refine T_iload dX10_heard_50 rfl ?_
        refine T_if_ne dX10_heard_52 (fun c52_9 => ?_) (fun c52_9 => ?_)
        · replace hf := ite_f c52_9 hf
          refine T_iload dX10_heard_58 rfl ?_
          have J69 : ∀ (l5 : Int32) (l6 : Int32) (s0 : Int32), jX10_heard_69 x l5 l6 s0 = some q → TX true Z mX10_heard 2 y x (RV (.long q) x) 69 [.ref 0, .null, .null, .null, .null, .int l5, .int l6] [.int s0] := by
            intro l5 l6 s0 hf
            delta jX10_heard_69 at hf
            refine T_aload dX10_heard_69 rfl ?_
            refine T_iload dX10_heard_70 rfl ?_
            refine T_iload dX10_heard_72 rfl ?_
            obtain ⟨q74_10, hc74_10, hf⟩ := bind_t hf
            refine X_Vv (qX10_commonDivisor Z _ hc74_10) (Nat.le_of_ble_eq_true rfl) dX10_heard_74 lvX10_254 rfl rfl ob0 (Nat.le_of_ble_eq_true rfl) ?_
            obtain ⟨h0, hf⟩ := opt_t hf
            refine T_idiv dX10_heard_77 h0 ?_
            refine T_i2l dX10_heard_78 ?_
            obtain rfl := Option.some.inj hf
            exact X_rl dX10_heard_79 ⟨rfl, rfl⟩
          refine T_if_ne dX10_heard_59 (fun c59_11 => ?_) (fun c59_11 => ?_)
          · replace hf := ite_f c59_11 hf
            refine T_iload dX10_heard_67 rfl ?_
            exact X_wk (WK.s (WK.n (WK.n (WK.n (WK.n (WK.s (WK.s WK.e))))))) (J69 _ _ _ hf)
          · replace hf := ite_t c59_11 hf
            refine T_iload dX10_heard_62 rfl ?_
            refine T_goto dX10_heard_64 ?_
            exact X_wk (WK.s (WK.n (WK.n (WK.n (WK.n (WK.s (WK.s WK.e))))))) (J69 _ _ _ hf)
        · replace hf := ite_t c52_9 hf
          refine T_iload dX10_heard_55 rfl ?_
          refine T_i2l dX10_heard_56 ?_
          obtain rfl := Option.some.inj hf
          exact X_rl dX10_heard_57 ⟨rfl, rfl⟩
      · replace hf := ite_f c14_4 hf
        refine T_constL dX10_heard_17 ?_
        obtain rfl := Option.some.inj hf
        exact X_rl dX10_heard_20 ⟨rfl, rfl⟩
noncomputable def fX10_byTurns (x : aH) (p1 : Int32) (p2 : Int32) (p3 : Int32) : Option (Int32 × aH) := (fX10_isWithin x (1 : Int32) p1).bind fun q3_1 => if q3_1 = (0 : Int32) then some ((-2000000000 : Int32), x) else if p2 < (1 : Int32) then some ((-2000000000 : Int32), x) else if (4 : Int32) < p2 then some ((-2000000000 : Int32), x) else if p3 < (0 : Int32) then some ((-2000000000 : Int32), x) else if p3 ≤ (1 : Int32) then (fX6_turnAbout x 15 p1 p2).bind fun q42_7 => if p3 = (0 : Int32) then some (q42_7.1, q42_7.2) else some ((fi q42_7.2 23 5), q42_7.2) else some ((-2000000000 : Int32), x)
theorem qX10_byTurns (Z : aZ) (y : aH) {x : aH} {p1 : Int32} {p2 : Int32} {p3 : Int32} {q : (Int32 × aH)} (hf : fX10_byTurns x p1 p2 p3 = some q) : CX true Z mX10_byTurns 6 [.ref 0, .int p1, .int p2, .int p3] y x (RV (.int q.1) q.2) := by
  refine CX.of mokX10_byTurns (Nat.le_of_ble_eq_true rfl) ?_
  show TX _ _ _ _ _ _ _ _ [_, _, _, _, _] _
  delta fX10_byTurns at hf
  refine T_aload dX10_byTurns_0 rfl ?_
  refine T_const dX10_byTurns_1 ?_
  refine T_iload dX10_byTurns_2 rfl ?_
  obtain ⟨q3_1, hc3_1, hf⟩ := bind_t hf
  refine X_Vv (qX10_isWithin Z _ hc3_1) (Nat.le_of_ble_eq_true rfl) dX10_byTurns_3 lvX10_86 rfl rfl ob0 (Nat.le_of_ble_eq_true rfl) ?_
  refine T_if_eq dX10_byTurns_6 (fun c6_2 => ?_) (fun c6_2 => ?_)
  · replace hf := ite_t c6_2 hf
    refine T_const dX10_byTurns_28 ?_
    obtain rfl := Option.some.inj hf
    exact X_ri dX10_byTurns_31 ⟨rfl, rfl⟩
  · replace hf := ite_f c6_2 hf
    refine T_iload dX10_byTurns_9 rfl ?_
    refine T_const dX10_byTurns_10 ?_
    refine T_icmp_lt dX10_byTurns_11 (fun c11_3 => ?_) (fun c11_3 => ?_)
    · replace hf := ite_t c11_3 hf
      refine T_const dX10_byTurns_28 ?_
      obtain rfl := Option.some.inj hf
      exact X_ri dX10_byTurns_31 ⟨rfl, rfl⟩
    · replace hf := ite_f c11_3 hf
      refine T_iload dX10_byTurns_14 rfl ?_
      refine T_const dX10_byTurns_15 ?_
      refine T_icmp_gt dX10_byTurns_16 (fun c16_4 => ?_) (fun c16_4 => ?_)
      · replace hf := ite_t c16_4 hf
        refine T_const dX10_byTurns_28 ?_
        obtain rfl := Option.some.inj hf
        exact X_ri dX10_byTurns_31 ⟨rfl, rfl⟩
      · replace hf := ite_f c16_4 hf
        refine T_iload dX10_byTurns_19 rfl ?_
        refine T_if_lt dX10_byTurns_20 (fun c20_5 => ?_) (fun c20_5 => ?_)
        · replace hf := ite_t c20_5 hf
          refine T_const dX10_byTurns_28 ?_
          obtain rfl := Option.some.inj hf
          exact X_ri dX10_byTurns_31 ⟨rfl, rfl⟩
        · replace hf := ite_f c20_5 hf
          refine T_iload dX10_byTurns_23 rfl ?_
          refine T_const dX10_byTurns_24 ?_
          refine T_icmp_le dX10_byTurns_25 (fun c25_6 => ?_) (fun c25_6 => ?_)
          · replace hf := ite_t c25_6 hf
            refine T_aload dX10_byTurns_32 rfl ?_
            refine X_getr dX10_byTurns_33 lfX10_45 rfl ob0 rfl ?_
            refine T_aload dX10_byTurns_36 rfl ?_
            refine X_getr dX10_byTurns_37 lfX10_35 rfl ob0 rfl ?_
            refine T_iload dX10_byTurns_40 rfl ?_
            refine T_iload dX10_byTurns_41 rfl ?_
            obtain ⟨q42_7, hc42_7, hf⟩ := bind_t hf
            refine X_Vv (qX6_turnAbout Z _ sd15 hc42_7) (Nat.le_of_ble_eq_true rfl) dX10_byTurns_42 lvX10_258 rfl rfl ob23 (Nat.le_of_ble_eq_true rfl) ?_
            refine T_istore dX10_byTurns_45 ?_
            show TX _ _ _ _ _ _ _ _ [_, _, _, _, _] _
            refine T_iload dX10_byTurns_47 rfl ?_
            refine T_if_ne dX10_byTurns_48 (fun c48_8 => ?_) (fun c48_8 => ?_)
            · replace hf := ite_f c48_8 hf
              refine T_aload dX10_byTurns_56 rfl ?_
              refine X_getr dX10_byTurns_57 lfX10_45 rfl ob0 rfl ?_
              refine X_getf dX10_byTurns_60 lfX10_262 rfl ob23 ?_
              obtain rfl := Option.some.inj hf
              exact X_ri dX10_byTurns_63 ⟨rfl, rfl⟩
            · replace hf := ite_t c48_8 hf
              refine T_iload dX10_byTurns_51 rfl ?_
              refine T_goto dX10_byTurns_53 ?_
              obtain rfl := Option.some.inj hf
              exact X_ri dX10_byTurns_63 ⟨rfl, rfl⟩
          · replace hf := ite_f c25_6 hf
            refine T_const dX10_byTurns_28 ?_
            obtain rfl := Option.some.inj hf
            exact X_ri dX10_byTurns_31 ⟨rfl, rfl⟩
noncomputable def jX10_drawn_76 (x : aH) (l1 : Int32) (l3 : Int32) (l4 : Int32) (l5 : Int32) (l6 : Int32) : Option (Int32 × aH) := (fX6_draw x 15 l1 l4 l5 l6).bind fun q91_7 => if l3 = (-1 : Int32) then (fX6_homeInAll q91_7).bind fun q103_10 => some (q103_10, q91_7) else if (0 : Int32) ≤ l3 ∧ l3 < (10 : Int32) then some ((ri q91_7 26 (ix l3)), q91_7) else none
noncomputable def fX10_drawn (x : aH) (p1 : Int32) (p2 : Int32) (p3 : Int32) : Option (Int32 × aH) := if p2 < (0 : Int32) then some ((-1 : Int32), x) else if (p2 / (10000 : Int32)) < (1 : Int32) then some ((-1 : Int32), x) else if (30 : Int32) < (p2 / (10000 : Int32)) then some ((-1 : Int32), x) else if ((p2 / (100 : Int32)) - (p2 / (100 : Int32)) / (100 : Int32) * (100 : Int32)) < (1 : Int32) then some ((-1 : Int32), x) else if (30 : Int32) < ((p2 / (100 : Int32)) - (p2 / (100 : Int32)) / (100 : Int32) * (100 : Int32)) then some ((-1 : Int32), x) else if (p2 - p2 / (100 : Int32) * (100 : Int32)) ≤ (12 : Int32) then if p3 = (-1 : Int32) then jX10_drawn_76 x p1 p3 (p2 / (10000 : Int32)) ((p2 / (100 : Int32)) - (p2 / (100 : Int32)) / (100 : Int32) * (100 : Int32)) (p2 - p2 / (100 : Int32) * (100 : Int32)) else (fX10_isLost x p3).bind fun q68_12 => if q68_12 = (0 : Int32) then some ((-1 : Int32), x) else jX10_drawn_76 x p1 p3 (p2 / (10000 : Int32)) ((p2 / (100 : Int32)) - (p2 / (100 : Int32)) / (100 : Int32) * (100 : Int32)) (p2 - p2 / (100 : Int32) * (100 : Int32)) else some ((-1 : Int32), x)
theorem qX10_drawn (Z : aZ) (y : aH) {x : aH} {p1 : Int32} {p2 : Int32} {p3 : Int32} {q : (Int32 × aH)} (hf : fX10_drawn x p1 p2 p3 = some q) : CX true Z mX10_drawn 5 [.ref 0, .int p1, .int p2, .int p3] y x (RV (.int q.1) q.2) := by
  refine CX.of mokX10_drawn (Nat.le_of_ble_eq_true rfl) ?_
  show TX _ _ _ _ _ _ _ _ [_, _, _, _, _, _, _] _
  delta fX10_drawn at hf
  refine T_iload dX10_drawn_0 rfl ?_
  refine T_const dX10_drawn_1 ?_
  refine T_idiv dX10_drawn_4 (by decide) ?_
  refine T_istore dX10_drawn_5 ?_
  show TX _ _ _ _ _ _ _ _ [_, _, _, _, _, _, _] _
  refine T_iload dX10_drawn_7 rfl ?_
  refine T_const dX10_drawn_8 ?_
  refine T_idiv dX10_drawn_10 (by decide) ?_
  refine T_const dX10_drawn_11 ?_
  refine T_irem dX10_drawn_13 (by decide) ?_
  refine T_istore dX10_drawn_14 ?_
  show TX _ _ _ _ _ _ _ _ [_, _, _, _, _, _, _] _
  refine T_iload dX10_drawn_16 rfl ?_
  refine T_const dX10_drawn_17 ?_
  refine T_irem dX10_drawn_19 (by decide) ?_
  refine T_istore dX10_drawn_20 ?_
  show TX _ _ _ _ _ _ _ _ [_, _, _, _, _, _, _] _
  refine T_iload dX10_drawn_22 rfl ?_
  refine T_if_lt dX10_drawn_23 (fun c23_1 => ?_) (fun c23_1 => ?_)
  · replace hf := ite_t c23_1 hf
    refine T_const dX10_drawn_59 ?_
    obtain rfl := Option.some.inj hf
    exact X_ri dX10_drawn_60 ⟨rfl, rfl⟩
  · replace hf := ite_f c23_1 hf
    refine T_iload dX10_drawn_26 rfl ?_
    refine T_const dX10_drawn_28 ?_
    refine T_icmp_lt dX10_drawn_29 (fun c29_2 => ?_) (fun c29_2 => ?_)
    · replace hf := ite_t c29_2 hf
      refine T_const dX10_drawn_59 ?_
      obtain rfl := Option.some.inj hf
      exact X_ri dX10_drawn_60 ⟨rfl, rfl⟩
    · replace hf := ite_f c29_2 hf
      refine T_iload dX10_drawn_32 rfl ?_
      refine T_const dX10_drawn_34 ?_
      refine T_icmp_gt dX10_drawn_36 (fun c36_3 => ?_) (fun c36_3 => ?_)
      · replace hf := ite_t c36_3 hf
        refine T_const dX10_drawn_59 ?_
        obtain rfl := Option.some.inj hf
        exact X_ri dX10_drawn_60 ⟨rfl, rfl⟩
      · replace hf := ite_f c36_3 hf
        refine T_iload dX10_drawn_39 rfl ?_
        refine T_const dX10_drawn_41 ?_
        refine T_icmp_lt dX10_drawn_42 (fun c42_4 => ?_) (fun c42_4 => ?_)
        · replace hf := ite_t c42_4 hf
          refine T_const dX10_drawn_59 ?_
          obtain rfl := Option.some.inj hf
          exact X_ri dX10_drawn_60 ⟨rfl, rfl⟩
        · replace hf := ite_f c42_4 hf
          refine T_iload dX10_drawn_45 rfl ?_
          refine T_const dX10_drawn_47 ?_
          refine T_icmp_gt dX10_drawn_49 (fun c49_5 => ?_) (fun c49_5 => ?_)
          · replace hf := ite_t c49_5 hf
            refine T_const dX10_drawn_59 ?_
            obtain rfl := Option.some.inj hf
            exact X_ri dX10_drawn_60 ⟨rfl, rfl⟩
          · replace hf := ite_f c49_5 hf
            refine T_iload dX10_drawn_52 rfl ?_
            refine T_const dX10_drawn_54 ?_
            refine T_icmp_le dX10_drawn_56 (fun c56_6 => ?_) (fun c56_6 => ?_)
            · replace hf := ite_t c56_6 hf
              refine T_iload dX10_drawn_61 rfl ?_
              refine T_const dX10_drawn_62 ?_
              have J76 : ∀ (x : aH) (l1 : Int32) (l3 : Int32) (l4 : Int32) (l5 : Int32) (l6 : Int32), jX10_drawn_76 x l1 l3 l4 l5 l6 = some q → TX true Z mX10_drawn 5 y x (RV (.int q.1) q.2) 76 [.ref 0, .int l1, .null, .int l3, .int l4, .int l5, .int l6] [] := by
                intro x l1 l3 l4 l5 l6 hf
                delta jX10_drawn_76 at hf
                refine T_aload dX10_drawn_76 rfl ?_
                refine X_getr dX10_drawn_77 lfX10_45 rfl ob0 rfl ?_
                refine T_aload dX10_drawn_80 rfl ?_
                refine X_getr dX10_drawn_81 lfX10_35 rfl ob0 rfl ?_
                refine T_iload dX10_drawn_84 rfl ?_
                refine T_iload dX10_drawn_85 rfl ?_
                refine T_iload dX10_drawn_87 rfl ?_
                refine T_iload dX10_drawn_89 rfl ?_
                obtain ⟨q91_7, hc91_7, hf⟩ := bind_t hf
                refine X_Vn (qX6_draw Z _ sd15 hc91_7) (Nat.le_of_ble_eq_true rfl) dX10_drawn_91 lvX10_265 rfl rfl ob23 (Nat.le_of_ble_eq_true rfl) ?_
                refine T_iload dX10_drawn_94 rfl ?_
                refine T_const dX10_drawn_95 ?_
                refine T_icmp_ne dX10_drawn_96 (fun c96_8 => ?_) (fun c96_8 => ?_)
                · replace hf := ite_f c96_8 hf
                  refine T_aload dX10_drawn_109 rfl ?_
                  refine X_getr dX10_drawn_110 lfX10_45 rfl ob0 rfl ?_
                  refine X_getr dX10_drawn_113 lfX10_272 rfl ob23 rfl ?_
                  refine T_iload dX10_drawn_116 rfl ?_
                  obtain ⟨hb117_9, hf⟩ := opt_t hf
                  refine X_iald (N := 10) dX10_drawn_117 ar26 rfl hb117_9 ?_
                  obtain rfl := Option.some.inj hf
                  exact X_ri dX10_drawn_118 ⟨rfl, rfl⟩
                · replace hf := ite_t c96_8 hf
                  refine T_aload dX10_drawn_99 rfl ?_
                  refine X_getr dX10_drawn_100 lfX10_45 rfl ob0 rfl ?_
                  obtain ⟨q103_10, hc103_10, hf⟩ := bind_t hf
                  refine X_Vv (qX6_homeInAll Z _ hc103_10) (Nat.le_of_ble_eq_true rfl) dX10_drawn_103 lvX10_269 rfl rfl ob23 (Nat.le_of_ble_eq_true rfl) ?_
                  refine T_goto dX10_drawn_106 ?_
                  obtain rfl := Option.some.inj hf
                  exact X_ri dX10_drawn_118 ⟨rfl, rfl⟩
              refine T_icmp_eq dX10_drawn_63 (fun c63_11 => ?_) (fun c63_11 => ?_)
              · replace hf := ite_t c63_11 hf
                exact X_wk (WK.s (WK.s (WK.n (WK.s (WK.s (WK.s (WK.s WK.e))))))) (J76 _ _ _ _ _ _ hf)
              · replace hf := ite_f c63_11 hf
                refine T_aload dX10_drawn_66 rfl ?_
                refine T_iload dX10_drawn_67 rfl ?_
                obtain ⟨q68_12, hc68_12, hf⟩ := bind_t hf
                refine X_Vv (qX10_isLost Z _ hc68_12) (Nat.le_of_ble_eq_true rfl) dX10_drawn_68 lvX10_151 rfl rfl ob0 (Nat.le_of_ble_eq_true rfl) ?_
                refine T_if_ne dX10_drawn_71 (fun c71_13 => ?_) (fun c71_13 => ?_)
                · replace hf := ite_f c71_13 hf
                  exact X_wk (WK.s (WK.s (WK.n (WK.s (WK.s (WK.s (WK.s WK.e))))))) (J76 _ _ _ _ _ _ hf)
                · replace hf := ite_t c71_13 hf
                  refine T_const dX10_drawn_74 ?_
                  obtain rfl := Option.some.inj hf
                  exact X_ri dX10_drawn_75 ⟨rfl, rfl⟩
            · replace hf := ite_f c56_6 hf
              refine T_const dX10_drawn_59 ?_
              obtain rfl := Option.some.inj hf
              exact X_ri dX10_drawn_60 ⟨rfl, rfl⟩
noncomputable def jX10_night_13 (x : aH) (l1 : Int32) : Option (Int32 × aH) := (fX8_pass x 15 l1).bind fun q18_1 => some (q18_1.1, q18_1.2)
noncomputable def fX10_night (x : aH) (p1 : Int32) : Option (Int32 × aH) := if p1 = (4 : Int32) then jX10_night_13 x p1 else (fX10_isWay x p1).bind fun q7_3 => if q7_3 = (0 : Int32) then some ((-1 : Int32), x) else jX10_night_13 x p1
theorem qX10_night (Z : aZ) (y : aH) {x : aH} {p1 : Int32} {q : (Int32 × aH)} (hf : fX10_night x p1 = some q) : CX true Z mX10_night 4 [.ref 0, .int p1] y x (RV (.int q.1) q.2) := by
  refine CX.of mokX10_night (Nat.le_of_ble_eq_true rfl) ?_
  show TX _ _ _ _ _ _ _ _ [_, _] _
  delta fX10_night at hf
  refine T_iload dX10_night_0 rfl ?_
  refine T_const dX10_night_1 ?_
  have J13 : ∀ (x : aH) (l1 : Int32), jX10_night_13 x l1 = some q → TX true Z mX10_night 4 y x (RV (.int q.1) q.2) 13 [.ref 0, .int l1] [] := by
    intro x l1 hf
    delta jX10_night_13 at hf
    refine T_aload dX10_night_13 rfl ?_
    refine X_getr dX10_night_14 lfX10_35 rfl ob0 rfl ?_
    refine T_iload dX10_night_17 rfl ?_
    obtain ⟨q18_1, hc18_1, hf⟩ := bind_t hf
    refine X_Vv (qX8_pass Z _ sd15 hc18_1) (Nat.le_of_ble_eq_true rfl) dX10_night_18 lvX10_275 rfl rfl ob15 (Nat.le_of_ble_eq_true rfl) ?_
    refine T_goto dX10_night_21 ?_
    obtain rfl := Option.some.inj hf
    exact X_ri dX10_night_25 ⟨rfl, rfl⟩
  refine T_icmp_eq dX10_night_2 (fun c2_2 => ?_) (fun c2_2 => ?_)
  · replace hf := ite_t c2_2 hf
    exact X_wk (WK.s (WK.s WK.e)) (J13 _ _ hf)
  · replace hf := ite_f c2_2 hf
    refine T_aload dX10_night_5 rfl ?_
    refine T_iload dX10_night_6 rfl ?_
    obtain ⟨q7_3, hc7_3, hf⟩ := bind_t hf
    refine X_Vv (qX10_isWay Z _ hc7_3) (Nat.le_of_ble_eq_true rfl) dX10_night_7 lvX10_157 rfl rfl ob0 (Nat.le_of_ble_eq_true rfl) ?_
    refine T_if_eq dX10_night_10 (fun c10_4 => ?_) (fun c10_4 => ?_)
    · replace hf := ite_t c10_4 hf
      refine T_const dX10_night_24 ?_
      obtain rfl := Option.some.inj hf
      exact X_ri dX10_night_25 ⟨rfl, rfl⟩
    · replace hf := ite_f c10_4 hf
      exact X_wk (WK.s (WK.s WK.e)) (J13 _ _ hf)
noncomputable def fX10_oil (x : aH) (p1 : Int32) : Option (Int32 × aH) := if p1 < (1 : Int32) then some ((-1 : Int32), x) else if p1 ≤ (999 : Int32) then some ((fi (sri (sfi x 15 7 (if ((fi x 15 7) + p1) < (999 : Int32) then ((fi x 15 7) + p1) else (999 : Int32))) 17 (ix (4 : Int32)) ((ri (sfi x 15 7 (if ((fi x 15 7) + p1) < (999 : Int32) then ((fi x 15 7) + p1) else (999 : Int32))) 17 (ix (4 : Int32))) + p1)) 15 7), (sri (sfi x 15 7 (if ((fi x 15 7) + p1) < (999 : Int32) then ((fi x 15 7) + p1) else (999 : Int32))) 17 (ix (4 : Int32)) ((ri (sfi x 15 7 (if ((fi x 15 7) + p1) < (999 : Int32) then ((fi x 15 7) + p1) else (999 : Int32))) 17 (ix (4 : Int32))) + p1))) else some ((-1 : Int32), x)
theorem qX10_oil (Z : aZ) (y : aH) {x : aH} {p1 : Int32} {q : (Int32 × aH)} (hf : fX10_oil x p1 = some q) : CX true Z mX10_oil 0 [.ref 0, .int p1] y x (RV (.int q.1) q.2) := by
  refine CX.of mokX10_oil (Nat.le_of_ble_eq_true rfl) ?_
  show TX _ _ _ _ _ _ _ _ [_, _] _
  delta fX10_oil at hf
  refine T_iload dX10_oil_0 rfl ?_
  refine T_const dX10_oil_1 ?_
  refine T_icmp_lt dX10_oil_2 (fun c2_1 => ?_) (fun c2_1 => ?_)
  · replace hf := ite_t c2_1 hf
    refine T_const dX10_oil_12 ?_
    obtain rfl := Option.some.inj hf
    exact X_ri dX10_oil_13 ⟨rfl, rfl⟩
  · replace hf := ite_f c2_1 hf
    refine T_iload dX10_oil_5 rfl ?_
    refine T_const dX10_oil_6 ?_
    refine T_icmp_le dX10_oil_9 (fun c9_2 => ?_) (fun c9_2 => ?_)
    · replace hf := ite_t c9_2 hf
      refine T_aload dX10_oil_14 rfl ?_
      refine X_getr dX10_oil_15 lfX10_35 rfl ob0 rfl ?_
      refine T_const dX10_oil_18 ?_
      refine T_aload dX10_oil_21 rfl ?_
      refine X_getr dX10_oil_22 lfX10_35 rfl ob0 rfl ?_
      refine X_getf dX10_oil_25 lfX10_186 rfl ob15 ?_
      refine T_iload dX10_oil_28 rfl ?_
      refine T_iadd dX10_oil_29 ?_
      refine T_min dX10_oil_30 lmX10_278 (Nat.le_of_ble_eq_true rfl) ?_
      refine X_putf dX10_oil_33 lfX10_186 rfl rfl ob15 ⟨rfl, rfl⟩ ?_
      refine T_aload dX10_oil_36 rfl ?_
      refine X_getr dX10_oil_37 lfX10_35 rfl ob0 rfl ?_
      refine X_getr dX10_oil_40 lfX10_283 rfl ob15 rfl ?_
      refine T_const dX10_oil_43 ?_
      refine T_dup2 dX10_oil_44 rfl rfl ?_
      refine X_iald (N := 5) dX10_oil_45 ar17 rfl (by decide) ?_
      refine T_iload dX10_oil_46 rfl ?_
      refine T_iadd dX10_oil_47 ?_
      refine X_iast (N := 5) dX10_oil_48 ar17 rfl (by decide) ?_
      refine T_aload dX10_oil_49 rfl ?_
      refine X_getr dX10_oil_50 lfX10_35 rfl ob0 rfl ?_
      refine X_getf dX10_oil_53 lfX10_186 rfl ob15 ?_
      obtain rfl := Option.some.inj hf
      exact X_ri dX10_oil_56 ⟨rfl, rfl⟩
    · replace hf := ite_f c9_2 hf
      refine T_const dX10_oil_12 ?_
      obtain rfl := Option.some.inj hf
      exact X_ri dX10_oil_13 ⟨rfl, rfl⟩
noncomputable def fX10_led (x : aH) (p1 : Int32) : Option Int32 := if p1 < (0 : Int32) then some (-1 : Int32) else if p1 < (5 : Int32) then if (0 : Int32) ≤ p1 ∧ p1 < (5 : Int32) then some (ri x 17 (ix p1)) else none else some (-1 : Int32)
theorem qX10_led (Z : aZ) (y : aH) {x : aH} {p1 : Int32} {q : Int32} (hf : fX10_led x p1 = some q) : CX true Z mX10_led 0 [.ref 0, .int p1] y x (RV (.int q) x) := by
  refine CX.of mokX10_led (Nat.le_of_ble_eq_true rfl) ?_
  show TX _ _ _ _ _ _ _ _ [_, _] _
  delta fX10_led at hf
  refine T_iload dX10_led_0 rfl ?_
  refine T_if_lt dX10_led_1 (fun c1_1 => ?_) (fun c1_1 => ?_)
  · replace hf := ite_t c1_1 hf
    refine T_const dX10_led_9 ?_
    refine T_goto dX10_led_10 ?_
    obtain rfl := Option.some.inj hf
    exact X_ri dX10_led_22 ⟨rfl, rfl⟩
  · replace hf := ite_f c1_1 hf
    refine T_iload dX10_led_4 rfl ?_
    refine T_const dX10_led_5 ?_
    refine T_icmp_lt dX10_led_6 (fun c6_2 => ?_) (fun c6_2 => ?_)
    · replace hf := ite_t c6_2 hf
      refine T_aload dX10_led_13 rfl ?_
      refine X_getr dX10_led_14 lfX10_35 rfl ob0 rfl ?_
      refine X_getr dX10_led_17 lfX10_283 rfl ob15 rfl ?_
      refine T_iload dX10_led_20 rfl ?_
      obtain ⟨hb21_3, hf⟩ := opt_t hf
      refine X_iald (N := 5) dX10_led_21 ar17 rfl hb21_3 ?_
      obtain rfl := Option.some.inj hf
      exact X_ri dX10_led_22 ⟨rfl, rfl⟩
    · replace hf := ite_f c6_2 hf
      refine T_const dX10_led_9 ?_
      refine T_goto dX10_led_10 ?_
      obtain rfl := Option.some.inj hf
      exact X_ri dX10_led_22 ⟨rfl, rfl⟩
noncomputable def fX10_image (x : aH) : Option (Int32 × aH) := (fX8_become x 19 15).bind fun q8_1 => some ((ri (sfi q8_1 0 11 (1 : Int32)) 17 (ix (0 : Int32))), (sfi q8_1 0 11 (1 : Int32)))
theorem qX10_image (Z : aZ) (y : aH) {x : aH} {q : (Int32 × aH)} (hf : fX10_image x = some q) : CX true Z mX10_image 2 [.ref 0] y x (RV (.int q.1) q.2) := by
  refine CX.of mokX10_image (Nat.le_of_ble_eq_true rfl) ?_
  show TX _ _ _ _ _ _ _ _ [_] _
  delta fX10_image at hf
  refine T_aload dX10_image_0 rfl ?_
  refine X_getr dX10_image_1 lfX10_39 rfl ob0 rfl ?_
  refine T_aload dX10_image_4 rfl ?_
  refine X_getr dX10_image_5 lfX10_35 rfl ob0 rfl ?_
  obtain ⟨q8_1, hc8_1, hf⟩ := bind_t hf
  refine X_Vn (qX8_become Z _ sd19 sd15 hc8_1) (Nat.le_of_ble_eq_true rfl) dX10_image_8 lvX10_286 rfl rfl ob19 (Nat.le_of_ble_eq_true rfl) ?_
  refine T_aload dX10_image_11 rfl ?_
  refine T_const dX10_image_12 ?_
  refine X_putf dX10_image_13 lfX10_289 rfl rfl ob0 ⟨rfl, rfl⟩ ?_
  refine T_aload dX10_image_16 rfl ?_
  refine X_getr dX10_image_17 lfX10_35 rfl ob0 rfl ?_
  refine X_getr dX10_image_20 lfX10_283 rfl ob15 rfl ?_
  refine T_const dX10_image_23 ?_
  refine X_iald (N := 5) dX10_image_24 ar17 rfl (by decide) ?_
  obtain rfl := Option.some.inj hf
  exact X_ri dX10_image_25 ⟨rfl, rfl⟩
noncomputable def fX10_back (x : aH) : Option (Int32 × aH) := if (fi x 0 11) = (0 : Int32) then some ((-5 : Int32), x) else (fX8_layBack x 15 19).bind fun q18_2 => some ((ri q18_2 17 (ix (0 : Int32))), q18_2)
theorem qX10_back (Z : aZ) (y : aH) {x : aH} {q : (Int32 × aH)} (hf : fX10_back x = some q) : CX true Z mX10_back 1 [.ref 0] y x (RV (.int q.1) q.2) := by
  refine CX.of mokX10_back (Nat.le_of_ble_eq_true rfl) ?_
  show TX _ _ _ _ _ _ _ _ [_] _
  delta fX10_back at hf
  refine T_aload dX10_back_0 rfl ?_
  refine X_getf dX10_back_1 lfX10_289 rfl ob0 ?_
  refine T_if_ne dX10_back_4 (fun c4_1 => ?_) (fun c4_1 => ?_)
  · replace hf := ite_f c4_1 hf
    refine T_aload dX10_back_10 rfl ?_
    refine X_getr dX10_back_11 lfX10_35 rfl ob0 rfl ?_
    refine T_aload dX10_back_14 rfl ?_
    refine X_getr dX10_back_15 lfX10_39 rfl ob0 rfl ?_
    obtain ⟨q18_2, hc18_2, hf⟩ := bind_t hf
    refine X_Vn (qX8_layBack Z _ sd15 sd19 hc18_2) (Nat.le_of_ble_eq_true rfl) dX10_back_18 lvX10_293 rfl rfl ob15 (Nat.le_of_ble_eq_true rfl) ?_
    refine T_aload dX10_back_21 rfl ?_
    refine X_getr dX10_back_22 lfX10_35 rfl ob0 rfl ?_
    refine X_getr dX10_back_25 lfX10_283 rfl ob15 rfl ?_
    refine T_const dX10_back_28 ?_
    refine X_iald (N := 5) dX10_back_29 ar17 rfl (by decide) ?_
    obtain rfl := Option.some.inj hf
    exact X_ri dX10_back_30 ⟨rfl, rfl⟩
  · replace hf := ite_t c4_1 hf
    refine T_const dX10_back_7 ?_
    obtain rfl := Option.some.inj hf
    exact X_ri dX10_back_9 ⟨rfl, rfl⟩
noncomputable def fX10_undo (x : aH) : Option (Int32 × aH) := (fX1_isKept x ((fi x 52 4) - (1 : Int32))).bind fun q15_1 => if q15_1 = (0 : Int32) then some ((-5 : Int32), x) else if (0 : Int32) ≤ ((fi x 52 4) - (1 : Int32)) ∧ ((fi x 52 4) - (1 : Int32)) < (40 : Int32) then if (0 : Int32) ≤ ((fi x 52 4) - (1 : Int32)) ∧ ((fi x 52 4) - (1 : Int32)) < (40 : Int32) then if (0 : Int32) ≤ ((fi x 52 4) - (1 : Int32)) ∧ ((fi x 52 4) - (1 : Int32)) < (40 : Int32) then (fX10_tell x (ri x 53 (ix ((fi x 52 4) - (1 : Int32)))) (ri x 54 (ix ((fi x 52 4) - (1 : Int32)))) (ri x 55 (ix ((fi x 52 4) - (1 : Int32))))).bind fun q52_6 => some (((fi x 52 4) - (1 : Int32)), (sfi q52_6 52 4 ((fi x 52 4) - (1 : Int32)))) else none else none else none
theorem qX10_undo (Z : aZ) (y : aH) {x : aH} {q : (Int32 × aH)} (hf : fX10_undo x = some q) : CX true Z mX10_undo 2 [.ref 0] y x (RV (.int q.1) q.2) := by
  refine CX.of mokX10_undo (Nat.le_of_ble_eq_true rfl) ?_
  show TX _ _ _ _ _ _ _ _ [_, _] _
  delta fX10_undo at hf
  refine T_aload dX10_undo_0 rfl ?_
  refine X_getr dX10_undo_1 lfX10_68 rfl ob0 rfl ?_
  refine X_getf dX10_undo_4 lfX10_296 rfl ob52 ?_
  refine T_const dX10_undo_7 ?_
  refine T_isub dX10_undo_8 ?_
  refine T_istore dX10_undo_9 ?_
  show TX _ _ _ _ _ _ _ _ [_, _] _
  refine T_aload dX10_undo_10 rfl ?_
  refine X_getr dX10_undo_11 lfX10_68 rfl ob0 rfl ?_
  refine T_iload dX10_undo_14 rfl ?_
  obtain ⟨q15_1, hc15_1, hf⟩ := bind_t hf
  refine X_Vv (qX1_isKept Z _ hc15_1) (Nat.le_of_ble_eq_true rfl) dX10_undo_15 lvX10_299 rfl rfl ob52 (Nat.le_of_ble_eq_true rfl) ?_
  refine T_if_ne dX10_undo_18 (fun c18_2 => ?_) (fun c18_2 => ?_)
  · replace hf := ite_f c18_2 hf
    refine T_aload dX10_undo_24 rfl ?_
    refine T_aload dX10_undo_25 rfl ?_
    refine X_getr dX10_undo_26 lfX10_68 rfl ob0 rfl ?_
    refine X_getr dX10_undo_29 lfX10_302 rfl ob52 rfl ?_
    refine T_iload dX10_undo_32 rfl ?_
    obtain ⟨hb33_3, hf⟩ := opt_t hf
    refine X_iald (N := 40) dX10_undo_33 ar53 rfl hb33_3 ?_
    refine T_aload dX10_undo_34 rfl ?_
    refine X_getr dX10_undo_35 lfX10_68 rfl ob0 rfl ?_
    refine X_getr dX10_undo_38 lfX10_304 rfl ob52 rfl ?_
    refine T_iload dX10_undo_41 rfl ?_
    obtain ⟨hb42_4, hf⟩ := opt_t hf
    refine X_iald (N := 40) dX10_undo_42 ar54 rfl hb42_4 ?_
    refine T_aload dX10_undo_43 rfl ?_
    refine X_getr dX10_undo_44 lfX10_68 rfl ob0 rfl ?_
    refine X_getr dX10_undo_47 lfX10_307 rfl ob52 rfl ?_
    refine T_iload dX10_undo_50 rfl ?_
    obtain ⟨hb51_5, hf⟩ := opt_t hf
    refine X_iald (N := 40) dX10_undo_51 ar55 rfl hb51_5 ?_
    obtain ⟨q52_6, hc52_6, hf⟩ := bind_t hf
    refine X_Vn (qX10_tell Z _ hc52_6) (Nat.le_of_ble_eq_true rfl) dX10_undo_52 lvX10_131 rfl rfl ob0 (Nat.le_of_ble_eq_true rfl) ?_
    refine T_aload dX10_undo_55 rfl ?_
    refine X_getr dX10_undo_56 lfX10_68 rfl ob0 rfl ?_
    refine T_iload dX10_undo_59 rfl ?_
    refine X_putf dX10_undo_60 lfX10_296 rfl rfl ob52 ⟨rfl, rfl⟩ ?_
    refine T_iload dX10_undo_63 rfl ?_
    obtain rfl := Option.some.inj hf
    exact X_ri dX10_undo_64 ⟨rfl, rfl⟩
  · replace hf := ite_t c18_2 hf
    refine T_const dX10_undo_21 ?_
    obtain rfl := Option.some.inj hf
    exact X_ri dX10_undo_23 ⟨rfl, rfl⟩
noncomputable def fX10_redo (x : aH) : Option (Int32 × aH) := (fX1_isKept x (fi x 52 4)).bind fun q13_1 => if q13_1 = (0 : Int32) then some ((-5 : Int32), x) else if (0 : Int32) ≤ (fi x 52 4) ∧ (fi x 52 4) < (40 : Int32) then if (0 : Int32) ≤ (fi x 52 4) ∧ (fi x 52 4) < (40 : Int32) then if (0 : Int32) ≤ (fi x 52 4) ∧ (fi x 52 4) < (40 : Int32) then (fX10_tell x (ri x 53 (ix (fi x 52 4))) (ri x 54 (ix (fi x 52 4))) (ri x 56 (ix (fi x 52 4)))).bind fun q50_6 => some (((fi (sfi q50_6 52 4 ((fi x 52 4) + (1 : Int32))) 52 5) - (fi (sfi q50_6 52 4 ((fi x 52 4) + (1 : Int32))) 52 4)), (sfi q50_6 52 4 ((fi x 52 4) + (1 : Int32)))) else none else none else none
theorem qX10_redo (Z : aZ) (y : aH) {x : aH} {q : (Int32 × aH)} (hf : fX10_redo x = some q) : CX true Z mX10_redo 2 [.ref 0] y x (RV (.int q.1) q.2) := by
  refine CX.of mokX10_redo (Nat.le_of_ble_eq_true rfl) ?_
  show TX _ _ _ _ _ _ _ _ [_, _] _
  delta fX10_redo at hf
  refine T_aload dX10_redo_0 rfl ?_
  refine X_getr dX10_redo_1 lfX10_68 rfl ob0 rfl ?_
  refine X_getf dX10_redo_4 lfX10_296 rfl ob52 ?_
  refine T_istore dX10_redo_7 ?_
  show TX _ _ _ _ _ _ _ _ [_, _] _
  refine T_aload dX10_redo_8 rfl ?_
  refine X_getr dX10_redo_9 lfX10_68 rfl ob0 rfl ?_
  refine T_iload dX10_redo_12 rfl ?_
  obtain ⟨q13_1, hc13_1, hf⟩ := bind_t hf
  refine X_Vv (qX1_isKept Z _ hc13_1) (Nat.le_of_ble_eq_true rfl) dX10_redo_13 lvX10_299 rfl rfl ob52 (Nat.le_of_ble_eq_true rfl) ?_
  refine T_if_ne dX10_redo_16 (fun c16_2 => ?_) (fun c16_2 => ?_)
  · replace hf := ite_f c16_2 hf
    refine T_aload dX10_redo_22 rfl ?_
    refine T_aload dX10_redo_23 rfl ?_
    refine X_getr dX10_redo_24 lfX10_68 rfl ob0 rfl ?_
    refine X_getr dX10_redo_27 lfX10_302 rfl ob52 rfl ?_
    refine T_iload dX10_redo_30 rfl ?_
    obtain ⟨hb31_3, hf⟩ := opt_t hf
    refine X_iald (N := 40) dX10_redo_31 ar53 rfl hb31_3 ?_
    refine T_aload dX10_redo_32 rfl ?_
    refine X_getr dX10_redo_33 lfX10_68 rfl ob0 rfl ?_
    refine X_getr dX10_redo_36 lfX10_304 rfl ob52 rfl ?_
    refine T_iload dX10_redo_39 rfl ?_
    obtain ⟨hb40_4, hf⟩ := opt_t hf
    refine X_iald (N := 40) dX10_redo_40 ar54 rfl hb40_4 ?_
    refine T_aload dX10_redo_41 rfl ?_
    refine X_getr dX10_redo_42 lfX10_68 rfl ob0 rfl ?_
    refine X_getr dX10_redo_45 lfX10_310 rfl ob52 rfl ?_
    refine T_iload dX10_redo_48 rfl ?_
    obtain ⟨hb49_5, hf⟩ := opt_t hf
    refine X_iald (N := 40) dX10_redo_49 ar56 rfl hb49_5 ?_
    obtain ⟨q50_6, hc50_6, hf⟩ := bind_t hf
    refine X_Vn (qX10_tell Z _ hc50_6) (Nat.le_of_ble_eq_true rfl) dX10_redo_50 lvX10_131 rfl rfl ob0 (Nat.le_of_ble_eq_true rfl) ?_
    refine T_aload dX10_redo_53 rfl ?_
    refine X_getr dX10_redo_54 lfX10_68 rfl ob0 rfl ?_
    refine T_iload dX10_redo_57 rfl ?_
    refine T_const dX10_redo_58 ?_
    refine T_iadd dX10_redo_59 ?_
    refine X_putf dX10_redo_60 lfX10_296 rfl rfl ob52 ⟨rfl, rfl⟩ ?_
    refine T_aload dX10_redo_63 rfl ?_
    refine X_getr dX10_redo_64 lfX10_68 rfl ob0 rfl ?_
    refine X_getf dX10_redo_67 lfX10_313 rfl ob52 ?_
    refine T_aload dX10_redo_70 rfl ?_
    refine X_getr dX10_redo_71 lfX10_68 rfl ob0 rfl ?_
    refine X_getf dX10_redo_74 lfX10_296 rfl ob52 ?_
    refine T_isub dX10_redo_77 ?_
    obtain rfl := Option.some.inj hf
    exact X_ri dX10_redo_78 ⟨rfl, rfl⟩
  · replace hf := ite_t c16_2 hf
    refine T_const dX10_redo_19 ?_
    obtain rfl := Option.some.inj hf
    exact X_ri dX10_redo_21 ⟨rfl, rfl⟩
noncomputable def fX10_body (x : aH) (p1 : Int32) : Option (Int32 × aH) := (fX0_isKind x p1).bind fun q5_1 => if q5_1 = (0 : Int32) then some ((-1 : Int32), x) else (fX0_isFull x).bind fun q17_3 => if q17_3 = (0 : Int32) then (fX0_add x p1).bind fun q33_5 => some (q33_5.1, q33_5.2) else some ((-3 : Int32), x)
theorem qX10_body (Z : aZ) (y : aH) {x : aH} {p1 : Int32} {q : (Int32 × aH)} (hf : fX10_body x p1 = some q) : CX true Z mX10_body 1 [.ref 0, .int p1] y x (RV (.int q.1) q.2) := by
  refine CX.of mokX10_body (Nat.le_of_ble_eq_true rfl) ?_
  show TX _ _ _ _ _ _ _ _ [_, _] _
  delta fX10_body at hf
  refine T_aload dX10_body_0 rfl ?_
  refine X_getr dX10_body_1 lfX10_75 rfl ob0 rfl ?_
  refine T_iload dX10_body_4 rfl ?_
  obtain ⟨q5_1, hc5_1, hf⟩ := bind_t hf
  refine X_Vv (qX0_isKind Z _ hc5_1) (Nat.le_of_ble_eq_true rfl) dX10_body_5 lvX10_316 rfl rfl ob57 (Nat.le_of_ble_eq_true rfl) ?_
  refine T_if_ne dX10_body_8 (fun c8_2 => ?_) (fun c8_2 => ?_)
  · replace hf := ite_f c8_2 hf
    refine T_aload dX10_body_13 rfl ?_
    refine X_getr dX10_body_14 lfX10_75 rfl ob0 rfl ?_
    obtain ⟨q17_3, hc17_3, hf⟩ := bind_t hf
    refine X_Vv (qX0_isFull Z _ hc17_3) (Nat.le_of_ble_eq_true rfl) dX10_body_17 lvX10_319 rfl rfl ob57 (Nat.le_of_ble_eq_true rfl) ?_
    refine T_if_eq dX10_body_20 (fun c20_4 => ?_) (fun c20_4 => ?_)
    · replace hf := ite_t c20_4 hf
      refine T_aload dX10_body_28 rfl ?_
      refine X_getr dX10_body_29 lfX10_75 rfl ob0 rfl ?_
      refine T_iload dX10_body_32 rfl ?_
      obtain ⟨q33_5, hc33_5, hf⟩ := bind_t hf
      refine X_Vv (qX0_add Z _ hc33_5) (Nat.le_of_ble_eq_true rfl) dX10_body_33 lvX10_322 rfl rfl ob57 (Nat.le_of_ble_eq_true rfl) ?_
      obtain rfl := Option.some.inj hf
      exact X_ri dX10_body_36 ⟨rfl, rfl⟩
    · replace hf := ite_f c20_4 hf
      refine T_const dX10_body_23 ?_
      refine T_goto dX10_body_25 ?_
      obtain rfl := Option.some.inj hf
      exact X_ri dX10_body_36 ⟨rfl, rfl⟩
  · replace hf := ite_t c8_2 hf
    refine T_const dX10_body_11 ?_
    obtain rfl := Option.some.inj hf
    exact X_ri dX10_body_12 ⟨rfl, rfl⟩
noncomputable def fX10_act (x : aH) (p1 : Int32) (p2 : Int32) (p3 : Int32) : Option (Int32 × aH) := (fX0_start x p1 p2 p3).bind fun q7_1 => some (q7_1.1, q7_1.2)
theorem qX10_act (Z : aZ) (y : aH) {x : aH} {p1 : Int32} {p2 : Int32} {p3 : Int32} {q : (Int32 × aH)} (hf : fX10_act x p1 p2 p3 = some q) : CX true Z mX10_act 66 [.ref 0, .int p1, .int p2, .int p3] y x (RV (.int q.1) q.2) := by
  refine CX.of mokX10_act (Nat.le_of_ble_eq_true rfl) ?_
  show TX _ _ _ _ _ _ _ _ [_, _, _, _] _
  delta fX10_act at hf
  refine T_aload dX10_act_0 rfl ?_
  refine X_getr dX10_act_1 lfX10_75 rfl ob0 rfl ?_
  refine T_iload dX10_act_4 rfl ?_
  refine T_iload dX10_act_5 rfl ?_
  refine T_iload dX10_act_6 rfl ?_
  obtain ⟨q7_1, hc7_1, hf⟩ := bind_t hf
  refine X_Vv (qX0_start Z _ hc7_1) (Nat.le_of_ble_eq_true rfl) dX10_act_7 lvX10_324 rfl rfl ob57 (Nat.le_of_ble_eq_true rfl) ?_
  obtain rfl := Option.some.inj hf
  exact X_ri dX10_act_10 ⟨rfl, rfl⟩
noncomputable def fX10_trace (x : aH) (p1 : Int32) : Option Int32 := (fX0_isTraced x p1).bind fun q5_1 => if q5_1 = (0 : Int32) then some (-1 : Int32) else if (0 : Int32) ≤ p1 ∧ p1 < (24 : Int32) then some (ri x 59 (ix p1)) else none
theorem qX10_trace (Z : aZ) (y : aH) {x : aH} {p1 : Int32} {q : Int32} (hf : fX10_trace x p1 = some q) : CX true Z mX10_trace 1 [.ref 0, .int p1] y x (RV (.int q) x) := by
  refine CX.of mokX10_trace (Nat.le_of_ble_eq_true rfl) ?_
  show TX _ _ _ _ _ _ _ _ [_, _] _
  delta fX10_trace at hf
  refine T_aload dX10_trace_0 rfl ?_
  refine X_getr dX10_trace_1 lfX10_75 rfl ob0 rfl ?_
  refine T_iload dX10_trace_4 rfl ?_
  obtain ⟨q5_1, hc5_1, hf⟩ := bind_t hf
  refine X_Vv (qX0_isTraced Z _ hc5_1) (Nat.le_of_ble_eq_true rfl) dX10_trace_5 lvX10_327 rfl rfl ob57 (Nat.le_of_ble_eq_true rfl) ?_
  refine T_if_eq dX10_trace_8 (fun c8_2 => ?_) (fun c8_2 => ?_)
  · replace hf := ite_t c8_2 hf
    refine T_const dX10_trace_23 ?_
    obtain rfl := Option.some.inj hf
    exact X_ri dX10_trace_24 ⟨rfl, rfl⟩
  · replace hf := ite_f c8_2 hf
    refine T_aload dX10_trace_11 rfl ?_
    refine X_getr dX10_trace_12 lfX10_75 rfl ob0 rfl ?_
    refine X_getr dX10_trace_15 lfX10_330 rfl ob57 rfl ?_
    refine T_iload dX10_trace_18 rfl ?_
    obtain ⟨hb19_3, hf⟩ := opt_t hf
    refine X_iald (N := 24) dX10_trace_19 ar59 rfl hb19_3 ?_
    refine T_goto dX10_trace_20 ?_
    obtain rfl := Option.some.inj hf
    exact X_ri dX10_trace_24 ⟨rfl, rfl⟩
noncomputable def jX10_keep_26 (x : aH) (l1 : Int32) (l2 : Int32) : Option (Int32 × aH) := if (0 : Int32) ≤ l1 ∧ l1 < (6 : Int32) then (fX7_holdBody x (61 + 2 * ix l1) l2).bind fun q33_4 => some ((1 : Int32), q33_4) else none
noncomputable def fX10_keep (x : aH) (p1 : Int32) (p2 : Int32) : Option (Int32 × aH) := (fX10_isShelf x p1).bind fun q2_1 => if q2_1 = (0 : Int32) then some ((-1 : Int32), x) else if p2 = (-1 : Int32) then jX10_keep_26 x p1 p2 else (fX0_isBody x p2).bind fun q18_6 => if q18_6 = (0 : Int32) then some ((-1 : Int32), x) else jX10_keep_26 x p1 p2
theorem qX10_keep (Z : aZ) (y : aH) {x : aH} {p1 : Int32} {p2 : Int32} {q : (Int32 × aH)} (hf : fX10_keep x p1 p2 = some q) : CX true Z mX10_keep 1 [.ref 0, .int p1, .int p2] y x (RV (.int q.1) q.2) := by
  refine CX.of mokX10_keep (Nat.le_of_ble_eq_true rfl) ?_
  show TX _ _ _ _ _ _ _ _ [_, _, _] _
  delta fX10_keep at hf
  refine T_aload dX10_keep_0 rfl ?_
  refine T_iload dX10_keep_1 rfl ?_
  obtain ⟨q2_1, hc2_1, hf⟩ := bind_t hf
  refine X_Vv (qX10_isShelf Z _ hc2_1) (Nat.le_of_ble_eq_true rfl) dX10_keep_2 lvX10_98 rfl rfl ob0 (Nat.le_of_ble_eq_true rfl) ?_
  refine T_if_eq dX10_keep_5 (fun c5_2 => ?_) (fun c5_2 => ?_)
  · replace hf := ite_t c5_2 hf
    refine T_const dX10_keep_24 ?_
    obtain rfl := Option.some.inj hf
    exact X_ri dX10_keep_25 ⟨rfl, rfl⟩
  · replace hf := ite_f c5_2 hf
    refine T_iload dX10_keep_8 rfl ?_
    refine T_const dX10_keep_9 ?_
    have J26 : ∀ (x : aH) (l1 : Int32) (l2 : Int32), jX10_keep_26 x l1 l2 = some q → TX true Z mX10_keep 1 y x (RV (.int q.1) q.2) 26 [.ref 0, .int l1, .int l2] [] := by
      intro x l1 l2 hf
      delta jX10_keep_26 at hf
      refine T_aload dX10_keep_26 rfl ?_
      refine X_getr dX10_keep_27 lfX10_81 rfl ob0 rfl ?_
      refine T_iload dX10_keep_30 rfl ?_
      obtain ⟨hb31_3, hf⟩ := opt_t hf
      refine X_aaldSH dX10_keep_31 hb31_3 ?_
      refine T_iload dX10_keep_32 rfl ?_
      obtain ⟨q33_4, hc33_4, hf⟩ := bind_t hf
      refine X_Vn (qX7_holdBody Z _ (SH_at hb31_3) hc33_4) (Nat.le_of_ble_eq_true rfl) dX10_keep_33 lvX10_336 rfl rfl (SH.ob (SH_at hb31_3)) (Nat.le_of_ble_eq_true rfl) ?_
      refine T_const dX10_keep_36 ?_
      obtain rfl := Option.some.inj hf
      exact X_ri dX10_keep_37 ⟨rfl, rfl⟩
    refine T_icmp_eq dX10_keep_10 (fun c10_5 => ?_) (fun c10_5 => ?_)
    · replace hf := ite_t c10_5 hf
      exact X_wk (WK.s (WK.s (WK.s WK.e))) (J26 _ _ _ hf)
    · replace hf := ite_f c10_5 hf
      refine T_aload dX10_keep_13 rfl ?_
      refine X_getr dX10_keep_14 lfX10_75 rfl ob0 rfl ?_
      refine T_iload dX10_keep_17 rfl ?_
      obtain ⟨q18_6, hc18_6, hf⟩ := bind_t hf
      refine X_Vv (qX0_isBody Z _ hc18_6) (Nat.le_of_ble_eq_true rfl) dX10_keep_18 lvX10_333 rfl rfl ob57 (Nat.le_of_ble_eq_true rfl) ?_
      refine T_if_ne dX10_keep_21 (fun c21_7 => ?_) (fun c21_7 => ?_)
      · replace hf := ite_f c21_7 hf
        exact X_wk (WK.s (WK.s (WK.s WK.e))) (J26 _ _ _ hf)
      · replace hf := ite_t c21_7 hf
        refine T_const dX10_keep_24 ?_
        obtain rfl := Option.some.inj hf
        exact X_ri dX10_keep_25 ⟨rfl, rfl⟩
noncomputable def fX10_row (x : aH) (p1 : Int32) (p2 : Int32) (p3 : Int32) : Option (Int32 × aH) := (fX10_isShelf x p1).bind fun q2_1 => if q2_1 = (0 : Int32) then some ((-1 : Int32), x) else if p2 < (0 : Int32) then some ((-1 : Int32), x) else if (4 : Int32) < p2 then some ((-1 : Int32), x) else if p3 ≤ (60 : Int32) then if (0 : Int32) ≤ p3 then if (0 : Int32) ≤ p1 ∧ p1 < (6 : Int32) then (fX7_holdRow x (61 + 2 * ix p1) p2 p3).bind fun q40_8 => some ((1 : Int32), q40_8) else none else some ((-14 : Int32), x) else some ((-1 : Int32), x)
theorem qX10_row (Z : aZ) (y : aH) {x : aH} {p1 : Int32} {p2 : Int32} {p3 : Int32} {q : (Int32 × aH)} (hf : fX10_row x p1 p2 p3 = some q) : CX true Z mX10_row 1 [.ref 0, .int p1, .int p2, .int p3] y x (RV (.int q.1) q.2) := by
  refine CX.of mokX10_row (Nat.le_of_ble_eq_true rfl) ?_
  show TX _ _ _ _ _ _ _ _ [_, _, _, _] _
  delta fX10_row at hf
  refine T_aload dX10_row_0 rfl ?_
  refine T_iload dX10_row_1 rfl ?_
  obtain ⟨q2_1, hc2_1, hf⟩ := bind_t hf
  refine X_Vv (qX10_isShelf Z _ hc2_1) (Nat.le_of_ble_eq_true rfl) dX10_row_2 lvX10_98 rfl rfl ob0 (Nat.le_of_ble_eq_true rfl) ?_
  refine T_if_eq dX10_row_5 (fun c5_2 => ?_) (fun c5_2 => ?_)
  · replace hf := ite_t c5_2 hf
    refine T_const dX10_row_23 ?_
    obtain rfl := Option.some.inj hf
    exact X_ri dX10_row_24 ⟨rfl, rfl⟩
  · replace hf := ite_f c5_2 hf
    refine T_iload dX10_row_8 rfl ?_
    refine T_if_lt dX10_row_9 (fun c9_3 => ?_) (fun c9_3 => ?_)
    · replace hf := ite_t c9_3 hf
      refine T_const dX10_row_23 ?_
      obtain rfl := Option.some.inj hf
      exact X_ri dX10_row_24 ⟨rfl, rfl⟩
    · replace hf := ite_f c9_3 hf
      refine T_iload dX10_row_12 rfl ?_
      refine T_const dX10_row_13 ?_
      refine T_icmp_gt dX10_row_14 (fun c14_4 => ?_) (fun c14_4 => ?_)
      · replace hf := ite_t c14_4 hf
        refine T_const dX10_row_23 ?_
        obtain rfl := Option.some.inj hf
        exact X_ri dX10_row_24 ⟨rfl, rfl⟩
      · replace hf := ite_f c14_4 hf
        refine T_iload dX10_row_17 rfl ?_
        refine T_const dX10_row_18 ?_
        refine T_icmp_le dX10_row_20 (fun c20_5 => ?_) (fun c20_5 => ?_)
        · replace hf := ite_t c20_5 hf
          refine T_iload dX10_row_25 rfl ?_
          refine T_if_ge dX10_row_26 (fun c26_6 => ?_) (fun c26_6 => ?_)
          · replace hf := ite_t c26_6 hf
            refine T_aload dX10_row_32 rfl ?_
            refine X_getr dX10_row_33 lfX10_81 rfl ob0 rfl ?_
            refine T_iload dX10_row_36 rfl ?_
            obtain ⟨hb37_7, hf⟩ := opt_t hf
            refine X_aaldSH dX10_row_37 hb37_7 ?_
            refine T_iload dX10_row_38 rfl ?_
            refine T_iload dX10_row_39 rfl ?_
            obtain ⟨q40_8, hc40_8, hf⟩ := bind_t hf
            refine X_Vn (qX7_holdRow Z _ (SH_at hb37_7) hc40_8) (Nat.le_of_ble_eq_true rfl) dX10_row_40 lvX10_340 rfl rfl (SH.ob (SH_at hb37_7)) (Nat.le_of_ble_eq_true rfl) ?_
            refine T_const dX10_row_43 ?_
            obtain rfl := Option.some.inj hf
            exact X_ri dX10_row_44 ⟨rfl, rfl⟩
          · replace hf := ite_f c26_6 hf
            refine T_const dX10_row_29 ?_
            obtain rfl := Option.some.inj hf
            exact X_ri dX10_row_31 ⟨rfl, rfl⟩
        · replace hf := ite_f c20_5 hf
          refine T_const dX10_row_23 ?_
          obtain rfl := Option.some.inj hf
          exact X_ri dX10_row_24 ⟨rfl, rfl⟩
noncomputable def fX10_refusalOfPlace (x : aH) (p1 : Int32) (p2 : Int32) : Option Int32 := (fX10_isShelf x p1).bind fun q2_1 => if q2_1 = (0 : Int32) then some (-1 : Int32) else if (0 : Int32) ≤ p1 ∧ p1 < (6 : Int32) then (fX7_isEmpty x (61 + 2 * ix p1)).bind fun q16_4 => if q16_4 = (0 : Int32) then if (0 : Int32) ≤ p1 ∧ p1 < (6 : Int32) then (fX7_isRow x (61 + 2 * ix p1)).bind fun q31_7 => if q31_7 = (0 : Int32) then some (-12 : Int32) else if (0 : Int32) ≤ p1 ∧ p1 < (6 : Int32) then (fX7_hasPlaces x (61 + 2 * ix p1) p2 (1 : Int32)).bind fun q48_10 => if q48_10 = (0 : Int32) then some (-13 : Int32) else some (0 : Int32) else none else none else some (-11 : Int32) else none
theorem qX10_refusalOfPlace (Z : aZ) (y : aH) {x : aH} {p1 : Int32} {p2 : Int32} {q : Int32} (hf : fX10_refusalOfPlace x p1 p2 = some q) : CX true Z mX10_refusalOfPlace 1 [.ref 0, .int p1, .int p2] y x (RV (.int q) x) := by
  refine CX.of mokX10_refusalOfPlace (Nat.le_of_ble_eq_true rfl) ?_
  show TX _ _ _ _ _ _ _ _ [_, _, _] _
  delta fX10_refusalOfPlace at hf
  refine T_aload dX10_refusalOfPlace_0 rfl ?_
  refine T_iload dX10_refusalOfPlace_1 rfl ?_
  obtain ⟨q2_1, hc2_1, hf⟩ := bind_t hf
  refine X_Vv (qX10_isShelf Z _ hc2_1) (Nat.le_of_ble_eq_true rfl) dX10_refusalOfPlace_2 lvX10_98 rfl rfl ob0 (Nat.le_of_ble_eq_true rfl) ?_
  refine T_if_ne dX10_refusalOfPlace_5 (fun c5_2 => ?_) (fun c5_2 => ?_)
  · replace hf := ite_f c5_2 hf
    refine T_aload dX10_refusalOfPlace_10 rfl ?_
    refine X_getr dX10_refusalOfPlace_11 lfX10_81 rfl ob0 rfl ?_
    refine T_iload dX10_refusalOfPlace_14 rfl ?_
    obtain ⟨hb15_3, hf⟩ := opt_t hf
    refine X_aaldSH dX10_refusalOfPlace_15 hb15_3 ?_
    obtain ⟨q16_4, hc16_4, hf⟩ := bind_t hf
    refine X_Vv (qX7_isEmpty Z _ (SH_at hb15_3) hc16_4) (Nat.le_of_ble_eq_true rfl) dX10_refusalOfPlace_16 lvX10_102 rfl rfl (SH.ob (SH_at hb15_3)) (Nat.le_of_ble_eq_true rfl) ?_
    refine T_if_eq dX10_refusalOfPlace_19 (fun c19_5 => ?_) (fun c19_5 => ?_)
    · replace hf := ite_t c19_5 hf
      refine T_aload dX10_refusalOfPlace_25 rfl ?_
      refine X_getr dX10_refusalOfPlace_26 lfX10_81 rfl ob0 rfl ?_
      refine T_iload dX10_refusalOfPlace_29 rfl ?_
      obtain ⟨hb30_6, hf⟩ := opt_t hf
      refine X_aaldSH dX10_refusalOfPlace_30 hb30_6 ?_
      obtain ⟨q31_7, hc31_7, hf⟩ := bind_t hf
      refine X_Vv (qX7_isRow Z _ (SH_at hb30_6) hc31_7) (Nat.le_of_ble_eq_true rfl) dX10_refusalOfPlace_31 lvX10_355 rfl rfl (SH.ob (SH_at hb30_6)) (Nat.le_of_ble_eq_true rfl) ?_
      refine T_if_ne dX10_refusalOfPlace_34 (fun c34_8 => ?_) (fun c34_8 => ?_)
      · replace hf := ite_f c34_8 hf
        refine T_aload dX10_refusalOfPlace_40 rfl ?_
        refine X_getr dX10_refusalOfPlace_41 lfX10_81 rfl ob0 rfl ?_
        refine T_iload dX10_refusalOfPlace_44 rfl ?_
        obtain ⟨hb45_9, hf⟩ := opt_t hf
        refine X_aaldSH dX10_refusalOfPlace_45 hb45_9 ?_
        refine T_iload dX10_refusalOfPlace_46 rfl ?_
        refine T_const dX10_refusalOfPlace_47 ?_
        obtain ⟨q48_10, hc48_10, hf⟩ := bind_t hf
        refine X_Vv (qX7_hasPlaces Z _ (SH_at hb45_9) hc48_10) (Nat.le_of_ble_eq_true rfl) dX10_refusalOfPlace_48 lvX10_109 rfl rfl (SH.ob (SH_at hb45_9)) (Nat.le_of_ble_eq_true rfl) ?_
        refine T_if_eq dX10_refusalOfPlace_51 (fun c51_11 => ?_) (fun c51_11 => ?_)
        · replace hf := ite_t c51_11 hf
          refine T_const dX10_refusalOfPlace_58 ?_
          obtain rfl := Option.some.inj hf
          exact X_ri dX10_refusalOfPlace_60 ⟨rfl, rfl⟩
        · replace hf := ite_f c51_11 hf
          refine T_const dX10_refusalOfPlace_54 ?_
          refine T_goto dX10_refusalOfPlace_55 ?_
          obtain rfl := Option.some.inj hf
          exact X_ri dX10_refusalOfPlace_60 ⟨rfl, rfl⟩
      · replace hf := ite_t c34_8 hf
        refine T_const dX10_refusalOfPlace_37 ?_
        obtain rfl := Option.some.inj hf
        exact X_ri dX10_refusalOfPlace_39 ⟨rfl, rfl⟩
    · replace hf := ite_f c19_5 hf
      refine T_const dX10_refusalOfPlace_22 ?_
      obtain rfl := Option.some.inj hf
      exact X_ri dX10_refusalOfPlace_24 ⟨rfl, rfl⟩
  · replace hf := ite_t c5_2 hf
    refine T_const dX10_refusalOfPlace_8 ?_
    obtain rfl := Option.some.inj hf
    exact X_ri dX10_refusalOfPlace_9 ⟨rfl, rfl⟩
noncomputable def fX10_put (x : aH) (p1 : Int32) (p2 : Int32) (p3 : Int64) : Option (Int32 × aH) := (fX10_refusalOfPlace x p1 p2).bind fun q3_1 => if q3_1 = (0 : Int32) then if (0 : Int32) ≤ p1 ∧ p1 < (6 : Int32) then (fX7_set x (61 + 2 * ix p1) p2 p3).bind fun q24_4 => some ((1 : Int32), q24_4) else none else some (q3_1, x)
theorem qX10_put (Z : aZ) (y : aH) {x : aH} {p1 : Int32} {p2 : Int32} {p3 : Int64} {q : (Int32 × aH)} (hf : fX10_put x p1 p2 p3 = some q) : CX true Z mX10_put 2 [.ref 0, .int p1, .int p2, .long p3] y x (RV (.int q.1) q.2) := by
  refine CX.of mokX10_put (Nat.le_of_ble_eq_true rfl) ?_
  show TX _ _ _ _ _ _ _ _ [_, _, _, _, _, _] _
  delta fX10_put at hf
  refine T_aload dX10_put_0 rfl ?_
  refine T_iload dX10_put_1 rfl ?_
  refine T_iload dX10_put_2 rfl ?_
  obtain ⟨q3_1, hc3_1, hf⟩ := bind_t hf
  refine X_Vv (qX10_refusalOfPlace Z _ hc3_1) (Nat.le_of_ble_eq_true rfl) dX10_put_3 lvX10_344 rfl rfl ob0 (Nat.le_of_ble_eq_true rfl) ?_
  refine T_istore dX10_put_6 ?_
  show TX _ _ _ _ _ _ _ _ [_, _, _, _, _, _] _
  refine T_iload dX10_put_8 rfl ?_
  refine T_if_eq dX10_put_10 (fun c10_2 => ?_) (fun c10_2 => ?_)
  · replace hf := ite_t c10_2 hf
    refine T_aload dX10_put_16 rfl ?_
    refine X_getr dX10_put_17 lfX10_81 rfl ob0 rfl ?_
    refine T_iload dX10_put_20 rfl ?_
    obtain ⟨hb21_3, hf⟩ := opt_t hf
    refine X_aaldSH dX10_put_21 hb21_3 ?_
    refine T_iload dX10_put_22 rfl ?_
    refine T_lload dX10_put_23 rfl ?_
    obtain ⟨q24_4, hc24_4, hf⟩ := bind_t hf
    refine X_Vn (qX7_set Z _ (SH_at hb21_3) hc24_4) (Nat.le_of_ble_eq_true rfl) dX10_put_24 lvX10_347 rfl rfl (SH.ob (SH_at hb21_3)) (Nat.le_of_ble_eq_true rfl) ?_
    refine T_const dX10_put_27 ?_
    obtain rfl := Option.some.inj hf
    exact X_ri dX10_put_28 ⟨rfl, rfl⟩
  · replace hf := ite_f c10_2 hf
    refine T_iload dX10_put_13 rfl ?_
    obtain rfl := Option.some.inj hf
    exact X_ri dX10_put_15 ⟨rfl, rfl⟩
noncomputable def fX10_element (x : aH) (p1 : Int32) (p2 : Int32) : Option Int64 := (fX10_refusalOfPlace x p1 p2).bind fun q3_1 => if q3_1 = (0 : Int32) then if (0 : Int32) ≤ p1 ∧ p1 < (6 : Int32) then if (0 : Int32) ≤ p2 ∧ p2 < (60 : Int32) then some (rj x ((61 + 2 * ix p1) + 1) (ix p2)) else none else none else some (-9223372036854775808 : Int64)
theorem qX10_element (Z : aZ) (y : aH) {x : aH} {p1 : Int32} {p2 : Int32} {q : Int64} (hf : fX10_element x p1 p2 = some q) : CX true Z mX10_element 2 [.ref 0, .int p1, .int p2] y x (RV (.long q) x) := by
  refine CX.of mokX10_element (Nat.le_of_ble_eq_true rfl) ?_
  show TX _ _ _ _ _ _ _ _ [_, _, _] _
  delta fX10_element at hf
  refine T_aload dX10_element_0 rfl ?_
  refine T_iload dX10_element_1 rfl ?_
  refine T_iload dX10_element_2 rfl ?_
  obtain ⟨q3_1, hc3_1, hf⟩ := bind_t hf
  refine X_Vv (qX10_refusalOfPlace Z _ hc3_1) (Nat.le_of_ble_eq_true rfl) dX10_element_3 lvX10_344 rfl rfl ob0 (Nat.le_of_ble_eq_true rfl) ?_
  refine T_if_ne dX10_element_6 (fun c6_2 => ?_) (fun c6_2 => ?_)
  · replace hf := ite_f c6_2 hf
    refine T_constL dX10_element_23 ?_
    obtain rfl := Option.some.inj hf
    exact X_rl dX10_element_26 ⟨rfl, rfl⟩
  · replace hf := ite_t c6_2 hf
    refine T_aload dX10_element_9 rfl ?_
    refine X_getr dX10_element_10 lfX10_81 rfl ob0 rfl ?_
    refine T_iload dX10_element_13 rfl ?_
    obtain ⟨hb14_3, hf⟩ := opt_t hf
    refine X_aaldSH dX10_element_14 hb14_3 ?_
    refine X_getr dX10_element_15 lfX10_351 rfl (SH.ob (SH_at hb14_3)) (SH.f0 (SH_at hb14_3)) ?_
    refine T_iload dX10_element_18 rfl ?_
    obtain ⟨hb19_4, hf⟩ := opt_t hf
    refine X_lald (N := 60) dX10_element_19 (SH.ar0 (SH_at hb14_3)) rfl hb19_4 ?_
    refine T_goto dX10_element_20 ?_
    obtain rfl := Option.some.inj hf
    exact X_rl dX10_element_26 ⟨rfl, rfl⟩
noncomputable def fX10_shift (x : aH) (p1 : Int32) (p2 : Int32) (p3 : Int32) (p4 : Int32) (p5 : Int32) : Option (Int32 × aH) := (fX10_isShelf x p1).bind fun q2_1 => if q2_1 = (0 : Int32) then some ((-1 : Int32), x) else (fX10_isShelf x p3).bind fun q10_3 => if q10_3 = (0 : Int32) then some ((-1 : Int32), x) else if (0 : Int32) ≤ p1 ∧ p1 < (6 : Int32) then if (0 : Int32) ≤ p3 ∧ p3 < (6 : Int32) then (fX7_isEmpty x (61 + 2 * ix p1)).bind fun q36_7 => if q36_7 = (0 : Int32) then (fX7_isEmpty x (61 + 2 * ix p3)).bind fun q44_9 => if q44_9 = (0 : Int32) then (fX7_isRow x (61 + 2 * ix p1)).bind fun q55_11 => if q55_11 = (0 : Int32) then some ((-12 : Int32), x) else (fX7_isRow x (61 + 2 * ix p3)).bind fun q63_13 => if q63_13 = (0 : Int32) then some ((-12 : Int32), x) else if (fi x (61 + 2 * ix p1) 1) = (fi x (61 + 2 * ix p3) 1) then (fX7_hasPlaces x (61 + 2 * ix p1) p2 p5).bind fun q90_16 => if q90_16 = (0 : Int32) then some ((-13 : Int32), x) else (fX7_hasPlaces x (61 + 2 * ix p3) p4 p5).bind fun q102_18 => if q102_18 = (0 : Int32) then some ((-13 : Int32), x) else if ¬ p2 < 0 ∧ ¬ p4 < 0 ∧ ¬ p5 < 0 ∧ ix p2 + ix p5 ≤ 60 ∧ ix p4 + ix p5 ≤ 60 then some (p5, (srowj x ((61 + 2 * ix p3) + 1) (va_cpy (rj x ((61 + 2 * ix p1) + 1)) (rj x ((61 + 2 * ix p3) + 1)) (ix p2) (ix p4) (ix p5)))) else none else some ((-12 : Int32), x) else some ((-11 : Int32), x) else some ((-11 : Int32), x) else none else none
theorem qX10_shift (Z : aZ) (y : aH) {x : aH} {p1 : Int32} {p2 : Int32} {p3 : Int32} {p4 : Int32} {p5 : Int32} {q : (Int32 × aH)} (hf : fX10_shift x p1 p2 p3 p4 p5 = some q) : CX true Z mX10_shift 1 [.ref 0, .int p1, .int p2, .int p3, .int p4, .int p5] y x (RV (.int q.1) q.2) := by
  refine CX.of mokX10_shift (Nat.le_of_ble_eq_true rfl) ?_
  show TX _ _ _ _ _ _ _ _ [_, _, _, _, _, _, _, _] _
  delta fX10_shift at hf
  refine T_aload dX10_shift_0 rfl ?_
  refine T_iload dX10_shift_1 rfl ?_
  obtain ⟨q2_1, hc2_1, hf⟩ := bind_t hf
  refine X_Vv (qX10_isShelf Z _ hc2_1) (Nat.le_of_ble_eq_true rfl) dX10_shift_2 lvX10_98 rfl rfl ob0 (Nat.le_of_ble_eq_true rfl) ?_
  refine T_if_eq dX10_shift_5 (fun c5_2 => ?_) (fun c5_2 => ?_)
  · replace hf := ite_t c5_2 hf
    refine T_const dX10_shift_16 ?_
    obtain rfl := Option.some.inj hf
    exact X_ri dX10_shift_17 ⟨rfl, rfl⟩
  · replace hf := ite_f c5_2 hf
    refine T_aload dX10_shift_8 rfl ?_
    refine T_iload dX10_shift_9 rfl ?_
    obtain ⟨q10_3, hc10_3, hf⟩ := bind_t hf
    refine X_Vv (qX10_isShelf Z _ hc10_3) (Nat.le_of_ble_eq_true rfl) dX10_shift_10 lvX10_98 rfl rfl ob0 (Nat.le_of_ble_eq_true rfl) ?_
    refine T_if_ne dX10_shift_13 (fun c13_4 => ?_) (fun c13_4 => ?_)
    · replace hf := ite_f c13_4 hf
      refine T_aload dX10_shift_18 rfl ?_
      refine X_getr dX10_shift_19 lfX10_81 rfl ob0 rfl ?_
      refine T_iload dX10_shift_22 rfl ?_
      obtain ⟨hb23_5, hf⟩ := opt_t hf
      refine X_aaldSH dX10_shift_23 hb23_5 ?_
      refine T_astore dX10_shift_24 ?_
      show TX _ _ _ _ _ _ _ _ [_, _, _, _, _, _, _, _] _
      refine T_aload dX10_shift_26 rfl ?_
      refine X_getr dX10_shift_27 lfX10_81 rfl ob0 rfl ?_
      refine T_iload dX10_shift_30 rfl ?_
      obtain ⟨hb31_6, hf⟩ := opt_t hf
      refine X_aaldSH dX10_shift_31 hb31_6 ?_
      refine T_astore dX10_shift_32 ?_
      show TX _ _ _ _ _ _ _ _ [_, _, _, _, _, _, _, _] _
      refine T_aload dX10_shift_34 rfl ?_
      obtain ⟨q36_7, hc36_7, hf⟩ := bind_t hf
      refine X_Vv (qX7_isEmpty Z _ (SH_at hb23_5) hc36_7) (Nat.le_of_ble_eq_true rfl) dX10_shift_36 lvX10_102 rfl rfl (SH.ob (SH_at hb23_5)) (Nat.le_of_ble_eq_true rfl) ?_
      refine T_if_ne dX10_shift_39 (fun c39_8 => ?_) (fun c39_8 => ?_)
      · replace hf := ite_f c39_8 hf
        refine T_const dX10_shift_50 ?_
        obtain rfl := Option.some.inj hf
        exact X_ri dX10_shift_52 ⟨rfl, rfl⟩
      · replace hf := ite_t c39_8 hf
        refine T_aload dX10_shift_42 rfl ?_
        obtain ⟨q44_9, hc44_9, hf⟩ := bind_t hf
        refine X_Vv (qX7_isEmpty Z _ (SH_at hb31_6) hc44_9) (Nat.le_of_ble_eq_true rfl) dX10_shift_44 lvX10_102 rfl rfl (SH.ob (SH_at hb31_6)) (Nat.le_of_ble_eq_true rfl) ?_
        refine T_if_eq dX10_shift_47 (fun c47_10 => ?_) (fun c47_10 => ?_)
        · replace hf := ite_t c47_10 hf
          refine T_aload dX10_shift_53 rfl ?_
          obtain ⟨q55_11, hc55_11, hf⟩ := bind_t hf
          refine X_Vv (qX7_isRow Z _ (SH_at hb23_5) hc55_11) (Nat.le_of_ble_eq_true rfl) dX10_shift_55 lvX10_355 rfl rfl (SH.ob (SH_at hb23_5)) (Nat.le_of_ble_eq_true rfl) ?_
          refine T_if_eq dX10_shift_58 (fun c58_12 => ?_) (fun c58_12 => ?_)
          · replace hf := ite_t c58_12 hf
            refine T_const dX10_shift_82 ?_
            obtain rfl := Option.some.inj hf
            exact X_ri dX10_shift_84 ⟨rfl, rfl⟩
          · replace hf := ite_f c58_12 hf
            refine T_aload dX10_shift_61 rfl ?_
            obtain ⟨q63_13, hc63_13, hf⟩ := bind_t hf
            refine X_Vv (qX7_isRow Z _ (SH_at hb31_6) hc63_13) (Nat.le_of_ble_eq_true rfl) dX10_shift_63 lvX10_355 rfl rfl (SH.ob (SH_at hb31_6)) (Nat.le_of_ble_eq_true rfl) ?_
            refine T_if_eq dX10_shift_66 (fun c66_14 => ?_) (fun c66_14 => ?_)
            · replace hf := ite_t c66_14 hf
              refine T_const dX10_shift_82 ?_
              obtain rfl := Option.some.inj hf
              exact X_ri dX10_shift_84 ⟨rfl, rfl⟩
            · replace hf := ite_f c66_14 hf
              refine T_aload dX10_shift_69 rfl ?_
              refine X_getf dX10_shift_71 lfX10_358 rfl (SH.ob (SH_at hb23_5)) ?_
              refine T_aload dX10_shift_74 rfl ?_
              refine X_getf dX10_shift_76 lfX10_358 rfl (SH.ob (SH_at hb31_6)) ?_
              refine T_icmp_eq dX10_shift_79 (fun c79_15 => ?_) (fun c79_15 => ?_)
              · replace hf := ite_t c79_15 hf
                refine T_aload dX10_shift_85 rfl ?_
                refine T_iload dX10_shift_87 rfl ?_
                refine T_iload dX10_shift_88 rfl ?_
                obtain ⟨q90_16, hc90_16, hf⟩ := bind_t hf
                refine X_Vv (qX7_hasPlaces Z _ (SH_at hb23_5) hc90_16) (Nat.le_of_ble_eq_true rfl) dX10_shift_90 lvX10_109 rfl rfl (SH.ob (SH_at hb23_5)) (Nat.le_of_ble_eq_true rfl) ?_
                refine T_if_eq dX10_shift_93 (fun c93_17 => ?_) (fun c93_17 => ?_)
                · replace hf := ite_t c93_17 hf
                  refine T_const dX10_shift_108 ?_
                  obtain rfl := Option.some.inj hf
                  exact X_ri dX10_shift_110 ⟨rfl, rfl⟩
                · replace hf := ite_f c93_17 hf
                  refine T_aload dX10_shift_96 rfl ?_
                  refine T_iload dX10_shift_98 rfl ?_
                  refine T_iload dX10_shift_100 rfl ?_
                  obtain ⟨q102_18, hc102_18, hf⟩ := bind_t hf
                  refine X_Vv (qX7_hasPlaces Z _ (SH_at hb31_6) hc102_18) (Nat.le_of_ble_eq_true rfl) dX10_shift_102 lvX10_109 rfl rfl (SH.ob (SH_at hb31_6)) (Nat.le_of_ble_eq_true rfl) ?_
                  refine T_if_ne dX10_shift_105 (fun c105_19 => ?_) (fun c105_19 => ?_)
                  · replace hf := ite_f c105_19 hf
                    refine T_aload dX10_shift_111 rfl ?_
                    refine X_getr dX10_shift_113 lfX10_351 rfl (SH.ob (SH_at hb23_5)) (SH.f0 (SH_at hb23_5)) ?_
                    refine T_iload dX10_shift_116 rfl ?_
                    refine T_aload dX10_shift_117 rfl ?_
                    refine X_getr dX10_shift_119 lfX10_351 rfl (SH.ob (SH_at hb31_6)) (SH.f0 (SH_at hb31_6)) ?_
                    refine T_iload dX10_shift_122 rfl ?_
                    refine T_iload dX10_shift_124 rfl ?_
                    obtain ⟨hk20, hf⟩ := opt_t hf
                    refine X_copyl dX10_shift_126 lcX10_361 (SH.ar0 (SH_at hb23_5)) (SH.ar0 (SH_at hb31_6)) hk20 (Nat.le_of_ble_eq_true rfl) ?_
                    refine T_iload dX10_shift_129 rfl ?_
                    obtain rfl := Option.some.inj hf
                    exact X_ri dX10_shift_131 ⟨rfl, rfl⟩
                  · replace hf := ite_t c105_19 hf
                    refine T_const dX10_shift_108 ?_
                    obtain rfl := Option.some.inj hf
                    exact X_ri dX10_shift_110 ⟨rfl, rfl⟩
              · replace hf := ite_f c79_15 hf
                refine T_const dX10_shift_82 ?_
                obtain rfl := Option.some.inj hf
                exact X_ri dX10_shift_84 ⟨rfl, rfl⟩
        · replace hf := ite_f c47_10 hf
          refine T_const dX10_shift_50 ?_
          obtain rfl := Option.some.inj hf
          exact X_ri dX10_shift_52 ⟨rfl, rfl⟩
    · replace hf := ite_t c13_4 hf
      refine T_const dX10_shift_16 ?_
      obtain rfl := Option.some.inj hf
      exact X_ri dX10_shift_17 ⟨rfl, rfl⟩
noncomputable def fX10_taken (x : aH) (p1 : Int32) (p2 : Int32) : Option Int32 := (fX10_isShelf x p1).bind fun q2_1 => if q2_1 = (0 : Int32) then some (-1 : Int32) else (fX0_isKind x p2).bind fun q13_3 => if q13_3 = (0 : Int32) then some (-1 : Int32) else if (0 : Int32) ≤ p1 ∧ p1 < (6 : Int32) then (fX7_isEmpty x (61 + 2 * ix p1)).bind fun q29_6 => if q29_6 = (0 : Int32) then (fX0_isBody x (fi x (61 + 2 * ix p1) 3)).bind fun q46_8 => if q46_8 = (0 : Int32) then some (-12 : Int32) else if (0 : Int32) ≤ (fi x (61 + 2 * ix p1) 3) ∧ (fi x (61 + 2 * ix p1) 3) < (50 : Int32) then (fX0_isUnder x (ri x 58 (ix (fi x (61 + 2 * ix p1) 3))) p2).bind fun q69_11 => if q69_11 = (0 : Int32) then some (-12 : Int32) else if (0 : Int32) ≤ (fi x (61 + 2 * ix p1) 3) ∧ (fi x (61 + 2 * ix p1) 3) < (50 : Int32) then some (ri x 58 (ix (fi x (61 + 2 * ix p1) 3))) else none else none else some (-11 : Int32) else none
theorem qX10_taken (Z : aZ) (y : aH) {x : aH} {p1 : Int32} {p2 : Int32} {q : Int32} (hf : fX10_taken x p1 p2 = some q) : CX true Z mX10_taken 1 [.ref 0, .int p1, .int p2] y x (RV (.int q) x) := by
  refine CX.of mokX10_taken (Nat.le_of_ble_eq_true rfl) ?_
  show TX _ _ _ _ _ _ _ _ [_, _, _, _] _
  delta fX10_taken at hf
  refine T_aload dX10_taken_0 rfl ?_
  refine T_iload dX10_taken_1 rfl ?_
  obtain ⟨q2_1, hc2_1, hf⟩ := bind_t hf
  refine X_Vv (qX10_isShelf Z _ hc2_1) (Nat.le_of_ble_eq_true rfl) dX10_taken_2 lvX10_98 rfl rfl ob0 (Nat.le_of_ble_eq_true rfl) ?_
  refine T_if_eq dX10_taken_5 (fun c5_2 => ?_) (fun c5_2 => ?_)
  · replace hf := ite_t c5_2 hf
    refine T_const dX10_taken_19 ?_
    obtain rfl := Option.some.inj hf
    exact X_ri dX10_taken_20 ⟨rfl, rfl⟩
  · replace hf := ite_f c5_2 hf
    refine T_aload dX10_taken_8 rfl ?_
    refine X_getr dX10_taken_9 lfX10_75 rfl ob0 rfl ?_
    refine T_iload dX10_taken_12 rfl ?_
    obtain ⟨q13_3, hc13_3, hf⟩ := bind_t hf
    refine X_Vv (qX0_isKind Z _ hc13_3) (Nat.le_of_ble_eq_true rfl) dX10_taken_13 lvX10_316 rfl rfl ob57 (Nat.le_of_ble_eq_true rfl) ?_
    refine T_if_ne dX10_taken_16 (fun c16_4 => ?_) (fun c16_4 => ?_)
    · replace hf := ite_f c16_4 hf
      refine T_aload dX10_taken_21 rfl ?_
      refine X_getr dX10_taken_22 lfX10_81 rfl ob0 rfl ?_
      refine T_iload dX10_taken_25 rfl ?_
      obtain ⟨hb26_5, hf⟩ := opt_t hf
      refine X_aaldSH dX10_taken_26 hb26_5 ?_
      refine T_astore dX10_taken_27 ?_
      show TX _ _ _ _ _ _ _ _ [_, _, _, _] _
      refine T_aload dX10_taken_28 rfl ?_
      obtain ⟨q29_6, hc29_6, hf⟩ := bind_t hf
      refine X_Vv (qX7_isEmpty Z _ (SH_at hb26_5) hc29_6) (Nat.le_of_ble_eq_true rfl) dX10_taken_29 lvX10_102 rfl rfl (SH.ob (SH_at hb26_5)) (Nat.le_of_ble_eq_true rfl) ?_
      refine T_if_eq dX10_taken_32 (fun c32_7 => ?_) (fun c32_7 => ?_)
      · replace hf := ite_t c32_7 hf
        refine T_aload dX10_taken_38 rfl ?_
        refine X_getr dX10_taken_39 lfX10_75 rfl ob0 rfl ?_
        refine T_aload dX10_taken_42 rfl ?_
        refine X_getf dX10_taken_43 lfX10_367 rfl (SH.ob (SH_at hb26_5)) ?_
        obtain ⟨q46_8, hc46_8, hf⟩ := bind_t hf
        refine X_Vv (qX0_isBody Z _ hc46_8) (Nat.le_of_ble_eq_true rfl) dX10_taken_46 lvX10_333 rfl rfl ob57 (Nat.le_of_ble_eq_true rfl) ?_
        refine T_if_eq dX10_taken_49 (fun c49_9 => ?_) (fun c49_9 => ?_)
        · replace hf := ite_t c49_9 hf
          refine T_const dX10_taken_75 ?_
          obtain rfl := Option.some.inj hf
          exact X_ri dX10_taken_77 ⟨rfl, rfl⟩
        · replace hf := ite_f c49_9 hf
          refine T_aload dX10_taken_52 rfl ?_
          refine X_getr dX10_taken_53 lfX10_75 rfl ob0 rfl ?_
          refine T_aload dX10_taken_56 rfl ?_
          refine X_getr dX10_taken_57 lfX10_75 rfl ob0 rfl ?_
          refine X_getr dX10_taken_60 lfX10_370 rfl ob57 rfl ?_
          refine T_aload dX10_taken_63 rfl ?_
          refine X_getf dX10_taken_64 lfX10_367 rfl (SH.ob (SH_at hb26_5)) ?_
          obtain ⟨hb67_10, hf⟩ := opt_t hf
          refine X_iald (N := 50) dX10_taken_67 ar58 rfl hb67_10 ?_
          refine T_iload dX10_taken_68 rfl ?_
          obtain ⟨q69_11, hc69_11, hf⟩ := bind_t hf
          refine X_Vv (qX0_isUnder Z _ hc69_11) (Nat.le_of_ble_eq_true rfl) dX10_taken_69 lvX10_373 rfl rfl ob57 (Nat.le_of_ble_eq_true rfl) ?_
          refine T_if_ne dX10_taken_72 (fun c72_12 => ?_) (fun c72_12 => ?_)
          · replace hf := ite_f c72_12 hf
            refine T_aload dX10_taken_78 rfl ?_
            refine X_getr dX10_taken_79 lfX10_75 rfl ob0 rfl ?_
            refine X_getr dX10_taken_82 lfX10_370 rfl ob57 rfl ?_
            refine T_aload dX10_taken_85 rfl ?_
            refine X_getf dX10_taken_86 lfX10_367 rfl (SH.ob (SH_at hb26_5)) ?_
            obtain ⟨hb89_13, hf⟩ := opt_t hf
            refine X_iald (N := 50) dX10_taken_89 ar58 rfl hb89_13 ?_
            obtain rfl := Option.some.inj hf
            exact X_ri dX10_taken_90 ⟨rfl, rfl⟩
          · replace hf := ite_t c72_12 hf
            refine T_const dX10_taken_75 ?_
            obtain rfl := Option.some.inj hf
            exact X_ri dX10_taken_77 ⟨rfl, rfl⟩
      · replace hf := ite_f c32_7 hf
        refine T_const dX10_taken_35 ?_
        obtain rfl := Option.some.inj hf
        exact X_ri dX10_taken_37 ⟨rfl, rfl⟩
    · replace hf := ite_t c16_4 hf
      refine T_const dX10_taken_19 ?_
      obtain rfl := Option.some.inj hf
      exact X_ri dX10_taken_20 ⟨rfl, rfl⟩
noncomputable def fX10_count (x : aH) (p1 : Int32) : Option Int32 := if p1 = (0 : Int32) then some (fi x 15 5) else if p1 = (1 : Int32) then (fJ6_bitCount_0f7a4 (fi x 15 6)).bind fun q55_3 => some q55_3 else if p1 = (2 : Int32) then some (fi x 6 1) else if p1 = (3 : Int32) then some (fi x 52 4) else if p1 = (4 : Int32) then some (fi x 57 1) else if p1 = (5 : Int32) then some (fi x 57 3) else some (-1 : Int32)
theorem qX10_count (Z : aZ) (y : aH) {x : aH} {p1 : Int32} {q : Int32} (hf : fX10_count x p1 = some q) : CX true Z mX10_count 1 [.ref 0, .int p1] y x (RV (.int q) x) := by
  refine CX.of mokX10_count (Nat.le_of_ble_eq_true rfl) ?_
  show TX _ _ _ _ _ _ _ _ [_, _] _
  delta fX10_count at hf
  refine T_iload dX10_count_0 rfl ?_
  by_cases c1_1 : p1 = (0 : Int32)
  · replace hf := ite_t c1_1 hf
    refine T_tabE (off := 39) (tgt := 40) c1_1 dX10_count_1 (by decide) (by decide) (by decide) (by decide) ?_
    refine T_aload dX10_count_40 rfl ?_
    refine X_getr dX10_count_41 lfX10_35 rfl ob0 rfl ?_
    refine X_getf dX10_count_44 lfX10_90 rfl ob15 ?_
    obtain rfl := Option.some.inj hf
    exact X_ri dX10_count_47 ⟨rfl, rfl⟩
  replace hf := ite_f c1_1 hf
  by_cases c1_2 : p1 = (1 : Int32)
  · replace hf := ite_t c1_2 hf
    refine T_tabE (off := 47) (tgt := 48) c1_2 dX10_count_1 (by decide) (by decide) (by decide) (by decide) ?_
    refine T_aload dX10_count_48 rfl ?_
    refine X_getr dX10_count_49 lfX10_35 rfl ob0 rfl ?_
    refine X_getf dX10_count_52 lfX10_183 rfl ob15 ?_
    obtain ⟨q55_3, hc55_3, hf⟩ := bind_t hf
    refine X_Sv (qJ6_bitCount_0f7a4 _ Z _ _ hc55_3) (Nat.le_of_ble_eq_true rfl) dX10_count_55 lsX10_376 rfl rfl (Nat.le_of_ble_eq_true rfl) ?_
    obtain rfl := Option.some.inj hf
    exact X_ri dX10_count_58 ⟨rfl, rfl⟩
  replace hf := ite_f c1_2 hf
  by_cases c1_4 : p1 = (2 : Int32)
  · replace hf := ite_t c1_4 hf
    refine T_tabE (off := 58) (tgt := 59) c1_4 dX10_count_1 (by decide) (by decide) (by decide) (by decide) ?_
    refine T_aload dX10_count_59 rfl ?_
    refine X_getr dX10_count_60 lfX10_19 rfl ob0 rfl ?_
    refine X_getf dX10_count_63 lfX10_138 rfl ob6 ?_
    obtain rfl := Option.some.inj hf
    exact X_ri dX10_count_66 ⟨rfl, rfl⟩
  replace hf := ite_f c1_4 hf
  by_cases c1_5 : p1 = (3 : Int32)
  · replace hf := ite_t c1_5 hf
    refine T_tabE (off := 66) (tgt := 67) c1_5 dX10_count_1 (by decide) (by decide) (by decide) (by decide) ?_
    refine T_aload dX10_count_67 rfl ?_
    refine X_getr dX10_count_68 lfX10_68 rfl ob0 rfl ?_
    refine X_getf dX10_count_71 lfX10_296 rfl ob52 ?_
    obtain rfl := Option.some.inj hf
    exact X_ri dX10_count_74 ⟨rfl, rfl⟩
  replace hf := ite_f c1_5 hf
  by_cases c1_6 : p1 = (4 : Int32)
  · replace hf := ite_t c1_6 hf
    refine T_tabE (off := 74) (tgt := 75) c1_6 dX10_count_1 (by decide) (by decide) (by decide) (by decide) ?_
    refine T_aload dX10_count_75 rfl ?_
    refine X_getr dX10_count_76 lfX10_75 rfl ob0 rfl ?_
    refine X_getf dX10_count_79 lfX10_380 rfl ob57 ?_
    obtain rfl := Option.some.inj hf
    exact X_ri dX10_count_82 ⟨rfl, rfl⟩
  replace hf := ite_f c1_6 hf
  by_cases c1_7 : p1 = (5 : Int32)
  · replace hf := ite_t c1_7 hf
    refine T_tabE (off := 82) (tgt := 83) c1_7 dX10_count_1 (by decide) (by decide) (by decide) (by decide) ?_
    refine T_aload dX10_count_83 rfl ?_
    refine X_getr dX10_count_84 lfX10_75 rfl ob0 rfl ?_
    refine X_getf dX10_count_87 lfX10_383 rfl ob57 ?_
    obtain rfl := Option.some.inj hf
    exact X_ri dX10_count_90 ⟨rfl, rfl⟩
  replace hf := ite_f c1_7 hf
  refine T_tabOut (tgt := 91) ⟨dX10_count_1, by decide⟩ (by
    have n0 := ne_toInt c1_1; rw [show (0 : Int32).toInt = 0 from rfl] at n0
    have n1 := ne_toInt c1_2; rw [show (1 : Int32).toInt = 1 from rfl] at n1
    have n2 := ne_toInt c1_4; rw [show (2 : Int32).toInt = 2 from rfl] at n2
    have n3 := ne_toInt c1_5; rw [show (3 : Int32).toInt = 3 from rfl] at n3
    have n4 := ne_toInt c1_6; rw [show (4 : Int32).toInt = 4 from rfl] at n4
    have n5 := ne_toInt c1_7; rw [show (5 : Int32).toInt = 5 from rfl] at n5
    omega) ?_
  refine T_const dX10_count_91 ?_
  obtain rfl := Option.some.inj hf
  exact X_ri dX10_count_92 ⟨rfl, rfl⟩
