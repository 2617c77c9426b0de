noncomputable def jX11_may_81 (ih : Int32 → Int32 → Option Int32) (x : aH) (l2 : Int32) (l4 : Int32) (s0 : Int32) (s1 : Int32) : Option Int32 := ih (s0 ||| s1) (l4 + (1 : Int32))
noncomputable def sX11_may_53 (x : aH) (l2 : Int32) (ih : Int32 → Int32 → Option Int32) (l3 : Int32) (l4 : Int32) : Option Int32 := if (fi x 73 6) ≤ l4 then some l3 else (fX11_mayNow x l4 l2).bind fun q67_9 => if q67_9 = (0 : Int32) then jX11_may_81 ih x l2 l4 l3 (0 : Int32) else jX11_may_81 ih x l2 l4 l3 ((1 : Int32) <<< (l4 &&& 31))
noncomputable def wX11_may_53 (x : aH) (l2 : Int32) : Nat → Int32 → Int32 → Option Int32
  | 0 => fun _ _ => none
  | n + 1 => sX11_may_53 x l2 (wX11_may_53 x l2 n)
noncomputable def fX11_may (x : aH) (p1 : Int32) (p2 : Int32) : Option (Int32 × aH) := (fX11_bytesIs x p1).bind fun q2_1 => if q2_1 = (-1 : Int32) then some ((-1 : Int32), x) else (fX11_within (Int32.toInt64 p2) (0 : Int64) (Int32.toInt64 (((1 : Int32) <<< ((fi x 73 6) &&& 31)) - (1 : Int32)))).bind fun q21_3 => if q21_3 = (0 : Int32) then some ((-1 : Int32), x) else (fX11_bytesIs x p1).bind fun q31_5 => if (0 : Int32) ≤ q31_5 then (fX11_takesRules x p1).bind fun q45_7 => (wX11_may_53 q45_7 p2 2000 (0 : Int32) (0 : Int32)).bind fun q53_11 => some (q53_11, q45_7) else (fX11_bytesIs x p1).bind fun q39_12 => some (q39_12, x)
theorem lX11_may_53 (Z : aZ) (y : aH) (x : aH) (l2 : Int32) {Q : Option Value → aH → Prop} {R : Int32} : ∀ (n : Nat) (l3 : Int32) (l4 : Int32), wX11_may_53 x l2 n l3 l4 = some R → (∀ q, R = q → TX false Z mX11_may 3 y x Q 89 [.null, .null, .null, .int q, .null] []) → TX false Z mX11_may 3 y x Q 53 [.ref 73, .null, .int l2, .int l3, .int l4] [] := by
  intro n
  induction n with
  | zero => intro l3 l4 hf; cases hf
  | succ n ih =>
    intro l3 l4 hf ke
    replace hf : sX11_may_53 x l2 (wX11_may_53 x l2 n) l3 l4 = some R := hf
    delta sX11_may_53 at hf
    refine T_iload dX11_may_53 rfl ?_
    refine T_aload dX11_may_55 rfl ?_
    refine X_getf dX11_may_56 lfX11_93 rfl ob73 ?_
    refine T_icmp_ge dX11_may_59 (fun c59_8 => ?_) (fun c59_8 => ?_)
    · replace hf := ite_t c59_8 hf
      exact X_wk (WK.n (WK.n (WK.n (WK.s (WK.n WK.e))))) (ke l3 (Option.some.inj hf).symm)
    · replace hf := ite_f c59_8 hf
      refine T_iload dX11_may_62 rfl ?_
      refine T_aload dX11_may_63 rfl ?_
      refine T_iload dX11_may_64 rfl ?_
      refine T_iload dX11_may_66 rfl ?_
      obtain ⟨q67_9, hc67_9, hf⟩ := bind_t hf
      refine X_Vv (qX11_mayNow Z _ hc67_9) (Nat.le_of_ble_eq_true rfl) dX11_may_67 lvX11_296 rfl rfl ob73 (Nat.le_of_ble_eq_true rfl) ?_
      have J81 : ∀ (l4 : Int32) (s0 : Int32) (s1 : Int32), jX11_may_81 (wX11_may_53 x l2 n) x l2 l4 s0 s1 = some R → TX false Z mX11_may 3 y x Q 81 [.ref 73, .null, .int l2, .null, .int l4] [.int s1, .int s0] := by
        intro l4 s0 s1 hf
        delta jX11_may_81 at hf
        refine T_ior dX11_may_81 ?_
        refine T_istore dX11_may_82 ?_
        show TX _ _ _ _ _ _ _ _ [_, _, _, _, _] _
        refine T_iinc dX11_may_83 rfl ?_
        show TX _ _ _ _ _ _ _ _ [_, _, _, _, _] _
        refine T_goto dX11_may_86 ?_
        exact X_wk (WK.s (WK.n (WK.s (WK.s (WK.s WK.e))))) (ih _ _ hf ke)
      refine T_if_eq dX11_may_70 (fun c70_10 => ?_) (fun c70_10 => ?_)
      · replace hf := ite_t c70_10 hf
        refine T_const dX11_may_80 ?_
        exact X_wk (WK.s (WK.n (WK.s (WK.n (WK.s WK.e))))) (J81 _ _ _ hf)
      · replace hf := ite_f c70_10 hf
        refine T_const dX11_may_73 ?_
        refine T_iload dX11_may_74 rfl ?_
        refine T_ishl dX11_may_76 ?_
        refine T_goto dX11_may_77 ?_
        exact X_wk (WK.s (WK.n (WK.s (WK.n (WK.s WK.e))))) (J81 _ _ _ hf)
theorem qX11_may (Z : aZ) (y : aH) {x : aH} {p1 : Int32} {p2 : Int32} {q : (Int32 × aH)} (hf : fX11_may x p1 p2 = some q) : CX false Z mX11_may 3 [.ref 73, .int p1, .int p2] y x (RV (.int q.1) q.2) := by
  refine CX.of mokX11_may (Nat.le_of_ble_eq_true rfl) ?_
  show TX _ _ _ _ _ _ _ _ [_, _, _, _, _] _
  delta fX11_may at hf
  refine T_aload dX11_may_0 rfl ?_
  refine T_iload dX11_may_1 rfl ?_
  obtain ⟨q2_1, hc2_1, hf⟩ := bind_t hf
  refine X_Vv (qX11_bytesIs Z _ hc2_1) (Nat.le_of_ble_eq_true rfl) dX11_may_2 lvX11_250 rfl rfl ob73 (Nat.le_of_ble_eq_true rfl) ?_
  refine T_const dX11_may_5 ?_
  refine T_icmp_eq dX11_may_6 (fun c6_2 => ?_) (fun c6_2 => ?_)
  · replace hf := ite_t c6_2 hf
    refine T_const dX11_may_27 ?_
    obtain rfl := Option.some.inj hf
    exact X_ri dX11_may_28 ⟨rfl, rfl⟩
  · replace hf := ite_f c6_2 hf
    refine T_iload dX11_may_9 rfl ?_
    refine T_i2l dX11_may_10 ?_
    refine T_constL dX11_may_11 ?_
    refine T_const dX11_may_12 ?_
    refine T_aload dX11_may_13 rfl ?_
    refine X_getf dX11_may_14 lfX11_93 rfl ob73 ?_
    refine T_ishl dX11_may_17 ?_
    refine T_const dX11_may_18 ?_
    refine T_isub dX11_may_19 ?_
    refine T_i2l dX11_may_20 ?_
    obtain ⟨q21_3, hc21_3, hf⟩ := bind_t hf
    refine X_Sv (qX11_within _ Z _ _ hc21_3) (Nat.le_of_ble_eq_true rfl) dX11_may_21 lsX11_96 rfl rfl (Nat.le_of_ble_eq_true rfl) ?_
    refine T_if_ne dX11_may_24 (fun c24_4 => ?_) (fun c24_4 => ?_)
    · replace hf := ite_f c24_4 hf
      refine T_aload dX11_may_29 rfl ?_
      refine T_iload dX11_may_30 rfl ?_
      obtain ⟨q31_5, hc31_5, hf⟩ := bind_t hf
      refine X_Vv (qX11_bytesIs Z _ hc31_5) (Nat.le_of_ble_eq_true rfl) dX11_may_31 lvX11_250 rfl rfl ob73 (Nat.le_of_ble_eq_true rfl) ?_
      refine T_if_ge dX11_may_34 (fun c34_6 => ?_) (fun c34_6 => ?_)
      · replace hf := ite_t c34_6 hf
        refine T_aload dX11_may_43 rfl ?_
        refine T_iload dX11_may_44 rfl ?_
        obtain ⟨q45_7, hc45_7, hf⟩ := bind_t hf
        refine X_Vn (qX11_takesRules Z _ hc45_7) (Nat.le_of_ble_eq_true rfl) dX11_may_45 lvX11_293 rfl rfl ob73 (Nat.le_of_ble_eq_true rfl) ?_
        refine T_const dX11_may_48 ?_
        refine T_istore dX11_may_49 ?_
        show TX _ _ _ _ _ _ _ _ [_, _, _, _, _] _
        refine T_const dX11_may_50 ?_
        refine T_istore dX11_may_51 ?_
        show TX _ _ _ _ _ _ _ _ [_, _, _, _, _] _
        obtain ⟨q53_11, hc53_11, hf⟩ := bind_t hf
        refine X_wk (WK.s (WK.n (WK.s (WK.s (WK.s WK.e))))) (lX11_may_53 Z _ _ _ 2000 _ _ hc53_11 ?_)
        intro q53_11z hr
        subst hr
        refine T_iload dX11_may_89 rfl ?_
        obtain rfl := Option.some.inj hf
        exact X_ri dX11_may_90 ⟨rfl, rfl⟩
      · replace hf := ite_f c34_6 hf
        refine T_aload dX11_may_37 rfl ?_
        refine T_iload dX11_may_38 rfl ?_
        obtain ⟨q39_12, hc39_12, hf⟩ := bind_t hf
        refine X_Vv (qX11_bytesIs Z _ hc39_12) (Nat.le_of_ble_eq_true rfl) dX11_may_39 lvX11_250 rfl rfl ob73 (Nat.le_of_ble_eq_true rfl) ?_
        obtain rfl := Option.some.inj hf
        exact X_ri dX11_may_42 ⟨rfl, rfl⟩
    · replace hf := ite_t c24_4 hf
      refine T_const dX11_may_27 ?_
      obtain rfl := Option.some.inj hf
      exact X_ri dX11_may_28 ⟨rfl, rfl⟩
noncomputable def jX11_weightOf_59 (ih : Int32 → Int32 → Int32 → Option (Int32 × Int32)) (x : aH) (l1 : Int32) (l2 : Int32) (l3 : Int32) (l4 : Int32) : Option (Int32 × Int32) := ih l2 l3 (l4 + (1 : Int32))
noncomputable def sX11_weightOf_7 (x : aH) (l1 : Int32) (ih : Int32 → Int32 → Int32 → Option (Int32 × Int32)) (l2 : Int32) (l3 : Int32) (l4 : Int32) : Option (Int32 × Int32) := if (fi x 73 6) ≤ l4 then some (l2, l3) else if (0 : Int32) ≤ ((10 : Int32) + l4) ∧ ((10 : Int32) + l4) < (172 : Int32) then if (ri x 74 (ix ((10 : Int32) + l4))) = l1 then if (0 : Int32) ≤ ((30 : Int32) + l4) ∧ ((30 : Int32) + l4) < (172 : Int32) then if (ri x 74 (ix ((30 : Int32) + l4))) = (0 : Int32) then if (0 : Int32) ≤ ((20 : Int32) + l4) ∧ ((20 : Int32) + l4) < (172 : Int32) then jX11_weightOf_59 ih x l1 (l2 + (1 : Int32)) (l3 + (ri x 74 (ix ((20 : Int32) + l4)))) l4 else none else jX11_weightOf_59 ih x l1 l2 l3 l4 else none else jX11_weightOf_59 ih x l1 l2 l3 l4 else none
noncomputable def wX11_weightOf_7 (x : aH) (l1 : Int32) : Nat → Int32 → Int32 → Int32 → Option (Int32 × Int32)
  | 0 => fun _ _ _ => none
  | n + 1 => sX11_weightOf_7 x l1 (wX11_weightOf_7 x l1 n)
noncomputable def fX11_weightOf (x : aH) (p1 : Int32) : Option Int32 := (wX11_weightOf_7 x p1 2000 (0 : Int32) (0 : Int32) (0 : Int32)).bind fun q7_7 => some (q7_7.1 + (q7_7.2 / (3 : Int32)))
theorem lX11_weightOf_7 (Z : aZ) (y : aH) (x : aH) (l1 : Int32) {Q : Option Value → aH → Prop} {R : (Int32 × Int32)} : ∀ (n : Nat) (l2 : Int32) (l3 : Int32) (l4 : Int32), wX11_weightOf_7 x l1 n l2 l3 l4 = some R → (∀ q, R = q → TX false Z mX11_weightOf 0 y x Q 65 [.null, .null, .int (q.1), .int (q.2), .null] []) → TX false Z mX11_weightOf 0 y x Q 7 [.ref 73, .int l1, .int l2, .int l3, .int l4] [] := by
  intro n
  induction n with
  | zero => intro l2 l3 l4 hf; cases hf
  | succ n ih =>
    intro l2 l3 l4 hf ke
    replace hf : sX11_weightOf_7 x l1 (wX11_weightOf_7 x l1 n) l2 l3 l4 = some R := hf
    delta sX11_weightOf_7 at hf
    refine T_iload dX11_weightOf_7 rfl ?_
    refine T_aload dX11_weightOf_9 rfl ?_
    refine X_getf dX11_weightOf_10 lfX11_93 rfl ob73 ?_
    refine T_icmp_ge dX11_weightOf_13 (fun c13_1 => ?_) (fun c13_1 => ?_)
    · replace hf := ite_t c13_1 hf
      exact X_wk (WK.n (WK.n (WK.s (WK.s (WK.n WK.e))))) (ke (l2, l3) (Option.some.inj hf).symm)
    · replace hf := ite_f c13_1 hf
      refine T_aload dX11_weightOf_16 rfl ?_
      refine X_getr dX11_weightOf_17 lfX11_9 rfl ob73 rfl ?_
      refine T_const dX11_weightOf_20 ?_
      refine T_iload dX11_weightOf_22 rfl ?_
      refine T_iadd dX11_weightOf_24 ?_
      obtain ⟨hb25_2, hf⟩ := opt_t hf
      refine X_iald (N := 172) dX11_weightOf_25 ar74 rfl hb25_2 ?_
      refine T_iload dX11_weightOf_26 rfl ?_
      have J59 : ∀ (l2 : Int32) (l3 : Int32) (l4 : Int32), jX11_weightOf_59 (wX11_weightOf_7 x l1 n) x l1 l2 l3 l4 = some R → TX false Z mX11_weightOf 0 y x Q 59 [.ref 73, .int l1, .int l2, .int l3, .int l4] [] := by
        intro l2 l3 l4 hf
        delta jX11_weightOf_59 at hf
        refine T_iinc dX11_weightOf_59 rfl ?_
        show TX _ _ _ _ _ _ _ _ [_, _, _, _, _] _
        refine T_goto dX11_weightOf_62 ?_
        exact X_wk (WK.s (WK.s (WK.s (WK.s (WK.s WK.e))))) (ih _ _ _ hf ke)
      refine T_icmp_ne dX11_weightOf_27 (fun c27_3 => ?_) (fun c27_3 => ?_)
      · replace hf := ite_f c27_3 hf
        exact X_wk (WK.s (WK.s (WK.s (WK.s (WK.s WK.e))))) (J59 _ _ _ hf)
      · replace hf := ite_t c27_3 hf
        refine T_aload dX11_weightOf_30 rfl ?_
        refine X_getr dX11_weightOf_31 lfX11_9 rfl ob73 rfl ?_
        refine T_const dX11_weightOf_34 ?_
        refine T_iload dX11_weightOf_36 rfl ?_
        refine T_iadd dX11_weightOf_38 ?_
        obtain ⟨hb39_4, hf⟩ := opt_t hf
        refine X_iald (N := 172) dX11_weightOf_39 ar74 rfl hb39_4 ?_
        refine T_if_ne dX11_weightOf_40 (fun c40_5 => ?_) (fun c40_5 => ?_)
        · replace hf := ite_f c40_5 hf
          exact X_wk (WK.s (WK.s (WK.s (WK.s (WK.s WK.e))))) (J59 _ _ _ hf)
        · replace hf := ite_t c40_5 hf
          refine T_iinc dX11_weightOf_43 rfl ?_
          show TX _ _ _ _ _ _ _ _ [_, _, _, _, _] _
          refine T_iload dX11_weightOf_46 rfl ?_
          refine T_aload dX11_weightOf_47 rfl ?_
          refine X_getr dX11_weightOf_48 lfX11_9 rfl ob73 rfl ?_
          refine T_const dX11_weightOf_51 ?_
          refine T_iload dX11_weightOf_53 rfl ?_
          refine T_iadd dX11_weightOf_55 ?_
          obtain ⟨hb56_6, hf⟩ := opt_t hf
          refine X_iald (N := 172) dX11_weightOf_56 ar74 rfl hb56_6 ?_
          refine T_iadd dX11_weightOf_57 ?_
          refine T_istore dX11_weightOf_58 ?_
          show TX _ _ _ _ _ _ _ _ [_, _, _, _, _] _
          exact X_wk (WK.s (WK.s (WK.s (WK.s (WK.s WK.e))))) (J59 _ _ _ hf)
theorem qX11_weightOf (Z : aZ) (y : aH) {x : aH} {p1 : Int32} {q : Int32} (hf : fX11_weightOf x p1 = some q) : CX false Z mX11_weightOf 0 [.ref 73, .int p1] y x (RV (.int q) x) := by
  refine CX.of mokX11_weightOf (Nat.le_of_ble_eq_true rfl) ?_
  show TX _ _ _ _ _ _ _ _ [_, _, _, _, _] _
  delta fX11_weightOf at hf
  refine T_const dX11_weightOf_0 ?_
  refine T_istore dX11_weightOf_1 ?_
  show TX _ _ _ _ _ _ _ _ [_, _, _, _, _] _
  refine T_const dX11_weightOf_2 ?_
  refine T_istore dX11_weightOf_3 ?_
  show TX _ _ _ _ _ _ _ _ [_, _, _, _, _] _
  refine T_const dX11_weightOf_4 ?_
  refine T_istore dX11_weightOf_5 ?_
  show TX _ _ _ _ _ _ _ _ [_, _, _, _, _] _
  obtain ⟨q7_7, hc7_7, hf⟩ := bind_t hf
  refine X_wk (WK.s (WK.s (WK.s (WK.s (WK.s WK.e))))) (lX11_weightOf_7 Z _ _ _ 2000 _ _ _ hc7_7 ?_)
  intro q7_7z hr
  subst hr
  refine T_iload dX11_weightOf_65 rfl ?_
  refine T_iload dX11_weightOf_66 rfl ?_
  refine T_const dX11_weightOf_67 ?_
  refine T_idiv dX11_weightOf_68 (by decide) ?_
  refine T_iadd dX11_weightOf_69 ?_
  obtain rfl := Option.some.inj hf
  exact X_ri dX11_weightOf_70 ⟨rfl, rfl⟩
noncomputable def sX11_share_31 (x : aH) (l1 : Int32) (l2 : Int32) (ih : Int32 → Int32 → Option Int32) (l3 : Int32) (l4 : Int32) : Option Int32 := if (4 : Int32) ≤ l4 then some l3 else (fX11_weightOf x l4).bind fun q41_6 => ih (l3 + q41_6) (l4 + (1 : Int32))
noncomputable def wX11_share_31 (x : aH) (l1 : Int32) (l2 : Int32) : Nat → Int32 → Int32 → Option Int32
  | 0 => fun _ _ => none
  | n + 1 => sX11_share_31 x l1 l2 (wX11_share_31 x l1 l2 n)
noncomputable def fX11_share (x : aH) (p1 : Int32) (p2 : Int32) : Option Int32 := (fX11_within (Int32.toInt64 p1) (0 : Int64) (3 : Int64)).bind fun q6_1 => if q6_1 = (0 : Int32) then some (-1 : Int32) else (fX11_within (Int32.toInt64 p2) (0 : Int64) (9999 : Int64)).bind fun q18_3 => if q18_3 = (0 : Int32) then some (-1 : Int32) else (wX11_share_31 x p1 p2 2000 (0 : Int32) (0 : Int32)).bind fun q31_7 => if q31_7 = (0 : Int32) then some (0 : Int32) else (fX11_weightOf x p1).bind fun q63_9 => if ¬ (q31_7 = (0 : Int32)) then some ((p2 * q63_9) / q31_7) else none
theorem lX11_share_31 (Z : aZ) (y : aH) (x : aH) (l1 : Int32) (l2 : Int32) {Q : Option Value → aH → Prop} {R : Int32} : ∀ (n : Nat) (l3 : Int32) (l4 : Int32), wX11_share_31 x l1 l2 n l3 l4 = some R → (∀ q, R = q → TX false Z mX11_share 1 y x Q 52 [.ref 73, .int l1, .int l2, .int q, .null] []) → TX false Z mX11_share 1 y x Q 31 [.ref 73, .int l1, .int l2, .int l3, .int l4] [] := by
  intro n
  induction n with
  | zero => intro l3 l4 hf; cases hf
  | succ n ih =>
    intro l3 l4 hf ke
    replace hf : sX11_share_31 x l1 l2 (wX11_share_31 x l1 l2 n) l3 l4 = some R := hf
    delta sX11_share_31 at hf
    refine T_iload dX11_share_31 rfl ?_
    refine T_const dX11_share_33 ?_
    refine T_icmp_ge dX11_share_34 (fun c34_5 => ?_) (fun c34_5 => ?_)
    · replace hf := ite_t c34_5 hf
      exact X_wk (WK.s (WK.s (WK.s (WK.s (WK.n WK.e))))) (ke l3 (Option.some.inj hf).symm)
    · replace hf := ite_f c34_5 hf
      refine T_iload dX11_share_37 rfl ?_
      refine T_aload dX11_share_38 rfl ?_
      refine T_iload dX11_share_39 rfl ?_
      obtain ⟨q41_6, hc41_6, hf⟩ := bind_t hf
      refine X_Vv (qX11_weightOf Z _ hc41_6) (Nat.le_of_ble_eq_true rfl) dX11_share_41 lvX11_308 rfl rfl ob73 (Nat.le_of_ble_eq_true rfl) ?_
      refine T_iadd dX11_share_44 ?_
      refine T_istore dX11_share_45 ?_
      show TX _ _ _ _ _ _ _ _ [_, _, _, _, _] _
      refine T_iinc dX11_share_46 rfl ?_
      show TX _ _ _ _ _ _ _ _ [_, _, _, _, _] _
      refine T_goto dX11_share_49 ?_
      exact X_wk (WK.s (WK.s (WK.s (WK.s (WK.s WK.e))))) (ih _ _ hf ke)
theorem qX11_share (Z : aZ) (y : aH) {x : aH} {p1 : Int32} {p2 : Int32} {q : Int32} (hf : fX11_share x p1 p2 = some q) : CX false Z mX11_share 1 [.ref 73, .int p1, .int p2] y x (RV (.int q) x) := by
  refine CX.of mokX11_share (Nat.le_of_ble_eq_true rfl) ?_
  show TX _ _ _ _ _ _ _ _ [_, _, _, _, _] _
  delta fX11_share at hf
  refine T_iload dX11_share_0 rfl ?_
  refine T_i2l dX11_share_1 ?_
  refine T_constL dX11_share_2 ?_
  refine T_constL dX11_share_3 ?_
  obtain ⟨q6_1, hc6_1, hf⟩ := bind_t hf
  refine X_Sv (qX11_within _ Z _ _ hc6_1) (Nat.le_of_ble_eq_true rfl) dX11_share_6 lsX11_96 rfl rfl (Nat.le_of_ble_eq_true rfl) ?_
  refine T_if_eq dX11_share_9 (fun c9_2 => ?_) (fun c9_2 => ?_)
  · replace hf := ite_t c9_2 hf
    refine T_const dX11_share_24 ?_
    obtain rfl := Option.some.inj hf
    exact X_ri dX11_share_25 ⟨rfl, rfl⟩
  · replace hf := ite_f c9_2 hf
    refine T_iload dX11_share_12 rfl ?_
    refine T_i2l dX11_share_13 ?_
    refine T_constL dX11_share_14 ?_
    refine T_constL dX11_share_15 ?_
    obtain ⟨q18_3, hc18_3, hf⟩ := bind_t hf
    refine X_Sv (qX11_within _ Z _ _ hc18_3) (Nat.le_of_ble_eq_true rfl) dX11_share_18 lsX11_96 rfl rfl (Nat.le_of_ble_eq_true rfl) ?_
    refine T_if_ne dX11_share_21 (fun c21_4 => ?_) (fun c21_4 => ?_)
    · replace hf := ite_f c21_4 hf
      refine T_const dX11_share_26 ?_
      refine T_istore dX11_share_27 ?_
      show TX _ _ _ _ _ _ _ _ [_, _, _, _, _] _
      refine T_const dX11_share_28 ?_
      refine T_istore dX11_share_29 ?_
      show TX _ _ _ _ _ _ _ _ [_, _, _, _, _] _
      obtain ⟨q31_7, hc31_7, hf⟩ := bind_t hf
      refine X_wk (WK.s (WK.s (WK.s (WK.s (WK.s WK.e))))) (lX11_share_31 Z _ _ _ _ 2000 _ _ hc31_7 ?_)
      intro q31_7z hr
      subst hr
      refine T_iload dX11_share_52 rfl ?_
      refine T_if_ne dX11_share_53 (fun c53_8 => ?_) (fun c53_8 => ?_)
      · replace hf := ite_f c53_8 hf
        refine T_iload dX11_share_60 rfl ?_
        refine T_aload dX11_share_61 rfl ?_
        refine T_iload dX11_share_62 rfl ?_
        obtain ⟨q63_9, hc63_9, hf⟩ := bind_t hf
        refine X_Vv (qX11_weightOf Z _ hc63_9) (Nat.le_of_ble_eq_true rfl) dX11_share_63 lvX11_308 rfl rfl ob73 (Nat.le_of_ble_eq_true rfl) ?_
        refine T_imul dX11_share_66 ?_
        refine T_iload dX11_share_67 rfl ?_
        obtain ⟨h0, hf⟩ := opt_t hf
        refine T_idiv dX11_share_68 h0 ?_
        obtain rfl := Option.some.inj hf
        exact X_ri dX11_share_69 ⟨rfl, rfl⟩
      · replace hf := ite_t c53_8 hf
        refine T_const dX11_share_56 ?_
        refine T_goto dX11_share_57 ?_
        obtain rfl := Option.some.inj hf
        exact X_ri dX11_share_69 ⟨rfl, rfl⟩
    · replace hf := ite_t c21_4 hf
      refine T_const dX11_share_24 ?_
      obtain rfl := Option.some.inj hf
      exact X_ri dX11_share_25 ⟨rfl, rfl⟩
noncomputable def jX11_heard_77 (ih : Int32 → Int32 → Int32 → Option (Int32 × Int32)) (x : aH) (l1 : Int32) (l2 : Int32) (l3 : Int32) (l4 : Int32) (l5 : Int32) : Option (Int32 × Int32) := ih l3 l4 (l5 + (1 : Int32))
noncomputable def jX11_heard_74 (ih : Int32 → Int32 → Int32 → Option (Int32 × Int32)) (x : aH) (l1 : Int32) (l2 : Int32) (l3 : Int32) (l5 : Int32) (s0 : Int32) (s1 : Int32) : Option (Int32 × Int32) := jX11_heard_77 ih x l1 l2 l3 (s0 + s1) l5
noncomputable def sX11_heard_34 (x : aH) (l1 : Int32) (l2 : Int32) (ih : Int32 → Int32 → Int32 → Option (Int32 × Int32)) (l3 : Int32) (l4 : Int32) (l5 : Int32) : Option (Int32 × Int32) := if (64 : Int32) ≤ l5 then some (l3, l4) else (fX11_isSeen x l5 l1).bind fun q45_6 => if q45_6 = (0 : Int32) then jX11_heard_77 ih x l1 l2 l3 l4 l5 else if (0 : Int32) ≤ ((40 : Int32) + l5) ∧ ((40 : Int32) + l5) < (172 : Int32) then if (ri x 74 (ix ((40 : Int32) + l5))) = (0 : Int32) then jX11_heard_74 ih x l1 l2 (l3 + (1 : Int32)) l5 l4 (1 : Int32) else jX11_heard_74 ih x l1 l2 (l3 + (1 : Int32)) l5 l4 (0 : Int32) else none
noncomputable def wX11_heard_34 (x : aH) (l1 : Int32) (l2 : Int32) : Nat → Int32 → Int32 → Int32 → Option (Int32 × Int32)
  | 0 => fun _ _ _ => none
  | n + 1 => sX11_heard_34 x l1 l2 (wX11_heard_34 x l1 l2 n)
noncomputable def sX11_heard_98 (x : aH) (l2 : Int32) (l3 : Int32) (l4 : Int32) (ih : Int32 → Int32 → Option Int32) (l5 : Int32) (l6 : Int32) : Option Int32 := if l6 = (0 : Int32) then some l5 else if ¬ (l6 = (0 : Int32)) then ih l6 (l5 - l5 / l6 * l6) else none
noncomputable def wX11_heard_98 (x : aH) (l2 : Int32) (l3 : Int32) (l4 : Int32) : Nat → Int32 → Int32 → Option Int32
  | 0 => fun _ _ => none
  | n + 1 => sX11_heard_98 x l2 l3 l4 (wX11_heard_98 x l2 l3 l4 n)
noncomputable def fX11_heard (x : aH) (p1 : Int32) (p2 : Int32) : Option Int64 := (fX11_within (Int32.toInt64 p1) (0 : Int64) (3 : Int64)).bind fun q6_1 => if q6_1 = (0 : Int32) then some (-9223372036854775808 : Int64) else (fX11_within (Int32.toInt64 p2) (0 : Int64) (1 : Int64)).bind fun q16_3 => if q16_3 = (0 : Int32) then some (-9223372036854775808 : Int64) else (wX11_heard_34 x p1 p2 2000 (0 : Int32) (0 : Int32) (0 : Int32)).bind fun q34_10 => if q34_10.2 = (0 : Int32) then some (Int32.toInt64 p2) else (wX11_heard_98 x p2 q34_10.1 q34_10.2 2000 q34_10.2 q34_10.1).bind fun q98_13 => if p2 = (0 : Int32) then if ¬ (q98_13 = (0 : Int32)) then some (Int32.toInt64 (q34_10.2 / q98_13)) else none else if ¬ (q98_13 = (0 : Int32)) then some (Int32.toInt64 (q34_10.1 / q98_13)) else none
theorem lX11_heard_34 (Z : aZ) (y : aH) (x : aH) (l1 : Int32) (l2 : Int32) {Q : Option Value → aH → Prop} {R : (Int32 × Int32)} : ∀ (n : Nat) (l3 : Int32) (l4 : Int32) (l5 : Int32), wX11_heard_34 x l1 l2 n l3 l4 l5 = some R → (∀ q, R = q → TX false Z mX11_heard 2 y x Q 83 [.null, .null, .int l2, .int (q.1), .int (q.2), .null, .null, .null] []) → TX false Z mX11_heard 2 y x Q 34 [.ref 73, .int l1, .int l2, .int l3, .int l4, .int l5, .null, .null] [] := by
  intro n
  induction n with
  | zero => intro l3 l4 l5 hf; cases hf
  | succ n ih =>
    intro l3 l4 l5 hf ke
    replace hf : sX11_heard_34 x l1 l2 (wX11_heard_34 x l1 l2 n) l3 l4 l5 = some R := hf
    delta sX11_heard_34 at hf
    refine T_iload dX11_heard_34 rfl ?_
    refine T_const dX11_heard_36 ?_
    refine T_icmp_ge dX11_heard_38 (fun c38_5 => ?_) (fun c38_5 => ?_)
    · replace hf := ite_t c38_5 hf
      exact X_wk (WK.n (WK.n (WK.s (WK.s (WK.s (WK.n (WK.n (WK.n WK.e)))))))) (ke (l3, l4) (Option.some.inj hf).symm)
    · replace hf := ite_f c38_5 hf
      refine T_aload dX11_heard_41 rfl ?_
      refine T_iload dX11_heard_42 rfl ?_
      refine T_iload dX11_heard_44 rfl ?_
      obtain ⟨q45_6, hc45_6, hf⟩ := bind_t hf
      refine X_Vv (qX11_isSeen Z _ hc45_6) (Nat.le_of_ble_eq_true rfl) dX11_heard_45 lvX11_224 rfl rfl ob73 (Nat.le_of_ble_eq_true rfl) ?_
      have J77 : ∀ (l3 : Int32) (l4 : Int32) (l5 : Int32), jX11_heard_77 (wX11_heard_34 x l1 l2 n) x l1 l2 l3 l4 l5 = some R → TX false Z mX11_heard 2 y x Q 77 [.ref 73, .int l1, .int l2, .int l3, .int l4, .int l5, .null, .null] [] := by
        intro l3 l4 l5 hf
        delta jX11_heard_77 at hf
        refine T_iinc dX11_heard_77 rfl ?_
        show TX _ _ _ _ _ _ _ _ [_, _, _, _, _, _, _, _] _
        refine T_goto dX11_heard_80 ?_
        exact X_wk (WK.s (WK.s (WK.s (WK.s (WK.s (WK.s (WK.n (WK.n WK.e)))))))) (ih _ _ _ hf ke)
      refine T_if_eq dX11_heard_48 (fun c48_7 => ?_) (fun c48_7 => ?_)
      · replace hf := ite_t c48_7 hf
        exact X_wk (WK.s (WK.s (WK.s (WK.s (WK.s (WK.s (WK.n (WK.n WK.e)))))))) (J77 _ _ _ hf)
      · replace hf := ite_f c48_7 hf
        refine T_iinc dX11_heard_51 rfl ?_
        show TX _ _ _ _ _ _ _ _ [_, _, _, _, _, _, _, _] _
        refine T_iload dX11_heard_54 rfl ?_
        refine T_aload dX11_heard_56 rfl ?_
        refine X_getr dX11_heard_57 lfX11_9 rfl ob73 rfl ?_
        refine T_const dX11_heard_60 ?_
        refine T_iload dX11_heard_62 rfl ?_
        refine T_iadd dX11_heard_64 ?_
        obtain ⟨hb65_8, hf⟩ := opt_t hf
        refine X_iald (N := 172) dX11_heard_65 ar74 rfl hb65_8 ?_
        have J74 : ∀ (l3 : Int32) (l5 : Int32) (s0 : Int32) (s1 : Int32), jX11_heard_74 (wX11_heard_34 x l1 l2 n) x l1 l2 l3 l5 s0 s1 = some R → TX false Z mX11_heard 2 y x Q 74 [.ref 73, .int l1, .int l2, .int l3, .null, .int l5, .null, .null] [.int s1, .int s0] := by
          intro l3 l5 s0 s1 hf
          delta jX11_heard_74 at hf
          refine T_iadd dX11_heard_74 ?_
          refine T_istore dX11_heard_75 ?_
          show TX _ _ _ _ _ _ _ _ [_, _, _, _, _, _, _, _] _
          exact X_wk (WK.s (WK.s (WK.s (WK.s (WK.s (WK.s (WK.n (WK.n WK.e)))))))) (J77 _ _ _ hf)
        refine T_if_ne dX11_heard_66 (fun c66_9 => ?_) (fun c66_9 => ?_)
        · replace hf := ite_f c66_9 hf
          refine T_const dX11_heard_73 ?_
          exact X_wk (WK.s (WK.s (WK.s (WK.s (WK.n (WK.s (WK.n (WK.n WK.e)))))))) (J74 _ _ _ _ hf)
        · replace hf := ite_t c66_9 hf
          refine T_const dX11_heard_69 ?_
          refine T_goto dX11_heard_70 ?_
          exact X_wk (WK.s (WK.s (WK.s (WK.s (WK.n (WK.s (WK.n (WK.n WK.e)))))))) (J74 _ _ _ _ hf)
theorem lX11_heard_98 (Z : aZ) (y : aH) (x : aH) (l2 : Int32) (l3 : Int32) (l4 : Int32) {Q : Option Value → aH → Prop} {R : Int32} : ∀ (n : Nat) (l5 : Int32) (l6 : Int32), wX11_heard_98 x l2 l3 l4 n l5 l6 = some R → (∀ q, R = q → TX false Z mX11_heard 2 y x Q 121 [.null, .null, .int l2, .int l3, .int l4, .int q, .null, .null] []) → TX false Z mX11_heard 2 y x Q 98 [.null, .null, .int l2, .int l3, .int l4, .int l5, .int l6, .null] [] := by
  intro n
  induction n with
  | zero => intro l5 l6 hf; cases hf
  | succ n ih =>
    intro l5 l6 hf ke
    replace hf : sX11_heard_98 x l2 l3 l4 (wX11_heard_98 x l2 l3 l4 n) l5 l6 = some R := hf
    delta sX11_heard_98 at hf
    refine T_iload dX11_heard_98 rfl ?_
    refine T_if_eq dX11_heard_100 (fun c100_12 => ?_) (fun c100_12 => ?_)
    · replace hf := ite_t c100_12 hf
      exact X_wk (WK.n (WK.n (WK.s (WK.s (WK.s (WK.s (WK.n (WK.n WK.e)))))))) (ke l5 (Option.some.inj hf).symm)
    · replace hf := ite_f c100_12 hf
      refine T_iload dX11_heard_103 rfl ?_
      refine T_iload dX11_heard_105 rfl ?_
      obtain ⟨h0, hf⟩ := opt_t hf
      refine T_irem dX11_heard_107 h0 ?_
      refine T_istore dX11_heard_108 ?_
      show TX _ _ _ _ _ _ _ _ [_, _, _, _, _, _, _, _] _
      refine T_iload dX11_heard_110 rfl ?_
      refine T_istore dX11_heard_112 ?_
      show TX _ _ _ _ _ _ _ _ [_, _, _, _, _, _, _, _] _
      refine T_iload dX11_heard_114 rfl ?_
      refine T_istore dX11_heard_116 ?_
      show TX _ _ _ _ _ _ _ _ [_, _, _, _, _, _, _, _] _
      refine T_goto dX11_heard_118 ?_
      exact X_wk (WK.n (WK.n (WK.s (WK.s (WK.s (WK.s (WK.s (WK.n WK.e)))))))) (ih _ _ hf ke)
theorem qX11_heard (Z : aZ) (y : aH) {x : aH} {p1 : Int32} {p2 : Int32} {q : Int64} (hf : fX11_heard x p1 p2 = some q) : CX false Z mX11_heard 2 [.ref 73, .int p1, .int p2] y x (RV (.long q) x) := by
  refine CX.of mokX11_heard (Nat.le_of_ble_eq_true rfl) ?_
  show TX _ _ _ _ _ _ _ _ [_, _, _, _, _, _, _, _] _
  delta fX11_heard at hf
  refine T_iload dX11_heard_0 rfl ?_
  refine T_i2l dX11_heard_1 ?_
  refine T_constL dX11_heard_2 ?_
  refine T_constL dX11_heard_3 ?_
  obtain ⟨q6_1, hc6_1, hf⟩ := bind_t hf
  refine X_Sv (qX11_within _ Z _ _ hc6_1) (Nat.le_of_ble_eq_true rfl) dX11_heard_6 lsX11_96 rfl rfl (Nat.le_of_ble_eq_true rfl) ?_
  refine T_if_eq dX11_heard_9 (fun c9_2 => ?_) (fun c9_2 => ?_)
  · replace hf := ite_t c9_2 hf
    refine T_constL dX11_heard_22 ?_
    obtain rfl := Option.some.inj hf
    exact X_rl dX11_heard_25 ⟨rfl, rfl⟩
  · replace hf := ite_f c9_2 hf
    refine T_iload dX11_heard_12 rfl ?_
    refine T_i2l dX11_heard_13 ?_
    refine T_constL dX11_heard_14 ?_
    refine T_constL dX11_heard_15 ?_
    obtain ⟨q16_3, hc16_3, hf⟩ := bind_t hf
    refine X_Sv (qX11_within _ Z _ _ hc16_3) (Nat.le_of_ble_eq_true rfl) dX11_heard_16 lsX11_96 rfl rfl (Nat.le_of_ble_eq_true rfl) ?_
    refine T_if_ne dX11_heard_19 (fun c19_4 => ?_) (fun c19_4 => ?_)
    · replace hf := ite_f c19_4 hf
      refine T_const dX11_heard_26 ?_
      refine T_istore dX11_heard_27 ?_
      show TX _ _ _ _ _ _ _ _ [_, _, _, _, _, _, _, _] _
      refine T_const dX11_heard_28 ?_
      refine T_istore dX11_heard_29 ?_
      show TX _ _ _ _ _ _ _ _ [_, _, _, _, _, _, _, _] _
      refine T_const dX11_heard_31 ?_
      refine T_istore dX11_heard_32 ?_
      show TX _ _ _ _ _ _ _ _ [_, _, _, _, _, _, _, _] _
      obtain ⟨q34_10, hc34_10, hf⟩ := bind_t hf
      refine X_wk (WK.s (WK.s (WK.s (WK.s (WK.s (WK.s (WK.n (WK.n WK.e)))))))) (lX11_heard_34 Z _ _ _ _ 2000 _ _ _ hc34_10 ?_)
      intro q34_10z hr
      subst hr
      refine T_iload dX11_heard_83 rfl ?_
      refine T_if_ne dX11_heard_85 (fun c85_11 => ?_) (fun c85_11 => ?_)
      · replace hf := ite_f c85_11 hf
        refine T_iload dX11_heard_91 rfl ?_
        refine T_istore dX11_heard_93 ?_
        show TX _ _ _ _ _ _ _ _ [_, _, _, _, _, _, _, _] _
        refine T_iload dX11_heard_95 rfl ?_
        refine T_istore dX11_heard_96 ?_
        show TX _ _ _ _ _ _ _ _ [_, _, _, _, _, _, _, _] _
        obtain ⟨q98_13, hc98_13, hf⟩ := bind_t hf
        refine X_wk (WK.n (WK.n (WK.s (WK.s (WK.s (WK.s (WK.s (WK.n WK.e)))))))) (lX11_heard_98 Z _ _ _ _ _ 2000 _ _ hc98_13 ?_)
        intro q98_13z hr
        subst hr
        refine T_iload dX11_heard_121 rfl ?_
        refine T_if_ne dX11_heard_122 (fun c122_14 => ?_) (fun c122_14 => ?_)
        · replace hf := ite_f c122_14 hf
          refine T_iload dX11_heard_134 rfl ?_
          refine T_iload dX11_heard_135 rfl ?_
          obtain ⟨h0, hf⟩ := opt_t hf
          refine T_idiv dX11_heard_137 h0 ?_
          refine T_i2l dX11_heard_138 ?_
          obtain rfl := Option.some.inj hf
          exact X_rl dX11_heard_139 ⟨rfl, rfl⟩
        · replace hf := ite_t c122_14 hf
          refine T_iload dX11_heard_125 rfl ?_
          refine T_iload dX11_heard_127 rfl ?_
          obtain ⟨h0, hf⟩ := opt_t hf
          refine T_idiv dX11_heard_129 h0 ?_
          refine T_i2l dX11_heard_130 ?_
          refine T_goto dX11_heard_131 ?_
          obtain rfl := Option.some.inj hf
          exact X_rl dX11_heard_139 ⟨rfl, rfl⟩
      · replace hf := ite_t c85_11 hf
        refine T_iload dX11_heard_88 rfl ?_
        refine T_i2l dX11_heard_89 ?_
        obtain rfl := Option.some.inj hf
        exact X_rl dX11_heard_90 ⟨rfl, rfl⟩
    · replace hf := ite_t c19_4 hf
      refine T_constL dX11_heard_22 ?_
      obtain rfl := Option.some.inj hf
      exact X_rl dX11_heard_25 ⟨rfl, rfl⟩
noncomputable def jX11_worthOf_43 (ih : Int32 → Int32 → Option Int32) (x : aH) (l1 : Int32) (l3 : Int32) (s0 : Int32) (s1 : Int32) : Option Int32 := ih (s0 - s1) (l3 + (1 : Int32))
noncomputable def jX11_worthOf_42 (ih : Int32 → Int32 → Option Int32) (x : aH) (l1 : Int32) (l3 : Int32) (s0 : Int32) : Option Int32 := jX11_worthOf_43 ih x l1 l3 s0 (0 : Int32)
noncomputable def sX11_worthOf_7 (x : aH) (l1 : Int32) (ih : Int32 → Int32 → Option Int32) (l2 : Int32) (l3 : Int32) : Option Int32 := if (fi x 73 6) ≤ l3 then some l2 else if (0 : Int32) ≤ ((10 : Int32) + l3) ∧ ((10 : Int32) + l3) < (172 : Int32) then if (ri x 74 (ix ((10 : Int32) + l3))) = l1 then if (0 : Int32) ≤ l3 ∧ l3 < (10 : Int32) then if (ri x 82 (ix l3)) = (0 : Int32) then jX11_worthOf_43 ih x l1 l3 l2 (2 : Int32) else jX11_worthOf_42 ih x l1 l3 l2 else none else jX11_worthOf_42 ih x l1 l3 l2 else none
noncomputable def wX11_worthOf_7 (x : aH) (l1 : Int32) : Nat → Int32 → Int32 → Option Int32
  | 0 => fun _ _ => none
  | n + 1 => sX11_worthOf_7 x l1 (wX11_worthOf_7 x l1 n)
noncomputable def fX11_worthOf (x : aH) (p1 : Int32) : Option Int32 := (fX11_homeMany x).bind fun q1_1 => (wX11_worthOf_7 x p1 2000 q1_1 (0 : Int32)).bind fun q7_7 => some q7_7
theorem lX11_worthOf_7 (Z : aZ) (y : aH) (x : aH) (l1 : Int32) {Q : Option Value → aH → Prop} {R : Int32} : ∀ (n : Nat) (l2 : Int32) (l3 : Int32), wX11_worthOf_7 x l1 n l2 l3 = some R → (∀ q, R = q → TX false Z mX11_worthOf 1 y x Q 51 [.null, .null, .int q, .null] []) → TX false Z mX11_worthOf 1 y x Q 7 [.ref 73, .int l1, .int l2, .int l3] [] := by
  intro n
  induction n with
  | zero => intro l2 l3 hf; cases hf
  | succ n ih =>
    intro l2 l3 hf ke
    replace hf : sX11_worthOf_7 x l1 (wX11_worthOf_7 x l1 n) l2 l3 = some R := hf
    delta sX11_worthOf_7 at hf
    refine T_iload dX11_worthOf_7 rfl ?_
    refine T_aload dX11_worthOf_8 rfl ?_
    refine X_getf dX11_worthOf_9 lfX11_93 rfl ob73 ?_
    refine T_icmp_ge dX11_worthOf_12 (fun c12_2 => ?_) (fun c12_2 => ?_)
    · replace hf := ite_t c12_2 hf
      exact X_wk (WK.n (WK.n (WK.s (WK.n WK.e)))) (ke l2 (Option.some.inj hf).symm)
    · replace hf := ite_f c12_2 hf
      refine T_iload dX11_worthOf_15 rfl ?_
      refine T_aload dX11_worthOf_16 rfl ?_
      refine X_getr dX11_worthOf_17 lfX11_9 rfl ob73 rfl ?_
      refine T_const dX11_worthOf_20 ?_
      refine T_iload dX11_worthOf_22 rfl ?_
      refine T_iadd dX11_worthOf_23 ?_
      obtain ⟨hb24_3, hf⟩ := opt_t hf
      refine X_iald (N := 172) dX11_worthOf_24 ar74 rfl hb24_3 ?_
      refine T_iload dX11_worthOf_25 rfl ?_
      have J43 : ∀ (l3 : Int32) (s0 : Int32) (s1 : Int32), jX11_worthOf_43 (wX11_worthOf_7 x l1 n) x l1 l3 s0 s1 = some R → TX false Z mX11_worthOf 1 y x Q 43 [.ref 73, .int l1, .null, .int l3] [.int s1, .int s0] := by
        intro l3 s0 s1 hf
        delta jX11_worthOf_43 at hf
        refine T_isub dX11_worthOf_43 ?_
        refine T_istore dX11_worthOf_44 ?_
        show TX _ _ _ _ _ _ _ _ [_, _, _, _] _
        refine T_iinc dX11_worthOf_45 rfl ?_
        show TX _ _ _ _ _ _ _ _ [_, _, _, _] _
        refine T_goto dX11_worthOf_48 ?_
        exact X_wk (WK.s (WK.s (WK.s (WK.s WK.e)))) (ih _ _ hf ke)
      have J42 : ∀ (l3 : Int32) (s0 : Int32), jX11_worthOf_42 (wX11_worthOf_7 x l1 n) x l1 l3 s0 = some R → TX false Z mX11_worthOf 1 y x Q 42 [.ref 73, .int l1, .null, .int l3] [.int s0] := by
        intro l3 s0 hf
        delta jX11_worthOf_42 at hf
        refine T_const dX11_worthOf_42 ?_
        exact X_wk (WK.s (WK.s (WK.n (WK.s WK.e)))) (J43 _ _ _ hf)
      refine T_icmp_ne dX11_worthOf_26 (fun c26_4 => ?_) (fun c26_4 => ?_)
      · replace hf := ite_f c26_4 hf
        exact X_wk (WK.s (WK.s (WK.n (WK.s WK.e)))) (J42 _ _ hf)
      · replace hf := ite_t c26_4 hf
        refine T_aload dX11_worthOf_29 rfl ?_
        refine X_getr dX11_worthOf_30 lfX11_34 rfl ob73 rfl ?_
        refine T_iload dX11_worthOf_33 rfl ?_
        obtain ⟨hb34_5, hf⟩ := opt_t hf
        refine X_iald (N := 10) dX11_worthOf_34 ar82 rfl hb34_5 ?_
        refine T_if_ne dX11_worthOf_35 (fun c35_6 => ?_) (fun c35_6 => ?_)
        · replace hf := ite_f c35_6 hf
          exact X_wk (WK.s (WK.s (WK.n (WK.s WK.e)))) (J42 _ _ hf)
        · replace hf := ite_t c35_6 hf
          refine T_const dX11_worthOf_38 ?_
          refine T_goto dX11_worthOf_39 ?_
          exact X_wk (WK.s (WK.s (WK.n (WK.s WK.e)))) (J43 _ _ _ hf)
theorem qX11_worthOf (Z : aZ) (y : aH) {x : aH} {p1 : Int32} {q : Int32} (hf : fX11_worthOf x p1 = some q) : CX false Z mX11_worthOf 1 [.ref 73, .int p1] y x (RV (.int q) x) := by
  refine CX.of mokX11_worthOf (Nat.le_of_ble_eq_true rfl) ?_
  show TX _ _ _ _ _ _ _ _ [_, _, _, _] _
  delta fX11_worthOf at hf
  refine T_aload dX11_worthOf_0 rfl ?_
  obtain ⟨q1_1, hc1_1, hf⟩ := bind_t hf
  refine X_Vv (qX11_homeMany Z _ hc1_1) (Nat.le_of_ble_eq_true rfl) dX11_worthOf_1 lvX11_262 rfl rfl ob73 (Nat.le_of_ble_eq_true rfl) ?_
  refine T_istore dX11_worthOf_4 ?_
  show TX _ _ _ _ _ _ _ _ [_, _, _, _] _
  refine T_const dX11_worthOf_5 ?_
  refine T_istore dX11_worthOf_6 ?_
  show TX _ _ _ _ _ _ _ _ [_, _, _, _] _
  obtain ⟨q7_7, hc7_7, hf⟩ := bind_t hf
  refine X_wk (WK.s (WK.s (WK.s (WK.s WK.e)))) (lX11_worthOf_7 Z _ _ _ 2000 _ _ hc7_7 ?_)
  intro q7_7z hr
  subst hr
  refine T_iload dX11_worthOf_51 rfl ?_
  obtain rfl := Option.some.inj hf
  exact X_ri dX11_worthOf_52 ⟨rfl, rfl⟩
noncomputable def jX11_playsFrom_119 (g_X11_playsFrom : aH → Int32 → Int32 → Int32 → Option (Int32 × aH)) (ih : aH → Int32 → Int32 → Option (Int32 × aH)) (x : aH) (l1 : Int32) (l2 : Int32) (l3 : Int32) (l5 : Int32) (s0 : Int32) : Option (Int32 × aH) := ih x s0 (l5 + (1 : Int32))
noncomputable def sX11_playsFrom_47 (g_X11_playsFrom : aH → Int32 → Int32 → Int32 → Option (Int32 × aH)) (l1 : Int32) (l2 : Int32) (l3 : Int32) (ih : aH → Int32 → Int32 → Option (Int32 × aH)) (x : aH) (l4 : Int32) (l5 : Int32) : Option (Int32 × aH) := if (4 : Int32) < l5 then some (l4, x) else if (0 : Int32) ≤ l2 ∧ l2 < (4 : Int32) then (g_X11_playsFrom (sri x 84 (ix l2) l5) l1 (l2 + (1 : Int32)) l3).bind fun q67_4 => if l5 = (0 : Int32) then jX11_playsFrom_119 g_X11_playsFrom ih q67_4.2 l1 l2 l3 l5 q67_4.1 else if (l2 - l2 / (2 : Int32) * (2 : Int32)) = (0 : Int32) then if q67_4.1 ≤ l4 then jX11_playsFrom_119 g_X11_playsFrom ih q67_4.2 l1 l2 l3 l5 l4 else jX11_playsFrom_119 g_X11_playsFrom ih q67_4.2 l1 l2 l3 l5 q67_4.1 else if l4 ≤ q67_4.1 then jX11_playsFrom_119 g_X11_playsFrom ih q67_4.2 l1 l2 l3 l5 l4 else jX11_playsFrom_119 g_X11_playsFrom ih q67_4.2 l1 l2 l3 l5 q67_4.1 else none
noncomputable def wX11_playsFrom_47 (g_X11_playsFrom : aH → Int32 → Int32 → Int32 → Option (Int32 × aH)) (l1 : Int32) (l2 : Int32) (l3 : Int32) : Nat → aH → Int32 → Int32 → Option (Int32 × aH)
  | 0 => fun _ _ _ => none
  | n + 1 => sX11_playsFrom_47 g_X11_playsFrom l1 l2 l3 (wX11_playsFrom_47 g_X11_playsFrom l1 l2 l3 n)
noncomputable def sX11_playsFrom_12 (g_X11_playsFrom : aH → Int32 → Int32 → Int32 → Option (Int32 × aH)) (l1 : Int32) (l3 : Int32) (ih : aH → Int32 → Option aH) (x : aH) (l4 : Int32) : Option aH := if l3 ≤ l4 then some x else if (0 : Int32) ≤ l4 ∧ l4 < (4 : Int32) then (fX11_goesNight x (ri x 84 (ix l4))).bind fun q26_13 => ih q26_13 (l4 + (1 : Int32)) else none
noncomputable def wX11_playsFrom_12 (g_X11_playsFrom : aH → Int32 → Int32 → Int32 → Option (Int32 × aH)) (l1 : Int32) (l3 : Int32) : Nat → aH → Int32 → Option aH
  | 0 => fun _ _ => none
  | n + 1 => sX11_playsFrom_12 g_X11_playsFrom l1 l3 (wX11_playsFrom_12 g_X11_playsFrom l1 l3 n)
noncomputable def uX11_playsFrom (g_X11_playsFrom : aH → Int32 → Int32 → Int32 → Option (Int32 × aH)) (x : aH) (p1 : Int32) (p2 : Int32) (p3 : Int32) : Option (Int32 × aH) := if p2 = p3 then (fX11_begins x).bind fun q6_10 => (wX11_playsFrom_12 g_X11_playsFrom p1 p3 2000 q6_10 (0 : Int32)).bind fun q12_14 => (fX11_worthOf q12_14 p1).bind fun q37_15 => some (q37_15, q12_14) else (wX11_playsFrom_47 g_X11_playsFrom p1 p2 p3 2000 x (0 : Int32) (0 : Int32)).bind fun q47_9 => some (q47_9.1, q47_9.2)
theorem lX11_playsFrom_47 (Z : aZ) (y : aH) {D : Nat} (hK : 68 ≤ D) {g_X11_playsFrom : aH → Int32 → Int32 → Int32 → Option (Int32 × aH)} (H_X11_playsFrom : ∀ (x : aH) (p1 : Int32) (p2 : Int32) (p3 : Int32) {q : (Int32 × aH)}, g_X11_playsFrom x p1 p2 p3 = some q → CX false Z mX11_playsFrom D [.ref 73, .int p1, .int p2, .int p3] y x (RV (.int q.1) q.2)) (l1 : Int32) (l2 : Int32) (l3 : Int32) {Q : Option Value → aH → Prop} {R : (Int32 × aH)} : ∀ (n : Nat) (x : aH) (l4 : Int32) (l5 : Int32), wX11_playsFrom_47 g_X11_playsFrom l1 l2 l3 n x l4 l5 = some R → (∀ q, R = q → TX false Z mX11_playsFrom (D + 1) y q.2 Q 127 [.null, .null, .null, .null, .int (q.1), .null, .null] []) → TX false Z mX11_playsFrom (D + 1) y x Q 47 [.ref 73, .int l1, .int l2, .int l3, .int l4, .int l5, .null] [] := by
  intro n
  induction n with
  | zero => intro x l4 l5 hf; cases hf
  | succ n ih =>
    intro x l4 l5 hf ke
    replace hf : sX11_playsFrom_47 g_X11_playsFrom l1 l2 l3 (wX11_playsFrom_47 g_X11_playsFrom l1 l2 l3 n) x l4 l5 = some R := hf
    delta sX11_playsFrom_47 at hf
    refine T_iload dX11_playsFrom_47 rfl ?_
    refine T_const dX11_playsFrom_49 ?_
    refine T_icmp_gt dX11_playsFrom_50 (fun c50_2 => ?_) (fun c50_2 => ?_)
    · replace hf := ite_t c50_2 hf
      exact X_wk (WK.n (WK.n (WK.n (WK.n (WK.s (WK.n (WK.n WK.e))))))) (ke (l4, x) (Option.some.inj hf).symm)
    · replace hf := ite_f c50_2 hf
      refine T_aload dX11_playsFrom_53 rfl ?_
      refine X_getr dX11_playsFrom_54 lfX11_40 rfl ob73 rfl ?_
      refine T_iload dX11_playsFrom_57 rfl ?_
      refine T_iload dX11_playsFrom_58 rfl ?_
      obtain ⟨hb60_3, hf⟩ := opt_t hf
      refine X_iast (N := 4) dX11_playsFrom_60 ar84 rfl hb60_3 ?_
      refine T_aload dX11_playsFrom_61 rfl ?_
      refine T_iload dX11_playsFrom_62 rfl ?_
      refine T_iload dX11_playsFrom_63 rfl ?_
      refine T_const dX11_playsFrom_64 ?_
      refine T_iadd dX11_playsFrom_65 ?_
      refine T_iload dX11_playsFrom_66 rfl ?_
      obtain ⟨q67_4, hc67_4, hf⟩ := bind_t hf
      refine X_Vv (H_X11_playsFrom _ _ _ _ hc67_4) (Nat.le_refl _) dX11_playsFrom_67 lvX11_314 rfl rfl ob73 (Nat.le_of_ble_eq_true rfl) ?_
      refine T_istore dX11_playsFrom_70 ?_
      show TX _ _ _ _ _ _ _ _ [_, _, _, _, _, _, _] _
      refine T_iload dX11_playsFrom_72 rfl ?_
      have J119 : ∀ (x : aH) (l5 : Int32) (s0 : Int32), jX11_playsFrom_119 g_X11_playsFrom (wX11_playsFrom_47 g_X11_playsFrom l1 l2 l3 n) x l1 l2 l3 l5 s0 = some R → TX false Z mX11_playsFrom (D + 1) y x Q 119 [.ref 73, .int l1, .int l2, .int l3, .null, .int l5, .null] [.int s0] := by
        intro x l5 s0 hf
        delta jX11_playsFrom_119 at hf
        refine T_istore dX11_playsFrom_119 ?_
        show TX _ _ _ _ _ _ _ _ [_, _, _, _, _, _, _] _
        refine T_iinc dX11_playsFrom_121 rfl ?_
        show TX _ _ _ _ _ _ _ _ [_, _, _, _, _, _, _] _
        refine T_goto dX11_playsFrom_124 ?_
        exact X_wk (WK.s (WK.s (WK.s (WK.s (WK.s (WK.s (WK.n WK.e))))))) (ih _ _ _ hf ke)
      refine T_if_ne dX11_playsFrom_74 (fun c74_5 => ?_) (fun c74_5 => ?_)
      · replace hf := ite_f c74_5 hf
        refine T_iload dX11_playsFrom_82 rfl ?_
        refine T_const dX11_playsFrom_83 ?_
        refine T_irem dX11_playsFrom_84 (by decide) ?_
        refine T_if_ne dX11_playsFrom_85 (fun c85_6 => ?_) (fun c85_6 => ?_)
        · replace hf := ite_f c85_6 hf
          refine T_iload dX11_playsFrom_105 rfl ?_
          refine T_iload dX11_playsFrom_107 rfl ?_
          refine T_icmp_ge dX11_playsFrom_109 (fun c109_7 => ?_) (fun c109_7 => ?_)
          · replace hf := ite_t c109_7 hf
            refine T_iload dX11_playsFrom_117 rfl ?_
            exact X_wk (WK.s (WK.s (WK.s (WK.s (WK.n (WK.s (WK.n WK.e))))))) (J119 _ _ _ hf)
          · replace hf := ite_f c109_7 hf
            refine T_iload dX11_playsFrom_112 rfl ?_
            refine T_goto dX11_playsFrom_114 ?_
            exact X_wk (WK.s (WK.s (WK.s (WK.s (WK.n (WK.s (WK.n WK.e))))))) (J119 _ _ _ hf)
        · replace hf := ite_t c85_6 hf
          refine T_iload dX11_playsFrom_88 rfl ?_
          refine T_iload dX11_playsFrom_90 rfl ?_
          refine T_icmp_le dX11_playsFrom_92 (fun c92_8 => ?_) (fun c92_8 => ?_)
          · replace hf := ite_t c92_8 hf
            refine T_iload dX11_playsFrom_100 rfl ?_
            refine T_goto dX11_playsFrom_102 ?_
            exact X_wk (WK.s (WK.s (WK.s (WK.s (WK.n (WK.s (WK.n WK.e))))))) (J119 _ _ _ hf)
          · replace hf := ite_f c92_8 hf
            refine T_iload dX11_playsFrom_95 rfl ?_
            refine T_goto dX11_playsFrom_97 ?_
            exact X_wk (WK.s (WK.s (WK.s (WK.s (WK.n (WK.s (WK.n WK.e))))))) (J119 _ _ _ hf)
      · replace hf := ite_t c74_5 hf
        refine T_iload dX11_playsFrom_77 rfl ?_
        refine T_goto dX11_playsFrom_79 ?_
        exact X_wk (WK.s (WK.s (WK.s (WK.s (WK.n (WK.s (WK.n WK.e))))))) (J119 _ _ _ hf)
theorem lX11_playsFrom_12 (Z : aZ) (y : aH) {D : Nat} (hK : 68 ≤ D) {g_X11_playsFrom : aH → Int32 → Int32 → Int32 → Option (Int32 × aH)} (H_X11_playsFrom : ∀ (x : aH) (p1 : Int32) (p2 : Int32) (p3 : Int32) {q : (Int32 × aH)}, g_X11_playsFrom x p1 p2 p3 = some q → CX false Z mX11_playsFrom D [.ref 73, .int p1, .int p2, .int p3] y x (RV (.int q.1) q.2)) (l1 : Int32) (l3 : Int32) {Q : Option Value → aH → Prop} {R : aH} : ∀ (n : Nat) (x : aH) (l4 : Int32), wX11_playsFrom_12 g_X11_playsFrom l1 l3 n x l4 = some R → (∀ q, R = q → TX false Z mX11_playsFrom (D + 1) y q Q 35 [.ref 73, .int l1, .null, .null, .null, .null, .null] []) → TX false Z mX11_playsFrom (D + 1) y x Q 12 [.ref 73, .int l1, .null, .int l3, .int l4, .null, .null] [] := by
  intro n
  induction n with
  | zero => intro x l4 hf; cases hf
  | succ n ih =>
    intro x l4 hf ke
    replace hf : sX11_playsFrom_12 g_X11_playsFrom l1 l3 (wX11_playsFrom_12 g_X11_playsFrom l1 l3 n) x l4 = some R := hf
    delta sX11_playsFrom_12 at hf
    refine T_iload dX11_playsFrom_12 rfl ?_
    refine T_iload dX11_playsFrom_14 rfl ?_
    refine T_icmp_ge dX11_playsFrom_15 (fun c15_11 => ?_) (fun c15_11 => ?_)
    · replace hf := ite_t c15_11 hf
      exact X_wk (WK.s (WK.s (WK.n (WK.n (WK.n (WK.n (WK.n WK.e))))))) (ke x (Option.some.inj hf).symm)
    · replace hf := ite_f c15_11 hf
      refine T_aload dX11_playsFrom_18 rfl ?_
      refine T_aload dX11_playsFrom_19 rfl ?_
      refine X_getr dX11_playsFrom_20 lfX11_40 rfl ob73 rfl ?_
      refine T_iload dX11_playsFrom_23 rfl ?_
      obtain ⟨hb25_12, hf⟩ := opt_t hf
      refine X_iald (N := 4) dX11_playsFrom_25 ar84 rfl hb25_12 ?_
      obtain ⟨q26_13, hc26_13, hf⟩ := bind_t hf
      refine X_Vn (qX11_goesNight Z _ hc26_13) (Nat.le_trans (Nat.le_of_ble_eq_true rfl) hK) dX11_playsFrom_26 lvX11_246 rfl rfl ob73 (Nat.le_of_ble_eq_true rfl) ?_
      refine T_iinc dX11_playsFrom_29 rfl ?_
      show TX _ _ _ _ _ _ _ _ [_, _, _, _, _, _, _] _
      refine T_goto dX11_playsFrom_32 ?_
      exact X_wk (WK.s (WK.s (WK.n (WK.s (WK.s (WK.n (WK.n WK.e))))))) (ih _ _ hf ke)
theorem pX11_playsFrom (Z : aZ) (y : aH) {D : Nat} (hK : 68 ≤ D) {g_X11_playsFrom : aH → Int32 → Int32 → Int32 → Option (Int32 × aH)} (H_X11_playsFrom : ∀ (x : aH) (p1 : Int32) (p2 : Int32) (p3 : Int32) {q : (Int32 × aH)}, g_X11_playsFrom x p1 p2 p3 = some q → CX false Z mX11_playsFrom D [.ref 73, .int p1, .int p2, .int p3] y x (RV (.int q.1) q.2)) {x : aH} {p1 : Int32} {p2 : Int32} {p3 : Int32} {q : (Int32 × aH)} (hf : uX11_playsFrom g_X11_playsFrom x p1 p2 p3 = some q) : CX false Z mX11_playsFrom (D + 1) [.ref 73, .int p1, .int p2, .int p3] y x (RV (.int q.1) q.2) := by
  refine CX.of mokX11_playsFrom (Nat.le_of_ble_eq_true rfl) ?_
  show TX _ _ _ _ _ _ _ _ [_, _, _, _, _, _, _] _
  delta uX11_playsFrom at hf
  refine T_iload dX11_playsFrom_0 rfl ?_
  refine T_iload dX11_playsFrom_1 rfl ?_
  refine T_icmp_ne dX11_playsFrom_2 (fun c2_1 => ?_) (fun c2_1 => ?_)
  · replace hf := ite_f c2_1 hf
    refine T_const dX11_playsFrom_41 ?_
    refine T_istore dX11_playsFrom_42 ?_
    show TX _ _ _ _ _ _ _ _ [_, _, _, _, _, _, _] _
    refine T_const dX11_playsFrom_44 ?_
    refine T_istore dX11_playsFrom_45 ?_
    show TX _ _ _ _ _ _ _ _ [_, _, _, _, _, _, _] _
    obtain ⟨q47_9, hc47_9, hf⟩ := bind_t hf
    refine X_wk (WK.s (WK.s (WK.s (WK.s (WK.s (WK.s (WK.n WK.e))))))) (lX11_playsFrom_47 Z _ hK H_X11_playsFrom _ _ _ 2000 _ _ _ hc47_9 ?_)
    intro q47_9z hr
    subst hr
    refine T_iload dX11_playsFrom_127 rfl ?_
    obtain rfl := Option.some.inj hf
    exact X_ri dX11_playsFrom_129 ⟨rfl, rfl⟩
  · replace hf := ite_t c2_1 hf
    refine T_aload dX11_playsFrom_5 rfl ?_
    obtain ⟨q6_10, hc6_10, hf⟩ := bind_t hf
    refine X_Vn (qX11_begins Z _ hc6_10) (Nat.le_trans (Nat.le_of_ble_eq_true rfl) hK) dX11_playsFrom_6 lvX11_236 rfl rfl ob73 (Nat.le_of_ble_eq_true rfl) ?_
    refine T_const dX11_playsFrom_9 ?_
    refine T_istore dX11_playsFrom_10 ?_
    show TX _ _ _ _ _ _ _ _ [_, _, _, _, _, _, _] _
    obtain ⟨q12_14, hc12_14, hf⟩ := bind_t hf
    refine X_wk (WK.s (WK.s (WK.n (WK.s (WK.s (WK.n (WK.n WK.e))))))) (lX11_playsFrom_12 Z _ hK H_X11_playsFrom _ _ 2000 _ _ hc12_14 ?_)
    intro q12_14z hr
    subst hr
    refine T_aload dX11_playsFrom_35 rfl ?_
    refine T_iload dX11_playsFrom_36 rfl ?_
    obtain ⟨q37_15, hc37_15, hf⟩ := bind_t hf
    refine X_Vv (qX11_worthOf Z _ hc37_15) (Nat.le_trans (Nat.le_of_ble_eq_true rfl) hK) dX11_playsFrom_37 lvX11_311 rfl rfl ob73 (Nat.le_of_ble_eq_true rfl) ?_
    obtain rfl := Option.some.inj hf
    exact X_ri dX11_playsFrom_40 ⟨rfl, rfl⟩
noncomputable def GX11_playsFrom : Nat → (aH → Int32 → Int32 → Int32 → Option (Int32 × aH))
  | 0 => (fun _ _ _ _ => none)
  | n + 1 => (uX11_playsFrom ((GX11_playsFrom n)))
noncomputable def fX11_playsFrom (n : Nat) : aH → Int32 → Int32 → Int32 → Option (Int32 × aH) := (GX11_playsFrom n)
theorem fX11_playsFrom_S (n : Nat) : fX11_playsFrom (n + 1) = uX11_playsFrom (fX11_playsFrom n) := rfl
theorem qGX11_playsFrom (Z : aZ) (y : aH) : ∀ n, (∀ (x : aH) (p1 : Int32) (p2 : Int32) (p3 : Int32) {q : (Int32 × aH)}, fX11_playsFrom n x p1 p2 p3 = some q → CX false Z mX11_playsFrom (n + 68) [.ref 73, .int p1, .int p2, .int p3] y x (RV (.int q.1) q.2)) := by
  intro n
  induction n with
  | zero => exact (by intro _ _ _ _ q hf; cases hf)
  | succ n ih =>
    have ih_X11_playsFrom := ih
    exact (by intro _ _ _ _ q hf; exact (pX11_playsFrom Z y (D := n + 68) (Nat.le_add_left _ _) ih_X11_playsFrom hf).le (by omega))
theorem qX11_playsFrom (Z : aZ) (y : aH) {x : aH} {p1 : Int32} {p2 : Int32} {p3 : Int32} {q : (Int32 × aH)} (hf : fX11_playsFrom 64 x p1 p2 p3 = some q) : CX false Z mX11_playsFrom 132 [.ref 73, .int p1, .int p2, .int p3] y x (RV (.int q.1) q.2) := (qGX11_playsFrom Z y 64) _ _ _ _ hf
noncomputable def jX11_byTurns_119 (ih : aH → Int32 → Int32 → Option (Int32 × aH)) (x : aH) (l1 : Int32) (l2 : Int32) (l4 : Int32) (l6 : Int32) (s0 : Int32) : Option (Int32 × aH) := ih x s0 (l6 + (1 : Int32))
noncomputable def jX11_byTurns_89 (ih : aH → Int32 → Int32 → Option (Int32 × aH)) (x : aH) (l1 : Int32) (l2 : Int32) (l4 : Int32) (l6 : Int32) (s1 : Int32) (s2 : Int32) : Option (Int32 × aH) := if (0 : Int32) ≤ s1 ∧ s1 < (4 : Int32) then (fX11_playsFrom 64 (sri x 84 (ix s1) s2) l1 (1 : Int32) l2).bind fun q94_12 => if q94_12.1 = l4 then if l6 = (0 : Int32) then jX11_byTurns_119 ih q94_12.2 l1 l2 l4 l6 (4 : Int32) else jX11_byTurns_119 ih q94_12.2 l1 l2 l4 l6 (l6 - (1 : Int32)) else jX11_byTurns_119 ih q94_12.2 l1 l2 l4 l6 (-1 : Int32) else none
noncomputable def sX11_byTurns_60 (l1 : Int32) (l2 : Int32) (l4 : Int32) (ih : aH → Int32 → Int32 → Option (Int32 × aH)) (x : aH) (l5 : Int32) (l6 : Int32) : Option (Int32 × aH) := if (4 : Int32) < l6 then some (l5, x) else if (0 : Int32) ≤ l5 then some (l5, x) else if l6 = (0 : Int32) then jX11_byTurns_89 ih x l1 l2 l4 l6 (0 : Int32) (4 : Int32) else jX11_byTurns_89 ih x l1 l2 l4 l6 (0 : Int32) (l6 - (1 : Int32))
noncomputable def wX11_byTurns_60 (l1 : Int32) (l2 : Int32) (l4 : Int32) : Nat → aH → Int32 → Int32 → Option (Int32 × aH)
  | 0 => fun _ _ _ => none
  | n + 1 => sX11_byTurns_60 l1 l2 l4 (wX11_byTurns_60 l1 l2 l4 n)
noncomputable def fX11_byTurns (x : aH) (p1 : Int32) (p2 : Int32) (p3 : Int32) : Option (Int32 × aH) := (fX11_within (Int32.toInt64 p1) (0 : Int64) (3 : Int64)).bind fun q6_1 => if q6_1 = (0 : Int32) then some ((-2000000000 : Int32), x) else (fX11_within (Int32.toInt64 p2) (1 : Int64) (4 : Int64)).bind fun q18_3 => if q18_3 = (0 : Int32) then some ((-2000000000 : Int32), x) else (fX11_within (Int32.toInt64 p3) (0 : Int64) (1 : Int64)).bind fun q28_5 => if q28_5 = (0 : Int32) then some ((-2000000000 : Int32), x) else (fX11_playsFrom 64 x p1 (0 : Int32) p2).bind fun q42_7 => if p3 = (0 : Int32) then some (q42_7.1, q42_7.2) else (wX11_byTurns_60 p1 p2 q42_7.1 2000 q42_7.2 (-1 : Int32) (0 : Int32)).bind fun q60_16 => some (q60_16.1, q60_16.2)
theorem lX11_byTurns_60 (Z : aZ) (y : aH) (l1 : Int32) (l2 : Int32) (l4 : Int32) {Q : Option Value → aH → Prop} {R : (Int32 × aH)} : ∀ (n : Nat) (x : aH) (l5 : Int32) (l6 : Int32), wX11_byTurns_60 l1 l2 l4 n x l5 l6 = some R → (∀ q, R = q → TX false Z mX11_byTurns 133 y q.2 Q 127 [.null, .null, .null, .null, .null, .int (q.1), .null] []) → TX false Z mX11_byTurns 133 y x Q 60 [.ref 73, .int l1, .int l2, .null, .int l4, .int l5, .int l6] [] := by
  intro n
  induction n with
  | zero => intro x l5 l6 hf; cases hf
  | succ n ih =>
    intro x l5 l6 hf ke
    replace hf : sX11_byTurns_60 l1 l2 l4 (wX11_byTurns_60 l1 l2 l4 n) x l5 l6 = some R := hf
    delta sX11_byTurns_60 at hf
    refine T_iload dX11_byTurns_60 rfl ?_
    refine T_const dX11_byTurns_62 ?_
    refine T_icmp_gt dX11_byTurns_63 (fun c63_9 => ?_) (fun c63_9 => ?_)
    · replace hf := ite_t c63_9 hf
      exact X_wk (WK.n (WK.n (WK.n (WK.n (WK.n (WK.s (WK.n WK.e))))))) (ke (l5, x) (Option.some.inj hf).symm)
    · replace hf := ite_f c63_9 hf
      refine T_iload dX11_byTurns_66 rfl ?_
      refine T_if_ge dX11_byTurns_68 (fun c68_10 => ?_) (fun c68_10 => ?_)
      · replace hf := ite_t c68_10 hf
        exact X_wk (WK.n (WK.n (WK.n (WK.n (WK.n (WK.s (WK.n WK.e))))))) (ke (l5, x) (Option.some.inj hf).symm)
      · replace hf := ite_f c68_10 hf
        refine T_aload dX11_byTurns_71 rfl ?_
        refine X_getr dX11_byTurns_72 lfX11_40 rfl ob73 rfl ?_
        refine T_const dX11_byTurns_75 ?_
        refine T_iload dX11_byTurns_76 rfl ?_
        have J89 : ∀ (x : aH) (l6 : Int32) (s1 : Int32) (s2 : Int32), jX11_byTurns_89 (wX11_byTurns_60 l1 l2 l4 n) x l1 l2 l4 l6 s1 s2 = some R → TX false Z mX11_byTurns 133 y x Q 89 [.ref 73, .int l1, .int l2, .null, .int l4, .null, .int l6] [.int s2, .int s1, .ref 84] := by
          intro x l6 s1 s2 hf
          delta jX11_byTurns_89 at hf
          obtain ⟨hb89_11, hf⟩ := opt_t hf
          refine X_iast (N := 4) dX11_byTurns_89 ar84 rfl hb89_11 ?_
          refine T_aload dX11_byTurns_90 rfl ?_
          refine T_iload dX11_byTurns_91 rfl ?_
          refine T_const dX11_byTurns_92 ?_
          refine T_iload dX11_byTurns_93 rfl ?_
          obtain ⟨q94_12, hc94_12, hf⟩ := bind_t hf
          refine X_Vv (qX11_playsFrom Z _ hc94_12) (Nat.le_of_ble_eq_true rfl) dX11_byTurns_94 lvX11_314 rfl rfl ob73 (Nat.le_of_ble_eq_true rfl) ?_
          refine T_iload dX11_byTurns_97 rfl ?_
          have J119 : ∀ (x : aH) (l6 : Int32) (s0 : Int32), jX11_byTurns_119 (wX11_byTurns_60 l1 l2 l4 n) x l1 l2 l4 l6 s0 = some R → TX false Z mX11_byTurns 133 y x Q 119 [.ref 73, .int l1, .int l2, .null, .int l4, .null, .int l6] [.int s0] := by
            intro x l6 s0 hf
            delta jX11_byTurns_119 at hf
            refine T_istore dX11_byTurns_119 ?_
            show TX _ _ _ _ _ _ _ _ [_, _, _, _, _, _, _] _
            refine T_iinc dX11_byTurns_121 rfl ?_
            show TX _ _ _ _ _ _ _ _ [_, _, _, _, _, _, _] _
            refine T_goto dX11_byTurns_124 ?_
            exact X_wk (WK.s (WK.s (WK.s (WK.n (WK.s (WK.s (WK.s WK.e))))))) (ih _ _ _ hf ke)
          refine T_icmp_ne dX11_byTurns_99 (fun c99_13 => ?_) (fun c99_13 => ?_)
          · replace hf := ite_f c99_13 hf
            refine T_const dX11_byTurns_118 ?_
            exact X_wk (WK.s (WK.s (WK.s (WK.n (WK.s (WK.n (WK.s WK.e))))))) (J119 _ _ _ hf)
          · replace hf := ite_t c99_13 hf
            refine T_iload dX11_byTurns_102 rfl ?_
            refine T_if_ne dX11_byTurns_104 (fun c104_14 => ?_) (fun c104_14 => ?_)
            · replace hf := ite_f c104_14 hf
              refine T_iload dX11_byTurns_111 rfl ?_
              refine T_const dX11_byTurns_113 ?_
              refine T_isub dX11_byTurns_114 ?_
              refine T_goto dX11_byTurns_115 ?_
              exact X_wk (WK.s (WK.s (WK.s (WK.n (WK.s (WK.n (WK.s WK.e))))))) (J119 _ _ _ hf)
            · replace hf := ite_t c104_14 hf
              refine T_const dX11_byTurns_107 ?_
              refine T_goto dX11_byTurns_108 ?_
              exact X_wk (WK.s (WK.s (WK.s (WK.n (WK.s (WK.n (WK.s WK.e))))))) (J119 _ _ _ hf)
        refine T_if_ne dX11_byTurns_78 (fun c78_15 => ?_) (fun c78_15 => ?_)
        · replace hf := ite_f c78_15 hf
          refine T_iload dX11_byTurns_85 rfl ?_
          refine T_const dX11_byTurns_87 ?_
          refine T_isub dX11_byTurns_88 ?_
          exact X_wk (WK.s (WK.s (WK.s (WK.n (WK.s (WK.n (WK.s WK.e))))))) (J89 _ _ _ _ hf)
        · replace hf := ite_t c78_15 hf
          refine T_const dX11_byTurns_81 ?_
          refine T_goto dX11_byTurns_82 ?_
          exact X_wk (WK.s (WK.s (WK.s (WK.n (WK.s (WK.n (WK.s WK.e))))))) (J89 _ _ _ _ hf)
theorem qX11_byTurns (Z : aZ) (y : aH) {x : aH} {p1 : Int32} {p2 : Int32} {p3 : Int32} {q : (Int32 × aH)} (hf : fX11_byTurns x p1 p2 p3 = some q) : CX false Z mX11_byTurns 133 [.ref 73, .int p1, .int p2, .int p3] y x (RV (.int q.1) q.2) := by
  refine CX.of mokX11_byTurns (Nat.le_of_ble_eq_true rfl) ?_
  show TX _ _ _ _ _ _ _ _ [_, _, _, _, _, _, _] _
  delta fX11_byTurns at hf
  refine T_iload dX11_byTurns_0 rfl ?_
  refine T_i2l dX11_byTurns_1 ?_
  refine T_constL dX11_byTurns_2 ?_
  refine T_constL dX11_byTurns_3 ?_
  obtain ⟨q6_1, hc6_1, hf⟩ := bind_t hf
  refine X_Sv (qX11_within _ Z _ _ hc6_1) (Nat.le_of_ble_eq_true rfl) dX11_byTurns_6 lsX11_96 rfl rfl (Nat.le_of_ble_eq_true rfl) ?_
  refine T_if_eq dX11_byTurns_9 (fun c9_2 => ?_) (fun c9_2 => ?_)
  · replace hf := ite_t c9_2 hf
    refine T_const dX11_byTurns_34 ?_
    obtain rfl := Option.some.inj hf
    exact X_ri dX11_byTurns_37 ⟨rfl, rfl⟩
  · replace hf := ite_f c9_2 hf
    refine T_iload dX11_byTurns_12 rfl ?_
    refine T_i2l dX11_byTurns_13 ?_
    refine T_constL dX11_byTurns_14 ?_
    refine T_constL dX11_byTurns_15 ?_
    obtain ⟨q18_3, hc18_3, hf⟩ := bind_t hf
    refine X_Sv (qX11_within _ Z _ _ hc18_3) (Nat.le_of_ble_eq_true rfl) dX11_byTurns_18 lsX11_96 rfl rfl (Nat.le_of_ble_eq_true rfl) ?_
    refine T_if_eq dX11_byTurns_21 (fun c21_4 => ?_) (fun c21_4 => ?_)
    · replace hf := ite_t c21_4 hf
      refine T_const dX11_byTurns_34 ?_
      obtain rfl := Option.some.inj hf
      exact X_ri dX11_byTurns_37 ⟨rfl, rfl⟩
    · replace hf := ite_f c21_4 hf
      refine T_iload dX11_byTurns_24 rfl ?_
      refine T_i2l dX11_byTurns_25 ?_
      refine T_constL dX11_byTurns_26 ?_
      refine T_constL dX11_byTurns_27 ?_
      obtain ⟨q28_5, hc28_5, hf⟩ := bind_t hf
      refine X_Sv (qX11_within _ Z _ _ hc28_5) (Nat.le_of_ble_eq_true rfl) dX11_byTurns_28 lsX11_96 rfl rfl (Nat.le_of_ble_eq_true rfl) ?_
      refine T_if_ne dX11_byTurns_31 (fun c31_6 => ?_) (fun c31_6 => ?_)
      · replace hf := ite_f c31_6 hf
        refine T_aload dX11_byTurns_38 rfl ?_
        refine T_iload dX11_byTurns_39 rfl ?_
        refine T_const dX11_byTurns_40 ?_
        refine T_iload dX11_byTurns_41 rfl ?_
        obtain ⟨q42_7, hc42_7, hf⟩ := bind_t hf
        refine X_Vv (qX11_playsFrom Z _ hc42_7) (Nat.le_of_ble_eq_true rfl) dX11_byTurns_42 lvX11_314 rfl rfl ob73 (Nat.le_of_ble_eq_true rfl) ?_
        refine T_istore dX11_byTurns_45 ?_
        show TX _ _ _ _ _ _ _ _ [_, _, _, _, _, _, _] _
        refine T_iload dX11_byTurns_47 rfl ?_
        refine T_if_ne dX11_byTurns_48 (fun c48_8 => ?_) (fun c48_8 => ?_)
        · replace hf := ite_f c48_8 hf
          refine T_const dX11_byTurns_54 ?_
          refine T_istore dX11_byTurns_55 ?_
          show TX _ _ _ _ _ _ _ _ [_, _, _, _, _, _, _] _
          refine T_const dX11_byTurns_57 ?_
          refine T_istore dX11_byTurns_58 ?_
          show TX _ _ _ _ _ _ _ _ [_, _, _, _, _, _, _] _
          obtain ⟨q60_16, hc60_16, hf⟩ := bind_t hf
          refine X_wk (WK.s (WK.s (WK.s (WK.n (WK.s (WK.s (WK.s WK.e))))))) (lX11_byTurns_60 Z _ _ _ _ 2000 _ _ _ hc60_16 ?_)
          intro q60_16z hr
          subst hr
          refine T_iload dX11_byTurns_127 rfl ?_
          obtain rfl := Option.some.inj hf
          exact X_ri dX11_byTurns_129 ⟨rfl, rfl⟩
        · replace hf := ite_t c48_8 hf
          refine T_iload dX11_byTurns_51 rfl ?_
          obtain rfl := Option.some.inj hf
          exact X_ri dX11_byTurns_53 ⟨rfl, rfl⟩
      · replace hf := ite_t c31_6 hf
        refine T_const dX11_byTurns_34 ?_
        obtain rfl := Option.some.inj hf
        exact X_ri dX11_byTurns_37 ⟨rfl, rfl⟩
noncomputable def jX11_drawn_149 (ih : aH → Int32 → Int32 → Option (Int32 × aH)) (x : aH) (l2 : Int32) (l3 : Int32) (l4 : Int32) (l5 : Int32) (l6 : Int32) (l7 : Int32) (l8 : Int32) (s1 : Int32) : Option (Int32 × aH) := (fX11_goesNight x s1).bind fun q149_11 => ih q149_11 l4 (l8 + (1 : Int32))
noncomputable def sX11_drawn_98 (l2 : Int32) (l3 : Int32) (l5 : Int32) (l6 : Int32) (l7 : Int32) (ih : aH → Int32 → Int32 → Option (Int32 × aH)) (x : aH) (l4 : Int32) (l8 : Int32) : Option (Int32 × aH) := if ((l2 / (100 : Int32)) - (l2 / (100 : Int32)) / (100 : Int32) * (100 : Int32)) ≤ l8 then some (l4, x) else if (l2 - l2 / (100 : Int32) * (100 : Int32)) ≤ (((Int32.toUInt32 ((l4 * (1103515245 : Int32)) + (12345 : Int32)) >>> (Int32.toUInt32 (16 : Int32) &&& Int32.toUInt32 31)).toInt32) - ((Int32.toUInt32 ((l4 * (1103515245 : Int32)) + (12345 : Int32)) >>> (Int32.toUInt32 (16 : Int32) &&& Int32.toUInt32 31)).toInt32) / (12 : Int32) * (12 : Int32)) then jX11_drawn_149 ih x l2 l3 ((l4 * (1103515245 : Int32)) + (12345 : Int32)) l5 l6 l7 l8 (((Int32.toUInt32 ((l4 * (1103515245 : Int32)) + (12345 : Int32)) >>> (Int32.toUInt32 (8 : Int32) &&& Int32.toUInt32 31)).toInt32) - ((Int32.toUInt32 ((l4 * (1103515245 : Int32)) + (12345 : Int32)) >>> (Int32.toUInt32 (8 : Int32) &&& Int32.toUInt32 31)).toInt32) / (4 : Int32) * (4 : Int32)) else jX11_drawn_149 ih x l2 l3 ((l4 * (1103515245 : Int32)) + (12345 : Int32)) l5 l6 l7 l8 (4 : Int32)
noncomputable def wX11_drawn_98 (l2 : Int32) (l3 : Int32) (l5 : Int32) (l6 : Int32) (l7 : Int32) : Nat → aH → Int32 → Int32 → Option (Int32 × aH)
  | 0 => fun _ _ _ => none
  | n + 1 => sX11_drawn_98 l2 l3 l5 l6 l7 (wX11_drawn_98 l2 l3 l5 l6 l7 n)
noncomputable def jX11_drawn_183 (ih : aH → Int32 → Int32 → Int32 → Int32 → Option (Int32 × Int32 × aH)) (x : aH) (l2 : Int32) (l3 : Int32) (l4 : Int32) (l5 : Int32) (l7 : Int32) (s0 : Int32) (s1 : Int32) : Option (Int32 × Int32 × aH) := ih x l4 l5 (s0 + s1) (l7 + (1 : Int32))
noncomputable def sX11_drawn_81 (l2 : Int32) (l3 : Int32) (ih : aH → Int32 → Int32 → Int32 → Int32 → Option (Int32 × Int32 × aH)) (x : aH) (l4 : Int32) (l5 : Int32) (l6 : Int32) (l7 : Int32) : Option (Int32 × Int32 × aH) := if (l2 / (10000 : Int32)) ≤ l7 then some (l5, l6, x) else (fX11_begins x).bind fun q92_9 => (wX11_drawn_98 l2 l3 l5 l6 l7 2000 q92_9 l4 (0 : Int32)).bind fun q98_13 => (fX11_homeMany q98_13.2).bind fun q161_14 => if l3 < (0 : Int32) then jX11_drawn_183 ih q98_13.2 l2 l3 q98_13.1 (l5 + q161_14) l7 l6 (0 : Int32) else if (0 : Int32) ≤ l3 ∧ l3 < (10 : Int32) then jX11_drawn_183 ih q98_13.2 l2 l3 q98_13.1 (l5 + q161_14) l7 l6 (ri q98_13.2 82 (ix l3)) else none
noncomputable def wX11_drawn_81 (l2 : Int32) (l3 : Int32) : Nat → aH → Int32 → Int32 → Int32 → Int32 → Option (Int32 × Int32 × aH)
  | 0 => fun _ _ _ _ _ => none
  | n + 1 => sX11_drawn_81 l2 l3 (wX11_drawn_81 l2 l3 n)
noncomputable def jX11_drawn_69 (x : aH) (l1 : Int32) (l2 : Int32) (l3 : Int32) : Option (Int32 × aH) := (wX11_drawn_81 l2 l3 2000 x l1 (0 : Int32) (0 : Int32) (0 : Int32)).bind fun q81_17 => if (0 : Int32) ≤ l3 then some (q81_17.2.1, q81_17.2.2) else some (q81_17.1, q81_17.2.2)
noncomputable def fX11_drawn (x : aH) (p1 : Int32) (p2 : Int32) (p3 : Int32) : Option (Int32 × aH) := if p2 < (0 : Int32) then some ((-1 : Int32), x) else (fX11_within (Int32.toInt64 (p2 / (10000 : Int32))) (1 : Int64) (30 : Int64)).bind fun q14_2 => if q14_2 = (0 : Int32) then some ((-1 : Int32), x) else (fX11_within (Int32.toInt64 ((p2 / (100 : Int32)) - (p2 / (100 : Int32)) / (100 : Int32) * (100 : Int32))) (1 : Int64) (30 : Int64)).bind fun q32_4 => if q32_4 = (0 : Int32) then some ((-1 : Int32), x) else (fX11_within (Int32.toInt64 (p2 - p2 / (100 : Int32) * (100 : Int32))) (0 : Int64) (12 : Int64)).bind fun q47_6 => if q47_6 = (0 : Int32) then some ((-1 : Int32), x) else if p3 = (-1 : Int32) then jX11_drawn_69 x p1 p2 p3 else (fX11_isLost x (Int32.toInt64 p3)).bind fun q61_20 => if q61_20 = (0 : Int32) then some ((-1 : Int32), x) else jX11_drawn_69 x p1 p2 p3
theorem lX11_drawn_98 (Z : aZ) (y : aH) (l2 : Int32) (l3 : Int32) (l5 : Int32) (l6 : Int32) (l7 : Int32) {Q : Option Value → aH → Prop} {R : (Int32 × aH)} : ∀ (n : Nat) (x : aH) (l4 : Int32) (l8 : Int32), wX11_drawn_98 l2 l3 l5 l6 l7 n x l4 l8 = some R → (∀ q, R = q → TX false Z mX11_drawn 69 y q.2 Q 158 [.ref 73, .null, .int l2, .int l3, .int (q.1), .int l5, .int l6, .int l7, .null] []) → TX false Z mX11_drawn 69 y x Q 98 [.ref 73, .null, .int l2, .int l3, .int l4, .int l5, .int l6, .int l7, .int l8] [] := by
  intro n
  induction n with
  | zero => intro x l4 l8 hf; cases hf
  | succ n ih =>
    intro x l4 l8 hf ke
    replace hf : sX11_drawn_98 l2 l3 l5 l6 l7 (wX11_drawn_98 l2 l3 l5 l6 l7 n) x l4 l8 = some R := hf
    delta sX11_drawn_98 at hf
    refine T_iload dX11_drawn_98 rfl ?_
    refine T_iload dX11_drawn_100 rfl ?_
    refine T_const dX11_drawn_101 ?_
    refine T_idiv dX11_drawn_103 (by decide) ?_
    refine T_const dX11_drawn_104 ?_
    refine T_irem dX11_drawn_106 (by decide) ?_
    refine T_icmp_ge dX11_drawn_107 (fun c107_10 => ?_) (fun c107_10 => ?_)
    · replace hf := ite_t c107_10 hf
      exact X_wk (WK.s (WK.n (WK.s (WK.s (WK.s (WK.s (WK.s (WK.s (WK.n WK.e))))))))) (ke (l4, x) (Option.some.inj hf).symm)
    · replace hf := ite_f c107_10 hf
      refine T_iload dX11_drawn_110 rfl ?_
      refine T_const dX11_drawn_112 ?_
      refine T_imul dX11_drawn_115 ?_
      refine T_const dX11_drawn_116 ?_
      refine T_iadd dX11_drawn_119 ?_
      refine T_istore dX11_drawn_120 ?_
      show TX _ _ _ _ _ _ _ _ [_, _, _, _, _, _, _, _, _] _
      refine T_aload dX11_drawn_122 rfl ?_
      refine T_iload dX11_drawn_123 rfl ?_
      refine T_const dX11_drawn_125 ?_
      refine T_iushr dX11_drawn_127 ?_
      refine T_const dX11_drawn_128 ?_
      refine T_irem dX11_drawn_130 (by decide) ?_
      refine T_iload dX11_drawn_131 rfl ?_
      refine T_const dX11_drawn_132 ?_
      refine T_irem dX11_drawn_134 (by decide) ?_
      have J149 : ∀ (x : aH) (l4 : Int32) (l8 : Int32) (s1 : Int32), jX11_drawn_149 (wX11_drawn_98 l2 l3 l5 l6 l7 n) x l2 l3 l4 l5 l6 l7 l8 s1 = some R → TX false Z mX11_drawn 69 y x Q 149 [.ref 73, .null, .int l2, .int l3, .int l4, .int l5, .int l6, .int l7, .int l8] [.int s1, .ref 73] := by
        intro x l4 l8 s1 hf
        delta jX11_drawn_149 at hf
        obtain ⟨q149_11, hc149_11, hf⟩ := bind_t hf
        refine X_Vn (qX11_goesNight Z _ hc149_11) (Nat.le_of_ble_eq_true rfl) dX11_drawn_149 lvX11_246 rfl rfl ob73 (Nat.le_of_ble_eq_true rfl) ?_
        refine T_iinc dX11_drawn_152 rfl ?_
        show TX _ _ _ _ _ _ _ _ [_, _, _, _, _, _, _, _, _] _
        refine T_goto dX11_drawn_155 ?_
        exact X_wk (WK.s (WK.n (WK.s (WK.s (WK.s (WK.s (WK.s (WK.s (WK.s WK.e))))))))) (ih _ _ _ hf ke)
      refine T_icmp_ge dX11_drawn_135 (fun c135_12 => ?_) (fun c135_12 => ?_)
      · replace hf := ite_t c135_12 hf
        refine T_iload dX11_drawn_142 rfl ?_
        refine T_const dX11_drawn_144 ?_
        refine T_iushr dX11_drawn_146 ?_
        refine T_const dX11_drawn_147 ?_
        refine T_irem dX11_drawn_148 (by decide) ?_
        exact X_wk (WK.s (WK.n (WK.s (WK.s (WK.s (WK.s (WK.s (WK.s (WK.s WK.e))))))))) (J149 _ _ _ _ hf)
      · replace hf := ite_f c135_12 hf
        refine T_const dX11_drawn_138 ?_
        refine T_goto dX11_drawn_139 ?_
        exact X_wk (WK.s (WK.n (WK.s (WK.s (WK.s (WK.s (WK.s (WK.s (WK.s WK.e))))))))) (J149 _ _ _ _ hf)
theorem lX11_drawn_81 (Z : aZ) (y : aH) (l2 : Int32) (l3 : Int32) {Q : Option Value → aH → Prop} {R : (Int32 × Int32 × aH)} : ∀ (n : Nat) (x : aH) (l4 : Int32) (l5 : Int32) (l6 : Int32) (l7 : Int32), wX11_drawn_81 l2 l3 n x l4 l5 l6 l7 = some R → (∀ q, R = q → TX false Z mX11_drawn 69 y q.2.2 Q 192 [.null, .null, .null, .int l3, .null, .int (q.1), .int (q.2.1), .null, .null] []) → TX false Z mX11_drawn 69 y x Q 81 [.ref 73, .null, .int l2, .int l3, .int l4, .int l5, .int l6, .int l7, .null] [] := by
  intro n
  induction n with
  | zero => intro x l4 l5 l6 l7 hf; cases hf
  | succ n ih =>
    intro x l4 l5 l6 l7 hf ke
    replace hf : sX11_drawn_81 l2 l3 (wX11_drawn_81 l2 l3 n) x l4 l5 l6 l7 = some R := hf
    delta sX11_drawn_81 at hf
    refine T_iload dX11_drawn_81 rfl ?_
    refine T_iload dX11_drawn_83 rfl ?_
    refine T_const dX11_drawn_84 ?_
    refine T_idiv dX11_drawn_87 (by decide) ?_
    refine T_icmp_ge dX11_drawn_88 (fun c88_8 => ?_) (fun c88_8 => ?_)
    · replace hf := ite_t c88_8 hf
      exact X_wk (WK.n (WK.n (WK.n (WK.s (WK.n (WK.s (WK.s (WK.n (WK.n WK.e))))))))) (ke (l5, l6, x) (Option.some.inj hf).symm)
    · replace hf := ite_f c88_8 hf
      refine T_aload dX11_drawn_91 rfl ?_
      obtain ⟨q92_9, hc92_9, hf⟩ := bind_t hf
      refine X_Vn (qX11_begins Z _ hc92_9) (Nat.le_of_ble_eq_true rfl) dX11_drawn_92 lvX11_236 rfl rfl ob73 (Nat.le_of_ble_eq_true rfl) ?_
      refine T_const dX11_drawn_95 ?_
      refine T_istore dX11_drawn_96 ?_
      show TX _ _ _ _ _ _ _ _ [_, _, _, _, _, _, _, _, _] _
      obtain ⟨q98_13, hc98_13, hf⟩ := bind_t hf
      refine X_wk (WK.s (WK.n (WK.s (WK.s (WK.s (WK.s (WK.s (WK.s (WK.s WK.e))))))))) (lX11_drawn_98 Z _ _ _ _ _ _ 2000 _ _ _ hc98_13 ?_)
      intro q98_13z hr
      subst hr
      refine T_iload dX11_drawn_158 rfl ?_
      refine T_aload dX11_drawn_160 rfl ?_
      obtain ⟨q161_14, hc161_14, hf⟩ := bind_t hf
      refine X_Vv (qX11_homeMany Z _ hc161_14) (Nat.le_of_ble_eq_true rfl) dX11_drawn_161 lvX11_262 rfl rfl ob73 (Nat.le_of_ble_eq_true rfl) ?_
      refine T_iadd dX11_drawn_164 ?_
      refine T_istore dX11_drawn_165 ?_
      show TX _ _ _ _ _ _ _ _ [_, _, _, _, _, _, _, _, _] _
      refine T_iload dX11_drawn_167 rfl ?_
      refine T_iload dX11_drawn_169 rfl ?_
      have J183 : ∀ (x : aH) (l4 : Int32) (l5 : Int32) (l7 : Int32) (s0 : Int32) (s1 : Int32), jX11_drawn_183 (wX11_drawn_81 l2 l3 n) x l2 l3 l4 l5 l7 s0 s1 = some R → TX false Z mX11_drawn 69 y x Q 183 [.ref 73, .null, .int l2, .int l3, .int l4, .int l5, .null, .int l7, .null] [.int s1, .int s0] := by
        intro x l4 l5 l7 s0 s1 hf
        delta jX11_drawn_183 at hf
        refine T_iadd dX11_drawn_183 ?_
        refine T_istore dX11_drawn_184 ?_
        show TX _ _ _ _ _ _ _ _ [_, _, _, _, _, _, _, _, _] _
        refine T_iinc dX11_drawn_186 rfl ?_
        show TX _ _ _ _ _ _ _ _ [_, _, _, _, _, _, _, _, _] _
        refine T_goto dX11_drawn_189 ?_
        exact X_wk (WK.s (WK.n (WK.s (WK.s (WK.s (WK.s (WK.s (WK.s (WK.n WK.e))))))))) (ih _ _ _ _ _ hf ke)
      refine T_if_lt dX11_drawn_170 (fun c170_15 => ?_) (fun c170_15 => ?_)
      · replace hf := ite_t c170_15 hf
        refine T_const dX11_drawn_182 ?_
        exact X_wk (WK.s (WK.n (WK.s (WK.s (WK.s (WK.s (WK.n (WK.s (WK.n WK.e))))))))) (J183 _ _ _ _ _ _ hf)
      · replace hf := ite_f c170_15 hf
        refine T_aload dX11_drawn_173 rfl ?_
        refine X_getr dX11_drawn_174 lfX11_34 rfl ob73 rfl ?_
        refine T_iload dX11_drawn_177 rfl ?_
        obtain ⟨hb178_16, hf⟩ := opt_t hf
        refine X_iald (N := 10) dX11_drawn_178 ar82 rfl hb178_16 ?_
        refine T_goto dX11_drawn_179 ?_
        exact X_wk (WK.s (WK.n (WK.s (WK.s (WK.s (WK.s (WK.n (WK.s (WK.n WK.e))))))))) (J183 _ _ _ _ _ _ hf)
theorem qX11_drawn (Z : aZ) (y : aH) {x : aH} {p1 : Int32} {p2 : Int32} {p3 : Int32} {q : (Int32 × aH)} (hf : fX11_drawn x p1 p2 p3 = some q) : CX false Z mX11_drawn 69 [.ref 73, .int p1, .int p2, .int p3] y x (RV (.int q.1) q.2) := by
  refine CX.of mokX11_drawn (Nat.le_of_ble_eq_true rfl) ?_
  show TX _ _ _ _ _ _ _ _ [_, _, _, _, _, _, _, _, _] _
  delta fX11_drawn at hf
  refine T_iload dX11_drawn_0 rfl ?_
  refine T_if_lt dX11_drawn_1 (fun c1_1 => ?_) (fun c1_1 => ?_)
  · replace hf := ite_t c1_1 hf
    refine T_const dX11_drawn_67 ?_
    obtain rfl := Option.some.inj hf
    exact X_ri dX11_drawn_68 ⟨rfl, rfl⟩
  · replace hf := ite_f c1_1 hf
    refine T_iload dX11_drawn_4 rfl ?_
    refine T_const dX11_drawn_5 ?_
    refine T_idiv dX11_drawn_8 (by decide) ?_
    refine T_i2l dX11_drawn_9 ?_
    refine T_constL dX11_drawn_10 ?_
    refine T_constL dX11_drawn_11 ?_
    obtain ⟨q14_2, hc14_2, hf⟩ := bind_t hf
    refine X_Sv (qX11_within _ Z _ _ hc14_2) (Nat.le_of_ble_eq_true rfl) dX11_drawn_14 lsX11_96 rfl rfl (Nat.le_of_ble_eq_true rfl) ?_
    refine T_if_eq dX11_drawn_17 (fun c17_3 => ?_) (fun c17_3 => ?_)
    · replace hf := ite_t c17_3 hf
      refine T_const dX11_drawn_67 ?_
      obtain rfl := Option.some.inj hf
      exact X_ri dX11_drawn_68 ⟨rfl, rfl⟩
    · replace hf := ite_f c17_3 hf
      refine T_iload dX11_drawn_20 rfl ?_
      refine T_const dX11_drawn_21 ?_
      refine T_idiv dX11_drawn_23 (by decide) ?_
      refine T_const dX11_drawn_24 ?_
      refine T_irem dX11_drawn_26 (by decide) ?_
      refine T_i2l dX11_drawn_27 ?_
      refine T_constL dX11_drawn_28 ?_
      refine T_constL dX11_drawn_29 ?_
      obtain ⟨q32_4, hc32_4, hf⟩ := bind_t hf
      refine X_Sv (qX11_within _ Z _ _ hc32_4) (Nat.le_of_ble_eq_true rfl) dX11_drawn_32 lsX11_96 rfl rfl (Nat.le_of_ble_eq_true rfl) ?_
      refine T_if_eq dX11_drawn_35 (fun c35_5 => ?_) (fun c35_5 => ?_)
      · replace hf := ite_t c35_5 hf
        refine T_const dX11_drawn_67 ?_
        obtain rfl := Option.some.inj hf
        exact X_ri dX11_drawn_68 ⟨rfl, rfl⟩
      · replace hf := ite_f c35_5 hf
        refine T_iload dX11_drawn_38 rfl ?_
        refine T_const dX11_drawn_39 ?_
        refine T_irem dX11_drawn_41 (by decide) ?_
        refine T_i2l dX11_drawn_42 ?_
        refine T_constL dX11_drawn_43 ?_
        refine T_constL dX11_drawn_44 ?_
        obtain ⟨q47_6, hc47_6, hf⟩ := bind_t hf
        refine X_Sv (qX11_within _ Z _ _ hc47_6) (Nat.le_of_ble_eq_true rfl) dX11_drawn_47 lsX11_96 rfl rfl (Nat.le_of_ble_eq_true rfl) ?_
        refine T_if_eq dX11_drawn_50 (fun c50_7 => ?_) (fun c50_7 => ?_)
        · replace hf := ite_t c50_7 hf
          refine T_const dX11_drawn_67 ?_
          obtain rfl := Option.some.inj hf
          exact X_ri dX11_drawn_68 ⟨rfl, rfl⟩
        · replace hf := ite_f c50_7 hf
          refine T_iload dX11_drawn_53 rfl ?_
          refine T_const dX11_drawn_54 ?_
          have J69 : ∀ (x : aH) (l1 : Int32) (l2 : Int32) (l3 : Int32), jX11_drawn_69 x l1 l2 l3 = some q → TX false Z mX11_drawn 69 y x (RV (.int q.1) q.2) 69 [.ref 73, .int l1, .int l2, .int l3, .null, .null, .null, .null, .null] [] := by
            intro x l1 l2 l3 hf
            delta jX11_drawn_69 at hf
            refine T_iload dX11_drawn_69 rfl ?_
            refine T_istore dX11_drawn_70 ?_
            show TX _ _ _ _ _ _ _ _ [_, _, _, _, _, _, _, _, _] _
            refine T_const dX11_drawn_72 ?_
            refine T_istore dX11_drawn_73 ?_
            show TX _ _ _ _ _ _ _ _ [_, _, _, _, _, _, _, _, _] _
            refine T_const dX11_drawn_75 ?_
            refine T_istore dX11_drawn_76 ?_
            show TX _ _ _ _ _ _ _ _ [_, _, _, _, _, _, _, _, _] _
            refine T_const dX11_drawn_78 ?_
            refine T_istore dX11_drawn_79 ?_
            show TX _ _ _ _ _ _ _ _ [_, _, _, _, _, _, _, _, _] _
            obtain ⟨q81_17, hc81_17, hf⟩ := bind_t hf
            refine X_wk (WK.s (WK.n (WK.s (WK.s (WK.s (WK.s (WK.s (WK.s (WK.n WK.e))))))))) (lX11_drawn_81 Z _ _ _ 2000 _ _ _ _ _ hc81_17 ?_)
            intro q81_17z hr
            subst hr
            refine T_iload dX11_drawn_192 rfl ?_
            refine T_if_ge dX11_drawn_193 (fun c193_18 => ?_) (fun c193_18 => ?_)
            · replace hf := ite_t c193_18 hf
              refine T_iload dX11_drawn_201 rfl ?_
              obtain rfl := Option.some.inj hf
              exact X_ri dX11_drawn_203 ⟨rfl, rfl⟩
            · replace hf := ite_f c193_18 hf
              refine T_iload dX11_drawn_196 rfl ?_
              refine T_goto dX11_drawn_198 ?_
              obtain rfl := Option.some.inj hf
              exact X_ri dX11_drawn_203 ⟨rfl, rfl⟩
          refine T_icmp_eq dX11_drawn_55 (fun c55_19 => ?_) (fun c55_19 => ?_)
          · replace hf := ite_t c55_19 hf
            exact X_wk (WK.s (WK.s (WK.s (WK.s (WK.n (WK.n (WK.n (WK.n (WK.n WK.e))))))))) (J69 _ _ _ _ hf)
          · replace hf := ite_f c55_19 hf
            refine T_aload dX11_drawn_58 rfl ?_
            refine T_iload dX11_drawn_59 rfl ?_
            refine T_i2l dX11_drawn_60 ?_
            obtain ⟨q61_20, hc61_20, hf⟩ := bind_t hf
            refine X_Vv (qX11_isLost Z _ hc61_20) (Nat.le_of_ble_eq_true rfl) dX11_drawn_61 lvX11_123 rfl rfl ob73 (Nat.le_of_ble_eq_true rfl) ?_
            refine T_if_ne dX11_drawn_64 (fun c64_21 => ?_) (fun c64_21 => ?_)
            · replace hf := ite_f c64_21 hf
              exact X_wk (WK.s (WK.s (WK.s (WK.s (WK.n (WK.n (WK.n (WK.n (WK.n WK.e))))))))) (J69 _ _ _ _ hf)
            · replace hf := ite_t c64_21 hf
              refine T_const dX11_drawn_67 ?_
              obtain rfl := Option.some.inj hf
              exact X_ri dX11_drawn_68 ⟨rfl, rfl⟩
noncomputable def sX11_night_25 (ih : aH → Int32 → Option aH) (x : aH) (l2 : Int32) : Option aH := if (fi x 73 6) ≤ l2 then some x else if (0 : Int32) ≤ l2 ∧ l2 < (10 : Int32) then if (0 : Int32) ≤ l2 ∧ l2 < (172 : Int32) then if (0 : Int32) ≤ l2 ∧ l2 < (10 : Int32) then if (0 : Int32) ≤ ((30 : Int32) + l2) ∧ ((30 : Int32) + l2) < (172 : Int32) then ih (sri (sri x 74 (ix l2) (ri x 81 (ix l2))) 74 (ix ((30 : Int32) + l2)) (ri (sri x 74 (ix l2) (ri x 81 (ix l2))) 82 (ix l2))) (l2 + (1 : Int32)) else none else none else none else none
noncomputable def wX11_night_25 : Nat → aH → Int32 → Option aH
  | 0 => fun _ _ => none
  | n + 1 => sX11_night_25 (wX11_night_25 n)
noncomputable def jX11_night_135 (x : aH) : Option (Int32 × aH) := some ((fi x 73 22), x)
noncomputable def jX11_night_107 (x : aH) (s1 : Int32) (s2 : Int32) (s3 : Int32) : Option (Int32 × aH) := if (0 : Int32) ≤ s1 ∧ s1 < (5 : Int32) then jX11_night_135 (sri (sri (sri x 89 (ix s1) (s2 + s3)) 89 (ix (2 : Int32)) ((ri (sri x 89 (ix s1) (s2 + s3)) 89 (ix (2 : Int32))) + (fi (sri x 89 (ix s1) (s2 + s3)) 73 21))) 89 (ix (3 : Int32)) ((ri (sri (sri x 89 (ix s1) (s2 + s3)) 89 (ix (2 : Int32)) ((ri (sri x 89 (ix s1) (s2 + s3)) 89 (ix (2 : Int32))) + (fi (sri x 89 (ix s1) (s2 + s3)) 73 21))) 89 (ix (3 : Int32))) + (fi (sri (sri x 89 (ix s1) (s2 + s3)) 89 (ix (2 : Int32)) ((ri (sri x 89 (ix s1) (s2 + s3)) 89 (ix (2 : Int32))) + (fi (sri x 89 (ix s1) (s2 + s3)) 73 21))) 73 22))) else none
noncomputable def fX11_night (x : aH) (p1 : Int32) : Option (Int32 × aH) := (fX11_within (Int32.toInt64 p1) (0 : Int64) (4 : Int64)).bind fun q6_1 => if q6_1 = (0 : Int32) then some ((-1 : Int32), x) else (fX11_begins x).bind fun q15_3 => (fX11_goesNight q15_3 p1).bind fun q20_4 => (wX11_night_25 2000 q20_4 (0 : Int32)).bind fun q25_10 => if (fi (sri (sri q25_10 74 (ix (169 : Int32)) (fi q25_10 73 19)) 89 (ix (0 : Int32)) ((ri (sri q25_10 74 (ix (169 : Int32)) (fi q25_10 73 19)) 89 (ix (0 : Int32))) + (1 : Int32))) 73 20) = (0 : Int32) then jX11_night_107 (sri (sri q25_10 74 (ix (169 : Int32)) (fi q25_10 73 19)) 89 (ix (0 : Int32)) ((ri (sri q25_10 74 (ix (169 : Int32)) (fi q25_10 73 19)) 89 (ix (0 : Int32))) + (1 : Int32))) (1 : Int32) (ri (sri (sri q25_10 74 (ix (169 : Int32)) (fi q25_10 73 19)) 89 (ix (0 : Int32)) ((ri (sri q25_10 74 (ix (169 : Int32)) (fi q25_10 73 19)) 89 (ix (0 : Int32))) + (1 : Int32))) 89 (ix (1 : Int32))) (0 : Int32) else jX11_night_107 (sri (sri q25_10 74 (ix (169 : Int32)) (fi q25_10 73 19)) 89 (ix (0 : Int32)) ((ri (sri q25_10 74 (ix (169 : Int32)) (fi q25_10 73 19)) 89 (ix (0 : Int32))) + (1 : Int32))) (1 : Int32) (ri (sri (sri q25_10 74 (ix (169 : Int32)) (fi q25_10 73 19)) 89 (ix (0 : Int32)) ((ri (sri q25_10 74 (ix (169 : Int32)) (fi q25_10 73 19)) 89 (ix (0 : Int32))) + (1 : Int32))) 89 (ix (1 : Int32))) (1 : Int32)
theorem lX11_night_25 (Z : aZ) (y : aH) {Q : Option Value → aH → Prop} {R : aH} : ∀ (n : Nat) (x : aH) (l2 : Int32), wX11_night_25 n x l2 = some R → (∀ q, R = q → TX false Z mX11_night 69 y q Q 66 [.ref 73, .null, .null] []) → TX false Z mX11_night 69 y x Q 25 [.ref 73, .null, .int l2] [] := by
  intro n
  induction n with
  | zero => intro x l2 hf; cases hf
  | succ n ih =>
    intro x l2 hf ke
    replace hf : sX11_night_25 (wX11_night_25 n) x l2 = some R := hf
    delta sX11_night_25 at hf
    refine T_iload dX11_night_25 rfl ?_
    refine T_aload dX11_night_26 rfl ?_
    refine X_getf dX11_night_27 lfX11_93 rfl ob73 ?_
    refine T_icmp_ge dX11_night_30 (fun c30_5 => ?_) (fun c30_5 => ?_)
    · replace hf := ite_t c30_5 hf
      exact X_wk (WK.s (WK.n (WK.n WK.e))) (ke x (Option.some.inj hf).symm)
    · replace hf := ite_f c30_5 hf
      refine T_aload dX11_night_33 rfl ?_
      refine X_getr dX11_night_34 lfX11_9 rfl ob73 rfl ?_
      refine T_iload dX11_night_37 rfl ?_
      refine T_aload dX11_night_38 rfl ?_
      refine X_getr dX11_night_39 lfX11_31 rfl ob73 rfl ?_
      refine T_iload dX11_night_42 rfl ?_
      obtain ⟨hb43_6, hf⟩ := opt_t hf
      refine X_iald (N := 10) dX11_night_43 ar81 rfl hb43_6 ?_
      obtain ⟨hb44_7, hf⟩ := opt_t hf
      refine X_iast (N := 172) dX11_night_44 ar74 rfl hb44_7 ?_
      refine T_aload dX11_night_45 rfl ?_
      refine X_getr dX11_night_46 lfX11_9 rfl ob73 rfl ?_
      refine T_const dX11_night_49 ?_
      refine T_iload dX11_night_51 rfl ?_
      refine T_iadd dX11_night_52 ?_
      refine T_aload dX11_night_53 rfl ?_
      refine X_getr dX11_night_54 lfX11_34 rfl ob73 rfl ?_
      refine T_iload dX11_night_57 rfl ?_
      obtain ⟨hb58_8, hf⟩ := opt_t hf
      refine X_iald (N := 10) dX11_night_58 ar82 rfl hb58_8 ?_
      obtain ⟨hb59_9, hf⟩ := opt_t hf
      refine X_iast (N := 172) dX11_night_59 ar74 rfl hb59_9 ?_
      refine T_iinc dX11_night_60 rfl ?_
      show TX _ _ _ _ _ _ _ _ [_, _, _] _
      refine T_goto dX11_night_63 ?_
      exact X_wk (WK.s (WK.n (WK.s WK.e))) (ih _ _ hf ke)
theorem qX11_night (Z : aZ) (y : aH) {x : aH} {p1 : Int32} {q : (Int32 × aH)} (hf : fX11_night x p1 = some q) : CX false Z mX11_night 69 [.ref 73, .int p1] y x (RV (.int q.1) q.2) := by
  refine CX.of mokX11_night (Nat.le_of_ble_eq_true rfl) ?_
  show TX _ _ _ _ _ _ _ _ [_, _, _] _
  delta fX11_night at hf
  refine T_iload dX11_night_0 rfl ?_
  refine T_i2l dX11_night_1 ?_
  refine T_constL dX11_night_2 ?_
  refine T_constL dX11_night_3 ?_
  obtain ⟨q6_1, hc6_1, hf⟩ := bind_t hf
  refine X_Sv (qX11_within _ Z _ _ hc6_1) (Nat.le_of_ble_eq_true rfl) dX11_night_6 lsX11_96 rfl rfl (Nat.le_of_ble_eq_true rfl) ?_
  refine T_if_ne dX11_night_9 (fun c9_2 => ?_) (fun c9_2 => ?_)
  · replace hf := ite_f c9_2 hf
    refine T_aload dX11_night_14 rfl ?_
    obtain ⟨q15_3, hc15_3, hf⟩ := bind_t hf
    refine X_Vn (qX11_begins Z _ hc15_3) (Nat.le_of_ble_eq_true rfl) dX11_night_15 lvX11_236 rfl rfl ob73 (Nat.le_of_ble_eq_true rfl) ?_
    refine T_aload dX11_night_18 rfl ?_
    refine T_iload dX11_night_19 rfl ?_
    obtain ⟨q20_4, hc20_4, hf⟩ := bind_t hf
    refine X_Vn (qX11_goesNight Z _ hc20_4) (Nat.le_of_ble_eq_true rfl) dX11_night_20 lvX11_246 rfl rfl ob73 (Nat.le_of_ble_eq_true rfl) ?_
    refine T_const dX11_night_23 ?_
    refine T_istore dX11_night_24 ?_
    show TX _ _ _ _ _ _ _ _ [_, _, _] _
    obtain ⟨q25_10, hc25_10, hf⟩ := bind_t hf
    refine X_wk (WK.s (WK.n (WK.s WK.e))) (lX11_night_25 Z _ 2000 _ _ hc25_10 ?_)
    intro q25_10z hr
    subst hr
    refine T_aload dX11_night_66 rfl ?_
    refine X_getr dX11_night_67 lfX11_9 rfl ob73 rfl ?_
    refine T_const dX11_night_70 ?_
    refine T_aload dX11_night_73 rfl ?_
    refine X_getf dX11_night_74 lfX11_200 rfl ob73 ?_
    refine X_iast (N := 172) dX11_night_77 ar74 rfl (by decide) ?_
    refine T_aload dX11_night_78 rfl ?_
    refine X_getr dX11_night_79 lfX11_55 rfl ob73 rfl ?_
    refine T_const dX11_night_82 ?_
    refine T_dup2 dX11_night_83 rfl rfl ?_
    refine X_iald (N := 5) dX11_night_84 ar89 rfl (by decide) ?_
    refine T_const dX11_night_85 ?_
    refine T_iadd dX11_night_86 ?_
    refine X_iast (N := 5) dX11_night_87 ar89 rfl (by decide) ?_
    refine T_aload dX11_night_88 rfl ?_
    refine X_getr dX11_night_89 lfX11_55 rfl ob73 rfl ?_
    refine T_const dX11_night_92 ?_
    refine T_dup2 dX11_night_93 rfl rfl ?_
    refine X_iald (N := 5) dX11_night_94 ar89 rfl (by decide) ?_
    refine T_aload dX11_night_95 rfl ?_
    refine X_getf dX11_night_96 lfX11_214 rfl ob73 ?_
    have J107 : ∀ (x : aH) (s1 : Int32) (s2 : Int32) (s3 : Int32), jX11_night_107 x s1 s2 s3 = some q → TX false Z mX11_night 69 y x (RV (.int q.1) q.2) 107 [.ref 73, .null, .null] [.int s3, .int s2, .int s1, .ref 89] := by
      intro x s1 s2 s3 hf
      delta jX11_night_107 at hf
      refine T_iadd dX11_night_107 ?_
      obtain ⟨hb108_11, hf⟩ := opt_t hf
      refine X_iast (N := 5) dX11_night_108 ar89 rfl hb108_11 ?_
      refine T_aload dX11_night_109 rfl ?_
      refine X_getr dX11_night_110 lfX11_55 rfl ob73 rfl ?_
      refine T_const dX11_night_113 ?_
      refine T_dup2 dX11_night_114 rfl rfl ?_
      refine X_iald (N := 5) dX11_night_115 ar89 rfl (by decide) ?_
      refine T_aload dX11_night_116 rfl ?_
      refine X_getf dX11_night_117 lfX11_218 rfl ob73 ?_
      refine T_iadd dX11_night_120 ?_
      refine X_iast (N := 5) dX11_night_121 ar89 rfl (by decide) ?_
      refine T_aload dX11_night_122 rfl ?_
      refine X_getr dX11_night_123 lfX11_55 rfl ob73 rfl ?_
      refine T_const dX11_night_126 ?_
      refine T_dup2 dX11_night_127 rfl rfl ?_
      refine X_iald (N := 5) dX11_night_128 ar89 rfl (by decide) ?_
      refine T_aload dX11_night_129 rfl ?_
      refine X_getf dX11_night_130 lfX11_221 rfl ob73 ?_
      refine T_iadd dX11_night_133 ?_
      refine X_iast (N := 5) dX11_night_134 ar89 rfl (by decide) ?_
      have J135 : ∀ (x : aH), jX11_night_135 x = some q → TX false Z mX11_night 69 y x (RV (.int q.1) q.2) 135 [.ref 73, .null, .null] [] := by
        intro x hf
        delta jX11_night_135 at hf
        refine T_aload dX11_night_135 rfl ?_
        refine X_getf dX11_night_136 lfX11_221 rfl ob73 ?_
        obtain rfl := Option.some.inj hf
        exact X_ri dX11_night_139 ⟨rfl, rfl⟩
      exact X_wk (WK.s (WK.n (WK.n WK.e))) (J135 _ hf)
    refine T_if_eq dX11_night_99 (fun c99_12 => ?_) (fun c99_12 => ?_)
    · replace hf := ite_t c99_12 hf
      refine T_const dX11_night_106 ?_
      exact X_wk (WK.s (WK.n (WK.n WK.e))) (J107 _ _ _ _ hf)
    · replace hf := ite_f c99_12 hf
      refine T_const dX11_night_102 ?_
      refine T_goto dX11_night_103 ?_
      exact X_wk (WK.s (WK.n (WK.n WK.e))) (J107 _ _ _ _ hf)
  · replace hf := ite_t c9_2 hf
    refine T_const dX11_night_12 ?_
    obtain rfl := Option.some.inj hf
    exact X_ri dX11_night_13 ⟨rfl, rfl⟩
noncomputable def jX11_oil_53 (x : aH) (l1 : Int32) (s1 : Int32) (s2 : Int32) : Option (Int32 × aH) := if (0 : Int32) ≤ s1 ∧ s1 < (172 : Int32) then some ((ri (sri (sri x 74 (ix s1) s2) 89 (ix (4 : Int32)) ((ri (sri x 74 (ix s1) s2) 89 (ix (4 : Int32))) + l1)) 74 (ix (169 : Int32))), (sri (sri x 74 (ix s1) s2) 89 (ix (4 : Int32)) ((ri (sri x 74 (ix s1) s2) 89 (ix (4 : Int32))) + l1))) else none
noncomputable def fX11_oil (x : aH) (p1 : Int32) : Option (Int32 × aH) := (fX11_within (Int32.toInt64 p1) (1 : Int64) (999 : Int64)).bind fun q6_1 => if q6_1 = (0 : Int32) then some ((-1 : Int32), x) else if ((ri x 74 (ix (169 : Int32))) + p1) ≤ (999 : Int32) then jX11_oil_53 x p1 (169 : Int32) ((ri x 74 (ix (169 : Int32))) + p1) else jX11_oil_53 x p1 (169 : Int32) (999 : Int32)
theorem qX11_oil (Z : aZ) (y : aH) {x : aH} {p1 : Int32} {q : (Int32 × aH)} (hf : fX11_oil x p1 = some q) : CX false Z mX11_oil 1 [.ref 73, .int p1] y x (RV (.int q.1) q.2) := by
  refine CX.of mokX11_oil (Nat.le_of_ble_eq_true rfl) ?_
  show TX _ _ _ _ _ _ _ _ [_, _] _
  delta fX11_oil at hf
  refine T_iload dX11_oil_0 rfl ?_
  refine T_i2l dX11_oil_1 ?_
  refine T_constL dX11_oil_2 ?_
  refine T_constL dX11_oil_3 ?_
  obtain ⟨q6_1, hc6_1, hf⟩ := bind_t hf
  refine X_Sv (qX11_within _ Z _ _ hc6_1) (Nat.le_of_ble_eq_true rfl) dX11_oil_6 lsX11_96 rfl rfl (Nat.le_of_ble_eq_true rfl) ?_
  refine T_if_ne dX11_oil_9 (fun c9_2 => ?_) (fun c9_2 => ?_)
  · replace hf := ite_f c9_2 hf
    refine T_aload dX11_oil_14 rfl ?_
    refine X_getr dX11_oil_15 lfX11_9 rfl ob73 rfl ?_
    refine T_const dX11_oil_18 ?_
    refine T_aload dX11_oil_21 rfl ?_
    refine X_getr dX11_oil_22 lfX11_9 rfl ob73 rfl ?_
    refine T_const dX11_oil_25 ?_
    refine X_iald (N := 172) dX11_oil_28 ar74 rfl (by decide) ?_
    refine T_iload dX11_oil_29 rfl ?_
    refine T_iadd dX11_oil_30 ?_
    refine T_const dX11_oil_31 ?_
    have J53 : ∀ (x : aH) (l1 : Int32) (s1 : Int32) (s2 : Int32), jX11_oil_53 x l1 s1 s2 = some q → TX false Z mX11_oil 1 y x (RV (.int q.1) q.2) 53 [.ref 73, .int l1] [.int s2, .int s1, .ref 74] := by
      intro x l1 s1 s2 hf
      delta jX11_oil_53 at hf
      obtain ⟨hb53_3, hf⟩ := opt_t hf
      refine X_iast (N := 172) dX11_oil_53 ar74 rfl hb53_3 ?_
      refine T_aload dX11_oil_54 rfl ?_
      refine X_getr dX11_oil_55 lfX11_55 rfl ob73 rfl ?_
      refine T_const dX11_oil_58 ?_
      refine T_dup2 dX11_oil_59 rfl rfl ?_
      refine X_iald (N := 5) dX11_oil_60 ar89 rfl (by decide) ?_
      refine T_iload dX11_oil_61 rfl ?_
      refine T_iadd dX11_oil_62 ?_
      refine X_iast (N := 5) dX11_oil_63 ar89 rfl (by decide) ?_
      refine T_aload dX11_oil_64 rfl ?_
      refine X_getr dX11_oil_65 lfX11_9 rfl ob73 rfl ?_
      refine T_const dX11_oil_68 ?_
      refine X_iald (N := 172) dX11_oil_71 ar74 rfl (by decide) ?_
      obtain rfl := Option.some.inj hf
      exact X_ri dX11_oil_72 ⟨rfl, rfl⟩
    refine T_icmp_le dX11_oil_34 (fun c34_4 => ?_) (fun c34_4 => ?_)
    · replace hf := ite_t c34_4 hf
      refine T_aload dX11_oil_43 rfl ?_
      refine X_getr dX11_oil_44 lfX11_9 rfl ob73 rfl ?_
      refine T_const dX11_oil_47 ?_
      refine X_iald (N := 172) dX11_oil_50 ar74 rfl (by decide) ?_
      refine T_iload dX11_oil_51 rfl ?_
      refine T_iadd dX11_oil_52 ?_
      exact X_wk (WK.s (WK.s WK.e)) (J53 _ _ _ _ hf)
    · replace hf := ite_f c34_4 hf
      refine T_const dX11_oil_37 ?_
      refine T_goto dX11_oil_40 ?_
      exact X_wk (WK.s (WK.s WK.e)) (J53 _ _ _ _ hf)
  · replace hf := ite_t c9_2 hf
    refine T_const dX11_oil_12 ?_
    obtain rfl := Option.some.inj hf
    exact X_ri dX11_oil_13 ⟨rfl, rfl⟩
noncomputable def fX11_led (x : aH) (p1 : Int32) : Option Int32 := (fX11_within (Int32.toInt64 p1) (0 : Int64) (4 : Int64)).bind fun q6_1 => if q6_1 = (0 : Int32) then some (-1 : Int32) else if (0 : Int32) ≤ p1 ∧ p1 < (5 : Int32) then some (ri x 89 (ix p1)) else none
theorem qX11_led (Z : aZ) (y : aH) {x : aH} {p1 : Int32} {q : Int32} (hf : fX11_led x p1 = some q) : CX false Z mX11_led 1 [.ref 73, .int p1] y x (RV (.int q) x) := by
  refine CX.of mokX11_led (Nat.le_of_ble_eq_true rfl) ?_
  show TX _ _ _ _ _ _ _ _ [_, _] _
  delta fX11_led at hf
  refine T_iload dX11_led_0 rfl ?_
  refine T_i2l dX11_led_1 ?_
  refine T_constL dX11_led_2 ?_
  refine T_constL dX11_led_3 ?_
  obtain ⟨q6_1, hc6_1, hf⟩ := bind_t hf
  refine X_Sv (qX11_within _ Z _ _ hc6_1) (Nat.le_of_ble_eq_true rfl) dX11_led_6 lsX11_96 rfl rfl (Nat.le_of_ble_eq_true rfl) ?_
  refine T_if_eq dX11_led_9 (fun c9_2 => ?_) (fun c9_2 => ?_)
  · replace hf := ite_t c9_2 hf
    refine T_const dX11_led_21 ?_
    obtain rfl := Option.some.inj hf
    exact X_ri dX11_led_22 ⟨rfl, rfl⟩
  · replace hf := ite_f c9_2 hf
    refine T_aload dX11_led_12 rfl ?_
    refine X_getr dX11_led_13 lfX11_55 rfl ob73 rfl ?_
    refine T_iload dX11_led_16 rfl ?_
    obtain ⟨hb17_3, hf⟩ := opt_t hf
    refine X_iald (N := 5) dX11_led_17 ar89 rfl hb17_3 ?_
    refine T_goto dX11_led_18 ?_
    obtain rfl := Option.some.inj hf
    exact X_ri dX11_led_22 ⟨rfl, rfl⟩
noncomputable def sX11_image_15 (ih : aH → Int32 → Option aH) (x : aH) (l1 : Int32) : Option aH := if (171 : Int32) < l1 then some x else if (0 : Int32) ≤ l1 ∧ l1 < (172 : Int32) then if (0 : Int32) ≤ l1 ∧ l1 < (172 : Int32) then ih (sri x 90 (ix l1) (ri x 74 (ix l1))) (l1 + (1 : Int32)) else none else none
noncomputable def wX11_image_15 : Nat → aH → Int32 → Option aH
  | 0 => fun _ _ => none
  | n + 1 => sX11_image_15 (wX11_image_15 n)
noncomputable def sX11_image_42 (ih : aH → Int32 → Option aH) (x : aH) (l1 : Int32) : Option aH := if (5 : Int32) ≤ l1 then some x else if (0 : Int32) ≤ l1 ∧ l1 < (5 : Int32) then if (0 : Int32) ≤ l1 ∧ l1 < (5 : Int32) then ih (sri x 91 (ix l1) (ri x 89 (ix l1))) (l1 + (1 : Int32)) else none else none
noncomputable def wX11_image_42 : Nat → aH → Int32 → Option aH
  | 0 => fun _ _ => none
  | n + 1 => sX11_image_42 (wX11_image_42 n)
noncomputable def fX11_image (x : aH) : Option (Int32 × aH) := (wX11_image_15 2000 (sfi (sfi x 73 32 (1 : Int32)) 73 33 (fi (sfi x 73 32 (1 : Int32)) 73 6)) (0 : Int32)).bind fun q15_4 => (wX11_image_42 2000 q15_4 (0 : Int32)).bind fun q42_8 => some ((ri q42_8 89 (ix (0 : Int32))), q42_8)
theorem lX11_image_15 (Z : aZ) (y : aH) {Q : Option Value → aH → Prop} {R : aH} : ∀ (n : Nat) (x : aH) (l1 : Int32), wX11_image_15 n x l1 = some R → (∀ q, R = q → TX false Z mX11_image 0 y q Q 40 [.ref 73, .null] []) → TX false Z mX11_image 0 y x Q 15 [.ref 73, .int l1] [] := by
  intro n
  induction n with
  | zero => intro x l1 hf; cases hf
  | succ n ih =>
    intro x l1 hf ke
    replace hf : sX11_image_15 (wX11_image_15 n) x l1 = some R := hf
    delta sX11_image_15 at hf
    refine T_iload dX11_image_15 rfl ?_
    refine T_const dX11_image_16 ?_
    refine T_icmp_gt dX11_image_19 (fun c19_1 => ?_) (fun c19_1 => ?_)
    · replace hf := ite_t c19_1 hf
      exact X_wk (WK.s (WK.n WK.e)) (ke x (Option.some.inj hf).symm)
    · replace hf := ite_f c19_1 hf
      refine T_aload dX11_image_22 rfl ?_
      refine X_getr dX11_image_23 lfX11_58 rfl ob73 rfl ?_
      refine T_iload dX11_image_26 rfl ?_
      refine T_aload dX11_image_27 rfl ?_
      refine X_getr dX11_image_28 lfX11_9 rfl ob73 rfl ?_
      refine T_iload dX11_image_31 rfl ?_
      obtain ⟨hb32_2, hf⟩ := opt_t hf
      refine X_iald (N := 172) dX11_image_32 ar74 rfl hb32_2 ?_
      obtain ⟨hb33_3, hf⟩ := opt_t hf
      refine X_iast (N := 172) dX11_image_33 ar90 rfl hb33_3 ?_
      refine T_iinc dX11_image_34 rfl ?_
      show TX _ _ _ _ _ _ _ _ [_, _] _
      refine T_goto dX11_image_37 ?_
      exact X_wk (WK.s (WK.s WK.e)) (ih _ _ hf ke)
theorem lX11_image_42 (Z : aZ) (y : aH) {Q : Option Value → aH → Prop} {R : aH} : ∀ (n : Nat) (x : aH) (l1 : Int32), wX11_image_42 n x l1 = some R → (∀ q, R = q → TX false Z mX11_image 0 y q Q 65 [.ref 73, .null] []) → TX false Z mX11_image 0 y x Q 42 [.ref 73, .int l1] [] := by
  intro n
  induction n with
  | zero => intro x l1 hf; cases hf
  | succ n ih =>
    intro x l1 hf ke
    replace hf : sX11_image_42 (wX11_image_42 n) x l1 = some R := hf
    delta sX11_image_42 at hf
    refine T_iload dX11_image_42 rfl ?_
    refine T_const dX11_image_43 ?_
    refine T_icmp_ge dX11_image_44 (fun c44_5 => ?_) (fun c44_5 => ?_)
    · replace hf := ite_t c44_5 hf
      exact X_wk (WK.s (WK.n WK.e)) (ke x (Option.some.inj hf).symm)
    · replace hf := ite_f c44_5 hf
      refine T_aload dX11_image_47 rfl ?_
      refine X_getr dX11_image_48 lfX11_61 rfl ob73 rfl ?_
      refine T_iload dX11_image_51 rfl ?_
      refine T_aload dX11_image_52 rfl ?_
      refine X_getr dX11_image_53 lfX11_55 rfl ob73 rfl ?_
      refine T_iload dX11_image_56 rfl ?_
      obtain ⟨hb57_6, hf⟩ := opt_t hf
      refine X_iald (N := 5) dX11_image_57 ar89 rfl hb57_6 ?_
      obtain ⟨hb58_7, hf⟩ := opt_t hf
      refine X_iast (N := 5) dX11_image_58 ar91 rfl hb58_7 ?_
      refine T_iinc dX11_image_59 rfl ?_
      show TX _ _ _ _ _ _ _ _ [_, _] _
      refine T_goto dX11_image_62 ?_
      exact X_wk (WK.s (WK.s WK.e)) (ih _ _ hf ke)
theorem qX11_image (Z : aZ) (y : aH) {x : aH} {q : (Int32 × aH)} (hf : fX11_image x = some q) : CX false Z mX11_image 0 [.ref 73] y x (RV (.int q.1) q.2) := by
  refine CX.of mokX11_image (Nat.le_of_ble_eq_true rfl) ?_
  show TX _ _ _ _ _ _ _ _ [_, _] _
  delta fX11_image at hf
  refine T_aload dX11_image_0 rfl ?_
  refine T_const dX11_image_1 ?_
  refine X_putf dX11_image_2 lfX11_323 rfl rfl ob73 ⟨rfl, rfl⟩ ?_
  refine T_aload dX11_image_5 rfl ?_
  refine T_aload dX11_image_6 rfl ?_
  refine X_getf dX11_image_7 lfX11_93 rfl ob73 ?_
  refine X_putf dX11_image_10 lfX11_326 rfl rfl ob73 ⟨rfl, rfl⟩ ?_
  refine T_const dX11_image_13 ?_
  refine T_istore dX11_image_14 ?_
  show TX _ _ _ _ _ _ _ _ [_, _] _
  obtain ⟨q15_4, hc15_4, hf⟩ := bind_t hf
  refine X_wk (WK.s (WK.s WK.e)) (lX11_image_15 Z _ 2000 _ _ hc15_4 ?_)
  intro q15_4z hr
  subst hr
  refine T_const dX11_image_40 ?_
  refine T_istore dX11_image_41 ?_
  show TX _ _ _ _ _ _ _ _ [_, _] _
  obtain ⟨q42_8, hc42_8, hf⟩ := bind_t hf
  refine X_wk (WK.s (WK.s WK.e)) (lX11_image_42 Z _ 2000 _ _ hc42_8 ?_)
  intro q42_8z hr
  subst hr
  refine T_aload dX11_image_65 rfl ?_
  refine X_getr dX11_image_66 lfX11_55 rfl ob73 rfl ?_
  refine T_const dX11_image_69 ?_
  refine X_iald (N := 5) dX11_image_70 ar89 rfl (by decide) ?_
  obtain rfl := Option.some.inj hf
  exact X_ri dX11_image_71 ⟨rfl, rfl⟩
noncomputable def sX11_back_12 (ih : aH → Int32 → Option aH) (x : aH) (l1 : Int32) : Option aH := if (fi x 73 33) ≤ l1 then some x else if (0 : Int32) ≤ l1 ∧ l1 < (172 : Int32) then if (0 : Int32) ≤ l1 ∧ l1 < (172 : Int32) then if (0 : Int32) ≤ ((30 : Int32) + l1) ∧ ((30 : Int32) + l1) < (172 : Int32) then if (0 : Int32) ≤ ((30 : Int32) + l1) ∧ ((30 : Int32) + l1) < (172 : Int32) then ih (sri (sri x 74 (ix l1) (ri x 90 (ix l1))) 74 (ix ((30 : Int32) + l1)) (ri (sri x 74 (ix l1) (ri x 90 (ix l1))) 90 (ix ((30 : Int32) + l1)))) (l1 + (1 : Int32)) else none else none else none else none
noncomputable def wX11_back_12 : Nat → aH → Int32 → Option aH
  | 0 => fun _ _ => none
  | n + 1 => sX11_back_12 (wX11_back_12 n)
noncomputable def sX11_back_74 (ih : aH → Int32 → Option aH) (x : aH) (l1 : Int32) : Option aH := if (5 : Int32) ≤ l1 then some x else if (0 : Int32) ≤ l1 ∧ l1 < (5 : Int32) then if (0 : Int32) ≤ l1 ∧ l1 < (5 : Int32) then ih (sri x 89 (ix l1) (ri x 91 (ix l1))) (l1 + (1 : Int32)) else none else none
noncomputable def wX11_back_74 : Nat → aH → Int32 → Option aH
  | 0 => fun _ _ => none
  | n + 1 => sX11_back_74 (wX11_back_74 n)
noncomputable def fX11_back (x : aH) : Option (Int32 × aH) := if (fi x 73 32) = (0 : Int32) then some ((-5 : Int32), x) else (wX11_back_12 2000 x (0 : Int32)).bind fun q12_7 => (wX11_back_74 2000 (sri q12_7 74 (ix (169 : Int32)) (ri q12_7 90 (ix (169 : Int32)))) (0 : Int32)).bind fun q74_11 => some ((ri q74_11 89 (ix (0 : Int32))), q74_11)
theorem lX11_back_12 (Z : aZ) (y : aH) {Q : Option Value → aH → Prop} {R : aH} : ∀ (n : Nat) (x : aH) (l1 : Int32), wX11_back_12 n x l1 = some R → (∀ q, R = q → TX false Z mX11_back 0 y q Q 56 [.ref 73, .null] []) → TX false Z mX11_back 0 y x Q 12 [.ref 73, .int l1] [] := by
  intro n
  induction n with
  | zero => intro x l1 hf; cases hf
  | succ n ih =>
    intro x l1 hf ke
    replace hf : sX11_back_12 (wX11_back_12 n) x l1 = some R := hf
    delta sX11_back_12 at hf
    refine T_iload dX11_back_12 rfl ?_
    refine T_aload dX11_back_13 rfl ?_
    refine X_getf dX11_back_14 lfX11_326 rfl ob73 ?_
    refine T_icmp_ge dX11_back_17 (fun c17_2 => ?_) (fun c17_2 => ?_)
    · replace hf := ite_t c17_2 hf
      exact X_wk (WK.s (WK.n WK.e)) (ke x (Option.some.inj hf).symm)
    · replace hf := ite_f c17_2 hf
      refine T_aload dX11_back_20 rfl ?_
      refine X_getr dX11_back_21 lfX11_9 rfl ob73 rfl ?_
      refine T_iload dX11_back_24 rfl ?_
      refine T_aload dX11_back_25 rfl ?_
      refine X_getr dX11_back_26 lfX11_58 rfl ob73 rfl ?_
      refine T_iload dX11_back_29 rfl ?_
      obtain ⟨hb30_3, hf⟩ := opt_t hf
      refine X_iald (N := 172) dX11_back_30 ar90 rfl hb30_3 ?_
      obtain ⟨hb31_4, hf⟩ := opt_t hf
      refine X_iast (N := 172) dX11_back_31 ar74 rfl hb31_4 ?_
      refine T_aload dX11_back_32 rfl ?_
      refine X_getr dX11_back_33 lfX11_9 rfl ob73 rfl ?_
      refine T_const dX11_back_36 ?_
      refine T_iload dX11_back_38 rfl ?_
      refine T_iadd dX11_back_39 ?_
      refine T_aload dX11_back_40 rfl ?_
      refine X_getr dX11_back_41 lfX11_58 rfl ob73 rfl ?_
      refine T_const dX11_back_44 ?_
      refine T_iload dX11_back_46 rfl ?_
      refine T_iadd dX11_back_47 ?_
      obtain ⟨hb48_5, hf⟩ := opt_t hf
      refine X_iald (N := 172) dX11_back_48 ar90 rfl hb48_5 ?_
      obtain ⟨hb49_6, hf⟩ := opt_t hf
      refine X_iast (N := 172) dX11_back_49 ar74 rfl hb49_6 ?_
      refine T_iinc dX11_back_50 rfl ?_
      show TX _ _ _ _ _ _ _ _ [_, _] _
      refine T_goto dX11_back_53 ?_
      exact X_wk (WK.s (WK.s WK.e)) (ih _ _ hf ke)
theorem lX11_back_74 (Z : aZ) (y : aH) {Q : Option Value → aH → Prop} {R : aH} : ∀ (n : Nat) (x : aH) (l1 : Int32), wX11_back_74 n x l1 = some R → (∀ q, R = q → TX false Z mX11_back 0 y q Q 97 [.ref 73, .null] []) → TX false Z mX11_back 0 y x Q 74 [.ref 73, .int l1] [] := by
  intro n
  induction n with
  | zero => intro x l1 hf; cases hf
  | succ n ih =>
    intro x l1 hf ke
    replace hf : sX11_back_74 (wX11_back_74 n) x l1 = some R := hf
    delta sX11_back_74 at hf
    refine T_iload dX11_back_74 rfl ?_
    refine T_const dX11_back_75 ?_
    refine T_icmp_ge dX11_back_76 (fun c76_8 => ?_) (fun c76_8 => ?_)
    · replace hf := ite_t c76_8 hf
      exact X_wk (WK.s (WK.n WK.e)) (ke x (Option.some.inj hf).symm)
    · replace hf := ite_f c76_8 hf
      refine T_aload dX11_back_79 rfl ?_
      refine X_getr dX11_back_80 lfX11_55 rfl ob73 rfl ?_
      refine T_iload dX11_back_83 rfl ?_
      refine T_aload dX11_back_84 rfl ?_
      refine X_getr dX11_back_85 lfX11_61 rfl ob73 rfl ?_
      refine T_iload dX11_back_88 rfl ?_
      obtain ⟨hb89_9, hf⟩ := opt_t hf
      refine X_iald (N := 5) dX11_back_89 ar91 rfl hb89_9 ?_
      obtain ⟨hb90_10, hf⟩ := opt_t hf
      refine X_iast (N := 5) dX11_back_90 ar89 rfl hb90_10 ?_
      refine T_iinc dX11_back_91 rfl ?_
      show TX _ _ _ _ _ _ _ _ [_, _] _
      refine T_goto dX11_back_94 ?_
      exact X_wk (WK.s (WK.s WK.e)) (ih _ _ hf ke)
theorem qX11_back (Z : aZ) (y : aH) {x : aH} {q : (Int32 × aH)} (hf : fX11_back x = some q) : CX false Z mX11_back 0 [.ref 73] y x (RV (.int q.1) q.2) := by
  refine CX.of mokX11_back (Nat.le_of_ble_eq_true rfl) ?_
  show TX _ _ _ _ _ _ _ _ [_, _] _
  delta fX11_back at hf
  refine T_aload dX11_back_0 rfl ?_
  refine X_getf dX11_back_1 lfX11_323 rfl ob73 ?_
  refine T_if_ne dX11_back_4 (fun c4_1 => ?_) (fun c4_1 => ?_)
  · replace hf := ite_f c4_1 hf
    refine T_const dX11_back_10 ?_
    refine T_istore dX11_back_11 ?_
    show TX _ _ _ _ _ _ _ _ [_, _] _
    obtain ⟨q12_7, hc12_7, hf⟩ := bind_t hf
    refine X_wk (WK.s (WK.s WK.e)) (lX11_back_12 Z _ 2000 _ _ hc12_7 ?_)
    intro q12_7z hr
    subst hr
    refine T_aload dX11_back_56 rfl ?_
    refine X_getr dX11_back_57 lfX11_9 rfl ob73 rfl ?_
    refine T_const dX11_back_60 ?_
    refine T_aload dX11_back_63 rfl ?_
    refine X_getr dX11_back_64 lfX11_58 rfl ob73 rfl ?_
    refine T_const dX11_back_67 ?_
    refine X_iald (N := 172) dX11_back_70 ar90 rfl (by decide) ?_
    refine X_iast (N := 172) dX11_back_71 ar74 rfl (by decide) ?_
    refine T_const dX11_back_72 ?_
    refine T_istore dX11_back_73 ?_
    show TX _ _ _ _ _ _ _ _ [_, _] _
    obtain ⟨q74_11, hc74_11, hf⟩ := bind_t hf
    refine X_wk (WK.s (WK.s WK.e)) (lX11_back_74 Z _ 2000 _ _ hc74_11 ?_)
    intro q74_11z hr
    subst hr
    refine T_aload dX11_back_97 rfl ?_
    refine X_getr dX11_back_98 lfX11_55 rfl ob73 rfl ?_
    refine T_const dX11_back_101 ?_
    refine X_iald (N := 5) dX11_back_102 ar89 rfl (by decide) ?_
    obtain rfl := Option.some.inj hf
    exact X_ri dX11_back_103 ⟨rfl, rfl⟩
  · replace hf := ite_t c4_1 hf
    refine T_const dX11_back_7 ?_
    obtain rfl := Option.some.inj hf
    exact X_ri dX11_back_9 ⟨rfl, rfl⟩
