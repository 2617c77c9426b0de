noncomputable def sX11_drifted_43 (x : aH) (l2 : Int32) (l3 : Int64) (l5 : Int32) (ih : Int64 → Int32 → Option Int64) (l6 : Int64) (l8 : Int32) : Option Int64 := if (64 : Int32) ≤ l8 then some l6 else (fX11_driftsTo x l8).bind fun q56_7 => ih (l6 ||| (((l3 >>> (Int32.toInt64 q56_7 &&& 63)) &&& (1 : Int64)) <<< (Int32.toInt64 l8 &&& 63))) (l8 + (1 : Int32))
noncomputable def wX11_drifted_43 (x : aH) (l2 : Int32) (l3 : Int64) (l5 : Int32) : Nat → Int64 → Int32 → Option Int64
  | 0 => fun _ _ => none
  | n + 1 => sX11_drifted_43 x l2 l3 l5 (wX11_drifted_43 x l2 l3 l5 n)
noncomputable def sX11_drifted_31 (x : aH) (l2 : Int32) (ih : Int64 → Int32 → Option Int64) (l3 : Int64) (l5 : Int32) : Option Int64 := if l2 ≤ l5 then some l3 else (wX11_drifted_43 x l2 l3 l5 2000 (0 : Int64) (0 : Int32)).bind fun q43_8 => ih q43_8 (l5 + (1 : Int32))
noncomputable def wX11_drifted_31 (x : aH) (l2 : Int32) : Nat → Int64 → Int32 → Option Int64
  | 0 => fun _ _ => none
  | n + 1 => sX11_drifted_31 x l2 (wX11_drifted_31 x l2 n)
noncomputable def fX11_drifted (x : aH) (p1 : Int32) (p2 : Int32) : Option Int64 := (fX11_isCell (Int32.toInt64 p1)).bind fun q2_1 => if q2_1 = (0 : Int32) then some (-9223372036854775808 : Int64) else (fX11_within (Int32.toInt64 p2) (0 : Int64) (20 : Int64)).bind fun q14_3 => if q14_3 = (0 : Int32) then some (-9223372036854775808 : Int64) else (wX11_drifted_31 x p2 2000 ((1 : Int64) <<< (Int32.toInt64 p1 &&& 63)) (0 : Int32)).bind fun q31_9 => some q31_9
theorem lX11_drifted_43 (Z : aZ) (y : aH) (x : aH) (l2 : Int32) (l3 : Int64) (l5 : Int32) {Q : Option Value → aH → Prop} {R : Int64} : ∀ (n : Nat) (l6 : Int64) (l8 : Int32), wX11_drifted_43 x l2 l3 l5 n l6 l8 = some R → (∀ q, R = q → TX false Z mX11_drifted 2 y x Q 74 [.ref 73, .null, .int l2, .null, .null, .int l5, .long q, .null, .null] []) → TX false Z mX11_drifted 2 y x Q 43 [.ref 73, .null, .int l2, .long l3, .null, .int l5, .long l6, .null, .int l8] [] := by
  intro n
  induction n with
  | zero => intro l6 l8 hf; cases hf
  | succ n ih =>
    intro l6 l8 hf ke
    replace hf : sX11_drifted_43 x l2 l3 l5 (wX11_drifted_43 x l2 l3 l5 n) l6 l8 = some R := hf
    delta sX11_drifted_43 at hf
    refine T_iload dX11_drifted_43 rfl ?_
    refine T_const dX11_drifted_45 ?_
    refine T_icmp_ge dX11_drifted_47 (fun c47_6 => ?_) (fun c47_6 => ?_)
    · replace hf := ite_t c47_6 hf
      exact X_wk (WK.s (WK.n (WK.s (WK.n (WK.n (WK.s (WK.s (WK.n (WK.n WK.e))))))))) (ke l6 (Option.some.inj hf).symm)
    · replace hf := ite_f c47_6 hf
      refine T_lload dX11_drifted_50 rfl ?_
      refine T_lload dX11_drifted_52 rfl ?_
      refine T_aload dX11_drifted_53 rfl ?_
      refine T_iload dX11_drifted_54 rfl ?_
      obtain ⟨q56_7, hc56_7, hf⟩ := bind_t hf
      refine X_Vv (qX11_driftsTo Z _ hc56_7) (Nat.le_of_ble_eq_true rfl) dX11_drifted_56 lvX11_233 rfl rfl ob73 (Nat.le_of_ble_eq_true rfl) ?_
      refine T_lshr dX11_drifted_59 ?_
      refine T_constL dX11_drifted_60 ?_
      refine T_land dX11_drifted_61 ?_
      refine T_iload dX11_drifted_62 rfl ?_
      refine T_lshl dX11_drifted_64 ?_
      refine T_lor dX11_drifted_65 ?_
      refine T_lstore dX11_drifted_66 ?_
      show TX _ _ _ _ _ _ _ _ [_, _, _, _, _, _, _, _, _] _
      refine T_iinc dX11_drifted_68 rfl ?_
      show TX _ _ _ _ _ _ _ _ [_, _, _, _, _, _, _, _, _] _
      refine T_goto dX11_drifted_71 ?_
      exact X_wk (WK.s (WK.n (WK.s (WK.s (WK.n (WK.s (WK.s (WK.n (WK.s WK.e))))))))) (ih _ _ hf ke)
theorem lX11_drifted_31 (Z : aZ) (y : aH) (x : aH) (l2 : Int32) {Q : Option Value → aH → Prop} {R : Int64} : ∀ (n : Nat) (l3 : Int64) (l5 : Int32), wX11_drifted_31 x l2 n l3 l5 = some R → (∀ q, R = q → TX false Z mX11_drifted 2 y x Q 83 [.null, .null, .null, .long q, .null, .null, .null, .null, .null] []) → TX false Z mX11_drifted 2 y x Q 31 [.ref 73, .null, .int l2, .long l3, .null, .int l5, .null, .null, .null] [] := by
  intro n
  induction n with
  | zero => intro l3 l5 hf; cases hf
  | succ n ih =>
    intro l3 l5 hf ke
    replace hf : sX11_drifted_31 x l2 (wX11_drifted_31 x l2 n) l3 l5 = some R := hf
    delta sX11_drifted_31 at hf
    refine T_iload dX11_drifted_31 rfl ?_
    refine T_iload dX11_drifted_33 rfl ?_
    refine T_icmp_ge dX11_drifted_34 (fun c34_5 => ?_) (fun c34_5 => ?_)
    · replace hf := ite_t c34_5 hf
      exact X_wk (WK.n (WK.n (WK.n (WK.s (WK.n (WK.n (WK.n (WK.n (WK.n WK.e))))))))) (ke l3 (Option.some.inj hf).symm)
    · replace hf := ite_f c34_5 hf
      refine T_constL dX11_drifted_37 ?_
      refine T_lstore dX11_drifted_38 ?_
      show TX _ _ _ _ _ _ _ _ [_, _, _, _, _, _, _, _, _] _
      refine T_const dX11_drifted_40 ?_
      refine T_istore dX11_drifted_41 ?_
      show TX _ _ _ _ _ _ _ _ [_, _, _, _, _, _, _, _, _] _
      obtain ⟨q43_8, hc43_8, hf⟩ := bind_t hf
      refine X_wk (WK.s (WK.n (WK.s (WK.s (WK.n (WK.s (WK.s (WK.n (WK.s WK.e))))))))) (lX11_drifted_43 Z _ _ _ _ _ 2000 _ _ hc43_8 ?_)
      intro q43_8z hr
      subst hr
      refine T_lload dX11_drifted_74 rfl ?_
      refine T_lstore dX11_drifted_76 ?_
      show TX _ _ _ _ _ _ _ _ [_, _, _, _, _, _, _, _, _] _
      refine T_iinc dX11_drifted_77 rfl ?_
      show TX _ _ _ _ _ _ _ _ [_, _, _, _, _, _, _, _, _] _
      refine T_goto dX11_drifted_80 ?_
      exact X_wk (WK.s (WK.n (WK.s (WK.s (WK.n (WK.s (WK.n (WK.n (WK.n WK.e))))))))) (ih _ _ hf ke)
theorem qX11_drifted (Z : aZ) (y : aH) {x : aH} {p1 : Int32} {p2 : Int32} {q : Int64} (hf : fX11_drifted x p1 p2 = some q) : CX false Z mX11_drifted 2 [.ref 73, .int p1, .int p2] y x (RV (.long q) x) := by
  refine CX.of mokX11_drifted (Nat.le_of_ble_eq_true rfl) ?_
  show TX _ _ _ _ _ _ _ _ [_, _, _, _, _, _, _, _, _] _
  delta fX11_drifted at hf
  refine T_iload dX11_drifted_0 rfl ?_
  refine T_i2l dX11_drifted_1 ?_
  obtain ⟨q2_1, hc2_1, hf⟩ := bind_t hf
  refine X_Sv (qX11_isCell _ Z _ _ hc2_1) (Nat.le_of_ble_eq_true rfl) dX11_drifted_2 lsX11_102 rfl rfl (Nat.le_of_ble_eq_true rfl) ?_
  refine T_if_eq dX11_drifted_5 (fun c5_2 => ?_) (fun c5_2 => ?_)
  · replace hf := ite_t c5_2 hf
    refine T_constL dX11_drifted_20 ?_
    obtain rfl := Option.some.inj hf
    exact X_rl dX11_drifted_23 ⟨rfl, rfl⟩
  · replace hf := ite_f c5_2 hf
    refine T_iload dX11_drifted_8 rfl ?_
    refine T_i2l dX11_drifted_9 ?_
    refine T_constL dX11_drifted_10 ?_
    refine T_constL dX11_drifted_11 ?_
    obtain ⟨q14_3, hc14_3, hf⟩ := bind_t hf
    refine X_Sv (qX11_within _ Z _ _ hc14_3) (Nat.le_of_ble_eq_true rfl) dX11_drifted_14 lsX11_96 rfl rfl (Nat.le_of_ble_eq_true rfl) ?_
    refine T_if_ne dX11_drifted_17 (fun c17_4 => ?_) (fun c17_4 => ?_)
    · replace hf := ite_f c17_4 hf
      refine T_constL dX11_drifted_24 ?_
      refine T_iload dX11_drifted_25 rfl ?_
      refine T_lshl dX11_drifted_26 ?_
      refine T_lstore dX11_drifted_27 ?_
      show TX _ _ _ _ _ _ _ _ [_, _, _, _, _, _, _, _, _] _
      refine T_const dX11_drifted_28 ?_
      refine T_istore dX11_drifted_29 ?_
      show TX _ _ _ _ _ _ _ _ [_, _, _, _, _, _, _, _, _] _
      obtain ⟨q31_9, hc31_9, hf⟩ := bind_t hf
      refine X_wk (WK.s (WK.n (WK.s (WK.s (WK.n (WK.s (WK.n (WK.n (WK.n WK.e))))))))) (lX11_drifted_31 Z _ _ _ 2000 _ _ hc31_9 ?_)
      intro q31_9z hr
      subst hr
      refine T_lload dX11_drifted_83 rfl ?_
      obtain rfl := Option.some.inj hf
      exact X_rl dX11_drifted_84 ⟨rfl, rfl⟩
    · replace hf := ite_t c17_4 hf
      refine T_constL dX11_drifted_20 ?_
      obtain rfl := Option.some.inj hf
      exact X_rl dX11_drifted_23 ⟨rfl, rfl⟩
noncomputable def jX11_firstFalse_103 (ih : Int32 → Int32 → Int32 → Option (Sum Int32 Unit)) (x : aH) (l1 : Int32) (l4 : Int32) (l5 : Int32) (l6 : Int32) : Option (Sum Int32 Unit) := ih l4 l5 (l6 + (1 : Int32))
noncomputable def jX11_firstFalse_101 (ih : Int32 → Int32 → Int32 → Option (Sum Int32 Unit)) (x : aH) (l1 : Int32) (l4 : Int32) (l6 : Int32) (s0 : Int32) : Option (Sum Int32 Unit) := jX11_firstFalse_103 ih x l1 l4 s0 l6
noncomputable def jX11_firstFalse_70 (ih : Int32 → Int32 → Int32 → Option (Sum Int32 Unit)) (x : aH) (l1 : Int32) (l4 : Int32) (l5 : Int32) (l6 : Int32) : Option (Sum Int32 Unit) := if l5 = (0 : Int32) then (fX11_driftsTo x l4).bind fun q78_7 => if q78_7 = (ri x 74 (ix (168 : Int32))) then jX11_firstFalse_101 ih x l1 q78_7 l6 (1 : Int32) else jX11_firstFalse_101 ih x l1 q78_7 l6 (0 : Int32) else jX11_firstFalse_103 ih x l1 l4 l5 l6
noncomputable def sX11_firstFalse_17 (x : aH) (l1 : Int32) (ih : Int32 → Int32 → Int32 → Option (Sum Int32 Unit)) (l4 : Int32) (l5 : Int32) (l6 : Int32) : Option (Sum Int32 Unit) := if (49 : Int32) ≤ l6 then some (.inr ()) else if (0 : Int32) ≤ l1 ∧ l1 < (6 : Int32) then if (ri x 95 (ix l1)) ≤ l6 then some (.inr ()) else if (0 : Int32) ≤ (((60 : Int32) * l1) + l6) ∧ (((60 : Int32) * l1) + l6) < (360 : Int32) then if (lg_cmp (rj x 96 (ix (((60 : Int32) * l1) + l6))) (64 : Int64)) = (0 : Int32) then jX11_firstFalse_70 ih x l1 l4 l5 l6 else if (lg_cmp (rj x 96 (ix (((60 : Int32) * l1) + l6))) (Int32.toInt64 l4)) = (0 : Int32) then jX11_firstFalse_70 ih x l1 l4 l5 l6 else some (.inl l6) else none else none
noncomputable def wX11_firstFalse_17 (x : aH) (l1 : Int32) : Nat → Int32 → Int32 → Int32 → Option (Sum Int32 Unit)
  | 0 => fun _ _ _ => none
  | n + 1 => sX11_firstFalse_17 x l1 (wX11_firstFalse_17 x l1 n)
noncomputable def fX11_firstFalse (x : aH) (p1 : Int32) (p2 : Int32) (p3 : Int32) : Option Int32 := if (0 : Int32) ≤ ((30 : Int32) + p2) ∧ ((30 : Int32) + p2) < (172 : Int32) then (wX11_firstFalse_17 x p1 2000 p3 (ri x 74 (ix ((30 : Int32) + p2))) (0 : Int32)).bind fun q17_11 => elS q17_11 (fun r => some r) (fun eq17_11 => some (-2 : Int32)) else none
theorem lX11_firstFalse_17 (Z : aZ) (y : aH) (x : aH) (l1 : Int32) {Q : Option Value → aH → Prop} {R : (Sum Int32 Unit)} : ∀ (n : Nat) (l4 : Int32) (l5 : Int32) (l6 : Int32), wX11_firstFalse_17 x l1 n l4 l5 l6 = some R → (∀ r, R = .inl r → Q (some (.int r)) x) → (∀ q, R = .inr q → TX false Z mX11_firstFalse 2 y x Q 109 [.null, .null, .null, .null, .null, .null, .null, .null, .null] []) → TX false Z mX11_firstFalse 2 y x Q 17 [.ref 73, .int l1, .null, .null, .int l4, .int l5, .int l6, .null, .null] [] := by
  intro n
  induction n with
  | zero => intro l4 l5 l6 hf; cases hf
  | succ n ih =>
    intro l4 l5 l6 hf kr ke
    replace hf : sX11_firstFalse_17 x l1 (wX11_firstFalse_17 x l1 n) l4 l5 l6 = some R := hf
    delta sX11_firstFalse_17 at hf
    refine T_iload dX11_firstFalse_17 rfl ?_
    refine T_const dX11_firstFalse_19 ?_
    refine T_icmp_ge dX11_firstFalse_21 (fun c21_2 => ?_) (fun c21_2 => ?_)
    · replace hf := ite_t c21_2 hf
      exact X_wk (WK.n (WK.n (WK.n (WK.n (WK.n (WK.n (WK.n (WK.n (WK.n WK.e))))))))) (ke () (Option.some.inj hf).symm)
    · replace hf := ite_f c21_2 hf
      refine T_iload dX11_firstFalse_24 rfl ?_
      refine T_aload dX11_firstFalse_26 rfl ?_
      refine X_getr dX11_firstFalse_27 lfX11_73 rfl ob73 rfl ?_
      refine T_iload dX11_firstFalse_30 rfl ?_
      obtain ⟨hb31_3, hf⟩ := opt_t hf
      refine X_iald (N := 6) dX11_firstFalse_31 ar95 rfl hb31_3 ?_
      refine T_icmp_ge dX11_firstFalse_32 (fun c32_4 => ?_) (fun c32_4 => ?_)
      · replace hf := ite_t c32_4 hf
        exact X_wk (WK.n (WK.n (WK.n (WK.n (WK.n (WK.n (WK.n (WK.n (WK.n WK.e))))))))) (ke () (Option.some.inj hf).symm)
      · replace hf := ite_f c32_4 hf
        refine T_aload dX11_firstFalse_35 rfl ?_
        refine X_getr dX11_firstFalse_36 lfX11_76 rfl ob73 rfl ?_
        refine T_const dX11_firstFalse_39 ?_
        refine T_iload dX11_firstFalse_41 rfl ?_
        refine T_imul dX11_firstFalse_42 ?_
        refine T_iload dX11_firstFalse_43 rfl ?_
        refine T_iadd dX11_firstFalse_45 ?_
        obtain ⟨hb46_5, hf⟩ := opt_t hf
        refine X_lald (N := 360) dX11_firstFalse_46 ar96 rfl hb46_5 ?_
        refine T_lstore dX11_firstFalse_47 ?_
        show TX _ _ _ _ _ _ _ _ [_, _, _, _, _, _, _, _, _] _
        refine T_lload dX11_firstFalse_49 rfl ?_
        refine T_constL dX11_firstFalse_51 ?_
        refine T_lcmp dX11_firstFalse_54 ?_
        have J70 : ∀ (l4 : Int32) (l5 : Int32) (l6 : Int32), jX11_firstFalse_70 (wX11_firstFalse_17 x l1 n) x l1 l4 l5 l6 = some R → TX false Z mX11_firstFalse 2 y x Q 70 [.ref 73, .int l1, .null, .null, .int l4, .int l5, .int l6, .null, .null] [] := by
          intro l4 l5 l6 hf
          delta jX11_firstFalse_70 at hf
          refine T_iload dX11_firstFalse_70 rfl ?_
          have J103 : ∀ (l4 : Int32) (l5 : Int32) (l6 : Int32), jX11_firstFalse_103 (wX11_firstFalse_17 x l1 n) x l1 l4 l5 l6 = some R → TX false Z mX11_firstFalse 2 y x Q 103 [.ref 73, .int l1, .null, .null, .int l4, .int l5, .int l6, .null, .null] [] := by
            intro l4 l5 l6 hf
            delta jX11_firstFalse_103 at hf
            refine T_iinc dX11_firstFalse_103 rfl ?_
            show TX _ _ _ _ _ _ _ _ [_, _, _, _, _, _, _, _, _] _
            refine T_goto dX11_firstFalse_106 ?_
            exact X_wk (WK.s (WK.s (WK.n (WK.n (WK.s (WK.s (WK.s (WK.n (WK.n WK.e))))))))) (ih _ _ _ hf kr ke)
          refine T_if_ne dX11_firstFalse_72 (fun c72_6 => ?_) (fun c72_6 => ?_)
          · replace hf := ite_f c72_6 hf
            exact X_wk (WK.s (WK.s (WK.n (WK.n (WK.s (WK.s (WK.s (WK.n (WK.n WK.e))))))))) (J103 _ _ _ hf)
          · replace hf := ite_t c72_6 hf
            refine T_aload dX11_firstFalse_75 rfl ?_
            refine T_iload dX11_firstFalse_76 rfl ?_
            obtain ⟨q78_7, hc78_7, hf⟩ := bind_t hf
            refine X_Vv (qX11_driftsTo Z _ hc78_7) (Nat.le_of_ble_eq_true rfl) dX11_firstFalse_78 lvX11_233 rfl rfl ob73 (Nat.le_of_ble_eq_true rfl) ?_
            refine T_istore dX11_firstFalse_81 ?_
            show TX _ _ _ _ _ _ _ _ [_, _, _, _, _, _, _, _, _] _
            refine T_iload dX11_firstFalse_83 rfl ?_
            refine T_aload dX11_firstFalse_85 rfl ?_
            refine X_getr dX11_firstFalse_86 lfX11_9 rfl ob73 rfl ?_
            refine T_const dX11_firstFalse_89 ?_
            refine X_iald (N := 172) dX11_firstFalse_92 ar74 rfl (by decide) ?_
            have J101 : ∀ (l4 : Int32) (l6 : Int32) (s0 : Int32), jX11_firstFalse_101 (wX11_firstFalse_17 x l1 n) x l1 l4 l6 s0 = some R → TX false Z mX11_firstFalse 2 y x Q 101 [.ref 73, .int l1, .null, .null, .int l4, .null, .int l6, .null, .null] [.int s0] := by
              intro l4 l6 s0 hf
              delta jX11_firstFalse_101 at hf
              refine T_istore dX11_firstFalse_101 ?_
              show TX _ _ _ _ _ _ _ _ [_, _, _, _, _, _, _, _, _] _
              exact X_wk (WK.s (WK.s (WK.n (WK.n (WK.s (WK.s (WK.s (WK.n (WK.n WK.e))))))))) (J103 _ _ _ hf)
            refine T_icmp_ne dX11_firstFalse_93 (fun c93_8 => ?_) (fun c93_8 => ?_)
            · replace hf := ite_f c93_8 hf
              refine T_const dX11_firstFalse_100 ?_
              exact X_wk (WK.s (WK.s (WK.n (WK.n (WK.s (WK.n (WK.s (WK.n (WK.n WK.e))))))))) (J101 _ _ _ hf)
            · replace hf := ite_t c93_8 hf
              refine T_const dX11_firstFalse_96 ?_
              refine T_goto dX11_firstFalse_97 ?_
              exact X_wk (WK.s (WK.s (WK.n (WK.n (WK.s (WK.n (WK.s (WK.n (WK.n WK.e))))))))) (J101 _ _ _ hf)
        refine T_if_eq dX11_firstFalse_55 (fun c55_9 => ?_) (fun c55_9 => ?_)
        · replace hf := ite_t c55_9 hf
          exact X_wk (WK.s (WK.s (WK.n (WK.n (WK.s (WK.s (WK.s (WK.n (WK.n WK.e))))))))) (J70 _ _ _ hf)
        · replace hf := ite_f c55_9 hf
          refine T_lload dX11_firstFalse_58 rfl ?_
          refine T_iload dX11_firstFalse_60 rfl ?_
          refine T_i2l dX11_firstFalse_62 ?_
          refine T_lcmp dX11_firstFalse_63 ?_
          refine T_if_eq dX11_firstFalse_64 (fun c64_10 => ?_) (fun c64_10 => ?_)
          · replace hf := ite_t c64_10 hf
            exact X_wk (WK.s (WK.s (WK.n (WK.n (WK.s (WK.s (WK.s (WK.n (WK.n WK.e))))))))) (J70 _ _ _ hf)
          · replace hf := ite_f c64_10 hf
            refine T_iload dX11_firstFalse_67 rfl ?_
            exact X_ri dX11_firstFalse_69 (kr l6 (Option.some.inj hf).symm)
theorem qX11_firstFalse (Z : aZ) (y : aH) {x : aH} {p1 : Int32} {p2 : Int32} {p3 : Int32} {q : Int32} (hf : fX11_firstFalse x p1 p2 p3 = some q) : CX false Z mX11_firstFalse 2 [.ref 73, .int p1, .int p2, .int p3] y x (RV (.int q) x) := by
  refine CX.of mokX11_firstFalse (Nat.le_of_ble_eq_true rfl) ?_
  show TX _ _ _ _ _ _ _ _ [_, _, _, _, _, _, _, _, _] _
  delta fX11_firstFalse at hf
  refine T_iload dX11_firstFalse_0 rfl ?_
  refine T_istore dX11_firstFalse_1 ?_
  show TX _ _ _ _ _ _ _ _ [_, _, _, _, _, _, _, _, _] _
  refine T_aload dX11_firstFalse_3 rfl ?_
  refine X_getr dX11_firstFalse_4 lfX11_9 rfl ob73 rfl ?_
  refine T_const dX11_firstFalse_7 ?_
  refine T_iload dX11_firstFalse_9 rfl ?_
  refine T_iadd dX11_firstFalse_10 ?_
  obtain ⟨hb11_1, hf⟩ := opt_t hf
  refine X_iald (N := 172) dX11_firstFalse_11 ar74 rfl hb11_1 ?_
  refine T_istore dX11_firstFalse_12 ?_
  show TX _ _ _ _ _ _ _ _ [_, _, _, _, _, _, _, _, _] _
  refine T_const dX11_firstFalse_14 ?_
  refine T_istore dX11_firstFalse_15 ?_
  show TX _ _ _ _ _ _ _ _ [_, _, _, _, _, _, _, _, _] _
  obtain ⟨q17_11, hc17_11, hf⟩ := bind_t hf
  refine X_wk (WK.s (WK.s (WK.n (WK.n (WK.s (WK.s (WK.s (WK.n (WK.n WK.e))))))))) (lX11_firstFalse_17 Z _ _ _ 2000 _ _ _ hc17_11 ?_ ?_)
  · intro r hr
    subst hr
    replace hf := elS_l hf
    obtain rfl := Option.some.inj hf
    exact ⟨rfl, rfl⟩
  · intro eq17_11 hr
    subst hr
    replace hf := elS_r hf
    refine T_const dX11_firstFalse_109 ?_
    obtain rfl := Option.some.inj hf
    exact X_ri dX11_firstFalse_111 ⟨rfl, rfl⟩
noncomputable def jX11_ashore_110 (ih : Int32 → Int32 → Int32 → Option (Int32 × Int32)) (x : aH) (l1 : Int32) (l2 : Int32) (l3 : Int32) (l4 : Int32) (l5 : Int32) (l6 : Int32) : Option (Int32 × Int32) := ih l4 l5 (l6 + (1 : Int32))
noncomputable def jX11_ashore_105 (ih : Int32 → Int32 → Int32 → Option (Int32 × Int32)) (x : aH) (l1 : Int32) (l2 : Int32) (l3 : Int32) (l4 : Int32) (l6 : Int32) (s0 : Int32) : Option (Int32 × Int32) := jX11_ashore_110 ih x l1 l2 l3 (l4 + (1 : Int32)) s0 l6
noncomputable def sX11_ashore_73 (x : aH) (l1 : Int32) (l2 : Int32) (l3 : Int32) (ih : Int32 → Int32 → Int32 → Option (Int32 × Int32)) (l4 : Int32) (l5 : Int32) (l6 : Int32) : Option (Int32 × Int32) := if (64 : Int32) ≤ l6 then some (l4, l5) else (fX11_firstFalse x l1 l2 l6).bind fun q85_11 => if q85_11 = (-2 : Int32) then if l4 = (0 : Int32) then jX11_ashore_105 ih x l1 l2 l3 l4 l6 l6 else jX11_ashore_105 ih x l1 l2 l3 l4 l6 l5 else jX11_ashore_110 ih x l1 l2 l3 l4 l5 l6
noncomputable def wX11_ashore_73 (x : aH) (l1 : Int32) (l2 : Int32) (l3 : Int32) : Nat → Int32 → Int32 → Int32 → Option (Int32 × Int32)
  | 0 => fun _ _ _ => none
  | n + 1 => sX11_ashore_73 x l1 l2 l3 (wX11_ashore_73 x l1 l2 l3 n)
noncomputable def fX11_ashore (x : aH) (p1 : Int32) (p2 : Int32) (p3 : Int32) : Option Int32 := (fX11_bytesIs x p1).bind fun q2_1 => if q2_1 = (-1 : Int32) then some (-1 : Int32) else (fX11_isLost x (Int32.toInt64 p2)).bind fun q12_3 => if q12_3 = (0 : Int32) then some (-1 : Int32) else (fX11_within (Int32.toInt64 p3) (0 : Int64) (2 : Int64)).bind fun q24_5 => if q24_5 = (0 : Int32) then some (-1 : Int32) else (fX11_bytesIs x p1).bind fun q34_7 => if (0 : Int32) ≤ q34_7 then if p3 = (0 : Int32) then if (0 : Int32) ≤ p2 ∧ p2 < (172 : Int32) then (fX11_firstFalse x p1 p2 (ri x 74 (ix p2))).bind fun q59_17 => some q59_17 else none else (wX11_ashore_73 x p1 p2 p3 2000 (0 : Int32) (-2 : Int32) (0 : Int32)).bind fun q73_14 => if p3 = (1 : Int32) then some q73_14.1 else some q73_14.2 else (fX11_bytesIs x p1).bind fun q42_18 => some q42_18
theorem lX11_ashore_73 (Z : aZ) (y : aH) (x : aH) (l1 : Int32) (l2 : Int32) (l3 : Int32) {Q : Option Value → aH → Prop} {R : (Int32 × Int32)} : ∀ (n : Nat) (l4 : Int32) (l5 : Int32) (l6 : Int32), wX11_ashore_73 x l1 l2 l3 n l4 l5 l6 = some R → (∀ q, R = q → TX false Z mX11_ashore 3 y x Q 116 [.null, .null, .null, .int l3, .int (q.1), .int (q.2), .null] []) → TX false Z mX11_ashore 3 y x Q 73 [.ref 73, .int l1, .int l2, .int l3, .int l4, .int l5, .int l6] [] := by
  intro n
  induction n with
  | zero => intro l4 l5 l6 hf; cases hf
  | succ n ih =>
    intro l4 l5 l6 hf ke
    replace hf : sX11_ashore_73 x l1 l2 l3 (wX11_ashore_73 x l1 l2 l3 n) l4 l5 l6 = some R := hf
    delta sX11_ashore_73 at hf
    refine T_iload dX11_ashore_73 rfl ?_
    refine T_const dX11_ashore_75 ?_
    refine T_icmp_ge dX11_ashore_77 (fun c77_10 => ?_) (fun c77_10 => ?_)
    · replace hf := ite_t c77_10 hf
      exact X_wk (WK.n (WK.n (WK.n (WK.s (WK.s (WK.s (WK.n WK.e))))))) (ke (l4, l5) (Option.some.inj hf).symm)
    · replace hf := ite_f c77_10 hf
      refine T_aload dX11_ashore_80 rfl ?_
      refine T_iload dX11_ashore_81 rfl ?_
      refine T_iload dX11_ashore_82 rfl ?_
      refine T_iload dX11_ashore_83 rfl ?_
      obtain ⟨q85_11, hc85_11, hf⟩ := bind_t hf
      refine X_Vv (qX11_firstFalse Z _ hc85_11) (Nat.le_of_ble_eq_true rfl) dX11_ashore_85 lvX11_286 rfl rfl ob73 (Nat.le_of_ble_eq_true rfl) ?_
      refine T_const dX11_ashore_88 ?_
      have J110 : ∀ (l4 : Int32) (l5 : Int32) (l6 : Int32), jX11_ashore_110 (wX11_ashore_73 x l1 l2 l3 n) x l1 l2 l3 l4 l5 l6 = some R → TX false Z mX11_ashore 3 y x Q 110 [.ref 73, .int l1, .int l2, .int l3, .int l4, .int l5, .int l6] [] := by
        intro l4 l5 l6 hf
        delta jX11_ashore_110 at hf
        refine T_iinc dX11_ashore_110 rfl ?_
        show TX _ _ _ _ _ _ _ _ [_, _, _, _, _, _, _] _
        refine T_goto dX11_ashore_113 ?_
        exact X_wk (WK.s (WK.s (WK.s (WK.s (WK.s (WK.s (WK.s WK.e))))))) (ih _ _ _ hf ke)
      refine T_icmp_ne dX11_ashore_90 (fun c90_12 => ?_) (fun c90_12 => ?_)
      · replace hf := ite_f c90_12 hf
        exact X_wk (WK.s (WK.s (WK.s (WK.s (WK.s (WK.s (WK.s WK.e))))))) (J110 _ _ _ hf)
      · replace hf := ite_t c90_12 hf
        refine T_iload dX11_ashore_93 rfl ?_
        have J105 : ∀ (l4 : Int32) (l6 : Int32) (s0 : Int32), jX11_ashore_105 (wX11_ashore_73 x l1 l2 l3 n) x l1 l2 l3 l4 l6 s0 = some R → TX false Z mX11_ashore 3 y x Q 105 [.ref 73, .int l1, .int l2, .int l3, .int l4, .null, .int l6] [.int s0] := by
          intro l4 l6 s0 hf
          delta jX11_ashore_105 at hf
          refine T_istore dX11_ashore_105 ?_
          show TX _ _ _ _ _ _ _ _ [_, _, _, _, _, _, _] _
          refine T_iinc dX11_ashore_107 rfl ?_
          show TX _ _ _ _ _ _ _ _ [_, _, _, _, _, _, _] _
          exact X_wk (WK.s (WK.s (WK.s (WK.s (WK.s (WK.s (WK.s WK.e))))))) (J110 _ _ _ hf)
        refine T_if_ne dX11_ashore_95 (fun c95_13 => ?_) (fun c95_13 => ?_)
        · replace hf := ite_f c95_13 hf
          refine T_iload dX11_ashore_103 rfl ?_
          exact X_wk (WK.s (WK.s (WK.s (WK.s (WK.s (WK.n (WK.s WK.e))))))) (J105 _ _ _ hf)
        · replace hf := ite_t c95_13 hf
          refine T_iload dX11_ashore_98 rfl ?_
          refine T_goto dX11_ashore_100 ?_
          exact X_wk (WK.s (WK.s (WK.s (WK.s (WK.s (WK.n (WK.s WK.e))))))) (J105 _ _ _ hf)
theorem qX11_ashore (Z : aZ) (y : aH) {x : aH} {p1 : Int32} {p2 : Int32} {p3 : Int32} {q : Int32} (hf : fX11_ashore x p1 p2 p3 = some q) : CX false Z mX11_ashore 3 [.ref 73, .int p1, .int p2, .int p3] y x (RV (.int q) x) := by
  refine CX.of mokX11_ashore (Nat.le_of_ble_eq_true rfl) ?_
  show TX _ _ _ _ _ _ _ _ [_, _, _, _, _, _, _] _
  delta fX11_ashore at hf
  refine T_aload dX11_ashore_0 rfl ?_
  refine T_iload dX11_ashore_1 rfl ?_
  obtain ⟨q2_1, hc2_1, hf⟩ := bind_t hf
  refine X_Vv (qX11_bytesIs Z _ hc2_1) (Nat.le_of_ble_eq_true rfl) dX11_ashore_2 lvX11_250 rfl rfl ob73 (Nat.le_of_ble_eq_true rfl) ?_
  refine T_const dX11_ashore_5 ?_
  refine T_icmp_eq dX11_ashore_6 (fun c6_2 => ?_) (fun c6_2 => ?_)
  · replace hf := ite_t c6_2 hf
    refine T_const dX11_ashore_30 ?_
    obtain rfl := Option.some.inj hf
    exact X_ri dX11_ashore_31 ⟨rfl, rfl⟩
  · replace hf := ite_f c6_2 hf
    refine T_aload dX11_ashore_9 rfl ?_
    refine T_iload dX11_ashore_10 rfl ?_
    refine T_i2l dX11_ashore_11 ?_
    obtain ⟨q12_3, hc12_3, hf⟩ := bind_t hf
    refine X_Vv (qX11_isLost Z _ hc12_3) (Nat.le_of_ble_eq_true rfl) dX11_ashore_12 lvX11_123 rfl rfl ob73 (Nat.le_of_ble_eq_true rfl) ?_
    refine T_if_eq dX11_ashore_15 (fun c15_4 => ?_) (fun c15_4 => ?_)
    · replace hf := ite_t c15_4 hf
      refine T_const dX11_ashore_30 ?_
      obtain rfl := Option.some.inj hf
      exact X_ri dX11_ashore_31 ⟨rfl, rfl⟩
    · replace hf := ite_f c15_4 hf
      refine T_iload dX11_ashore_18 rfl ?_
      refine T_i2l dX11_ashore_19 ?_
      refine T_constL dX11_ashore_20 ?_
      refine T_constL dX11_ashore_21 ?_
      obtain ⟨q24_5, hc24_5, hf⟩ := bind_t hf
      refine X_Sv (qX11_within _ Z _ _ hc24_5) (Nat.le_of_ble_eq_true rfl) dX11_ashore_24 lsX11_96 rfl rfl (Nat.le_of_ble_eq_true rfl) ?_
      refine T_if_ne dX11_ashore_27 (fun c27_6 => ?_) (fun c27_6 => ?_)
      · replace hf := ite_f c27_6 hf
        refine T_aload dX11_ashore_32 rfl ?_
        refine T_iload dX11_ashore_33 rfl ?_
        obtain ⟨q34_7, hc34_7, hf⟩ := bind_t hf
        refine X_Vv (qX11_bytesIs Z _ hc34_7) (Nat.le_of_ble_eq_true rfl) dX11_ashore_34 lvX11_250 rfl rfl ob73 (Nat.le_of_ble_eq_true rfl) ?_
        refine T_if_ge dX11_ashore_37 (fun c37_8 => ?_) (fun c37_8 => ?_)
        · replace hf := ite_t c37_8 hf
          refine T_iload dX11_ashore_46 rfl ?_
          refine T_if_ne dX11_ashore_47 (fun c47_9 => ?_) (fun c47_9 => ?_)
          · replace hf := ite_f c47_9 hf
            refine T_const dX11_ashore_63 ?_
            refine T_istore dX11_ashore_64 ?_
            show TX _ _ _ _ _ _ _ _ [_, _, _, _, _, _, _] _
            refine T_const dX11_ashore_66 ?_
            refine T_istore dX11_ashore_68 ?_
            show TX _ _ _ _ _ _ _ _ [_, _, _, _, _, _, _] _
            refine T_const dX11_ashore_70 ?_
            refine T_istore dX11_ashore_71 ?_
            show TX _ _ _ _ _ _ _ _ [_, _, _, _, _, _, _] _
            obtain ⟨q73_14, hc73_14, hf⟩ := bind_t hf
            refine X_wk (WK.s (WK.s (WK.s (WK.s (WK.s (WK.s (WK.s WK.e))))))) (lX11_ashore_73 Z _ _ _ _ _ 2000 _ _ _ hc73_14 ?_)
            intro q73_14z hr
            subst hr
            refine T_iload dX11_ashore_116 rfl ?_
            refine T_const dX11_ashore_117 ?_
            refine T_icmp_ne dX11_ashore_118 (fun c118_15 => ?_) (fun c118_15 => ?_)
            · replace hf := ite_f c118_15 hf
              refine T_iload dX11_ashore_126 rfl ?_
              obtain rfl := Option.some.inj hf
              exact X_ri dX11_ashore_128 ⟨rfl, rfl⟩
            · replace hf := ite_t c118_15 hf
              refine T_iload dX11_ashore_121 rfl ?_
              refine T_goto dX11_ashore_123 ?_
              obtain rfl := Option.some.inj hf
              exact X_ri dX11_ashore_128 ⟨rfl, rfl⟩
          · replace hf := ite_t c47_9 hf
            refine T_aload dX11_ashore_50 rfl ?_
            refine T_iload dX11_ashore_51 rfl ?_
            refine T_iload dX11_ashore_52 rfl ?_
            refine T_aload dX11_ashore_53 rfl ?_
            refine X_getr dX11_ashore_54 lfX11_9 rfl ob73 rfl ?_
            refine T_iload dX11_ashore_57 rfl ?_
            obtain ⟨hb58_16, hf⟩ := opt_t hf
            refine X_iald (N := 172) dX11_ashore_58 ar74 rfl hb58_16 ?_
            obtain ⟨q59_17, hc59_17, hf⟩ := bind_t hf
            refine X_Vv (qX11_firstFalse Z _ hc59_17) (Nat.le_of_ble_eq_true rfl) dX11_ashore_59 lvX11_286 rfl rfl ob73 (Nat.le_of_ble_eq_true rfl) ?_
            obtain rfl := Option.some.inj hf
            exact X_ri dX11_ashore_62 ⟨rfl, rfl⟩
        · replace hf := ite_f c37_8 hf
          refine T_aload dX11_ashore_40 rfl ?_
          refine T_iload dX11_ashore_41 rfl ?_
          obtain ⟨q42_18, hc42_18, hf⟩ := bind_t hf
          refine X_Vv (qX11_bytesIs Z _ hc42_18) (Nat.le_of_ble_eq_true rfl) dX11_ashore_42 lvX11_250 rfl rfl ob73 (Nat.le_of_ble_eq_true rfl) ?_
          obtain rfl := Option.some.inj hf
          exact X_ri dX11_ashore_45 ⟨rfl, rfl⟩
      · replace hf := ite_t c27_6 hf
        refine T_const dX11_ashore_30 ?_
        obtain rfl := Option.some.inj hf
        exact X_ri dX11_ashore_31 ⟨rfl, rfl⟩
noncomputable def sX11_takesRules_2 (l1 : Int32) (ih : aH → Int32 → Option aH) (x : aH) (l2 : Int32) : Option aH := if (100 : Int32) ≤ l2 then some x else if (0 : Int32) ≤ l2 ∧ l2 < (100 : Int32) then ih (sri x 86 (ix l2) (0 : Int32)) (l2 + (1 : Int32)) else none
noncomputable def wX11_takesRules_2 (l1 : Int32) : Nat → aH → Int32 → Option aH
  | 0 => fun _ _ => none
  | n + 1 => sX11_takesRules_2 l1 (wX11_takesRules_2 l1 n)
noncomputable def jX11_takesRules_116 (ih : aH → Int32 → Option aH) (x : aH) (l1 : Int32) (l2 : Int32) : Option aH := ih x (l2 + (1 : Int32))
noncomputable def sX11_takesRules_23 (l1 : Int32) (ih : aH → Int32 → Option aH) (x : aH) (l2 : Int32) : Option aH := if (20 : Int32) ≤ l2 then some x else if (0 : Int32) ≤ l1 ∧ l1 < (6 : Int32) then if (ri x 95 (ix l1)) ≤ (((2 : Int32) * l2) + (1 : Int32)) then some x else if (0 : Int32) ≤ (((60 : Int32) * l1) + ((2 : Int32) * l2)) ∧ (((60 : Int32) * l1) + ((2 : Int32) * l2)) < (360 : Int32) then if (0 : Int32) ≤ ((((60 : Int32) * l1) + ((2 : Int32) * l2)) + (1 : Int32)) ∧ ((((60 : Int32) * l1) + ((2 : Int32) * l2)) + (1 : Int32)) < (360 : Int32) then (fX11_isLost x (rj x 96 (ix (((60 : Int32) * l1) + ((2 : Int32) * l2))))).bind fun q76_9 => if q76_9 = (0 : Int32) then jX11_takesRules_116 ih x l1 l2 else (fX11_isLost x (rj x 96 (ix ((((60 : Int32) * l1) + ((2 : Int32) * l2)) + (1 : Int32))))).bind fun q85_11 => if q85_11 = (0 : Int32) then jX11_takesRules_116 ih x l1 l2 else if (lg_cmp (rj x 96 (ix (((60 : Int32) * l1) + ((2 : Int32) * l2)))) (rj x 96 (ix ((((60 : Int32) * l1) + ((2 : Int32) * l2)) + (1 : Int32))))) = (0 : Int32) then jX11_takesRules_116 ih x l1 l2 else if (0 : Int32) ≤ (((10 : Int32) * (Int64.toInt32 (rj x 96 (ix (((60 : Int32) * l1) + ((2 : Int32) * l2)))))) + (Int64.toInt32 (rj x 96 (ix ((((60 : Int32) * l1) + ((2 : Int32) * l2)) + (1 : Int32)))))) ∧ (((10 : Int32) * (Int64.toInt32 (rj x 96 (ix (((60 : Int32) * l1) + ((2 : Int32) * l2)))))) + (Int64.toInt32 (rj x 96 (ix ((((60 : Int32) * l1) + ((2 : Int32) * l2)) + (1 : Int32)))))) < (100 : Int32) then if (0 : Int32) ≤ (((10 : Int32) * (Int64.toInt32 (rj x 96 (ix (((60 : Int32) * l1) + ((2 : Int32) * l2)))))) + (Int64.toInt32 (rj x 96 (ix ((((60 : Int32) * l1) + ((2 : Int32) * l2)) + (1 : Int32)))))) ∧ (((10 : Int32) * (Int64.toInt32 (rj x 96 (ix (((60 : Int32) * l1) + ((2 : Int32) * l2)))))) + (Int64.toInt32 (rj x 96 (ix ((((60 : Int32) * l1) + ((2 : Int32) * l2)) + (1 : Int32)))))) < (100 : Int32) then jX11_takesRules_116 ih (sri x 86 (ix (((10 : Int32) * (Int64.toInt32 (rj x 96 (ix (((60 : Int32) * l1) + ((2 : Int32) * l2)))))) + (Int64.toInt32 (rj x 96 (ix ((((60 : Int32) * l1) + ((2 : Int32) * l2)) + (1 : Int32))))))) ((ri x 86 (ix (((10 : Int32) * (Int64.toInt32 (rj x 96 (ix (((60 : Int32) * l1) + ((2 : Int32) * l2)))))) + (Int64.toInt32 (rj x 96 (ix ((((60 : Int32) * l1) + ((2 : Int32) * l2)) + (1 : Int32)))))))) + (1 : Int32))) l1 l2 else none else none else none else none else none
noncomputable def wX11_takesRules_23 (l1 : Int32) : Nat → aH → Int32 → Option aH
  | 0 => fun _ _ => none
  | n + 1 => sX11_takesRules_23 l1 (wX11_takesRules_23 l1 n)
noncomputable def fX11_takesRules (x : aH) (p1 : Int32) : Option aH := (wX11_takesRules_2 p1 2000 x (0 : Int32)).bind fun q2_3 => (wX11_takesRules_23 p1 2000 q2_3 (0 : Int32)).bind fun q23_16 => some q23_16
theorem lX11_takesRules_2 (Z : aZ) (y : aH) (l1 : Int32) {Q : Option Value → aH → Prop} {R : aH} : ∀ (n : Nat) (x : aH) (l2 : Int32), wX11_takesRules_2 l1 n x l2 = some R → (∀ q, R = q → TX false Z mX11_takesRules 2 y q Q 21 [.ref 73, .int l1, .null, .null, .null, .null, .null] []) → TX false Z mX11_takesRules 2 y x Q 2 [.ref 73, .int l1, .int l2, .null, .null, .null, .null] [] := by
  intro n
  induction n with
  | zero => intro x l2 hf; cases hf
  | succ n ih =>
    intro x l2 hf ke
    replace hf : sX11_takesRules_2 l1 (wX11_takesRules_2 l1 n) x l2 = some R := hf
    delta sX11_takesRules_2 at hf
    refine T_iload dX11_takesRules_2 rfl ?_
    refine T_const dX11_takesRules_3 ?_
    refine T_icmp_ge dX11_takesRules_5 (fun c5_1 => ?_) (fun c5_1 => ?_)
    · replace hf := ite_t c5_1 hf
      exact X_wk (WK.s (WK.s (WK.n (WK.n (WK.n (WK.n (WK.n WK.e))))))) (ke x (Option.some.inj hf).symm)
    · replace hf := ite_f c5_1 hf
      refine T_aload dX11_takesRules_8 rfl ?_
      refine X_getr dX11_takesRules_9 lfX11_46 rfl ob73 rfl ?_
      refine T_iload dX11_takesRules_12 rfl ?_
      refine T_const dX11_takesRules_13 ?_
      obtain ⟨hb14_2, hf⟩ := opt_t hf
      refine X_iast (N := 100) dX11_takesRules_14 ar86 rfl hb14_2 ?_
      refine T_iinc dX11_takesRules_15 rfl ?_
      show TX _ _ _ _ _ _ _ _ [_, _, _, _, _, _, _] _
      refine T_goto dX11_takesRules_18 ?_
      exact X_wk (WK.s (WK.s (WK.s (WK.n (WK.n (WK.n (WK.n WK.e))))))) (ih _ _ hf ke)
theorem lX11_takesRules_23 (Z : aZ) (y : aH) (l1 : Int32) {Q : Option Value → aH → Prop} {R : aH} : ∀ (n : Nat) (x : aH) (l2 : Int32), wX11_takesRules_23 l1 n x l2 = some R → (∀ q, R = q → TX false Z mX11_takesRules 2 y q Q 122 [.null, .null, .null, .null, .null, .null, .null] []) → TX false Z mX11_takesRules 2 y x Q 23 [.ref 73, .int l1, .int l2, .null, .null, .null, .null] [] := by
  intro n
  induction n with
  | zero => intro x l2 hf; cases hf
  | succ n ih =>
    intro x l2 hf ke
    replace hf : sX11_takesRules_23 l1 (wX11_takesRules_23 l1 n) x l2 = some R := hf
    delta sX11_takesRules_23 at hf
    refine T_iload dX11_takesRules_23 rfl ?_
    refine T_const dX11_takesRules_24 ?_
    refine T_icmp_ge dX11_takesRules_26 (fun c26_4 => ?_) (fun c26_4 => ?_)
    · replace hf := ite_t c26_4 hf
      exact X_wk (WK.n (WK.n (WK.n (WK.n (WK.n (WK.n (WK.n WK.e))))))) (ke x (Option.some.inj hf).symm)
    · replace hf := ite_f c26_4 hf
      refine T_const dX11_takesRules_29 ?_
      refine T_iload dX11_takesRules_30 rfl ?_
      refine T_imul dX11_takesRules_31 ?_
      refine T_const dX11_takesRules_32 ?_
      refine T_iadd dX11_takesRules_33 ?_
      refine T_aload dX11_takesRules_34 rfl ?_
      refine X_getr dX11_takesRules_35 lfX11_73 rfl ob73 rfl ?_
      refine T_iload dX11_takesRules_38 rfl ?_
      obtain ⟨hb39_5, hf⟩ := opt_t hf
      refine X_iald (N := 6) dX11_takesRules_39 ar95 rfl hb39_5 ?_
      refine T_icmp_ge dX11_takesRules_40 (fun c40_6 => ?_) (fun c40_6 => ?_)
      · replace hf := ite_t c40_6 hf
        exact X_wk (WK.n (WK.n (WK.n (WK.n (WK.n (WK.n (WK.n WK.e))))))) (ke x (Option.some.inj hf).symm)
      · replace hf := ite_f c40_6 hf
        refine T_aload dX11_takesRules_43 rfl ?_
        refine X_getr dX11_takesRules_44 lfX11_76 rfl ob73 rfl ?_
        refine T_const dX11_takesRules_47 ?_
        refine T_iload dX11_takesRules_49 rfl ?_
        refine T_imul dX11_takesRules_50 ?_
        refine T_const dX11_takesRules_51 ?_
        refine T_iload dX11_takesRules_52 rfl ?_
        refine T_imul dX11_takesRules_53 ?_
        refine T_iadd dX11_takesRules_54 ?_
        obtain ⟨hb55_7, hf⟩ := opt_t hf
        refine X_lald (N := 360) dX11_takesRules_55 ar96 rfl hb55_7 ?_
        refine T_lstore dX11_takesRules_56 ?_
        show TX _ _ _ _ _ _ _ _ [_, _, _, _, _, _, _] _
        refine T_aload dX11_takesRules_57 rfl ?_
        refine X_getr dX11_takesRules_58 lfX11_76 rfl ob73 rfl ?_
        refine T_const dX11_takesRules_61 ?_
        refine T_iload dX11_takesRules_63 rfl ?_
        refine T_imul dX11_takesRules_64 ?_
        refine T_const dX11_takesRules_65 ?_
        refine T_iload dX11_takesRules_66 rfl ?_
        refine T_imul dX11_takesRules_67 ?_
        refine T_iadd dX11_takesRules_68 ?_
        refine T_const dX11_takesRules_69 ?_
        refine T_iadd dX11_takesRules_70 ?_
        obtain ⟨hb71_8, hf⟩ := opt_t hf
        refine X_lald (N := 360) dX11_takesRules_71 ar96 rfl hb71_8 ?_
        refine T_lstore dX11_takesRules_72 ?_
        show TX _ _ _ _ _ _ _ _ [_, _, _, _, _, _, _] _
        refine T_aload dX11_takesRules_74 rfl ?_
        refine T_lload dX11_takesRules_75 rfl ?_
        obtain ⟨q76_9, hc76_9, hf⟩ := bind_t hf
        refine X_Vv (qX11_isLost Z _ hc76_9) (Nat.le_of_ble_eq_true rfl) dX11_takesRules_76 lvX11_123 rfl rfl ob73 (Nat.le_of_ble_eq_true rfl) ?_
        have J116 : ∀ (x : aH) (l2 : Int32), jX11_takesRules_116 (wX11_takesRules_23 l1 n) x l1 l2 = some R → TX false Z mX11_takesRules 2 y x Q 116 [.ref 73, .int l1, .int l2, .null, .null, .null, .null] [] := by
          intro x l2 hf
          delta jX11_takesRules_116 at hf
          refine T_iinc dX11_takesRules_116 rfl ?_
          show TX _ _ _ _ _ _ _ _ [_, _, _, _, _, _, _] _
          refine T_goto dX11_takesRules_119 ?_
          exact X_wk (WK.s (WK.s (WK.s (WK.n (WK.n (WK.n (WK.n WK.e))))))) (ih _ _ hf ke)
        refine T_if_eq dX11_takesRules_79 (fun c79_10 => ?_) (fun c79_10 => ?_)
        · replace hf := ite_t c79_10 hf
          exact X_wk (WK.s (WK.s (WK.s (WK.n (WK.n (WK.n (WK.n WK.e))))))) (J116 _ _ hf)
        · replace hf := ite_f c79_10 hf
          refine T_aload dX11_takesRules_82 rfl ?_
          refine T_lload dX11_takesRules_83 rfl ?_
          obtain ⟨q85_11, hc85_11, hf⟩ := bind_t hf
          refine X_Vv (qX11_isLost Z _ hc85_11) (Nat.le_of_ble_eq_true rfl) dX11_takesRules_85 lvX11_123 rfl rfl ob73 (Nat.le_of_ble_eq_true rfl) ?_
          refine T_if_eq dX11_takesRules_88 (fun c88_12 => ?_) (fun c88_12 => ?_)
          · replace hf := ite_t c88_12 hf
            exact X_wk (WK.s (WK.s (WK.s (WK.n (WK.n (WK.n (WK.n WK.e))))))) (J116 _ _ hf)
          · replace hf := ite_f c88_12 hf
            refine T_lload dX11_takesRules_91 rfl ?_
            refine T_lload dX11_takesRules_92 rfl ?_
            refine T_lcmp dX11_takesRules_94 ?_
            refine T_if_eq dX11_takesRules_95 (fun c95_13 => ?_) (fun c95_13 => ?_)
            · replace hf := ite_t c95_13 hf
              exact X_wk (WK.s (WK.s (WK.s (WK.n (WK.n (WK.n (WK.n WK.e))))))) (J116 _ _ hf)
            · replace hf := ite_f c95_13 hf
              refine T_aload dX11_takesRules_98 rfl ?_
              refine X_getr dX11_takesRules_99 lfX11_46 rfl ob73 rfl ?_
              refine T_const dX11_takesRules_102 ?_
              refine T_lload dX11_takesRules_104 rfl ?_
              refine T_l2i dX11_takesRules_105 ?_
              refine T_imul dX11_takesRules_106 ?_
              refine T_lload dX11_takesRules_107 rfl ?_
              refine T_l2i dX11_takesRules_109 ?_
              refine T_iadd dX11_takesRules_110 ?_
              refine T_dup2 dX11_takesRules_111 rfl rfl ?_
              obtain ⟨hb112_14, hf⟩ := opt_t hf
              refine X_iald (N := 100) dX11_takesRules_112 ar86 rfl hb112_14 ?_
              refine T_const dX11_takesRules_113 ?_
              refine T_iadd dX11_takesRules_114 ?_
              obtain ⟨hb115_15, hf⟩ := opt_t hf
              refine X_iast (N := 100) dX11_takesRules_115 ar86 rfl hb115_15 ?_
              exact X_wk (WK.s (WK.s (WK.s (WK.n (WK.n (WK.n (WK.n WK.e))))))) (J116 _ _ hf)
theorem qX11_takesRules (Z : aZ) (y : aH) {x : aH} {p1 : Int32} {q : aH} (hf : fX11_takesRules x p1 = some q) : CX false Z mX11_takesRules 2 [.ref 73, .int p1] y x (RN q) := by
  refine CX.of mokX11_takesRules (Nat.le_of_ble_eq_true rfl) ?_
  show TX _ _ _ _ _ _ _ _ [_, _, _, _, _, _, _] _
  delta fX11_takesRules at hf
  refine T_const dX11_takesRules_0 ?_
  refine T_istore dX11_takesRules_1 ?_
  show TX _ _ _ _ _ _ _ _ [_, _, _, _, _, _, _] _
  obtain ⟨q2_3, hc2_3, hf⟩ := bind_t hf
  refine X_wk (WK.s (WK.s (WK.s (WK.n (WK.n (WK.n (WK.n WK.e))))))) (lX11_takesRules_2 Z _ _ 2000 _ _ hc2_3 ?_)
  intro q2_3z hr
  subst hr
  refine T_const dX11_takesRules_21 ?_
  refine T_istore dX11_takesRules_22 ?_
  show TX _ _ _ _ _ _ _ _ [_, _, _, _, _, _, _] _
  obtain ⟨q23_16, hc23_16, hf⟩ := bind_t hf
  refine X_wk (WK.s (WK.s (WK.s (WK.n (WK.n (WK.n (WK.n WK.e))))))) (lX11_takesRules_23 Z _ _ 2000 _ _ hc23_16 ?_)
  intro q23_16z hr
  subst hr
  obtain rfl := Option.some.inj hf
  exact X_rv dX11_takesRules_122 ⟨rfl, rfl⟩
noncomputable def jX11_mayNow_34 (ih : Int32 → Option (Sum Int32 Unit)) (x : aH) (l1 : Int32) (l2 : Int32) (l3 : Int32) : Option (Sum Int32 Unit) := ih (l3 + (1 : Int32))
noncomputable def sX11_mayNow_2 (x : aH) (l1 : Int32) (l2 : Int32) (ih : Int32 → Option (Sum Int32 Unit)) (l3 : Int32) : Option (Sum Int32 Unit) := if (fi x 73 6) ≤ l3 then some (.inr ()) else if (0 : Int32) ≤ (((10 : Int32) * l3) + l1) ∧ (((10 : Int32) * l3) + l1) < (100 : Int32) then if (ri x 86 (ix (((10 : Int32) * l3) + l1))) ≤ (0 : Int32) then jX11_mayNow_34 ih x l1 l2 l3 else (fX11_isIn l2 l3).bind fun q26_4 => if q26_4 = (0 : Int32) then some (.inl (0 : Int32)) else jX11_mayNow_34 ih x l1 l2 l3 else none
noncomputable def wX11_mayNow_2 (x : aH) (l1 : Int32) (l2 : Int32) : Nat → Int32 → Option (Sum Int32 Unit)
  | 0 => fun _ => none
  | n + 1 => sX11_mayNow_2 x l1 l2 (wX11_mayNow_2 x l1 l2 n)
noncomputable def fX11_mayNow (x : aH) (p1 : Int32) (p2 : Int32) : Option Int32 := (wX11_mayNow_2 x p1 p2 2000 (0 : Int32)).bind fun q2_6 => elS q2_6 (fun r => some r) (fun eq2_6 => (fX11_isIn p2 p1).bind fun q42_7 => if q42_7 = (0 : Int32) then some (1 : Int32) else some (0 : Int32))
theorem lX11_mayNow_2 (Z : aZ) (y : aH) (x : aH) (l1 : Int32) (l2 : Int32) {Q : Option Value → aH → Prop} {R : (Sum Int32 Unit)} : ∀ (n : Nat) (l3 : Int32), wX11_mayNow_2 x l1 l2 n l3 = some R → (∀ r, R = .inl r → Q (some (.int r)) x) → (∀ q, R = .inr q → TX false Z mX11_mayNow 1 y x Q 40 [.null, .int l1, .int l2, .null] []) → TX false Z mX11_mayNow 1 y x Q 2 [.ref 73, .int l1, .int l2, .int l3] [] := by
  intro n
  induction n with
  | zero => intro l3 hf; cases hf
  | succ n ih =>
    intro l3 hf kr ke
    replace hf : sX11_mayNow_2 x l1 l2 (wX11_mayNow_2 x l1 l2 n) l3 = some R := hf
    delta sX11_mayNow_2 at hf
    refine T_iload dX11_mayNow_2 rfl ?_
    refine T_aload dX11_mayNow_3 rfl ?_
    refine X_getf dX11_mayNow_4 lfX11_93 rfl ob73 ?_
    refine T_icmp_ge dX11_mayNow_7 (fun c7_1 => ?_) (fun c7_1 => ?_)
    · replace hf := ite_t c7_1 hf
      exact X_wk (WK.n (WK.s (WK.s (WK.n WK.e)))) (ke () (Option.some.inj hf).symm)
    · replace hf := ite_f c7_1 hf
      refine T_aload dX11_mayNow_10 rfl ?_
      refine X_getr dX11_mayNow_11 lfX11_46 rfl ob73 rfl ?_
      refine T_const dX11_mayNow_14 ?_
      refine T_iload dX11_mayNow_16 rfl ?_
      refine T_imul dX11_mayNow_17 ?_
      refine T_iload dX11_mayNow_18 rfl ?_
      refine T_iadd dX11_mayNow_19 ?_
      obtain ⟨hb20_2, hf⟩ := opt_t hf
      refine X_iald (N := 100) dX11_mayNow_20 ar86 rfl hb20_2 ?_
      have J34 : ∀ (l3 : Int32), jX11_mayNow_34 (wX11_mayNow_2 x l1 l2 n) x l1 l2 l3 = some R → TX false Z mX11_mayNow 1 y x Q 34 [.ref 73, .int l1, .int l2, .int l3] [] := by
        intro l3 hf
        delta jX11_mayNow_34 at hf
        refine T_iinc dX11_mayNow_34 rfl ?_
        show TX _ _ _ _ _ _ _ _ [_, _, _, _] _
        refine T_goto dX11_mayNow_37 ?_
        exact X_wk (WK.s (WK.s (WK.s (WK.s WK.e)))) (ih _ hf kr ke)
      refine T_if_le dX11_mayNow_21 (fun c21_3 => ?_) (fun c21_3 => ?_)
      · replace hf := ite_t c21_3 hf
        exact X_wk (WK.s (WK.s (WK.s (WK.s WK.e)))) (J34 _ hf)
      · replace hf := ite_f c21_3 hf
        refine T_iload dX11_mayNow_24 rfl ?_
        refine T_iload dX11_mayNow_25 rfl ?_
        obtain ⟨q26_4, hc26_4, hf⟩ := bind_t hf
        refine X_Sv (qX11_isIn _ Z _ _ hc26_4) (Nat.le_of_ble_eq_true rfl) dX11_mayNow_26 lsX11_290 rfl rfl (Nat.le_of_ble_eq_true rfl) ?_
        refine T_if_ne dX11_mayNow_29 (fun c29_5 => ?_) (fun c29_5 => ?_)
        · replace hf := ite_f c29_5 hf
          exact X_wk (WK.s (WK.s (WK.s (WK.s WK.e)))) (J34 _ hf)
        · replace hf := ite_t c29_5 hf
          refine T_const dX11_mayNow_32 ?_
          exact X_rz dX11_mayNow_33 (by first | exact Or.inl rfl | exact Or.inr rfl) (kr (0 : Int32) (Option.some.inj hf).symm)
theorem qX11_mayNow (Z : aZ) (y : aH) {x : aH} {p1 : Int32} {p2 : Int32} {q : Int32} (hf : fX11_mayNow x p1 p2 = some q) : CX false Z mX11_mayNow 1 [.ref 73, .int p1, .int p2] y x (RV (.int q) x) := by
  refine CX.of mokX11_mayNow (Nat.le_of_ble_eq_true rfl) ?_
  show TX _ _ _ _ _ _ _ _ [_, _, _, _] _
  delta fX11_mayNow at hf
  refine T_const dX11_mayNow_0 ?_
  refine T_istore dX11_mayNow_1 ?_
  show TX _ _ _ _ _ _ _ _ [_, _, _, _] _
  obtain ⟨q2_6, hc2_6, hf⟩ := bind_t hf
  refine X_wk (WK.s (WK.s (WK.s (WK.s WK.e)))) (lX11_mayNow_2 Z _ _ _ _ 2000 _ hc2_6 ?_ ?_)
  · intro r hr
    subst hr
    replace hf := elS_l hf
    obtain rfl := Option.some.inj hf
    exact ⟨rfl, rfl⟩
  · intro eq2_6 hr
    subst hr
    replace hf := elS_r hf
    refine T_iload dX11_mayNow_40 rfl ?_
    refine T_iload dX11_mayNow_41 rfl ?_
    obtain ⟨q42_7, hc42_7, hf⟩ := bind_t hf
    refine X_Sv (qX11_isIn _ Z _ _ hc42_7) (Nat.le_of_ble_eq_true rfl) dX11_mayNow_42 lsX11_290 rfl rfl (Nat.le_of_ble_eq_true rfl) ?_
    refine T_if_ne dX11_mayNow_45 (fun c45_8 => ?_) (fun c45_8 => ?_)
    · replace hf := ite_f c45_8 hf
      refine T_const dX11_mayNow_52 ?_
      obtain rfl := Option.some.inj hf
      exact X_rz dX11_mayNow_53 (by first | exact Or.inl rfl | exact Or.inr rfl) ⟨rfl, rfl⟩
    · replace hf := ite_t c45_8 hf
      refine T_const dX11_mayNow_48 ?_
      refine T_goto dX11_mayNow_49 ?_
      obtain rfl := Option.some.inj hf
      exact X_rz dX11_mayNow_53 (by first | exact Or.inl rfl | exact Or.inr rfl) ⟨rfl, rfl⟩
noncomputable def jX11_order_85 (ih : Int32 → Int32 → Option Int32) (x : aH) (l2 : Int32) (l3 : Int32) (l4 : Int32) (l5 : Int32) (l7 : Int32) (s0 : Int32) : Option Int32 := ih s0 (l7 + (-1 : Int32))
noncomputable def sX11_order_63 (x : aH) (l2 : Int32) (l3 : Int32) (l4 : Int32) (l5 : Int32) (ih : Int32 → Int32 → Option Int32) (l6 : Int32) (l7 : Int32) : Option Int32 := if l7 < (0 : Int32) then some l6 else (fX11_mayNow x l7 l3).bind fun q72_9 => if q72_9 = (0 : Int32) then jX11_order_85 ih x l2 l3 l4 l5 l7 l6 else jX11_order_85 ih x l2 l3 l4 l5 l7 l7
noncomputable def wX11_order_63 (x : aH) (l2 : Int32) (l3 : Int32) (l4 : Int32) (l5 : Int32) : Nat → Int32 → Int32 → Option Int32
  | 0 => fun _ _ => none
  | n + 1 => sX11_order_63 x l2 l3 l4 l5 (wX11_order_63 x l2 l3 l4 l5 n)
noncomputable def jX11_order_121 (ih : Int32 → Int32 → Int32 → Option (Sum (Int32 × aH) Int32)) (x : aH) (l2 : Int32) (l3 : Int32) (l5 : Int32) (s0 : Int32) : Option (Sum (Int32 × aH) Int32) := ih l3 s0 (l5 + (1 : Int32))
noncomputable def sX11_order_43 (x : aH) (l2 : Int32) (ih : Int32 → Int32 → Int32 → Option (Sum (Int32 × aH) Int32)) (l3 : Int32) (l4 : Int32) (l5 : Int32) : Option (Sum (Int32 × aH) Int32) := if (fi x 73 6) ≤ l5 then some (.inr l4) else (wX11_order_63 x l2 l3 l4 l5 2000 (-1 : Int32) ((fi x 73 6) - (1 : Int32))).bind fun q63_11 => if (0 : Int32) ≤ q63_11 then if l5 = l2 then jX11_order_121 ih x l2 (l3 ||| ((1 : Int32) <<< (q63_11 &&& 31))) l5 q63_11 else jX11_order_121 ih x l2 (l3 ||| ((1 : Int32) <<< (q63_11 &&& 31))) l5 l4 else some (.inl ((-2 : Int32), x))
noncomputable def wX11_order_43 (x : aH) (l2 : Int32) : Nat → Int32 → Int32 → Int32 → Option (Sum (Int32 × aH) Int32)
  | 0 => fun _ _ _ => none
  | n + 1 => sX11_order_43 x l2 (wX11_order_43 x l2 n)
noncomputable def fX11_order (x : aH) (p1 : Int32) (p2 : Int32) : Option (Int32 × aH) := (fX11_bytesIs x p1).bind fun q2_1 => if q2_1 = (-1 : Int32) then some ((-1 : Int32), x) else if (0 : Int32) ≤ p2 then (fX11_bytesIs x p1).bind fun q17_4 => if (0 : Int32) ≤ q17_4 then (fX11_takesRules x p1).bind fun q31_6 => (wX11_order_43 q31_6 p2 2000 (0 : Int32) (-2 : Int32) (0 : Int32)).bind fun q43_14 => elS q43_14 (fun r => some r) (fun eq43_14 => some (eq43_14, q31_6)) else (fX11_bytesIs x p1).bind fun q25_15 => some (q25_15, x) else some ((-1 : Int32), x)
theorem lX11_order_63 (Z : aZ) (y : aH) (x : aH) (l2 : Int32) (l3 : Int32) (l4 : Int32) (l5 : Int32) {Q : Option Value → aH → Prop} {R : Int32} : ∀ (n : Nat) (l6 : Int32) (l7 : Int32), wX11_order_63 x l2 l3 l4 l5 n l6 l7 = some R → (∀ q, R = q → TX false Z mX11_order 3 y x Q 93 [.ref 73, .null, .int l2, .int l3, .int l4, .int l5, .int q, .null] []) → TX false Z mX11_order 3 y x Q 63 [.ref 73, .null, .int l2, .int l3, .int l4, .int l5, .int l6, .int l7] [] := by
  intro n
  induction n with
  | zero => intro l6 l7 hf; cases hf
  | succ n ih =>
    intro l6 l7 hf ke
    replace hf : sX11_order_63 x l2 l3 l4 l5 (wX11_order_63 x l2 l3 l4 l5 n) l6 l7 = some R := hf
    delta sX11_order_63 at hf
    refine T_iload dX11_order_63 rfl ?_
    refine T_if_lt dX11_order_65 (fun c65_8 => ?_) (fun c65_8 => ?_)
    · replace hf := ite_t c65_8 hf
      exact X_wk (WK.s (WK.n (WK.s (WK.s (WK.s (WK.s (WK.s (WK.n WK.e)))))))) (ke l6 (Option.some.inj hf).symm)
    · replace hf := ite_f c65_8 hf
      refine T_aload dX11_order_68 rfl ?_
      refine T_iload dX11_order_69 rfl ?_
      refine T_iload dX11_order_71 rfl ?_
      obtain ⟨q72_9, hc72_9, hf⟩ := bind_t hf
      refine X_Vv (qX11_mayNow Z _ hc72_9) (Nat.le_of_ble_eq_true rfl) dX11_order_72 lvX11_296 rfl rfl ob73 (Nat.le_of_ble_eq_true rfl) ?_
      have J85 : ∀ (l7 : Int32) (s0 : Int32), jX11_order_85 (wX11_order_63 x l2 l3 l4 l5 n) x l2 l3 l4 l5 l7 s0 = some R → TX false Z mX11_order 3 y x Q 85 [.ref 73, .null, .int l2, .int l3, .int l4, .int l5, .null, .int l7] [.int s0] := by
        intro l7 s0 hf
        delta jX11_order_85 at hf
        refine T_istore dX11_order_85 ?_
        show TX _ _ _ _ _ _ _ _ [_, _, _, _, _, _, _, _] _
        refine T_iinc dX11_order_87 rfl ?_
        show TX _ _ _ _ _ _ _ _ [_, _, _, _, _, _, _, _] _
        refine T_goto dX11_order_90 ?_
        exact X_wk (WK.s (WK.n (WK.s (WK.s (WK.s (WK.s (WK.s (WK.s WK.e)))))))) (ih _ _ hf ke)
      refine T_if_eq dX11_order_75 (fun c75_10 => ?_) (fun c75_10 => ?_)
      · replace hf := ite_t c75_10 hf
        refine T_iload dX11_order_83 rfl ?_
        exact X_wk (WK.s (WK.n (WK.s (WK.s (WK.s (WK.s (WK.n (WK.s WK.e)))))))) (J85 _ _ hf)
      · replace hf := ite_f c75_10 hf
        refine T_iload dX11_order_78 rfl ?_
        refine T_goto dX11_order_80 ?_
        exact X_wk (WK.s (WK.n (WK.s (WK.s (WK.s (WK.s (WK.n (WK.s WK.e)))))))) (J85 _ _ hf)
theorem lX11_order_43 (Z : aZ) (y : aH) (x : aH) (l2 : Int32) {Q : Option Value → aH → Prop} {R : (Sum (Int32 × aH) Int32)} : ∀ (n : Nat) (l3 : Int32) (l4 : Int32) (l5 : Int32), wX11_order_43 x l2 n l3 l4 l5 = some R → (∀ r, R = .inl r → Q (some (.int r.1)) r.2) → (∀ q, R = .inr q → TX false Z mX11_order 3 y x Q 129 [.null, .null, .null, .null, .int q, .null, .null, .null] []) → TX false Z mX11_order 3 y x Q 43 [.ref 73, .null, .int l2, .int l3, .int l4, .int l5, .null, .null] [] := by
  intro n
  induction n with
  | zero => intro l3 l4 l5 hf; cases hf
  | succ n ih =>
    intro l3 l4 l5 hf kr ke
    replace hf : sX11_order_43 x l2 (wX11_order_43 x l2 n) l3 l4 l5 = some R := hf
    delta sX11_order_43 at hf
    refine T_iload dX11_order_43 rfl ?_
    refine T_aload dX11_order_45 rfl ?_
    refine X_getf dX11_order_46 lfX11_93 rfl ob73 ?_
    refine T_icmp_ge dX11_order_49 (fun c49_7 => ?_) (fun c49_7 => ?_)
    · replace hf := ite_t c49_7 hf
      exact X_wk (WK.n (WK.n (WK.n (WK.n (WK.s (WK.n (WK.n (WK.n WK.e)))))))) (ke l4 (Option.some.inj hf).symm)
    · replace hf := ite_f c49_7 hf
      refine T_const dX11_order_52 ?_
      refine T_istore dX11_order_53 ?_
      show TX _ _ _ _ _ _ _ _ [_, _, _, _, _, _, _, _] _
      refine T_aload dX11_order_55 rfl ?_
      refine X_getf dX11_order_56 lfX11_93 rfl ob73 ?_
      refine T_const dX11_order_59 ?_
      refine T_isub dX11_order_60 ?_
      refine T_istore dX11_order_61 ?_
      show TX _ _ _ _ _ _ _ _ [_, _, _, _, _, _, _, _] _
      obtain ⟨q63_11, hc63_11, hf⟩ := bind_t hf
      refine X_wk (WK.s (WK.n (WK.s (WK.s (WK.s (WK.s (WK.s (WK.s WK.e)))))))) (lX11_order_63 Z _ _ _ _ _ _ 2000 _ _ hc63_11 ?_)
      intro q63_11z hr
      subst hr
      refine T_iload dX11_order_93 rfl ?_
      refine T_if_ge dX11_order_95 (fun c95_12 => ?_) (fun c95_12 => ?_)
      · replace hf := ite_t c95_12 hf
        refine T_iload dX11_order_101 rfl ?_
        refine T_const dX11_order_102 ?_
        refine T_iload dX11_order_103 rfl ?_
        refine T_ishl dX11_order_105 ?_
        refine T_ior dX11_order_106 ?_
        refine T_istore dX11_order_107 ?_
        show TX _ _ _ _ _ _ _ _ [_, _, _, _, _, _, _, _] _
        refine T_iload dX11_order_108 rfl ?_
        refine T_iload dX11_order_110 rfl ?_
        have J121 : ∀ (l3 : Int32) (l5 : Int32) (s0 : Int32), jX11_order_121 (wX11_order_43 x l2 n) x l2 l3 l5 s0 = some R → TX false Z mX11_order 3 y x Q 121 [.ref 73, .null, .int l2, .int l3, .null, .int l5, .null, .null] [.int s0] := by
          intro l3 l5 s0 hf
          delta jX11_order_121 at hf
          refine T_istore dX11_order_121 ?_
          show TX _ _ _ _ _ _ _ _ [_, _, _, _, _, _, _, _] _
          refine T_iinc dX11_order_123 rfl ?_
          show TX _ _ _ _ _ _ _ _ [_, _, _, _, _, _, _, _] _
          refine T_goto dX11_order_126 ?_
          exact X_wk (WK.s (WK.n (WK.s (WK.s (WK.s (WK.s (WK.n (WK.n WK.e)))))))) (ih _ _ _ hf kr ke)
        refine T_icmp_ne dX11_order_111 (fun c111_13 => ?_) (fun c111_13 => ?_)
        · replace hf := ite_f c111_13 hf
          refine T_iload dX11_order_119 rfl ?_
          exact X_wk (WK.s (WK.n (WK.s (WK.s (WK.n (WK.s (WK.n (WK.n WK.e)))))))) (J121 _ _ _ hf)
        · replace hf := ite_t c111_13 hf
          refine T_iload dX11_order_114 rfl ?_
          refine T_goto dX11_order_116 ?_
          exact X_wk (WK.s (WK.n (WK.s (WK.s (WK.n (WK.s (WK.n (WK.n WK.e)))))))) (J121 _ _ _ hf)
      · replace hf := ite_f c95_12 hf
        refine T_const dX11_order_98 ?_
        exact X_ri dX11_order_100 (kr ((-2 : Int32), x) (Option.some.inj hf).symm)
theorem qX11_order (Z : aZ) (y : aH) {x : aH} {p1 : Int32} {p2 : Int32} {q : (Int32 × aH)} (hf : fX11_order x p1 p2 = some q) : CX false Z mX11_order 3 [.ref 73, .int p1, .int p2] y x (RV (.int q.1) q.2) := by
  refine CX.of mokX11_order (Nat.le_of_ble_eq_true rfl) ?_
  show TX _ _ _ _ _ _ _ _ [_, _, _, _, _, _, _, _] _
  delta fX11_order at hf
  refine T_aload dX11_order_0 rfl ?_
  refine T_iload dX11_order_1 rfl ?_
  obtain ⟨q2_1, hc2_1, hf⟩ := bind_t hf
  refine X_Vv (qX11_bytesIs Z _ hc2_1) (Nat.le_of_ble_eq_true rfl) dX11_order_2 lvX11_250 rfl rfl ob73 (Nat.le_of_ble_eq_true rfl) ?_
  refine T_const dX11_order_5 ?_
  refine T_icmp_eq dX11_order_6 (fun c6_2 => ?_) (fun c6_2 => ?_)
  · replace hf := ite_t c6_2 hf
    refine T_const dX11_order_13 ?_
    obtain rfl := Option.some.inj hf
    exact X_ri dX11_order_14 ⟨rfl, rfl⟩
  · replace hf := ite_f c6_2 hf
    refine T_iload dX11_order_9 rfl ?_
    refine T_if_ge dX11_order_10 (fun c10_3 => ?_) (fun c10_3 => ?_)
    · replace hf := ite_t c10_3 hf
      refine T_aload dX11_order_15 rfl ?_
      refine T_iload dX11_order_16 rfl ?_
      obtain ⟨q17_4, hc17_4, hf⟩ := bind_t hf
      refine X_Vv (qX11_bytesIs Z _ hc17_4) (Nat.le_of_ble_eq_true rfl) dX11_order_17 lvX11_250 rfl rfl ob73 (Nat.le_of_ble_eq_true rfl) ?_
      refine T_if_ge dX11_order_20 (fun c20_5 => ?_) (fun c20_5 => ?_)
      · replace hf := ite_t c20_5 hf
        refine T_aload dX11_order_29 rfl ?_
        refine T_iload dX11_order_30 rfl ?_
        obtain ⟨q31_6, hc31_6, hf⟩ := bind_t hf
        refine X_Vn (qX11_takesRules Z _ hc31_6) (Nat.le_of_ble_eq_true rfl) dX11_order_31 lvX11_293 rfl rfl ob73 (Nat.le_of_ble_eq_true rfl) ?_
        refine T_const dX11_order_34 ?_
        refine T_istore dX11_order_35 ?_
        show TX _ _ _ _ _ _ _ _ [_, _, _, _, _, _, _, _] _
        refine T_const dX11_order_36 ?_
        refine T_istore dX11_order_38 ?_
        show TX _ _ _ _ _ _ _ _ [_, _, _, _, _, _, _, _] _
        refine T_const dX11_order_40 ?_
        refine T_istore dX11_order_41 ?_
        show TX _ _ _ _ _ _ _ _ [_, _, _, _, _, _, _, _] _
        obtain ⟨q43_14, hc43_14, hf⟩ := bind_t hf
        refine X_wk (WK.s (WK.n (WK.s (WK.s (WK.s (WK.s (WK.n (WK.n WK.e)))))))) (lX11_order_43 Z _ _ _ 2000 _ _ _ hc43_14 ?_ ?_)
        · intro r hr
          subst hr
          replace hf := elS_l hf
          obtain rfl := Option.some.inj hf
          exact ⟨rfl, rfl⟩
        · intro eq43_14 hr
          subst hr
          replace hf := elS_r hf
          refine T_iload dX11_order_129 rfl ?_
          obtain rfl := Option.some.inj hf
          exact X_ri dX11_order_131 ⟨rfl, rfl⟩
      · replace hf := ite_f c20_5 hf
        refine T_aload dX11_order_23 rfl ?_
        refine T_iload dX11_order_24 rfl ?_
        obtain ⟨q25_15, hc25_15, hf⟩ := bind_t hf
        refine X_Vv (qX11_bytesIs Z _ hc25_15) (Nat.le_of_ble_eq_true rfl) dX11_order_25 lvX11_250 rfl rfl ob73 (Nat.le_of_ble_eq_true rfl) ?_
        obtain rfl := Option.some.inj hf
        exact X_ri dX11_order_28 ⟨rfl, rfl⟩
    · replace hf := ite_f c10_3 hf
      refine T_const dX11_order_13 ?_
      obtain rfl := Option.some.inj hf
      exact X_ri dX11_order_14 ⟨rfl, rfl⟩
noncomputable def jX11_ring_33 (ih : aH → Int32 → Option aH) (x : aH) (l1 : Int32) (l2 : Int32) (s1 : Int32) (s2 : Int32) : Option aH := if (0 : Int32) ≤ s1 ∧ s1 < (100 : Int32) then ih (sri x 87 (ix s1) s2) (l2 + (1 : Int32)) else none
noncomputable def sX11_ring_6 (l1 : Int32) (ih : aH → Int32 → Option aH) (x : aH) (l2 : Int32) : Option aH := if (100 : Int32) ≤ l2 then some x else if (0 : Int32) ≤ l2 ∧ l2 < (100 : Int32) then if (ri x 86 (ix l2)) ≤ (0 : Int32) then jX11_ring_33 ih x l1 l2 l2 (1000000 : Int32) else jX11_ring_33 ih x l1 l2 l2 (1 : Int32) else none
noncomputable def wX11_ring_6 (l1 : Int32) : Nat → aH → Int32 → Option aH
  | 0 => fun _ _ => none
  | n + 1 => sX11_ring_6 l1 (wX11_ring_6 l1 n)
noncomputable def jX11_ring_143 (ih : aH → Int32 → Option aH) (x : aH) (l1 : Int32) (l2 : Int32) (l3 : Int32) (l4 : Int32) (s1 : Int32) (s2 : Int32) : Option aH := if (0 : Int32) ≤ s1 ∧ s1 < (100 : Int32) then ih (sri x 87 (ix s1) s2) (l4 + (1 : Int32)) else none
noncomputable def sX11_ring_63 (l1 : Int32) (l2 : Int32) (l3 : Int32) (ih : aH → Int32 → Option aH) (x : aH) (l4 : Int32) : Option aH := if (fi x 73 6) ≤ l4 then some x else if (0 : Int32) ≤ (((10 : Int32) * l3) + l2) ∧ (((10 : Int32) * l3) + l2) < (100 : Int32) then if (0 : Int32) ≤ (((10 : Int32) * l2) + l4) ∧ (((10 : Int32) * l2) + l4) < (100 : Int32) then if (0 : Int32) ≤ (((10 : Int32) * l3) + l4) ∧ (((10 : Int32) * l3) + l4) < (100 : Int32) then if (ri x 87 (ix (((10 : Int32) * l3) + l4))) ≤ ((ri x 87 (ix (((10 : Int32) * l3) + l2))) + (ri x 87 (ix (((10 : Int32) * l2) + l4)))) then if (0 : Int32) ≤ (((10 : Int32) * l3) + l4) ∧ (((10 : Int32) * l3) + l4) < (100 : Int32) then jX11_ring_143 ih x l1 l2 l3 l4 (((10 : Int32) * l3) + l4) (ri x 87 (ix (((10 : Int32) * l3) + l4))) else none else jX11_ring_143 ih x l1 l2 l3 l4 (((10 : Int32) * l3) + l4) ((ri x 87 (ix (((10 : Int32) * l3) + l2))) + (ri x 87 (ix (((10 : Int32) * l2) + l4)))) else none else none else none
noncomputable def wX11_ring_63 (l1 : Int32) (l2 : Int32) (l3 : Int32) : Nat → aH → Int32 → Option aH
  | 0 => fun _ _ => none
  | n + 1 => sX11_ring_63 l1 l2 l3 (wX11_ring_63 l1 l2 l3 n)
noncomputable def sX11_ring_52 (l1 : Int32) (l2 : Int32) (ih : aH → Int32 → Option aH) (x : aH) (l3 : Int32) : Option aH := if (fi x 73 6) ≤ l3 then some x else (wX11_ring_63 l1 l2 l3 2000 x (0 : Int32)).bind fun q63_15 => ih q63_15 (l3 + (1 : Int32))
noncomputable def wX11_ring_52 (l1 : Int32) (l2 : Int32) : Nat → aH → Int32 → Option aH
  | 0 => fun _ _ => none
  | n + 1 => sX11_ring_52 l1 l2 (wX11_ring_52 l1 l2 n)
noncomputable def sX11_ring_42 (l1 : Int32) (ih : aH → Int32 → Option aH) (x : aH) (l2 : Int32) : Option aH := if (fi x 73 6) ≤ l2 then some x else (wX11_ring_52 l1 l2 2000 x (0 : Int32)).bind fun q52_16 => ih q52_16 (l2 + (1 : Int32))
noncomputable def wX11_ring_42 (l1 : Int32) : Nat → aH → Int32 → Option aH
  | 0 => fun _ _ => none
  | n + 1 => sX11_ring_42 l1 (wX11_ring_42 l1 n)
noncomputable def jX11_ring_194 (ih : Int32 → Int32 → Option Int32) (x : aH) (l2 : Int32) (s0 : Int32) : Option Int32 := ih s0 (l2 + (1 : Int32))
noncomputable def sX11_ring_164 (x : aH) (ih : Int32 → Int32 → Option Int32) (l1 : Int32) (l2 : Int32) : Option Int32 := if (fi x 73 6) ≤ l2 then some l1 else if (0 : Int32) ≤ (((10 : Int32) * l2) + l2) ∧ (((10 : Int32) * l2) + l2) < (100 : Int32) then if l1 ≤ (ri x 87 (ix (((10 : Int32) * l2) + l2))) then jX11_ring_194 ih x l2 l1 else jX11_ring_194 ih x l2 (ri x 87 (ix (((10 : Int32) * l2) + l2))) else none
noncomputable def wX11_ring_164 (x : aH) : Nat → Int32 → Int32 → Option Int32
  | 0 => fun _ _ => none
  | n + 1 => sX11_ring_164 x (wX11_ring_164 x n)
noncomputable def fX11_ring (x : aH) : Option (Int32 × aH) := (wX11_ring_6 (1000000 : Int32) 2000 x (0 : Int32)).bind fun q6_5 => (wX11_ring_42 (1000000 : Int32) 2000 q6_5 (0 : Int32)).bind fun q42_17 => (wX11_ring_164 q42_17 2000 (1000000 : Int32) (0 : Int32)).bind fun q164_21 => if q164_21 < (1000000 : Int32) then some (q164_21, q42_17) else some ((-2 : Int32), q42_17)
theorem lX11_ring_6 (Z : aZ) (y : aH) (l1 : Int32) {Q : Option Value → aH → Prop} {R : aH} : ∀ (n : Nat) (x : aH) (l2 : Int32), wX11_ring_6 l1 n x l2 = some R → (∀ q, R = q → TX false Z mX11_ring 0 y q Q 40 [.ref 73, .int l1, .null, .null, .null, .null] []) → TX false Z mX11_ring 0 y x Q 6 [.ref 73, .int l1, .int l2, .null, .null, .null] [] := by
  intro n
  induction n with
  | zero => intro x l2 hf; cases hf
  | succ n ih =>
    intro x l2 hf ke
    replace hf : sX11_ring_6 l1 (wX11_ring_6 l1 n) x l2 = some R := hf
    delta sX11_ring_6 at hf
    refine T_iload dX11_ring_6 rfl ?_
    refine T_const dX11_ring_7 ?_
    refine T_icmp_ge dX11_ring_9 (fun c9_1 => ?_) (fun c9_1 => ?_)
    · replace hf := ite_t c9_1 hf
      exact X_wk (WK.s (WK.s (WK.n (WK.n (WK.n (WK.n WK.e)))))) (ke x (Option.some.inj hf).symm)
    · replace hf := ite_f c9_1 hf
      refine T_aload dX11_ring_12 rfl ?_
      refine X_getr dX11_ring_13 lfX11_49 rfl ob73 rfl ?_
      refine T_iload dX11_ring_16 rfl ?_
      refine T_aload dX11_ring_17 rfl ?_
      refine X_getr dX11_ring_18 lfX11_46 rfl ob73 rfl ?_
      refine T_iload dX11_ring_21 rfl ?_
      obtain ⟨hb22_2, hf⟩ := opt_t hf
      refine X_iald (N := 100) dX11_ring_22 ar86 rfl hb22_2 ?_
      have J33 : ∀ (x : aH) (l2 : Int32) (s1 : Int32) (s2 : Int32), jX11_ring_33 (wX11_ring_6 l1 n) x l1 l2 s1 s2 = some R → TX false Z mX11_ring 0 y x Q 33 [.ref 73, .int l1, .int l2, .null, .null, .null] [.int s2, .int s1, .ref 87] := by
        intro x l2 s1 s2 hf
        delta jX11_ring_33 at hf
        obtain ⟨hb33_3, hf⟩ := opt_t hf
        refine X_iast (N := 100) dX11_ring_33 ar87 rfl hb33_3 ?_
        refine T_iinc dX11_ring_34 rfl ?_
        show TX _ _ _ _ _ _ _ _ [_, _, _, _, _, _] _
        refine T_goto dX11_ring_37 ?_
        exact X_wk (WK.s (WK.s (WK.s (WK.n (WK.n (WK.n WK.e)))))) (ih _ _ hf ke)
      refine T_if_le dX11_ring_23 (fun c23_4 => ?_) (fun c23_4 => ?_)
      · replace hf := ite_t c23_4 hf
        refine T_const dX11_ring_30 ?_
        exact X_wk (WK.s (WK.s (WK.s (WK.n (WK.n (WK.n WK.e)))))) (J33 _ _ _ _ hf)
      · replace hf := ite_f c23_4 hf
        refine T_const dX11_ring_26 ?_
        refine T_goto dX11_ring_27 ?_
        exact X_wk (WK.s (WK.s (WK.s (WK.n (WK.n (WK.n WK.e)))))) (J33 _ _ _ _ hf)
theorem lX11_ring_63 (Z : aZ) (y : aH) (l1 : Int32) (l2 : Int32) (l3 : Int32) {Q : Option Value → aH → Prop} {R : aH} : ∀ (n : Nat) (x : aH) (l4 : Int32), wX11_ring_63 l1 l2 l3 n x l4 = some R → (∀ q, R = q → TX false Z mX11_ring 0 y q Q 150 [.ref 73, .int l1, .int l2, .int l3, .null, .null] []) → TX false Z mX11_ring 0 y x Q 63 [.ref 73, .int l1, .int l2, .int l3, .int l4, .null] [] := by
  intro n
  induction n with
  | zero => intro x l4 hf; cases hf
  | succ n ih =>
    intro x l4 hf ke
    replace hf : sX11_ring_63 l1 l2 l3 (wX11_ring_63 l1 l2 l3 n) x l4 = some R := hf
    delta sX11_ring_63 at hf
    refine T_iload dX11_ring_63 rfl ?_
    refine T_aload dX11_ring_65 rfl ?_
    refine X_getf dX11_ring_66 lfX11_93 rfl ob73 ?_
    refine T_icmp_ge dX11_ring_69 (fun c69_8 => ?_) (fun c69_8 => ?_)
    · replace hf := ite_t c69_8 hf
      exact X_wk (WK.s (WK.s (WK.s (WK.s (WK.n (WK.n WK.e)))))) (ke x (Option.some.inj hf).symm)
    · replace hf := ite_f c69_8 hf
      refine T_aload dX11_ring_72 rfl ?_
      refine X_getr dX11_ring_73 lfX11_49 rfl ob73 rfl ?_
      refine T_const dX11_ring_76 ?_
      refine T_iload dX11_ring_78 rfl ?_
      refine T_imul dX11_ring_79 ?_
      refine T_iload dX11_ring_80 rfl ?_
      refine T_iadd dX11_ring_81 ?_
      obtain ⟨hb82_9, hf⟩ := opt_t hf
      refine X_iald (N := 100) dX11_ring_82 ar87 rfl hb82_9 ?_
      refine T_aload dX11_ring_83 rfl ?_
      refine X_getr dX11_ring_84 lfX11_49 rfl ob73 rfl ?_
      refine T_const dX11_ring_87 ?_
      refine T_iload dX11_ring_89 rfl ?_
      refine T_imul dX11_ring_90 ?_
      refine T_iload dX11_ring_91 rfl ?_
      refine T_iadd dX11_ring_93 ?_
      obtain ⟨hb94_10, hf⟩ := opt_t hf
      refine X_iald (N := 100) dX11_ring_94 ar87 rfl hb94_10 ?_
      refine T_iadd dX11_ring_95 ?_
      refine T_istore dX11_ring_96 ?_
      show TX _ _ _ _ _ _ _ _ [_, _, _, _, _, _] _
      refine T_aload dX11_ring_98 rfl ?_
      refine X_getr dX11_ring_99 lfX11_49 rfl ob73 rfl ?_
      refine T_const dX11_ring_102 ?_
      refine T_iload dX11_ring_104 rfl ?_
      refine T_imul dX11_ring_105 ?_
      refine T_iload dX11_ring_106 rfl ?_
      refine T_iadd dX11_ring_108 ?_
      refine T_iload dX11_ring_109 rfl ?_
      refine T_aload dX11_ring_111 rfl ?_
      refine X_getr dX11_ring_112 lfX11_49 rfl ob73 rfl ?_
      refine T_const dX11_ring_115 ?_
      refine T_iload dX11_ring_117 rfl ?_
      refine T_imul dX11_ring_118 ?_
      refine T_iload dX11_ring_119 rfl ?_
      refine T_iadd dX11_ring_121 ?_
      obtain ⟨hb122_11, hf⟩ := opt_t hf
      refine X_iald (N := 100) dX11_ring_122 ar87 rfl hb122_11 ?_
      have J143 : ∀ (x : aH) (l4 : Int32) (s1 : Int32) (s2 : Int32), jX11_ring_143 (wX11_ring_63 l1 l2 l3 n) x l1 l2 l3 l4 s1 s2 = some R → TX false Z mX11_ring 0 y x Q 143 [.ref 73, .int l1, .int l2, .int l3, .int l4, .null] [.int s2, .int s1, .ref 87] := by
        intro x l4 s1 s2 hf
        delta jX11_ring_143 at hf
        obtain ⟨hb143_12, hf⟩ := opt_t hf
        refine X_iast (N := 100) dX11_ring_143 ar87 rfl hb143_12 ?_
        refine T_iinc dX11_ring_144 rfl ?_
        show TX _ _ _ _ _ _ _ _ [_, _, _, _, _, _] _
        refine T_goto dX11_ring_147 ?_
        exact X_wk (WK.s (WK.s (WK.s (WK.s (WK.s (WK.n WK.e)))))) (ih _ _ hf ke)
      refine T_icmp_ge dX11_ring_123 (fun c123_13 => ?_) (fun c123_13 => ?_)
      · replace hf := ite_t c123_13 hf
        refine T_aload dX11_ring_131 rfl ?_
        refine X_getr dX11_ring_132 lfX11_49 rfl ob73 rfl ?_
        refine T_const dX11_ring_135 ?_
        refine T_iload dX11_ring_137 rfl ?_
        refine T_imul dX11_ring_138 ?_
        refine T_iload dX11_ring_139 rfl ?_
        refine T_iadd dX11_ring_141 ?_
        obtain ⟨hb142_14, hf⟩ := opt_t hf
        refine X_iald (N := 100) dX11_ring_142 ar87 rfl hb142_14 ?_
        exact X_wk (WK.s (WK.s (WK.s (WK.s (WK.s (WK.n WK.e)))))) (J143 _ _ _ _ hf)
      · replace hf := ite_f c123_13 hf
        refine T_iload dX11_ring_126 rfl ?_
        refine T_goto dX11_ring_128 ?_
        exact X_wk (WK.s (WK.s (WK.s (WK.s (WK.s (WK.n WK.e)))))) (J143 _ _ _ _ hf)
theorem lX11_ring_52 (Z : aZ) (y : aH) (l1 : Int32) (l2 : Int32) {Q : Option Value → aH → Prop} {R : aH} : ∀ (n : Nat) (x : aH) (l3 : Int32), wX11_ring_52 l1 l2 n x l3 = some R → (∀ q, R = q → TX false Z mX11_ring 0 y q Q 156 [.ref 73, .int l1, .int l2, .null, .null, .null] []) → TX false Z mX11_ring 0 y x Q 52 [.ref 73, .int l1, .int l2, .int l3, .null, .null] [] := by
  intro n
  induction n with
  | zero => intro x l3 hf; cases hf
  | succ n ih =>
    intro x l3 hf ke
    replace hf : sX11_ring_52 l1 l2 (wX11_ring_52 l1 l2 n) x l3 = some R := hf
    delta sX11_ring_52 at hf
    refine T_iload dX11_ring_52 rfl ?_
    refine T_aload dX11_ring_53 rfl ?_
    refine X_getf dX11_ring_54 lfX11_93 rfl ob73 ?_
    refine T_icmp_ge dX11_ring_57 (fun c57_7 => ?_) (fun c57_7 => ?_)
    · replace hf := ite_t c57_7 hf
      exact X_wk (WK.s (WK.s (WK.s (WK.n (WK.n (WK.n WK.e)))))) (ke x (Option.some.inj hf).symm)
    · replace hf := ite_f c57_7 hf
      refine T_const dX11_ring_60 ?_
      refine T_istore dX11_ring_61 ?_
      show TX _ _ _ _ _ _ _ _ [_, _, _, _, _, _] _
      obtain ⟨q63_15, hc63_15, hf⟩ := bind_t hf
      refine X_wk (WK.s (WK.s (WK.s (WK.s (WK.s (WK.n WK.e)))))) (lX11_ring_63 Z _ _ _ _ 2000 _ _ hc63_15 ?_)
      intro q63_15z hr
      subst hr
      refine T_iinc dX11_ring_150 rfl ?_
      show TX _ _ _ _ _ _ _ _ [_, _, _, _, _, _] _
      refine T_goto dX11_ring_153 ?_
      exact X_wk (WK.s (WK.s (WK.s (WK.s (WK.n (WK.n WK.e)))))) (ih _ _ hf ke)
theorem lX11_ring_42 (Z : aZ) (y : aH) (l1 : Int32) {Q : Option Value → aH → Prop} {R : aH} : ∀ (n : Nat) (x : aH) (l2 : Int32), wX11_ring_42 l1 n x l2 = some R → (∀ q, R = q → TX false Z mX11_ring 0 y q Q 162 [.ref 73, .int l1, .null, .null, .null, .null] []) → TX false Z mX11_ring 0 y x Q 42 [.ref 73, .int l1, .int l2, .null, .null, .null] [] := by
  intro n
  induction n with
  | zero => intro x l2 hf; cases hf
  | succ n ih =>
    intro x l2 hf ke
    replace hf : sX11_ring_42 l1 (wX11_ring_42 l1 n) x l2 = some R := hf
    delta sX11_ring_42 at hf
    refine T_iload dX11_ring_42 rfl ?_
    refine T_aload dX11_ring_43 rfl ?_
    refine X_getf dX11_ring_44 lfX11_93 rfl ob73 ?_
    refine T_icmp_ge dX11_ring_47 (fun c47_6 => ?_) (fun c47_6 => ?_)
    · replace hf := ite_t c47_6 hf
      exact X_wk (WK.s (WK.s (WK.n (WK.n (WK.n (WK.n WK.e)))))) (ke x (Option.some.inj hf).symm)
    · replace hf := ite_f c47_6 hf
      refine T_const dX11_ring_50 ?_
      refine T_istore dX11_ring_51 ?_
      show TX _ _ _ _ _ _ _ _ [_, _, _, _, _, _] _
      obtain ⟨q52_16, hc52_16, hf⟩ := bind_t hf
      refine X_wk (WK.s (WK.s (WK.s (WK.s (WK.n (WK.n WK.e)))))) (lX11_ring_52 Z _ _ _ 2000 _ _ hc52_16 ?_)
      intro q52_16z hr
      subst hr
      refine T_iinc dX11_ring_156 rfl ?_
      show TX _ _ _ _ _ _ _ _ [_, _, _, _, _, _] _
      refine T_goto dX11_ring_159 ?_
      exact X_wk (WK.s (WK.s (WK.s (WK.n (WK.n (WK.n WK.e)))))) (ih _ _ hf ke)
theorem lX11_ring_164 (Z : aZ) (y : aH) (x : aH) {Q : Option Value → aH → Prop} {R : Int32} : ∀ (n : Nat) (l1 : Int32) (l2 : Int32), wX11_ring_164 x n l1 l2 = some R → (∀ q, R = q → TX false Z mX11_ring 0 y x Q 201 [.null, .int q, .null, .null, .null, .null] []) → TX false Z mX11_ring 0 y x Q 164 [.ref 73, .int l1, .int l2, .null, .null, .null] [] := by
  intro n
  induction n with
  | zero => intro l1 l2 hf; cases hf
  | succ n ih =>
    intro l1 l2 hf ke
    replace hf : sX11_ring_164 x (wX11_ring_164 x n) l1 l2 = some R := hf
    delta sX11_ring_164 at hf
    refine T_iload dX11_ring_164 rfl ?_
    refine T_aload dX11_ring_165 rfl ?_
    refine X_getf dX11_ring_166 lfX11_93 rfl ob73 ?_
    refine T_icmp_ge dX11_ring_169 (fun c169_18 => ?_) (fun c169_18 => ?_)
    · replace hf := ite_t c169_18 hf
      exact X_wk (WK.n (WK.s (WK.n (WK.n (WK.n (WK.n WK.e)))))) (ke l1 (Option.some.inj hf).symm)
    · replace hf := ite_f c169_18 hf
      refine T_aload dX11_ring_172 rfl ?_
      refine X_getr dX11_ring_173 lfX11_49 rfl ob73 rfl ?_
      refine T_const dX11_ring_176 ?_
      refine T_iload dX11_ring_178 rfl ?_
      refine T_imul dX11_ring_179 ?_
      refine T_iload dX11_ring_180 rfl ?_
      refine T_iadd dX11_ring_181 ?_
      obtain ⟨hb182_19, hf⟩ := opt_t hf
      refine X_iald (N := 100) dX11_ring_182 ar87 rfl hb182_19 ?_
      refine T_istore dX11_ring_183 ?_
      show TX _ _ _ _ _ _ _ _ [_, _, _, _, _, _] _
      refine T_iload dX11_ring_184 rfl ?_
      refine T_iload dX11_ring_185 rfl ?_
      have J194 : ∀ (l2 : Int32) (s0 : Int32), jX11_ring_194 (wX11_ring_164 x n) x l2 s0 = some R → TX false Z mX11_ring 0 y x Q 194 [.ref 73, .null, .int l2, .null, .null, .null] [.int s0] := by
        intro l2 s0 hf
        delta jX11_ring_194 at hf
        refine T_istore dX11_ring_194 ?_
        show TX _ _ _ _ _ _ _ _ [_, _, _, _, _, _] _
        refine T_iinc dX11_ring_195 rfl ?_
        show TX _ _ _ _ _ _ _ _ [_, _, _, _, _, _] _
        refine T_goto dX11_ring_198 ?_
        exact X_wk (WK.s (WK.s (WK.s (WK.n (WK.n (WK.n WK.e)))))) (ih _ _ hf ke)
      refine T_icmp_ge dX11_ring_186 (fun c186_20 => ?_) (fun c186_20 => ?_)
      · replace hf := ite_t c186_20 hf
        refine T_iload dX11_ring_193 rfl ?_
        exact X_wk (WK.s (WK.n (WK.s (WK.n (WK.n (WK.n WK.e)))))) (J194 _ _ hf)
      · replace hf := ite_f c186_20 hf
        refine T_iload dX11_ring_189 rfl ?_
        refine T_goto dX11_ring_190 ?_
        exact X_wk (WK.s (WK.n (WK.s (WK.n (WK.n (WK.n WK.e)))))) (J194 _ _ hf)
theorem qX11_ring (Z : aZ) (y : aH) {x : aH} {q : (Int32 × aH)} (hf : fX11_ring x = some q) : CX false Z mX11_ring 0 [.ref 73] y x (RV (.int q.1) q.2) := by
  refine CX.of mokX11_ring (Nat.le_of_ble_eq_true rfl) ?_
  show TX _ _ _ _ _ _ _ _ [_, _, _, _, _, _] _
  delta fX11_ring at hf
  refine T_const dX11_ring_0 ?_
  refine T_istore dX11_ring_3 ?_
  show TX _ _ _ _ _ _ _ _ [_, _, _, _, _, _] _
  refine T_const dX11_ring_4 ?_
  refine T_istore dX11_ring_5 ?_
  show TX _ _ _ _ _ _ _ _ [_, _, _, _, _, _] _
  obtain ⟨q6_5, hc6_5, hf⟩ := bind_t hf
  refine X_wk (WK.s (WK.s (WK.s (WK.n (WK.n (WK.n WK.e)))))) (lX11_ring_6 Z _ _ 2000 _ _ hc6_5 ?_)
  intro q6_5z hr
  subst hr
  refine T_const dX11_ring_40 ?_
  refine T_istore dX11_ring_41 ?_
  show TX _ _ _ _ _ _ _ _ [_, _, _, _, _, _] _
  obtain ⟨q42_17, hc42_17, hf⟩ := bind_t hf
  refine X_wk (WK.s (WK.s (WK.s (WK.n (WK.n (WK.n WK.e)))))) (lX11_ring_42 Z _ _ 2000 _ _ hc42_17 ?_)
  intro q42_17z hr
  subst hr
  refine T_const dX11_ring_162 ?_
  refine T_istore dX11_ring_163 ?_
  show TX _ _ _ _ _ _ _ _ [_, _, _, _, _, _] _
  obtain ⟨q164_21, hc164_21, hf⟩ := bind_t hf
  refine X_wk (WK.s (WK.s (WK.s (WK.n (WK.n (WK.n WK.e)))))) (lX11_ring_164 Z _ _ 2000 _ _ hc164_21 ?_)
  intro q164_21z hr
  subst hr
  refine T_iload dX11_ring_201 rfl ?_
  refine T_const dX11_ring_202 ?_
  refine T_icmp_lt dX11_ring_205 (fun c205_22 => ?_) (fun c205_22 => ?_)
  · replace hf := ite_t c205_22 hf
    refine T_iload dX11_ring_213 rfl ?_
    obtain rfl := Option.some.inj hf
    exact X_ri dX11_ring_214 ⟨rfl, rfl⟩
  · replace hf := ite_f c205_22 hf
    refine T_const dX11_ring_208 ?_
    refine T_goto dX11_ring_210 ?_
    obtain rfl := Option.some.inj hf
    exact X_ri dX11_ring_214 ⟨rfl, rfl⟩
noncomputable def jX11_drops_130 (ih : aH → Int32 → Option aH) (x : aH) (l1 : Int32) (l2 : Int32) : Option aH := ih x (l2 + (1 : Int32))
noncomputable def jX11_drops_96 (ih : Int32 → Int32 → Option Int32) (x : aH) (l1 : Int32) (l2 : Int32) (l4 : Int32) (s0 : Int32) (s1 : Int32) : Option Int32 := ih (s0 + s1) (l4 + (1 : Int32))
noncomputable def jX11_drops_95 (ih : Int32 → Int32 → Option Int32) (x : aH) (l1 : Int32) (l2 : Int32) (l4 : Int32) (s0 : Int32) : Option Int32 := jX11_drops_96 ih x l1 l2 l4 s0 (0 : Int32)
noncomputable def sX11_drops_55 (x : aH) (l1 : Int32) (l2 : Int32) (ih : Int32 → Int32 → Option Int32) (l3 : Int32) (l4 : Int32) : Option Int32 := if (fi x 73 6) ≤ l4 then some l3 else if l4 = l2 then jX11_drops_95 ih x l1 l2 l4 l3 else (fX11_isIn l1 l4).bind fun q74_9 => if q74_9 = (0 : Int32) then jX11_drops_95 ih x l1 l2 l4 l3 else if (0 : Int32) ≤ (((10 : Int32) * l2) + l4) ∧ (((10 : Int32) * l2) + l4) < (100 : Int32) then jX11_drops_96 ih x l1 l2 l4 l3 (ri x 86 (ix (((10 : Int32) * l2) + l4))) else none
noncomputable def wX11_drops_55 (x : aH) (l1 : Int32) (l2 : Int32) : Nat → Int32 → Int32 → Option Int32
  | 0 => fun _ _ => none
  | n + 1 => sX11_drops_55 x l1 l2 (wX11_drops_55 x l1 l2 n)
noncomputable def jX11_drops_129 (ih : aH → Int32 → Option aH) (x : aH) (l1 : Int32) (l2 : Int32) (s1 : Int32) (s2 : Int32) : Option aH := if (0 : Int32) ≤ s1 ∧ s1 < (1024 : Int32) then jX11_drops_130 ih (sri x 88 (ix s1) s2) l1 l2 else none
noncomputable def sX11_drops_23 (l1 : Int32) (ih : aH → Int32 → Option aH) (x : aH) (l2 : Int32) : Option aH := if (fi x 73 6) ≤ l2 then some x else (fX11_isIn l1 l2).bind fun q33_4 => if q33_4 = (0 : Int32) then jX11_drops_130 ih x l1 l2 else if (0 : Int32) ≤ (l1 &&& (((1 : Int32) <<< (l2 &&& 31)) ^^^ (-1 : Int32))) ∧ (l1 &&& (((1 : Int32) <<< (l2 &&& 31)) ^^^ (-1 : Int32))) < (1024 : Int32) then (wX11_drops_55 x l1 l2 2000 (ri x 88 (ix (l1 &&& (((1 : Int32) <<< (l2 &&& 31)) ^^^ (-1 : Int32))))) (0 : Int32)).bind fun q55_12 => if (0 : Int32) ≤ l1 ∧ l1 < (1024 : Int32) then if (ri x 88 (ix l1)) ≤ q55_12 then if (0 : Int32) ≤ l1 ∧ l1 < (1024 : Int32) then jX11_drops_129 ih x l1 l2 l1 (ri x 88 (ix l1)) else none else jX11_drops_129 ih x l1 l2 l1 q55_12 else none else none
noncomputable def wX11_drops_23 (l1 : Int32) : Nat → aH → Int32 → Option aH
  | 0 => fun _ _ => none
  | n + 1 => sX11_drops_23 l1 (wX11_drops_23 l1 n)
noncomputable def sX11_drops_2 (ih : aH → Int32 → Option aH) (x : aH) (l1 : Int32) : Option aH := if ((1 : Int32) <<< ((fi x 73 6) &&& 31)) ≤ l1 then some x else if (0 : Int32) ≤ l1 ∧ l1 < (1024 : Int32) then (wX11_drops_23 l1 2000 (sri x 88 (ix l1) (1000000 : Int32)) (0 : Int32)).bind fun q23_17 => ih q23_17 (l1 + (1 : Int32)) else none
noncomputable def wX11_drops_2 : Nat → aH → Int32 → Option aH
  | 0 => fun _ _ => none
  | n + 1 => sX11_drops_2 (wX11_drops_2 n)
noncomputable def fX11_drops (x : aH) : Option (Int32 × aH) := (wX11_drops_2 2000 x (1 : Int32)).bind fun q2_18 => if (0 : Int32) ≤ (((1 : Int32) <<< ((fi q2_18 73 6) &&& 31)) - (1 : Int32)) ∧ (((1 : Int32) <<< ((fi q2_18 73 6) &&& 31)) - (1 : Int32)) < (1024 : Int32) then some ((ri q2_18 88 (ix (((1 : Int32) <<< ((fi q2_18 73 6) &&& 31)) - (1 : Int32)))), q2_18) else none
theorem lX11_drops_55 (Z : aZ) (y : aH) (x : aH) (l1 : Int32) (l2 : Int32) {Q : Option Value → aH → Prop} {R : Int32} : ∀ (n : Nat) (l3 : Int32) (l4 : Int32), wX11_drops_55 x l1 l2 n l3 l4 = some R → (∀ q, R = q → TX false Z mX11_drops 1 y x Q 104 [.ref 73, .int l1, .int l2, .int q, .null] []) → TX false Z mX11_drops 1 y x Q 55 [.ref 73, .int l1, .int l2, .int l3, .int l4] [] := by
  intro n
  induction n with
  | zero => intro l3 l4 hf; cases hf
  | succ n ih =>
    intro l3 l4 hf ke
    replace hf : sX11_drops_55 x l1 l2 (wX11_drops_55 x l1 l2 n) l3 l4 = some R := hf
    delta sX11_drops_55 at hf
    refine T_iload dX11_drops_55 rfl ?_
    refine T_aload dX11_drops_57 rfl ?_
    refine X_getf dX11_drops_58 lfX11_93 rfl ob73 ?_
    refine T_icmp_ge dX11_drops_61 (fun c61_7 => ?_) (fun c61_7 => ?_)
    · replace hf := ite_t c61_7 hf
      exact X_wk (WK.s (WK.s (WK.s (WK.s (WK.n WK.e))))) (ke l3 (Option.some.inj hf).symm)
    · replace hf := ite_f c61_7 hf
      refine T_iload dX11_drops_64 rfl ?_
      refine T_iload dX11_drops_65 rfl ?_
      refine T_iload dX11_drops_67 rfl ?_
      have J96 : ∀ (l4 : Int32) (s0 : Int32) (s1 : Int32), jX11_drops_96 (wX11_drops_55 x l1 l2 n) x l1 l2 l4 s0 s1 = some R → TX false Z mX11_drops 1 y x Q 96 [.ref 73, .int l1, .int l2, .null, .int l4] [.int s1, .int s0] := by
        intro l4 s0 s1 hf
        delta jX11_drops_96 at hf
        refine T_iadd dX11_drops_96 ?_
        refine T_istore dX11_drops_97 ?_
        show TX _ _ _ _ _ _ _ _ [_, _, _, _, _] _
        refine T_iinc dX11_drops_98 rfl ?_
        show TX _ _ _ _ _ _ _ _ [_, _, _, _, _] _
        refine T_goto dX11_drops_101 ?_
        exact X_wk (WK.s (WK.s (WK.s (WK.s (WK.s WK.e))))) (ih _ _ hf ke)
      have J95 : ∀ (l4 : Int32) (s0 : Int32), jX11_drops_95 (wX11_drops_55 x l1 l2 n) x l1 l2 l4 s0 = some R → TX false Z mX11_drops 1 y x Q 95 [.ref 73, .int l1, .int l2, .null, .int l4] [.int s0] := by
        intro l4 s0 hf
        delta jX11_drops_95 at hf
        refine T_const dX11_drops_95 ?_
        exact X_wk (WK.s (WK.s (WK.s (WK.n (WK.s WK.e))))) (J96 _ _ _ hf)
      refine T_icmp_eq dX11_drops_68 (fun c68_8 => ?_) (fun c68_8 => ?_)
      · replace hf := ite_t c68_8 hf
        exact X_wk (WK.s (WK.s (WK.s (WK.n (WK.s WK.e))))) (J95 _ _ hf)
      · replace hf := ite_f c68_8 hf
        refine T_iload dX11_drops_71 rfl ?_
        refine T_iload dX11_drops_72 rfl ?_
        obtain ⟨q74_9, hc74_9, hf⟩ := bind_t hf
        refine X_Sv (qX11_isIn _ Z _ _ hc74_9) (Nat.le_of_ble_eq_true rfl) dX11_drops_74 lsX11_290 rfl rfl (Nat.le_of_ble_eq_true rfl) ?_
        refine T_if_eq dX11_drops_77 (fun c77_10 => ?_) (fun c77_10 => ?_)
        · replace hf := ite_t c77_10 hf
          exact X_wk (WK.s (WK.s (WK.s (WK.n (WK.s WK.e))))) (J95 _ _ hf)
        · replace hf := ite_f c77_10 hf
          refine T_aload dX11_drops_80 rfl ?_
          refine X_getr dX11_drops_81 lfX11_46 rfl ob73 rfl ?_
          refine T_const dX11_drops_84 ?_
          refine T_iload dX11_drops_86 rfl ?_
          refine T_imul dX11_drops_87 ?_
          refine T_iload dX11_drops_88 rfl ?_
          refine T_iadd dX11_drops_90 ?_
          obtain ⟨hb91_11, hf⟩ := opt_t hf
          refine X_iald (N := 100) dX11_drops_91 ar86 rfl hb91_11 ?_
          refine T_goto dX11_drops_92 ?_
          exact X_wk (WK.s (WK.s (WK.s (WK.n (WK.s WK.e))))) (J96 _ _ _ hf)
theorem lX11_drops_23 (Z : aZ) (y : aH) (l1 : Int32) {Q : Option Value → aH → Prop} {R : aH} : ∀ (n : Nat) (x : aH) (l2 : Int32), wX11_drops_23 l1 n x l2 = some R → (∀ q, R = q → TX false Z mX11_drops 1 y q Q 136 [.ref 73, .int l1, .null, .null, .null] []) → TX false Z mX11_drops 1 y x Q 23 [.ref 73, .int l1, .int l2, .null, .null] [] := by
  intro n
  induction n with
  | zero => intro x l2 hf; cases hf
  | succ n ih =>
    intro x l2 hf ke
    replace hf : sX11_drops_23 l1 (wX11_drops_23 l1 n) x l2 = some R := hf
    delta sX11_drops_23 at hf
    refine T_iload dX11_drops_23 rfl ?_
    refine T_aload dX11_drops_24 rfl ?_
    refine X_getf dX11_drops_25 lfX11_93 rfl ob73 ?_
    refine T_icmp_ge dX11_drops_28 (fun c28_3 => ?_) (fun c28_3 => ?_)
    · replace hf := ite_t c28_3 hf
      exact X_wk (WK.s (WK.s (WK.n (WK.n (WK.n WK.e))))) (ke x (Option.some.inj hf).symm)
    · replace hf := ite_f c28_3 hf
      refine T_iload dX11_drops_31 rfl ?_
      refine T_iload dX11_drops_32 rfl ?_
      obtain ⟨q33_4, hc33_4, hf⟩ := bind_t hf
      refine X_Sv (qX11_isIn _ Z _ _ hc33_4) (Nat.le_of_ble_eq_true rfl) dX11_drops_33 lsX11_290 rfl rfl (Nat.le_of_ble_eq_true rfl) ?_
      have J130 : ∀ (x : aH) (l2 : Int32), jX11_drops_130 (wX11_drops_23 l1 n) x l1 l2 = some R → TX false Z mX11_drops 1 y x Q 130 [.ref 73, .int l1, .int l2, .null, .null] [] := by
        intro x l2 hf
        delta jX11_drops_130 at hf
        refine T_iinc dX11_drops_130 rfl ?_
        show TX _ _ _ _ _ _ _ _ [_, _, _, _, _] _
        refine T_goto dX11_drops_133 ?_
        exact X_wk (WK.s (WK.s (WK.s (WK.n (WK.n WK.e))))) (ih _ _ hf ke)
      refine T_if_eq dX11_drops_36 (fun c36_5 => ?_) (fun c36_5 => ?_)
      · replace hf := ite_t c36_5 hf
        exact X_wk (WK.s (WK.s (WK.s (WK.n (WK.n WK.e))))) (J130 _ _ hf)
      · replace hf := ite_f c36_5 hf
        refine T_aload dX11_drops_39 rfl ?_
        refine X_getr dX11_drops_40 lfX11_52 rfl ob73 rfl ?_
        refine T_iload dX11_drops_43 rfl ?_
        refine T_const dX11_drops_44 ?_
        refine T_iload dX11_drops_45 rfl ?_
        refine T_ishl dX11_drops_46 ?_
        refine T_const dX11_drops_47 ?_
        refine T_ixor dX11_drops_48 ?_
        refine T_iand dX11_drops_49 ?_
        obtain ⟨hb50_6, hf⟩ := opt_t hf
        refine X_iald (N := 1024) dX11_drops_50 ar88 rfl hb50_6 ?_
        refine T_istore dX11_drops_51 ?_
        show TX _ _ _ _ _ _ _ _ [_, _, _, _, _] _
        refine T_const dX11_drops_52 ?_
        refine T_istore dX11_drops_53 ?_
        show TX _ _ _ _ _ _ _ _ [_, _, _, _, _] _
        obtain ⟨q55_12, hc55_12, hf⟩ := bind_t hf
        refine X_wk (WK.s (WK.s (WK.s (WK.s (WK.s WK.e))))) (lX11_drops_55 Z _ _ _ _ 2000 _ _ hc55_12 ?_)
        intro q55_12z hr
        subst hr
        refine T_aload dX11_drops_104 rfl ?_
        refine X_getr dX11_drops_105 lfX11_52 rfl ob73 rfl ?_
        refine T_iload dX11_drops_108 rfl ?_
        refine T_iload dX11_drops_109 rfl ?_
        refine T_aload dX11_drops_110 rfl ?_
        refine X_getr dX11_drops_111 lfX11_52 rfl ob73 rfl ?_
        refine T_iload dX11_drops_114 rfl ?_
        obtain ⟨hb115_13, hf⟩ := opt_t hf
        refine X_iald (N := 1024) dX11_drops_115 ar88 rfl hb115_13 ?_
        have J129 : ∀ (x : aH) (l2 : Int32) (s1 : Int32) (s2 : Int32), jX11_drops_129 (wX11_drops_23 l1 n) x l1 l2 s1 s2 = some R → TX false Z mX11_drops 1 y x Q 129 [.ref 73, .int l1, .int l2, .null, .null] [.int s2, .int s1, .ref 88] := by
          intro x l2 s1 s2 hf
          delta jX11_drops_129 at hf
          obtain ⟨hb129_14, hf⟩ := opt_t hf
          refine X_iast (N := 1024) dX11_drops_129 ar88 rfl hb129_14 ?_
          exact X_wk (WK.s (WK.s (WK.s (WK.n (WK.n WK.e))))) (J130 _ _ hf)
        refine T_icmp_ge dX11_drops_116 (fun c116_15 => ?_) (fun c116_15 => ?_)
        · replace hf := ite_t c116_15 hf
          refine T_aload dX11_drops_123 rfl ?_
          refine X_getr dX11_drops_124 lfX11_52 rfl ob73 rfl ?_
          refine T_iload dX11_drops_127 rfl ?_
          obtain ⟨hb128_16, hf⟩ := opt_t hf
          refine X_iald (N := 1024) dX11_drops_128 ar88 rfl hb128_16 ?_
          exact X_wk (WK.s (WK.s (WK.s (WK.n (WK.n WK.e))))) (J129 _ _ _ _ hf)
        · replace hf := ite_f c116_15 hf
          refine T_iload dX11_drops_119 rfl ?_
          refine T_goto dX11_drops_120 ?_
          exact X_wk (WK.s (WK.s (WK.s (WK.n (WK.n WK.e))))) (J129 _ _ _ _ hf)
theorem lX11_drops_2 (Z : aZ) (y : aH) {Q : Option Value → aH → Prop} {R : aH} : ∀ (n : Nat) (x : aH) (l1 : Int32), wX11_drops_2 n x l1 = some R → (∀ q, R = q → TX false Z mX11_drops 1 y q Q 142 [.ref 73, .null, .null, .null, .null] []) → TX false Z mX11_drops 1 y x Q 2 [.ref 73, .int l1, .null, .null, .null] [] := by
  intro n
  induction n with
  | zero => intro x l1 hf; cases hf
  | succ n ih =>
    intro x l1 hf ke
    replace hf : sX11_drops_2 (wX11_drops_2 n) x l1 = some R := hf
    delta sX11_drops_2 at hf
    refine T_iload dX11_drops_2 rfl ?_
    refine T_const dX11_drops_3 ?_
    refine T_aload dX11_drops_4 rfl ?_
    refine X_getf dX11_drops_5 lfX11_93 rfl ob73 ?_
    refine T_ishl dX11_drops_8 ?_
    refine T_icmp_ge dX11_drops_9 (fun c9_1 => ?_) (fun c9_1 => ?_)
    · replace hf := ite_t c9_1 hf
      exact X_wk (WK.s (WK.n (WK.n (WK.n (WK.n WK.e))))) (ke x (Option.some.inj hf).symm)
    · replace hf := ite_f c9_1 hf
      refine T_aload dX11_drops_12 rfl ?_
      refine X_getr dX11_drops_13 lfX11_52 rfl ob73 rfl ?_
      refine T_iload dX11_drops_16 rfl ?_
      refine T_const dX11_drops_17 ?_
      obtain ⟨hb20_2, hf⟩ := opt_t hf
      refine X_iast (N := 1024) dX11_drops_20 ar88 rfl hb20_2 ?_
      refine T_const dX11_drops_21 ?_
      refine T_istore dX11_drops_22 ?_
      show TX _ _ _ _ _ _ _ _ [_, _, _, _, _] _
      obtain ⟨q23_17, hc23_17, hf⟩ := bind_t hf
      refine X_wk (WK.s (WK.s (WK.s (WK.n (WK.n WK.e))))) (lX11_drops_23 Z _ _ 2000 _ _ hc23_17 ?_)
      intro q23_17z hr
      subst hr
      refine T_iinc dX11_drops_136 rfl ?_
      show TX _ _ _ _ _ _ _ _ [_, _, _, _, _] _
      refine T_goto dX11_drops_139 ?_
      exact X_wk (WK.s (WK.s (WK.n (WK.n (WK.n WK.e))))) (ih _ _ hf ke)
theorem qX11_drops (Z : aZ) (y : aH) {x : aH} {q : (Int32 × aH)} (hf : fX11_drops x = some q) : CX false Z mX11_drops 1 [.ref 73] y x (RV (.int q.1) q.2) := by
  refine CX.of mokX11_drops (Nat.le_of_ble_eq_true rfl) ?_
  show TX _ _ _ _ _ _ _ _ [_, _, _, _, _] _
  delta fX11_drops at hf
  refine T_const dX11_drops_0 ?_
  refine T_istore dX11_drops_1 ?_
  show TX _ _ _ _ _ _ _ _ [_, _, _, _, _] _
  obtain ⟨q2_18, hc2_18, hf⟩ := bind_t hf
  refine X_wk (WK.s (WK.s (WK.n (WK.n (WK.n WK.e))))) (lX11_drops_2 Z _ 2000 _ _ hc2_18 ?_)
  intro q2_18z hr
  subst hr
  refine T_aload dX11_drops_142 rfl ?_
  refine X_getr dX11_drops_143 lfX11_52 rfl ob73 rfl ?_
  refine T_const dX11_drops_146 ?_
  refine T_aload dX11_drops_147 rfl ?_
  refine X_getf dX11_drops_148 lfX11_93 rfl ob73 ?_
  refine T_ishl dX11_drops_151 ?_
  refine T_const dX11_drops_152 ?_
  refine T_isub dX11_drops_153 ?_
  obtain ⟨hb154_19, hf⟩ := opt_t hf
  refine X_iald (N := 1024) dX11_drops_154 ar88 rfl hb154_19 ?_
  obtain rfl := Option.some.inj hf
  exact X_ri dX11_drops_155 ⟨rfl, rfl⟩
noncomputable def fX11_clash (x : aH) (p1 : Int32) (p2 : Int32) : Option (Int32 × aH) := (fX11_bytesIs x p1).bind fun q2_1 => if q2_1 = (-1 : Int32) then some ((-1 : Int32), x) else (fX11_within (Int32.toInt64 p2) (0 : Int64) (1 : Int64)).bind fun q13_3 => if q13_3 = (0 : Int32) then some ((-1 : Int32), x) else (fX11_bytesIs x p1).bind fun q23_5 => if (0 : Int32) ≤ q23_5 then (fX11_takesRules x p1).bind fun q37_7 => if p2 = (0 : Int32) then (fX11_ring q37_7).bind fun q45_10 => some (q45_10.1, q45_10.2) else (fX11_drops q37_7).bind fun q52_9 => some (q52_9.1, q52_9.2) else (fX11_bytesIs x p1).bind fun q31_11 => some (q31_11, x)
theorem qX11_clash (Z : aZ) (y : aH) {x : aH} {p1 : Int32} {p2 : Int32} {q : (Int32 × aH)} (hf : fX11_clash x p1 p2 = some q) : CX false Z mX11_clash 3 [.ref 73, .int p1, .int p2] y x (RV (.int q.1) q.2) := by
  refine CX.of mokX11_clash (Nat.le_of_ble_eq_true rfl) ?_
  show TX _ _ _ _ _ _ _ _ [_, _, _] _
  delta fX11_clash at hf
  refine T_aload dX11_clash_0 rfl ?_
  refine T_iload dX11_clash_1 rfl ?_
  obtain ⟨q2_1, hc2_1, hf⟩ := bind_t hf
  refine X_Vv (qX11_bytesIs Z _ hc2_1) (Nat.le_of_ble_eq_true rfl) dX11_clash_2 lvX11_250 rfl rfl ob73 (Nat.le_of_ble_eq_true rfl) ?_
  refine T_const dX11_clash_5 ?_
  refine T_icmp_eq dX11_clash_6 (fun c6_2 => ?_) (fun c6_2 => ?_)
  · replace hf := ite_t c6_2 hf
    refine T_const dX11_clash_19 ?_
    obtain rfl := Option.some.inj hf
    exact X_ri dX11_clash_20 ⟨rfl, rfl⟩
  · replace hf := ite_f c6_2 hf
    refine T_iload dX11_clash_9 rfl ?_
    refine T_i2l dX11_clash_10 ?_
    refine T_constL dX11_clash_11 ?_
    refine T_constL dX11_clash_12 ?_
    obtain ⟨q13_3, hc13_3, hf⟩ := bind_t hf
    refine X_Sv (qX11_within _ Z _ _ hc13_3) (Nat.le_of_ble_eq_true rfl) dX11_clash_13 lsX11_96 rfl rfl (Nat.le_of_ble_eq_true rfl) ?_
    refine T_if_ne dX11_clash_16 (fun c16_4 => ?_) (fun c16_4 => ?_)
    · replace hf := ite_f c16_4 hf
      refine T_aload dX11_clash_21 rfl ?_
      refine T_iload dX11_clash_22 rfl ?_
      obtain ⟨q23_5, hc23_5, hf⟩ := bind_t hf
      refine X_Vv (qX11_bytesIs Z _ hc23_5) (Nat.le_of_ble_eq_true rfl) dX11_clash_23 lvX11_250 rfl rfl ob73 (Nat.le_of_ble_eq_true rfl) ?_
      refine T_if_ge dX11_clash_26 (fun c26_6 => ?_) (fun c26_6 => ?_)
      · replace hf := ite_t c26_6 hf
        refine T_aload dX11_clash_35 rfl ?_
        refine T_iload dX11_clash_36 rfl ?_
        obtain ⟨q37_7, hc37_7, hf⟩ := bind_t hf
        refine X_Vn (qX11_takesRules Z _ hc37_7) (Nat.le_of_ble_eq_true rfl) dX11_clash_37 lvX11_293 rfl rfl ob73 (Nat.le_of_ble_eq_true rfl) ?_
        refine T_iload dX11_clash_40 rfl ?_
        refine T_if_ne dX11_clash_41 (fun c41_8 => ?_) (fun c41_8 => ?_)
        · replace hf := ite_f c41_8 hf
          refine T_aload dX11_clash_51 rfl ?_
          obtain ⟨q52_9, hc52_9, hf⟩ := bind_t hf
          refine X_Vv (qX11_drops Z _ hc52_9) (Nat.le_of_ble_eq_true rfl) dX11_clash_52 lvX11_303 rfl rfl ob73 (Nat.le_of_ble_eq_true rfl) ?_
          obtain rfl := Option.some.inj hf
          exact X_ri dX11_clash_55 ⟨rfl, rfl⟩
        · replace hf := ite_t c41_8 hf
          refine T_aload dX11_clash_44 rfl ?_
          obtain ⟨q45_10, hc45_10, hf⟩ := bind_t hf
          refine X_Vv (qX11_ring Z _ hc45_10) (Nat.le_of_ble_eq_true rfl) dX11_clash_45 lvX11_300 rfl rfl ob73 (Nat.le_of_ble_eq_true rfl) ?_
          refine T_goto dX11_clash_48 ?_
          obtain rfl := Option.some.inj hf
          exact X_ri dX11_clash_55 ⟨rfl, rfl⟩
      · replace hf := ite_f c26_6 hf
        refine T_aload dX11_clash_29 rfl ?_
        refine T_iload dX11_clash_30 rfl ?_
        obtain ⟨q31_11, hc31_11, hf⟩ := bind_t hf
        refine X_Vv (qX11_bytesIs Z _ hc31_11) (Nat.le_of_ble_eq_true rfl) dX11_clash_31 lvX11_250 rfl rfl ob73 (Nat.le_of_ble_eq_true rfl) ?_
        obtain rfl := Option.some.inj hf
        exact X_ri dX11_clash_34 ⟨rfl, rfl⟩
    · replace hf := ite_t c16_4 hf
      refine T_const dX11_clash_19 ?_
      obtain rfl := Option.some.inj hf
      exact X_ri dX11_clash_20 ⟨rfl, rfl⟩
