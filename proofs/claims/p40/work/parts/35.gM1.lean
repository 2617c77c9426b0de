noncomputable def jX11_workOut_96 (ih : aH → Int32 → Int32 → Int32 → Option (Int32 × aH)) (x : aH) (l3 : Int32) (l4 : Int32) : Option (Int32 × aH) := (fX11_takes x (59 : Int32)).bind fun q99_4 => ih q99_4.2 l3 l4 q99_4.1
noncomputable def jX11_workOut_74 (ih : aH → Int32 → Int32 → Int32 → Option (Int32 × aH)) (x : aH) (l3 : Int32) (l4 : Int32) (l6 : Int32) (l7 : Int32) : Option (Int32 × aH) := if (0 : Int32) ≤ (fi x 73 14) then jX11_workOut_96 ih x l3 l4 else if l7 = (0 : Int32) then jX11_workOut_96 ih x l3 l4 else if l3 = (0 : Int32) then jX11_workOut_96 ih x (1 : Int32) l6 else jX11_workOut_96 ih x l3 l4
noncomputable def jX11_workOut_66 (ih : aH → Int32 → Int32 → Int32 → Option (Int32 × aH)) (x : aH) (l3 : Int32) (l4 : Int32) (s0 : Int32) : Option (Int32 × aH) := (fX11_either 64 x).bind fun q69_9 => jX11_workOut_74 ih q69_9.2 l3 l4 q69_9.1 s0
noncomputable def sX11_workOut_33 (ih : aH → Int32 → Int32 → Int32 → Option (Int32 × aH)) (x : aH) (l3 : Int32) (l4 : Int32) (l5 : Int32) : Option (Int32 × aH) := if l5 = (0 : Int32) then some (l4, x) else (fX11_either 64 x).bind fun q39_2 => (fX11_takes q39_2.2 (63 : Int32)).bind fun q50_3 => if q50_3.1 = (0 : Int32) then jX11_workOut_74 ih q50_3.2 l3 l4 q39_2.1 (1 : Int32) else if q39_2.1 = (0 : Int32) then jX11_workOut_66 ih q50_3.2 l3 l4 (0 : Int32) else jX11_workOut_66 ih q50_3.2 l3 l4 (1 : Int32)
noncomputable def wX11_workOut_33 : Nat → aH → Int32 → Int32 → Int32 → Option (Int32 × aH)
  | 0 => fun _ _ _ _ => none
  | n + 1 => sX11_workOut_33 (wX11_workOut_33 n)
noncomputable def fX11_workOut (x : aH) (p1 : Int32) (p2 : Int32) : Option (Int32 × aH) := (wX11_workOut_33 2000 (sfi (sfi (sfi (sfi (sfi x 73 11 p1) 73 12 (0 : Int32)) 73 13 p2) 73 14 (-1 : Int32)) 73 15 (0 : Int32)) (0 : Int32) (0 : Int32) (1 : Int32)).bind fun q33_11 => if (0 : Int32) ≤ (fi q33_11.2 73 14) then some (q33_11.1, q33_11.2) else if (fi q33_11.2 73 13) ≤ (fi q33_11.2 73 12) then some (q33_11.1, q33_11.2) else (fX11_wrong q33_11.2).bind fun q126_14 => some (q126_14.1, q126_14.2)
theorem lX11_workOut_33 (Z : aZ) (y : aH) {Q : Option Value → aH → Prop} {R : (Int32 × aH)} : ∀ (n : Nat) (x : aH) (l3 : Int32) (l4 : Int32) (l5 : Int32), wX11_workOut_33 n x l3 l4 l5 = some R → (∀ q, R = q → TX false Z mX11_workOut 66 y q.2 Q 107 [.ref 73, .null, .null, .null, .int (q.1), .null, .null, .null] []) → TX false Z mX11_workOut 66 y x Q 33 [.ref 73, .null, .null, .int l3, .int l4, .int l5, .null, .null] [] := by
  intro n
  induction n with
  | zero => intro x l3 l4 l5 hf; cases hf
  | succ n ih =>
    intro x l3 l4 l5 hf ke
    replace hf : sX11_workOut_33 (wX11_workOut_33 n) x l3 l4 l5 = some R := hf
    delta sX11_workOut_33 at hf
    refine T_iload dX11_workOut_33 rfl ?_
    refine T_if_eq dX11_workOut_35 (fun c35_1 => ?_) (fun c35_1 => ?_)
    · replace hf := ite_t c35_1 hf
      exact X_wk (WK.s (WK.n (WK.n (WK.n (WK.s (WK.n (WK.n (WK.n WK.e)))))))) (ke (l4, x) (Option.some.inj hf).symm)
    · replace hf := ite_f c35_1 hf
      refine T_aload dX11_workOut_38 rfl ?_
      obtain ⟨q39_2, hc39_2, hf⟩ := bind_t hf
      refine X_Vv (qX11_either Z _ hc39_2) (Nat.le_of_ble_eq_true rfl) dX11_workOut_39 lvX11_190 rfl rfl ob73 (Nat.le_of_ble_eq_true rfl) ?_
      refine T_istore dX11_workOut_42 ?_
      show TX _ _ _ _ _ _ _ _ [_, _, _, _, _, _, _, _] _
      refine T_const dX11_workOut_44 ?_
      refine T_istore dX11_workOut_45 ?_
      show TX _ _ _ _ _ _ _ _ [_, _, _, _, _, _, _, _] _
      refine T_aload dX11_workOut_47 rfl ?_
      refine T_const dX11_workOut_48 ?_
      obtain ⟨q50_3, hc50_3, hf⟩ := bind_t hf
      refine X_Vv (qX11_takes Z _ hc50_3) (Nat.le_of_ble_eq_true rfl) dX11_workOut_50 lvX11_169 rfl rfl ob73 (Nat.le_of_ble_eq_true rfl) ?_
      have J74 : ∀ (x : aH) (l3 : Int32) (l4 : Int32) (l6 : Int32) (l7 : Int32), jX11_workOut_74 (wX11_workOut_33 n) x l3 l4 l6 l7 = some R → TX false Z mX11_workOut 66 y x Q 74 [.ref 73, .null, .null, .int l3, .int l4, .null, .int l6, .int l7] [] := by
        intro x l3 l4 l6 l7 hf
        delta jX11_workOut_74 at hf
        refine T_aload dX11_workOut_74 rfl ?_
        refine X_getf dX11_workOut_75 lfX11_159 rfl ob73 ?_
        have J96 : ∀ (x : aH) (l3 : Int32) (l4 : Int32), jX11_workOut_96 (wX11_workOut_33 n) x l3 l4 = some R → TX false Z mX11_workOut 66 y x Q 96 [.ref 73, .null, .null, .int l3, .int l4, .null, .null, .null] [] := by
          intro x l3 l4 hf
          delta jX11_workOut_96 at hf
          refine T_aload dX11_workOut_96 rfl ?_
          refine T_const dX11_workOut_97 ?_
          obtain ⟨q99_4, hc99_4, hf⟩ := bind_t hf
          refine X_Vv (qX11_takes Z _ hc99_4) (Nat.le_of_ble_eq_true rfl) dX11_workOut_99 lvX11_169 rfl rfl ob73 (Nat.le_of_ble_eq_true rfl) ?_
          refine T_istore dX11_workOut_102 ?_
          show TX _ _ _ _ _ _ _ _ [_, _, _, _, _, _, _, _] _
          refine T_goto dX11_workOut_104 ?_
          exact X_wk (WK.s (WK.n (WK.n (WK.s (WK.s (WK.s (WK.n (WK.n WK.e)))))))) (ih _ _ _ _ hf ke)
        refine T_if_ge dX11_workOut_78 (fun c78_5 => ?_) (fun c78_5 => ?_)
        · replace hf := ite_t c78_5 hf
          exact X_wk (WK.s (WK.n (WK.n (WK.s (WK.s (WK.n (WK.n (WK.n WK.e)))))))) (J96 _ _ _ hf)
        · replace hf := ite_f c78_5 hf
          refine T_iload dX11_workOut_81 rfl ?_
          refine T_if_eq dX11_workOut_83 (fun c83_6 => ?_) (fun c83_6 => ?_)
          · replace hf := ite_t c83_6 hf
            exact X_wk (WK.s (WK.n (WK.n (WK.s (WK.s (WK.n (WK.n (WK.n WK.e)))))))) (J96 _ _ _ hf)
          · replace hf := ite_f c83_6 hf
            refine T_iload dX11_workOut_86 rfl ?_
            refine T_if_ne dX11_workOut_87 (fun c87_7 => ?_) (fun c87_7 => ?_)
            · replace hf := ite_f c87_7 hf
              exact X_wk (WK.s (WK.n (WK.n (WK.s (WK.s (WK.n (WK.n (WK.n WK.e)))))))) (J96 _ _ _ hf)
            · replace hf := ite_t c87_7 hf
              refine T_const dX11_workOut_90 ?_
              refine T_istore dX11_workOut_91 ?_
              show TX _ _ _ _ _ _ _ _ [_, _, _, _, _, _, _, _] _
              refine T_iload dX11_workOut_92 rfl ?_
              refine T_istore dX11_workOut_94 ?_
              show TX _ _ _ _ _ _ _ _ [_, _, _, _, _, _, _, _] _
              exact X_wk (WK.s (WK.n (WK.n (WK.s (WK.s (WK.n (WK.n (WK.n WK.e)))))))) (J96 _ _ _ hf)
      refine T_if_eq dX11_workOut_53 (fun c53_8 => ?_) (fun c53_8 => ?_)
      · replace hf := ite_t c53_8 hf
        exact X_wk (WK.s (WK.n (WK.n (WK.s (WK.s (WK.n (WK.s (WK.s WK.e)))))))) (J74 _ _ _ _ _ hf)
      · replace hf := ite_f c53_8 hf
        refine T_iload dX11_workOut_56 rfl ?_
        have J66 : ∀ (x : aH) (l3 : Int32) (l4 : Int32) (s0 : Int32), jX11_workOut_66 (wX11_workOut_33 n) x l3 l4 s0 = some R → TX false Z mX11_workOut 66 y x Q 66 [.ref 73, .null, .null, .int l3, .int l4, .null, .null, .null] [.int s0] := by
          intro x l3 l4 s0 hf
          delta jX11_workOut_66 at hf
          refine T_istore dX11_workOut_66 ?_
          show TX _ _ _ _ _ _ _ _ [_, _, _, _, _, _, _, _] _
          refine T_aload dX11_workOut_68 rfl ?_
          obtain ⟨q69_9, hc69_9, hf⟩ := bind_t hf
          refine X_Vv (qX11_either Z _ hc69_9) (Nat.le_of_ble_eq_true rfl) dX11_workOut_69 lvX11_190 rfl rfl ob73 (Nat.le_of_ble_eq_true rfl) ?_
          refine T_istore dX11_workOut_72 ?_
          show TX _ _ _ _ _ _ _ _ [_, _, _, _, _, _, _, _] _
          exact X_wk (WK.s (WK.n (WK.n (WK.s (WK.s (WK.n (WK.s (WK.s WK.e)))))))) (J74 _ _ _ _ _ hf)
        refine T_if_eq dX11_workOut_58 (fun c58_10 => ?_) (fun c58_10 => ?_)
        · replace hf := ite_t c58_10 hf
          refine T_const dX11_workOut_65 ?_
          exact X_wk (WK.s (WK.n (WK.n (WK.s (WK.s (WK.n (WK.n (WK.n WK.e)))))))) (J66 _ _ _ _ hf)
        · replace hf := ite_f c58_10 hf
          refine T_const dX11_workOut_61 ?_
          refine T_goto dX11_workOut_62 ?_
          exact X_wk (WK.s (WK.n (WK.n (WK.s (WK.s (WK.n (WK.n (WK.n WK.e)))))))) (J66 _ _ _ _ hf)
theorem qX11_workOut (Z : aZ) (y : aH) {x : aH} {p1 : Int32} {p2 : Int32} {q : (Int32 × aH)} (hf : fX11_workOut x p1 p2 = some q) : CX false Z mX11_workOut 66 [.ref 73, .int p1, .int p2] y x (RV (.int q.1) q.2) := by
  refine CX.of mokX11_workOut (Nat.le_of_ble_eq_true rfl) ?_
  show TX _ _ _ _ _ _ _ _ [_, _, _, _, _, _, _, _] _
  delta fX11_workOut at hf
  refine T_aload dX11_workOut_0 rfl ?_
  refine T_iload dX11_workOut_1 rfl ?_
  refine X_putf dX11_workOut_2 lfX11_156 rfl rfl ob73 ⟨rfl, rfl⟩ ?_
  refine T_aload dX11_workOut_5 rfl ?_
  refine T_const dX11_workOut_6 ?_
  refine X_putf dX11_workOut_7 lfX11_150 rfl rfl ob73 ⟨rfl, rfl⟩ ?_
  refine T_aload dX11_workOut_10 rfl ?_
  refine T_iload dX11_workOut_11 rfl ?_
  refine X_putf dX11_workOut_12 lfX11_153 rfl rfl ob73 ⟨rfl, rfl⟩ ?_
  refine T_aload dX11_workOut_15 rfl ?_
  refine T_const dX11_workOut_16 ?_
  refine X_putf dX11_workOut_17 lfX11_159 rfl rfl ob73 ⟨rfl, rfl⟩ ?_
  refine T_aload dX11_workOut_20 rfl ?_
  refine T_const dX11_workOut_21 ?_
  refine X_putf dX11_workOut_22 lfX11_184 rfl rfl ob73 ⟨rfl, rfl⟩ ?_
  refine T_const dX11_workOut_25 ?_
  refine T_istore dX11_workOut_26 ?_
  show TX _ _ _ _ _ _ _ _ [_, _, _, _, _, _, _, _] _
  refine T_const dX11_workOut_27 ?_
  refine T_istore dX11_workOut_28 ?_
  show TX _ _ _ _ _ _ _ _ [_, _, _, _, _, _, _, _] _
  refine T_const dX11_workOut_30 ?_
  refine T_istore dX11_workOut_31 ?_
  show TX _ _ _ _ _ _ _ _ [_, _, _, _, _, _, _, _] _
  obtain ⟨q33_11, hc33_11, hf⟩ := bind_t hf
  refine X_wk (WK.s (WK.n (WK.n (WK.s (WK.s (WK.s (WK.n (WK.n WK.e)))))))) (lX11_workOut_33 Z _ 2000 _ _ _ _ hc33_11 ?_)
  intro q33_11z hr
  subst hr
  refine T_aload dX11_workOut_107 rfl ?_
  refine X_getf dX11_workOut_108 lfX11_159 rfl ob73 ?_
  refine T_if_ge dX11_workOut_111 (fun c111_12 => ?_) (fun c111_12 => ?_)
  · replace hf := ite_t c111_12 hf
    refine T_iload dX11_workOut_130 rfl ?_
    obtain rfl := Option.some.inj hf
    exact X_ri dX11_workOut_132 ⟨rfl, rfl⟩
  · replace hf := ite_f c111_12 hf
    refine T_aload dX11_workOut_114 rfl ?_
    refine X_getf dX11_workOut_115 lfX11_150 rfl ob73 ?_
    refine T_aload dX11_workOut_118 rfl ?_
    refine X_getf dX11_workOut_119 lfX11_153 rfl ob73 ?_
    refine T_icmp_ge dX11_workOut_122 (fun c122_13 => ?_) (fun c122_13 => ?_)
    · replace hf := ite_t c122_13 hf
      refine T_iload dX11_workOut_130 rfl ?_
      obtain rfl := Option.some.inj hf
      exact X_ri dX11_workOut_132 ⟨rfl, rfl⟩
    · replace hf := ite_f c122_13 hf
      refine T_aload dX11_workOut_125 rfl ?_
      obtain ⟨q126_14, hc126_14, hf⟩ := bind_t hf
      refine X_Vv (qX11_wrong Z _ hc126_14) (Nat.le_of_ble_eq_true rfl) dX11_workOut_126 lvX11_187 rfl rfl ob73 (Nat.le_of_ble_eq_true rfl) ?_
      obtain rfl := Option.some.inj hf
      exact X_ri dX11_workOut_129 ⟨rfl, rfl⟩
noncomputable def sX11_law_37 (l2 : Int32) (ih : aH → Int32 → Option aH) (x : aH) (l3 : Int32) : Option aH := if l2 ≤ l3 then some x else if (0 : Int32) ≤ l3 ∧ l3 < (120 : Int32) then if (0 : Int32) ≤ l3 ∧ l3 < (120 : Int32) then ih (sri x 79 (ix l3) (ri x 78 (ix l3))) (l3 + (1 : Int32)) else none else none
noncomputable def wX11_law_37 (l2 : Int32) : Nat → aH → Int32 → Option aH
  | 0 => fun _ _ => none
  | n + 1 => sX11_law_37 l2 (wX11_law_37 l2 n)
noncomputable def fX11_law (x : aH) : Option (Int32 × aH) := (fX11_workOut x (-1 : Int32) (fi x 73 8)).bind fun q6_1 => if (fi (sfi q6_1.2 73 8 (0 : Int32)) 73 14) < (0 : Int32) then (wX11_law_37 (fi q6_1.2 73 8) 2000 (sfi q6_1.2 73 8 (0 : Int32)) (0 : Int32)).bind fun q37_6 => some ((1 : Int32), (sfi q37_6 73 10 (fi q6_1.2 73 8))) else some (((-100 : Int32) - (fi (sfi q6_1.2 73 8 (0 : Int32)) 73 14)), (sfi q6_1.2 73 8 (0 : Int32)))
theorem lX11_law_37 (Z : aZ) (y : aH) (l2 : Int32) {Q : Option Value → aH → Prop} {R : aH} : ∀ (n : Nat) (x : aH) (l3 : Int32), wX11_law_37 l2 n x l3 = some R → (∀ q, R = q → TX false Z mX11_law 67 y q Q 60 [.ref 73, .null, .int l2, .null] []) → TX false Z mX11_law 67 y x Q 37 [.ref 73, .null, .int l2, .int l3] [] := by
  intro n
  induction n with
  | zero => intro x l3 hf; cases hf
  | succ n ih =>
    intro x l3 hf ke
    replace hf : sX11_law_37 l2 (wX11_law_37 l2 n) x l3 = some R := hf
    delta sX11_law_37 at hf
    refine T_iload dX11_law_37 rfl ?_
    refine T_iload dX11_law_38 rfl ?_
    refine T_icmp_ge dX11_law_39 (fun c39_3 => ?_) (fun c39_3 => ?_)
    · replace hf := ite_t c39_3 hf
      exact X_wk (WK.s (WK.n (WK.s (WK.n WK.e)))) (ke x (Option.some.inj hf).symm)
    · replace hf := ite_f c39_3 hf
      refine T_aload dX11_law_42 rfl ?_
      refine X_getr dX11_law_43 lfX11_25 rfl ob73 rfl ?_
      refine T_iload dX11_law_46 rfl ?_
      refine T_aload dX11_law_47 rfl ?_
      refine X_getr dX11_law_48 lfX11_22 rfl ob73 rfl ?_
      refine T_iload dX11_law_51 rfl ?_
      obtain ⟨hb52_4, hf⟩ := opt_t hf
      refine X_iald (N := 120) dX11_law_52 ar78 rfl hb52_4 ?_
      obtain ⟨hb53_5, hf⟩ := opt_t hf
      refine X_iast (N := 120) dX11_law_53 ar79 rfl hb53_5 ?_
      refine T_iinc dX11_law_54 rfl ?_
      show TX _ _ _ _ _ _ _ _ [_, _, _, _] _
      refine T_goto dX11_law_57 ?_
      exact X_wk (WK.s (WK.n (WK.s (WK.s WK.e)))) (ih _ _ hf ke)
theorem qX11_law (Z : aZ) (y : aH) {x : aH} {q : (Int32 × aH)} (hf : fX11_law x = some q) : CX false Z mX11_law 67 [.ref 73] y x (RV (.int q.1) q.2) := by
  refine CX.of mokX11_law (Nat.le_of_ble_eq_true rfl) ?_
  show TX _ _ _ _ _ _ _ _ [_, _, _, _] _
  delta fX11_law at hf
  refine T_aload dX11_law_0 rfl ?_
  refine T_const dX11_law_1 ?_
  refine T_aload dX11_law_2 rfl ?_
  refine X_getf dX11_law_3 lfX11_147 rfl ob73 ?_
  obtain ⟨q6_1, hc6_1, hf⟩ := bind_t hf
  refine X_Vv (qX11_workOut Z _ hc6_1) (Nat.le_of_ble_eq_true rfl) dX11_law_6 lvX11_197 rfl rfl ob73 (Nat.le_of_ble_eq_true rfl) ?_
  refine T_istore dX11_law_9 ?_
  show TX _ _ _ _ _ _ _ _ [_, _, _, _] _
  refine T_aload dX11_law_10 rfl ?_
  refine X_getf dX11_law_11 lfX11_147 rfl ob73 ?_
  refine T_istore dX11_law_14 ?_
  show TX _ _ _ _ _ _ _ _ [_, _, _, _] _
  refine T_aload dX11_law_15 rfl ?_
  refine T_const dX11_law_16 ?_
  refine X_putf dX11_law_17 lfX11_147 rfl rfl ob73 ⟨rfl, rfl⟩ ?_
  refine T_aload dX11_law_20 rfl ?_
  refine X_getf dX11_law_21 lfX11_159 rfl ob73 ?_
  refine T_if_lt dX11_law_24 (fun c24_2 => ?_) (fun c24_2 => ?_)
  · replace hf := ite_t c24_2 hf
    refine T_const dX11_law_35 ?_
    refine T_istore dX11_law_36 ?_
    show TX _ _ _ _ _ _ _ _ [_, _, _, _] _
    obtain ⟨q37_6, hc37_6, hf⟩ := bind_t hf
    refine X_wk (WK.s (WK.n (WK.s (WK.s WK.e)))) (lX11_law_37 Z _ _ 2000 _ _ hc37_6 ?_)
    intro q37_6z hr
    subst hr
    refine T_aload dX11_law_60 rfl ?_
    refine T_iload dX11_law_61 rfl ?_
    refine X_putf dX11_law_62 lfX11_83 rfl rfl ob73 ⟨rfl, rfl⟩ ?_
    refine T_const dX11_law_65 ?_
    obtain rfl := Option.some.inj hf
    exact X_ri dX11_law_66 ⟨rfl, rfl⟩
  · replace hf := ite_f c24_2 hf
    refine T_const dX11_law_27 ?_
    refine T_aload dX11_law_29 rfl ?_
    refine X_getf dX11_law_30 lfX11_159 rfl ob73 ?_
    refine T_isub dX11_law_33 ?_
    obtain rfl := Option.some.inj hf
    exact X_ri dX11_law_34 ⟨rfl, rfl⟩
noncomputable def sX11_begins_2 (ih : aH → Int32 → Option aH) (x : aH) (l1 : Int32) : Option aH := if (fi x 73 6) ≤ l1 then some x else if (0 : Int32) ≤ l1 ∧ l1 < (172 : Int32) then if (0 : Int32) ≤ l1 ∧ l1 < (10 : Int32) then if (0 : Int32) ≤ ((30 : Int32) + l1) ∧ ((30 : Int32) + l1) < (172 : Int32) then if (0 : Int32) ≤ l1 ∧ l1 < (10 : Int32) then ih (sri (sri x 81 (ix l1) (ri x 74 (ix l1))) 82 (ix l1) (ri (sri x 81 (ix l1) (ri x 74 (ix l1))) 74 (ix ((30 : Int32) + l1)))) (l1 + (1 : Int32)) else none else none else none else none
noncomputable def wX11_begins_2 : Nat → aH → Int32 → Option aH
  | 0 => fun _ _ => none
  | n + 1 => sX11_begins_2 (wX11_begins_2 n)
noncomputable def fX11_begins (x : aH) : Option aH := (wX11_begins_2 2000 x (0 : Int32)).bind fun q2_6 => some (sfi q2_6 73 19 (ri q2_6 74 (ix (169 : Int32))))
theorem lX11_begins_2 (Z : aZ) (y : aH) {Q : Option Value → aH → Prop} {R : aH} : ∀ (n : Nat) (x : aH) (l1 : Int32), wX11_begins_2 n x l1 = some R → (∀ q, R = q → TX false Z mX11_begins 0 y q Q 43 [.ref 73, .null] []) → TX false Z mX11_begins 0 y x Q 2 [.ref 73, .int l1] [] := by
  intro n
  induction n with
  | zero => intro x l1 hf; cases hf
  | succ n ih =>
    intro x l1 hf ke
    replace hf : sX11_begins_2 (wX11_begins_2 n) x l1 = some R := hf
    delta sX11_begins_2 at hf
    refine T_iload dX11_begins_2 rfl ?_
    refine T_aload dX11_begins_3 rfl ?_
    refine X_getf dX11_begins_4 lfX11_93 rfl ob73 ?_
    refine T_icmp_ge dX11_begins_7 (fun c7_1 => ?_) (fun c7_1 => ?_)
    · replace hf := ite_t c7_1 hf
      exact X_wk (WK.s (WK.n WK.e)) (ke x (Option.some.inj hf).symm)
    · replace hf := ite_f c7_1 hf
      refine T_aload dX11_begins_10 rfl ?_
      refine X_getr dX11_begins_11 lfX11_31 rfl ob73 rfl ?_
      refine T_iload dX11_begins_14 rfl ?_
      refine T_aload dX11_begins_15 rfl ?_
      refine X_getr dX11_begins_16 lfX11_9 rfl ob73 rfl ?_
      refine T_iload dX11_begins_19 rfl ?_
      obtain ⟨hb20_2, hf⟩ := opt_t hf
      refine X_iald (N := 172) dX11_begins_20 ar74 rfl hb20_2 ?_
      obtain ⟨hb21_3, hf⟩ := opt_t hf
      refine X_iast (N := 10) dX11_begins_21 ar81 rfl hb21_3 ?_
      refine T_aload dX11_begins_22 rfl ?_
      refine X_getr dX11_begins_23 lfX11_34 rfl ob73 rfl ?_
      refine T_iload dX11_begins_26 rfl ?_
      refine T_aload dX11_begins_27 rfl ?_
      refine X_getr dX11_begins_28 lfX11_9 rfl ob73 rfl ?_
      refine T_const dX11_begins_31 ?_
      refine T_iload dX11_begins_33 rfl ?_
      refine T_iadd dX11_begins_34 ?_
      obtain ⟨hb35_4, hf⟩ := opt_t hf
      refine X_iald (N := 172) dX11_begins_35 ar74 rfl hb35_4 ?_
      obtain ⟨hb36_5, hf⟩ := opt_t hf
      refine X_iast (N := 10) dX11_begins_36 ar82 rfl hb36_5 ?_
      refine T_iinc dX11_begins_37 rfl ?_
      show TX _ _ _ _ _ _ _ _ [_, _] _
      refine T_goto dX11_begins_40 ?_
      exact X_wk (WK.s (WK.s WK.e)) (ih _ _ hf ke)
theorem qX11_begins (Z : aZ) (y : aH) {x : aH} {q : aH} (hf : fX11_begins x = some q) : CX false Z mX11_begins 0 [.ref 73] y x (RN q) := by
  refine CX.of mokX11_begins (Nat.le_of_ble_eq_true rfl) ?_
  show TX _ _ _ _ _ _ _ _ [_, _] _
  delta fX11_begins at hf
  refine T_const dX11_begins_0 ?_
  refine T_istore dX11_begins_1 ?_
  show TX _ _ _ _ _ _ _ _ [_, _] _
  obtain ⟨q2_6, hc2_6, hf⟩ := bind_t hf
  refine X_wk (WK.s (WK.s WK.e)) (lX11_begins_2 Z _ 2000 _ _ hc2_6 ?_)
  intro q2_6z hr
  subst hr
  refine T_aload dX11_begins_43 rfl ?_
  refine T_aload dX11_begins_44 rfl ?_
  refine X_getr dX11_begins_45 lfX11_9 rfl ob73 rfl ?_
  refine T_const dX11_begins_48 ?_
  refine X_iald (N := 172) dX11_begins_51 ar74 rfl (by decide) ?_
  refine X_putf dX11_begins_52 lfX11_200 rfl rfl ob73 ⟨rfl, rfl⟩ ?_
  obtain rfl := Option.some.inj hf
  exact X_rv dX11_begins_55 ⟨rfl, rfl⟩
noncomputable def fX11_sizeOf (p0 : Int32) : Option Int32 := if (0 : Int32) ≤ p0 then some p0 else some (-p0)
theorem qX11_sizeOf (sd : Bool) (Z : aZ) (y : aH) (x : aH) {p0 : Int32} {q : Int32} (hf : fX11_sizeOf p0 = some q) : CX sd Z mX11_sizeOf 0 [.int p0] y x (RV (.int q) x) := by
  refine CX.of mokX11_sizeOf (Nat.le_of_ble_eq_true rfl) ?_
  show TX _ _ _ _ _ _ _ _ [_] _
  delta fX11_sizeOf at hf
  refine T_iload dX11_sizeOf_0 rfl ?_
  refine T_if_ge dX11_sizeOf_1 (fun c1_1 => ?_) (fun c1_1 => ?_)
  · replace hf := ite_t c1_1 hf
    refine T_iload dX11_sizeOf_9 rfl ?_
    obtain rfl := Option.some.inj hf
    exact X_ri dX11_sizeOf_10 ⟨rfl, rfl⟩
  · replace hf := ite_f c1_1 hf
    refine T_iload dX11_sizeOf_4 rfl ?_
    refine T_ineg dX11_sizeOf_5 ?_
    refine T_goto dX11_sizeOf_6 ?_
    obtain rfl := Option.some.inj hf
    exact X_ri dX11_sizeOf_10 ⟨rfl, rfl⟩
noncomputable def fX11_alongX (x : aH) (p1 : Int32) : Option Int32 := some ((p1 - p1 / (8 : Int32) * (8 : Int32)) - ((ri x 74 (ix (168 : Int32))) - (ri x 74 (ix (168 : Int32))) / (8 : Int32) * (8 : Int32)))
theorem qX11_alongX (Z : aZ) (y : aH) {x : aH} {p1 : Int32} {q : Int32} (hf : fX11_alongX x p1 = some q) : CX false Z mX11_alongX 0 [.ref 73, .int p1] y x (RV (.int q) x) := by
  refine CX.of mokX11_alongX (Nat.le_of_ble_eq_true rfl) ?_
  show TX _ _ _ _ _ _ _ _ [_, _] _
  delta fX11_alongX at hf
  refine T_iload dX11_alongX_0 rfl ?_
  refine T_const dX11_alongX_1 ?_
  refine T_irem dX11_alongX_3 (by decide) ?_
  refine T_aload dX11_alongX_4 rfl ?_
  refine X_getr dX11_alongX_5 lfX11_9 rfl ob73 rfl ?_
  refine T_const dX11_alongX_8 ?_
  refine X_iald (N := 172) dX11_alongX_11 ar74 rfl (by decide) ?_
  refine T_const dX11_alongX_12 ?_
  refine T_irem dX11_alongX_14 (by decide) ?_
  refine T_isub dX11_alongX_15 ?_
  obtain rfl := Option.some.inj hf
  exact X_ri dX11_alongX_16 ⟨rfl, rfl⟩
noncomputable def fX11_alongY (x : aH) (p1 : Int32) : Option Int32 := some ((p1 / (8 : Int32)) - ((ri x 74 (ix (168 : Int32))) / (8 : Int32)))
theorem qX11_alongY (Z : aZ) (y : aH) {x : aH} {p1 : Int32} {q : Int32} (hf : fX11_alongY x p1 = some q) : CX false Z mX11_alongY 0 [.ref 73, .int p1] y x (RV (.int q) x) := by
  refine CX.of mokX11_alongY (Nat.le_of_ble_eq_true rfl) ?_
  show TX _ _ _ _ _ _ _ _ [_, _] _
  delta fX11_alongY at hf
  refine T_iload dX11_alongY_0 rfl ?_
  refine T_const dX11_alongY_1 ?_
  refine T_idiv dX11_alongY_3 (by decide) ?_
  refine T_aload dX11_alongY_4 rfl ?_
  refine X_getr dX11_alongY_5 lfX11_9 rfl ob73 rfl ?_
  refine T_const dX11_alongY_8 ?_
  refine X_iald (N := 172) dX11_alongY_11 ar74 rfl (by decide) ?_
  refine T_const dX11_alongY_12 ?_
  refine T_idiv dX11_alongY_14 (by decide) ?_
  refine T_isub dX11_alongY_15 ?_
  obtain rfl := Option.some.inj hf
  exact X_ri dX11_alongY_16 ⟨rfl, rfl⟩
noncomputable def jX11_isSeen_65 (x : aH) (l3 : Int32) (s0 : Int32) : Option Int32 := (fX11_sizeOf s0).bind fun q65_1 => if l3 < (1 : Int32) then some (0 : Int32) else if l3 < q65_1 then some (0 : Int32) else some (1 : Int32)
noncomputable def jX11_isSeen_45 (x : aH) (l1 : Int32) (l2 : Int32) (s0 : Int32) : Option Int32 := if (l2 - l2 / (2 : Int32) * (2 : Int32)) = (0 : Int32) then (fX11_alongX x l1).bind fun q54_6 => jX11_isSeen_65 x s0 q54_6 else (fX11_alongY x l1).bind fun q62_5 => jX11_isSeen_65 x s0 q62_5
noncomputable def fX11_isSeen (x : aH) (p1 : Int32) (p2 : Int32) : Option Int32 := if p2 = (0 : Int32) then (fX11_alongY x p1).bind fun q6_13 => jX11_isSeen_45 x p1 p2 (-q6_13) else if p2 = (1 : Int32) then (fX11_alongX x p1).bind fun q20_12 => jX11_isSeen_45 x p1 p2 q20_12 else if p2 = (2 : Int32) then (fX11_alongY x p1).bind fun q33_11 => jX11_isSeen_45 x p1 p2 q33_11 else (fX11_alongX x p1).bind fun q41_10 => jX11_isSeen_45 x p1 p2 (-q41_10)
theorem qX11_isSeen (Z : aZ) (y : aH) {x : aH} {p1 : Int32} {p2 : Int32} {q : Int32} (hf : fX11_isSeen x p1 p2 = some q) : CX false Z mX11_isSeen 1 [.ref 73, .int p1, .int p2] y x (RV (.int q) x) := by
  refine CX.of mokX11_isSeen (Nat.le_of_ble_eq_true rfl) ?_
  show TX _ _ _ _ _ _ _ _ [_, _, _, _, _] _
  delta fX11_isSeen at hf
  refine T_iload dX11_isSeen_0 rfl ?_
  have J45 : ∀ (l1 : Int32) (l2 : Int32) (s0 : Int32), jX11_isSeen_45 x l1 l2 s0 = some q → TX false Z mX11_isSeen 1 y x (RV (.int q) x) 45 [.ref 73, .int l1, .int l2, .null, .null] [.int s0] := by
    intro l1 l2 s0 hf
    delta jX11_isSeen_45 at hf
    refine T_istore dX11_isSeen_45 ?_
    show TX _ _ _ _ _ _ _ _ [_, _, _, _, _] _
    refine T_iload dX11_isSeen_46 rfl ?_
    refine T_const dX11_isSeen_47 ?_
    refine T_irem dX11_isSeen_48 (by decide) ?_
    have J65 : ∀ (l3 : Int32) (s0 : Int32), jX11_isSeen_65 x l3 s0 = some q → TX false Z mX11_isSeen 1 y x (RV (.int q) x) 65 [.null, .null, .null, .int l3, .null] [.int s0] := by
      intro l3 s0 hf
      delta jX11_isSeen_65 at hf
      obtain ⟨q65_1, hc65_1, hf⟩ := bind_t hf
      refine X_Sv (qX11_sizeOf _ Z _ _ hc65_1) (Nat.le_of_ble_eq_true rfl) dX11_isSeen_65 lsX11_209 rfl rfl (Nat.le_of_ble_eq_true rfl) ?_
      refine T_istore dX11_isSeen_68 ?_
      show TX _ _ _ _ _ _ _ _ [_, _, _, _, _] _
      refine T_iload dX11_isSeen_70 rfl ?_
      refine T_const dX11_isSeen_71 ?_
      refine T_icmp_lt dX11_isSeen_72 (fun c72_2 => ?_) (fun c72_2 => ?_)
      · replace hf := ite_t c72_2 hf
        refine T_const dX11_isSeen_85 ?_
        obtain rfl := Option.some.inj hf
        exact X_rz dX11_isSeen_86 (by first | exact Or.inl rfl | exact Or.inr rfl) ⟨rfl, rfl⟩
      · replace hf := ite_f c72_2 hf
        refine T_iload dX11_isSeen_75 rfl ?_
        refine T_iload dX11_isSeen_77 rfl ?_
        refine T_icmp_gt dX11_isSeen_78 (fun c78_3 => ?_) (fun c78_3 => ?_)
        · replace hf := ite_t c78_3 hf
          refine T_const dX11_isSeen_85 ?_
          obtain rfl := Option.some.inj hf
          exact X_rz dX11_isSeen_86 (by first | exact Or.inl rfl | exact Or.inr rfl) ⟨rfl, rfl⟩
        · replace hf := ite_f c78_3 hf
          refine T_const dX11_isSeen_81 ?_
          refine T_goto dX11_isSeen_82 ?_
          obtain rfl := Option.some.inj hf
          exact X_rz dX11_isSeen_86 (by first | exact Or.inl rfl | exact Or.inr rfl) ⟨rfl, rfl⟩
    refine T_if_ne dX11_isSeen_49 (fun c49_4 => ?_) (fun c49_4 => ?_)
    · replace hf := ite_f c49_4 hf
      refine T_aload dX11_isSeen_60 rfl ?_
      refine T_iload dX11_isSeen_61 rfl ?_
      obtain ⟨q62_5, hc62_5, hf⟩ := bind_t hf
      refine X_Vv (qX11_alongY Z _ hc62_5) (Nat.le_of_ble_eq_true rfl) dX11_isSeen_62 lvX11_203 rfl rfl ob73 (Nat.le_of_ble_eq_true rfl) ?_
      exact X_wk (WK.n (WK.n (WK.n (WK.s (WK.n WK.e))))) (J65 _ _ hf)
    · replace hf := ite_t c49_4 hf
      refine T_aload dX11_isSeen_52 rfl ?_
      refine T_iload dX11_isSeen_53 rfl ?_
      obtain ⟨q54_6, hc54_6, hf⟩ := bind_t hf
      refine X_Vv (qX11_alongX Z _ hc54_6) (Nat.le_of_ble_eq_true rfl) dX11_isSeen_54 lvX11_206 rfl rfl ob73 (Nat.le_of_ble_eq_true rfl) ?_
      refine T_goto dX11_isSeen_57 ?_
      exact X_wk (WK.n (WK.n (WK.n (WK.s (WK.n WK.e))))) (J65 _ _ hf)
  refine T_if_ne dX11_isSeen_1 (fun c1_7 => ?_) (fun c1_7 => ?_)
  · replace hf := ite_f c1_7 hf
    refine T_iload dX11_isSeen_13 rfl ?_
    refine T_const dX11_isSeen_14 ?_
    refine T_icmp_ne dX11_isSeen_15 (fun c15_8 => ?_) (fun c15_8 => ?_)
    · replace hf := ite_f c15_8 hf
      refine T_iload dX11_isSeen_26 rfl ?_
      refine T_const dX11_isSeen_27 ?_
      refine T_icmp_ne dX11_isSeen_28 (fun c28_9 => ?_) (fun c28_9 => ?_)
      · replace hf := ite_f c28_9 hf
        refine T_aload dX11_isSeen_39 rfl ?_
        refine T_iload dX11_isSeen_40 rfl ?_
        obtain ⟨q41_10, hc41_10, hf⟩ := bind_t hf
        refine X_Vv (qX11_alongX Z _ hc41_10) (Nat.le_of_ble_eq_true rfl) dX11_isSeen_41 lvX11_206 rfl rfl ob73 (Nat.le_of_ble_eq_true rfl) ?_
        refine T_ineg dX11_isSeen_44 ?_
        exact X_wk (WK.s (WK.s (WK.s (WK.n (WK.n WK.e))))) (J45 _ _ _ hf)
      · replace hf := ite_t c28_9 hf
        refine T_aload dX11_isSeen_31 rfl ?_
        refine T_iload dX11_isSeen_32 rfl ?_
        obtain ⟨q33_11, hc33_11, hf⟩ := bind_t hf
        refine X_Vv (qX11_alongY Z _ hc33_11) (Nat.le_of_ble_eq_true rfl) dX11_isSeen_33 lvX11_203 rfl rfl ob73 (Nat.le_of_ble_eq_true rfl) ?_
        refine T_goto dX11_isSeen_36 ?_
        exact X_wk (WK.s (WK.s (WK.s (WK.n (WK.n WK.e))))) (J45 _ _ _ hf)
    · replace hf := ite_t c15_8 hf
      refine T_aload dX11_isSeen_18 rfl ?_
      refine T_iload dX11_isSeen_19 rfl ?_
      obtain ⟨q20_12, hc20_12, hf⟩ := bind_t hf
      refine X_Vv (qX11_alongX Z _ hc20_12) (Nat.le_of_ble_eq_true rfl) dX11_isSeen_20 lvX11_206 rfl rfl ob73 (Nat.le_of_ble_eq_true rfl) ?_
      refine T_goto dX11_isSeen_23 ?_
      exact X_wk (WK.s (WK.s (WK.s (WK.n (WK.n WK.e))))) (J45 _ _ _ hf)
  · replace hf := ite_t c1_7 hf
    refine T_aload dX11_isSeen_4 rfl ?_
    refine T_iload dX11_isSeen_5 rfl ?_
    obtain ⟨q6_13, hc6_13, hf⟩ := bind_t hf
    refine X_Vv (qX11_alongY Z _ hc6_13) (Nat.le_of_ble_eq_true rfl) dX11_isSeen_6 lvX11_203 rfl rfl ob73 (Nat.le_of_ble_eq_true rfl) ?_
    refine T_ineg dX11_isSeen_9 ?_
    refine T_goto dX11_isSeen_10 ?_
    exact X_wk (WK.s (WK.s (WK.s (WK.n (WK.n WK.e))))) (J45 _ _ _ hf)
noncomputable def jX11_drawsOf_243 (x : aH) (l2 : Int32) : Option (Int32 × aH) := if (0 : Int32) ≤ l2 then if l2 ≤ (9 : Int32) then some (l2, x) else some ((9 : Int32), x) else some ((0 : Int32), x)
noncomputable def jX11_drawsOf_131 (ih : Int32 → Int32 → Int32 → Option (Int32 × Int32)) (x : aH) (l1 : Int32) (l3 : Int32) (l5 : Int32) (s0 : Int32) (s1 : Int32) : Option (Int32 × Int32) := ih l3 (s0 + s1) (l5 + (1 : Int32))
noncomputable def jX11_drawsOf_94 (ih : Int32 → Int32 → Int32 → Option (Int32 × Int32)) (x : aH) (l1 : Int32) (l4 : Int32) (l5 : Int32) (s0 : Int32) (s1 : Int32) : Option (Int32 × Int32) := if (0 : Int32) ≤ ((10 : Int32) + l5) ∧ ((10 : Int32) + l5) < (172 : Int32) then if (0 : Int32) ≤ ((10 : Int32) + l1) ∧ ((10 : Int32) + l1) < (172 : Int32) then if (ri x 74 (ix ((10 : Int32) + l5))) = (ri x 74 (ix ((10 : Int32) + l1))) then if (0 : Int32) ≤ l5 ∧ l5 < (10 : Int32) then jX11_drawsOf_131 ih x l1 (s0 + s1) l5 l4 (ri x 82 (ix l5)) else none else jX11_drawsOf_131 ih x l1 (s0 + s1) l5 l4 (0 : Int32) else none else none
noncomputable def jX11_drawsOf_93 (ih : Int32 → Int32 → Int32 → Option (Int32 × Int32)) (x : aH) (l1 : Int32) (l4 : Int32) (l5 : Int32) (s0 : Int32) : Option (Int32 × Int32) := jX11_drawsOf_94 ih x l1 l4 l5 s0 (0 : Int32)
noncomputable def sX11_drawsOf_47 (x : aH) (l1 : Int32) (ih : Int32 → Int32 → Int32 → Option (Int32 × Int32)) (l3 : Int32) (l4 : Int32) (l5 : Int32) : Option (Int32 × Int32) := if (fi x 73 6) ≤ l5 then some (l3, l4) else if l5 = l1 then jX11_drawsOf_93 ih x l1 l4 l5 l3 else if (0 : Int32) ≤ l5 ∧ l5 < (10 : Int32) then if (ri x 82 (ix l5)) = (0 : Int32) then if (0 : Int32) ≤ l5 ∧ l5 < (10 : Int32) then if (0 : Int32) ≤ l1 ∧ l1 < (10 : Int32) then if (ri x 81 (ix l5)) = (ri x 81 (ix l1)) then jX11_drawsOf_94 ih x l1 l4 l5 l3 (1 : Int32) else jX11_drawsOf_93 ih x l1 l4 l5 l3 else none else none else jX11_drawsOf_93 ih x l1 l4 l5 l3 else none
noncomputable def wX11_drawsOf_47 (x : aH) (l1 : Int32) : Nat → Int32 → Int32 → Int32 → Option (Int32 × Int32)
  | 0 => fun _ _ _ => none
  | n + 1 => sX11_drawsOf_47 x l1 (wX11_drawsOf_47 x l1 n)
noncomputable def jX11_drawsOf_208 (x : aH) (l3 : Int32) (l4 : Int32) : Option (Int32 × aH) := (fX11_workOut (sri (sri (sri x 80 (ix (3 : Int32)) l3) 80 (ix (4 : Int32)) l4) 80 (ix (5 : Int32)) (fi (sri (sri x 80 (ix (3 : Int32)) l3) 80 (ix (4 : Int32)) l4) 73 19)) (0 : Int32) (fi (sri (sri (sri x 80 (ix (3 : Int32)) l3) 80 (ix (4 : Int32)) l4) 80 (ix (5 : Int32)) (fi (sri (sri x 80 (ix (3 : Int32)) l3) 80 (ix (4 : Int32)) l4) 73 19)) 73 10)).bind fun q239_28 => jX11_drawsOf_243 q239_28.2 q239_28.1
noncomputable def fX11_drawsOf (x : aH) (p1 : Int32) : Option (Int32 × aH) := if (0 : Int32) ≤ p1 ∧ p1 < (10 : Int32) then if (0 : Int32) ≤ ((40 : Int32) + (ri x 81 (ix p1))) ∧ ((40 : Int32) + (ri x 81 (ix p1))) < (172 : Int32) then if (0 : Int32) ≤ ((20 : Int32) + p1) ∧ ((20 : Int32) + p1) < (172 : Int32) then if (fi x 73 10) < (0 : Int32) then jX11_drawsOf_243 x (((6 : Int32) - ((ri x 74 (ix ((40 : Int32) + (ri x 81 (ix p1))))) / (2 : Int32))) - ((ri x 74 (ix ((20 : Int32) + p1))) / (3 : Int32))) else (wX11_drawsOf_47 x p1 2000 (0 : Int32) (0 : Int32) (0 : Int32)).bind fun q47_18 => if (0 : Int32) ≤ p1 ∧ p1 < (10 : Int32) then (fX11_alongX x (ri x 81 (ix p1))).bind fun q152_20 => (fX11_sizeOf q152_20).bind fun q155_21 => if (0 : Int32) ≤ p1 ∧ p1 < (10 : Int32) then (fX11_alongY x (ri x 81 (ix p1))).bind fun q165_23 => (fX11_sizeOf q165_23).bind fun q168_24 => if (0 : Int32) ≤ p1 ∧ p1 < (10 : Int32) then if (0 : Int32) ≤ ((40 : Int32) + (ri (sri x 80 (ix (0 : Int32)) (q155_21 + q168_24)) 81 (ix p1))) ∧ ((40 : Int32) + (ri (sri x 80 (ix (0 : Int32)) (q155_21 + q168_24)) 81 (ix p1))) < (172 : Int32) then if (0 : Int32) ≤ ((20 : Int32) + p1) ∧ ((20 : Int32) + p1) < (172 : Int32) then jX11_drawsOf_208 (sri (sri (sri x 80 (ix (0 : Int32)) (q155_21 + q168_24)) 80 (ix (1 : Int32)) (ri (sri x 80 (ix (0 : Int32)) (q155_21 + q168_24)) 74 (ix ((40 : Int32) + (ri (sri x 80 (ix (0 : Int32)) (q155_21 + q168_24)) 81 (ix p1)))))) 80 (ix (2 : Int32)) (ri (sri (sri x 80 (ix (0 : Int32)) (q155_21 + q168_24)) 80 (ix (1 : Int32)) (ri (sri x 80 (ix (0 : Int32)) (q155_21 + q168_24)) 74 (ix ((40 : Int32) + (ri (sri x 80 (ix (0 : Int32)) (q155_21 + q168_24)) 81 (ix p1)))))) 74 (ix ((20 : Int32) + p1)))) q47_18.1 q47_18.2 else none else none else none else none else none else none else none else none
theorem lX11_drawsOf_47 (Z : aZ) (y : aH) (x : aH) (l1 : Int32) {Q : Option Value → aH → Prop} {R : (Int32 × Int32)} : ∀ (n : Nat) (l3 : Int32) (l4 : Int32) (l5 : Int32), wX11_drawsOf_47 x l1 n l3 l4 l5 = some R → (∀ q, R = q → TX false Z mX11_drawsOf 67 y x Q 140 [.ref 73, .int l1, .null, .int (q.1), .int (q.2), .null] []) → TX false Z mX11_drawsOf 67 y x Q 47 [.ref 73, .int l1, .null, .int l3, .int l4, .int l5] [] := by
  intro n
  induction n with
  | zero => intro l3 l4 l5 hf; cases hf
  | succ n ih =>
    intro l3 l4 l5 hf ke
    replace hf : sX11_drawsOf_47 x l1 (wX11_drawsOf_47 x l1 n) l3 l4 l5 = some R := hf
    delta sX11_drawsOf_47 at hf
    refine T_iload dX11_drawsOf_47 rfl ?_
    refine T_aload dX11_drawsOf_49 rfl ?_
    refine X_getf dX11_drawsOf_50 lfX11_93 rfl ob73 ?_
    refine T_icmp_ge dX11_drawsOf_53 (fun c53_7 => ?_) (fun c53_7 => ?_)
    · replace hf := ite_t c53_7 hf
      exact X_wk (WK.s (WK.s (WK.n (WK.s (WK.s (WK.n WK.e)))))) (ke (l3, l4) (Option.some.inj hf).symm)
    · replace hf := ite_f c53_7 hf
      refine T_iload dX11_drawsOf_56 rfl ?_
      refine T_iload dX11_drawsOf_57 rfl ?_
      refine T_iload dX11_drawsOf_59 rfl ?_
      have J94 : ∀ (l4 : Int32) (l5 : Int32) (s0 : Int32) (s1 : Int32), jX11_drawsOf_94 (wX11_drawsOf_47 x l1 n) x l1 l4 l5 s0 s1 = some R → TX false Z mX11_drawsOf 67 y x Q 94 [.ref 73, .int l1, .null, .null, .int l4, .int l5] [.int s1, .int s0] := by
        intro l4 l5 s0 s1 hf
        delta jX11_drawsOf_94 at hf
        refine T_iadd dX11_drawsOf_94 ?_
        refine T_istore dX11_drawsOf_95 ?_
        show TX _ _ _ _ _ _ _ _ [_, _, _, _, _, _] _
        refine T_iload dX11_drawsOf_96 rfl ?_
        refine T_aload dX11_drawsOf_98 rfl ?_
        refine X_getr dX11_drawsOf_99 lfX11_9 rfl ob73 rfl ?_
        refine T_const dX11_drawsOf_102 ?_
        refine T_iload dX11_drawsOf_104 rfl ?_
        refine T_iadd dX11_drawsOf_106 ?_
        obtain ⟨hb107_8, hf⟩ := opt_t hf
        refine X_iald (N := 172) dX11_drawsOf_107 ar74 rfl hb107_8 ?_
        refine T_aload dX11_drawsOf_108 rfl ?_
        refine X_getr dX11_drawsOf_109 lfX11_9 rfl ob73 rfl ?_
        refine T_const dX11_drawsOf_112 ?_
        refine T_iload dX11_drawsOf_114 rfl ?_
        refine T_iadd dX11_drawsOf_115 ?_
        obtain ⟨hb116_9, hf⟩ := opt_t hf
        refine X_iald (N := 172) dX11_drawsOf_116 ar74 rfl hb116_9 ?_
        have J131 : ∀ (l3 : Int32) (l5 : Int32) (s0 : Int32) (s1 : Int32), jX11_drawsOf_131 (wX11_drawsOf_47 x l1 n) x l1 l3 l5 s0 s1 = some R → TX false Z mX11_drawsOf 67 y x Q 131 [.ref 73, .int l1, .null, .int l3, .null, .int l5] [.int s1, .int s0] := by
          intro l3 l5 s0 s1 hf
          delta jX11_drawsOf_131 at hf
          refine T_iadd dX11_drawsOf_131 ?_
          refine T_istore dX11_drawsOf_132 ?_
          show TX _ _ _ _ _ _ _ _ [_, _, _, _, _, _] _
          refine T_iinc dX11_drawsOf_134 rfl ?_
          show TX _ _ _ _ _ _ _ _ [_, _, _, _, _, _] _
          refine T_goto dX11_drawsOf_137 ?_
          exact X_wk (WK.s (WK.s (WK.n (WK.s (WK.s (WK.s WK.e)))))) (ih _ _ _ hf ke)
        refine T_icmp_ne dX11_drawsOf_117 (fun c117_10 => ?_) (fun c117_10 => ?_)
        · replace hf := ite_f c117_10 hf
          refine T_const dX11_drawsOf_130 ?_
          exact X_wk (WK.s (WK.s (WK.n (WK.s (WK.n (WK.s WK.e)))))) (J131 _ _ _ _ hf)
        · replace hf := ite_t c117_10 hf
          refine T_aload dX11_drawsOf_120 rfl ?_
          refine X_getr dX11_drawsOf_121 lfX11_34 rfl ob73 rfl ?_
          refine T_iload dX11_drawsOf_124 rfl ?_
          obtain ⟨hb126_11, hf⟩ := opt_t hf
          refine X_iald (N := 10) dX11_drawsOf_126 ar82 rfl hb126_11 ?_
          refine T_goto dX11_drawsOf_127 ?_
          exact X_wk (WK.s (WK.s (WK.n (WK.s (WK.n (WK.s WK.e)))))) (J131 _ _ _ _ hf)
      have J93 : ∀ (l4 : Int32) (l5 : Int32) (s0 : Int32), jX11_drawsOf_93 (wX11_drawsOf_47 x l1 n) x l1 l4 l5 s0 = some R → TX false Z mX11_drawsOf 67 y x Q 93 [.ref 73, .int l1, .null, .null, .int l4, .int l5] [.int s0] := by
        intro l4 l5 s0 hf
        delta jX11_drawsOf_93 at hf
        refine T_const dX11_drawsOf_93 ?_
        exact X_wk (WK.s (WK.s (WK.n (WK.n (WK.s (WK.s WK.e)))))) (J94 _ _ _ _ hf)
      refine T_icmp_eq dX11_drawsOf_60 (fun c60_12 => ?_) (fun c60_12 => ?_)
      · replace hf := ite_t c60_12 hf
        exact X_wk (WK.s (WK.s (WK.n (WK.n (WK.s (WK.s WK.e)))))) (J93 _ _ _ hf)
      · replace hf := ite_f c60_12 hf
        refine T_aload dX11_drawsOf_63 rfl ?_
        refine X_getr dX11_drawsOf_64 lfX11_34 rfl ob73 rfl ?_
        refine T_iload dX11_drawsOf_67 rfl ?_
        obtain ⟨hb69_13, hf⟩ := opt_t hf
        refine X_iald (N := 10) dX11_drawsOf_69 ar82 rfl hb69_13 ?_
        refine T_if_ne dX11_drawsOf_70 (fun c70_14 => ?_) (fun c70_14 => ?_)
        · replace hf := ite_f c70_14 hf
          exact X_wk (WK.s (WK.s (WK.n (WK.n (WK.s (WK.s WK.e)))))) (J93 _ _ _ hf)
        · replace hf := ite_t c70_14 hf
          refine T_aload dX11_drawsOf_73 rfl ?_
          refine X_getr dX11_drawsOf_74 lfX11_31 rfl ob73 rfl ?_
          refine T_iload dX11_drawsOf_77 rfl ?_
          obtain ⟨hb79_15, hf⟩ := opt_t hf
          refine X_iald (N := 10) dX11_drawsOf_79 ar81 rfl hb79_15 ?_
          refine T_aload dX11_drawsOf_80 rfl ?_
          refine X_getr dX11_drawsOf_81 lfX11_31 rfl ob73 rfl ?_
          refine T_iload dX11_drawsOf_84 rfl ?_
          obtain ⟨hb85_16, hf⟩ := opt_t hf
          refine X_iald (N := 10) dX11_drawsOf_85 ar81 rfl hb85_16 ?_
          refine T_icmp_ne dX11_drawsOf_86 (fun c86_17 => ?_) (fun c86_17 => ?_)
          · replace hf := ite_f c86_17 hf
            exact X_wk (WK.s (WK.s (WK.n (WK.n (WK.s (WK.s WK.e)))))) (J93 _ _ _ hf)
          · replace hf := ite_t c86_17 hf
            refine T_const dX11_drawsOf_89 ?_
            refine T_goto dX11_drawsOf_90 ?_
            exact X_wk (WK.s (WK.s (WK.n (WK.n (WK.s (WK.s WK.e)))))) (J94 _ _ _ _ hf)
theorem qX11_drawsOf (Z : aZ) (y : aH) {x : aH} {p1 : Int32} {q : (Int32 × aH)} (hf : fX11_drawsOf x p1 = some q) : CX false Z mX11_drawsOf 67 [.ref 73, .int p1] y x (RV (.int q.1) q.2) := by
  refine CX.of mokX11_drawsOf (Nat.le_of_ble_eq_true rfl) ?_
  show TX _ _ _ _ _ _ _ _ [_, _, _, _, _, _] _
  delta fX11_drawsOf at hf
  refine T_const dX11_drawsOf_0 ?_
  refine T_aload dX11_drawsOf_2 rfl ?_
  refine X_getr dX11_drawsOf_3 lfX11_9 rfl ob73 rfl ?_
  refine T_const dX11_drawsOf_6 ?_
  refine T_aload dX11_drawsOf_8 rfl ?_
  refine X_getr dX11_drawsOf_9 lfX11_31 rfl ob73 rfl ?_
  refine T_iload dX11_drawsOf_12 rfl ?_
  obtain ⟨hb13_1, hf⟩ := opt_t hf
  refine X_iald (N := 10) dX11_drawsOf_13 ar81 rfl hb13_1 ?_
  refine T_iadd dX11_drawsOf_14 ?_
  obtain ⟨hb15_2, hf⟩ := opt_t hf
  refine X_iald (N := 172) dX11_drawsOf_15 ar74 rfl hb15_2 ?_
  refine T_const dX11_drawsOf_16 ?_
  refine T_idiv dX11_drawsOf_17 (by decide) ?_
  refine T_isub dX11_drawsOf_18 ?_
  refine T_aload dX11_drawsOf_19 rfl ?_
  refine X_getr dX11_drawsOf_20 lfX11_9 rfl ob73 rfl ?_
  refine T_const dX11_drawsOf_23 ?_
  refine T_iload dX11_drawsOf_25 rfl ?_
  refine T_iadd dX11_drawsOf_26 ?_
  obtain ⟨hb27_3, hf⟩ := opt_t hf
  refine X_iald (N := 172) dX11_drawsOf_27 ar74 rfl hb27_3 ?_
  refine T_const dX11_drawsOf_28 ?_
  refine T_idiv dX11_drawsOf_29 (by decide) ?_
  refine T_isub dX11_drawsOf_30 ?_
  refine T_istore dX11_drawsOf_31 ?_
  show TX _ _ _ _ _ _ _ _ [_, _, _, _, _, _] _
  refine T_aload dX11_drawsOf_32 rfl ?_
  refine X_getf dX11_drawsOf_33 lfX11_83 rfl ob73 ?_
  have J243 : ∀ (x : aH) (l2 : Int32), jX11_drawsOf_243 x l2 = some q → TX false Z mX11_drawsOf 67 y x (RV (.int q.1) q.2) 243 [.null, .null, .int l2, .null, .null, .null] [] := by
    intro x l2 hf
    delta jX11_drawsOf_243 at hf
    refine T_iload dX11_drawsOf_243 rfl ?_
    refine T_if_ge dX11_drawsOf_244 (fun c244_4 => ?_) (fun c244_4 => ?_)
    · replace hf := ite_t c244_4 hf
      refine T_iload dX11_drawsOf_251 rfl ?_
      refine T_const dX11_drawsOf_252 ?_
      refine T_icmp_le dX11_drawsOf_254 (fun c254_5 => ?_) (fun c254_5 => ?_)
      · replace hf := ite_t c254_5 hf
        refine T_iload dX11_drawsOf_262 rfl ?_
        obtain rfl := Option.some.inj hf
        exact X_ri dX11_drawsOf_263 ⟨rfl, rfl⟩
      · replace hf := ite_f c254_5 hf
        refine T_const dX11_drawsOf_257 ?_
        refine T_goto dX11_drawsOf_259 ?_
        obtain rfl := Option.some.inj hf
        exact X_ri dX11_drawsOf_263 ⟨rfl, rfl⟩
    · replace hf := ite_f c244_4 hf
      refine T_const dX11_drawsOf_247 ?_
      refine T_goto dX11_drawsOf_248 ?_
      obtain rfl := Option.some.inj hf
      exact X_ri dX11_drawsOf_263 ⟨rfl, rfl⟩
  refine T_if_lt dX11_drawsOf_36 (fun c36_6 => ?_) (fun c36_6 => ?_)
  · replace hf := ite_t c36_6 hf
    exact X_wk (WK.n (WK.n (WK.s (WK.n (WK.n (WK.n WK.e)))))) (J243 _ _ hf)
  · replace hf := ite_f c36_6 hf
    refine T_const dX11_drawsOf_39 ?_
    refine T_istore dX11_drawsOf_40 ?_
    show TX _ _ _ _ _ _ _ _ [_, _, _, _, _, _] _
    refine T_const dX11_drawsOf_41 ?_
    refine T_istore dX11_drawsOf_42 ?_
    show TX _ _ _ _ _ _ _ _ [_, _, _, _, _, _] _
    refine T_const dX11_drawsOf_44 ?_
    refine T_istore dX11_drawsOf_45 ?_
    show TX _ _ _ _ _ _ _ _ [_, _, _, _, _, _] _
    obtain ⟨q47_18, hc47_18, hf⟩ := bind_t hf
    refine X_wk (WK.s (WK.s (WK.n (WK.s (WK.s (WK.s WK.e)))))) (lX11_drawsOf_47 Z _ _ _ 2000 _ _ _ hc47_18 ?_)
    intro q47_18z hr
    subst hr
    refine T_aload dX11_drawsOf_140 rfl ?_
    refine X_getr dX11_drawsOf_141 lfX11_28 rfl ob73 rfl ?_
    refine T_const dX11_drawsOf_144 ?_
    refine T_aload dX11_drawsOf_145 rfl ?_
    refine T_aload dX11_drawsOf_146 rfl ?_
    refine X_getr dX11_drawsOf_147 lfX11_31 rfl ob73 rfl ?_
    refine T_iload dX11_drawsOf_150 rfl ?_
    obtain ⟨hb151_19, hf⟩ := opt_t hf
    refine X_iald (N := 10) dX11_drawsOf_151 ar81 rfl hb151_19 ?_
    obtain ⟨q152_20, hc152_20, hf⟩ := bind_t hf
    refine X_Vv (qX11_alongX Z _ hc152_20) (Nat.le_of_ble_eq_true rfl) dX11_drawsOf_152 lvX11_206 rfl rfl ob73 (Nat.le_of_ble_eq_true rfl) ?_
    obtain ⟨q155_21, hc155_21, hf⟩ := bind_t hf
    refine X_Sv (qX11_sizeOf _ Z _ _ hc155_21) (Nat.le_of_ble_eq_true rfl) dX11_drawsOf_155 lsX11_209 rfl rfl (Nat.le_of_ble_eq_true rfl) ?_
    refine T_aload dX11_drawsOf_158 rfl ?_
    refine T_aload dX11_drawsOf_159 rfl ?_
    refine X_getr dX11_drawsOf_160 lfX11_31 rfl ob73 rfl ?_
    refine T_iload dX11_drawsOf_163 rfl ?_
    obtain ⟨hb164_22, hf⟩ := opt_t hf
    refine X_iald (N := 10) dX11_drawsOf_164 ar81 rfl hb164_22 ?_
    obtain ⟨q165_23, hc165_23, hf⟩ := bind_t hf
    refine X_Vv (qX11_alongY Z _ hc165_23) (Nat.le_of_ble_eq_true rfl) dX11_drawsOf_165 lvX11_203 rfl rfl ob73 (Nat.le_of_ble_eq_true rfl) ?_
    obtain ⟨q168_24, hc168_24, hf⟩ := bind_t hf
    refine X_Sv (qX11_sizeOf _ Z _ _ hc168_24) (Nat.le_of_ble_eq_true rfl) dX11_drawsOf_168 lsX11_209 rfl rfl (Nat.le_of_ble_eq_true rfl) ?_
    refine T_iadd dX11_drawsOf_171 ?_
    refine X_iast (N := 6) dX11_drawsOf_172 ar80 rfl (by decide) ?_
    refine T_aload dX11_drawsOf_173 rfl ?_
    refine X_getr dX11_drawsOf_174 lfX11_28 rfl ob73 rfl ?_
    refine T_const dX11_drawsOf_177 ?_
    refine T_aload dX11_drawsOf_178 rfl ?_
    refine X_getr dX11_drawsOf_179 lfX11_9 rfl ob73 rfl ?_
    refine T_const dX11_drawsOf_182 ?_
    refine T_aload dX11_drawsOf_184 rfl ?_
    refine X_getr dX11_drawsOf_185 lfX11_31 rfl ob73 rfl ?_
    refine T_iload dX11_drawsOf_188 rfl ?_
    obtain ⟨hb189_25, hf⟩ := opt_t hf
    refine X_iald (N := 10) dX11_drawsOf_189 ar81 rfl hb189_25 ?_
    refine T_iadd dX11_drawsOf_190 ?_
    obtain ⟨hb191_26, hf⟩ := opt_t hf
    refine X_iald (N := 172) dX11_drawsOf_191 ar74 rfl hb191_26 ?_
    refine X_iast (N := 6) dX11_drawsOf_192 ar80 rfl (by decide) ?_
    refine T_aload dX11_drawsOf_193 rfl ?_
    refine X_getr dX11_drawsOf_194 lfX11_28 rfl ob73 rfl ?_
    refine T_const dX11_drawsOf_197 ?_
    refine T_aload dX11_drawsOf_198 rfl ?_
    refine X_getr dX11_drawsOf_199 lfX11_9 rfl ob73 rfl ?_
    refine T_const dX11_drawsOf_202 ?_
    refine T_iload dX11_drawsOf_204 rfl ?_
    refine T_iadd dX11_drawsOf_205 ?_
    obtain ⟨hb206_27, hf⟩ := opt_t hf
    refine X_iald (N := 172) dX11_drawsOf_206 ar74 rfl hb206_27 ?_
    refine X_iast (N := 6) dX11_drawsOf_207 ar80 rfl (by decide) ?_
    have J208 : ∀ (x : aH) (l3 : Int32) (l4 : Int32), jX11_drawsOf_208 x l3 l4 = some q → TX false Z mX11_drawsOf 67 y x (RV (.int q.1) q.2) 208 [.ref 73, .null, .null, .int l3, .int l4, .null] [] := by
      intro x l3 l4 hf
      delta jX11_drawsOf_208 at hf
      refine T_aload dX11_drawsOf_208 rfl ?_
      refine X_getr dX11_drawsOf_209 lfX11_28 rfl ob73 rfl ?_
      refine T_const dX11_drawsOf_212 ?_
      refine T_iload dX11_drawsOf_213 rfl ?_
      refine X_iast (N := 6) dX11_drawsOf_214 ar80 rfl (by decide) ?_
      refine T_aload dX11_drawsOf_215 rfl ?_
      refine X_getr dX11_drawsOf_216 lfX11_28 rfl ob73 rfl ?_
      refine T_const dX11_drawsOf_219 ?_
      refine T_iload dX11_drawsOf_220 rfl ?_
      refine X_iast (N := 6) dX11_drawsOf_222 ar80 rfl (by decide) ?_
      refine T_aload dX11_drawsOf_223 rfl ?_
      refine X_getr dX11_drawsOf_224 lfX11_28 rfl ob73 rfl ?_
      refine T_const dX11_drawsOf_227 ?_
      refine T_aload dX11_drawsOf_228 rfl ?_
      refine X_getf dX11_drawsOf_229 lfX11_200 rfl ob73 ?_
      refine X_iast (N := 6) dX11_drawsOf_232 ar80 rfl (by decide) ?_
      refine T_aload dX11_drawsOf_233 rfl ?_
      refine T_const dX11_drawsOf_234 ?_
      refine T_aload dX11_drawsOf_235 rfl ?_
      refine X_getf dX11_drawsOf_236 lfX11_83 rfl ob73 ?_
      obtain ⟨q239_28, hc239_28, hf⟩ := bind_t hf
      refine X_Vv (qX11_workOut Z _ hc239_28) (Nat.le_of_ble_eq_true rfl) dX11_drawsOf_239 lvX11_197 rfl rfl ob73 (Nat.le_of_ble_eq_true rfl) ?_
      refine T_istore dX11_drawsOf_242 ?_
      show TX _ _ _ _ _ _ _ _ [_, _, _, _, _, _] _
      exact X_wk (WK.n (WK.n (WK.s (WK.n (WK.n (WK.n WK.e)))))) (J243 _ _ hf)
    exact X_wk (WK.s (WK.n (WK.n (WK.s (WK.s (WK.n WK.e)))))) (J208 _ _ _ hf)
noncomputable def jX11_driftsTo_57 (x : aH) (l1 : Int32) (l3 : Int32) (s0 : Int32) (s1 : Int32) : Option Int32 := (fX11_within (Int32.toInt64 l3) (0 : Int64) (7 : Int64)).bind fun q66_2 => if q66_2 = (0 : Int32) then some l1 else (fX11_within (Int32.toInt64 (s0 + s1)) (0 : Int64) (7 : Int64)).bind fun q79_4 => if q79_4 = (0 : Int32) then some l1 else some (((8 : Int32) * (s0 + s1)) + l3)
noncomputable def jX11_driftsTo_33 (x : aH) (l1 : Int32) (l2 : Int32) (s0 : Int32) (s1 : Int32) : Option Int32 := if l2 = (0 : Int32) then jX11_driftsTo_57 x l1 (s0 + s1) (l1 / (8 : Int32)) (-1 : Int32) else if l2 = (2 : Int32) then jX11_driftsTo_57 x l1 (s0 + s1) (l1 / (8 : Int32)) (1 : Int32) else jX11_driftsTo_57 x l1 (s0 + s1) (l1 / (8 : Int32)) (0 : Int32)
noncomputable def fX11_driftsTo (x : aH) (p1 : Int32) : Option Int32 := if (0 : Int32) ≤ ((104 : Int32) + p1) ∧ ((104 : Int32) + p1) < (172 : Int32) then if (ri x 74 (ix ((104 : Int32) + p1))) = (1 : Int32) then jX11_driftsTo_33 x p1 (ri x 74 (ix ((104 : Int32) + p1))) (p1 - p1 / (8 : Int32) * (8 : Int32)) (1 : Int32) else if (ri x 74 (ix ((104 : Int32) + p1))) = (3 : Int32) then jX11_driftsTo_33 x p1 (ri x 74 (ix ((104 : Int32) + p1))) (p1 - p1 / (8 : Int32) * (8 : Int32)) (-1 : Int32) else jX11_driftsTo_33 x p1 (ri x 74 (ix ((104 : Int32) + p1))) (p1 - p1 / (8 : Int32) * (8 : Int32)) (0 : Int32) else none
theorem qX11_driftsTo (Z : aZ) (y : aH) {x : aH} {p1 : Int32} {q : Int32} (hf : fX11_driftsTo x p1 = some q) : CX false Z mX11_driftsTo 1 [.ref 73, .int p1] y x (RV (.int q) x) := by
  refine CX.of mokX11_driftsTo (Nat.le_of_ble_eq_true rfl) ?_
  show TX _ _ _ _ _ _ _ _ [_, _, _, _, _] _
  delta fX11_driftsTo at hf
  refine T_aload dX11_driftsTo_0 rfl ?_
  refine X_getr dX11_driftsTo_1 lfX11_9 rfl ob73 rfl ?_
  refine T_const dX11_driftsTo_4 ?_
  refine T_iload dX11_driftsTo_6 rfl ?_
  refine T_iadd dX11_driftsTo_7 ?_
  obtain ⟨hb8_1, hf⟩ := opt_t hf
  refine X_iald (N := 172) dX11_driftsTo_8 ar74 rfl hb8_1 ?_
  refine T_istore dX11_driftsTo_9 ?_
  show TX _ _ _ _ _ _ _ _ [_, _, _, _, _] _
  refine T_iload dX11_driftsTo_10 rfl ?_
  refine T_const dX11_driftsTo_11 ?_
  refine T_irem dX11_driftsTo_13 (by decide) ?_
  refine T_iload dX11_driftsTo_14 rfl ?_
  refine T_const dX11_driftsTo_15 ?_
  have J33 : ∀ (l1 : Int32) (l2 : Int32) (s0 : Int32) (s1 : Int32), jX11_driftsTo_33 x l1 l2 s0 s1 = some q → TX false Z mX11_driftsTo 1 y x (RV (.int q) x) 33 [.null, .int l1, .int l2, .null, .null] [.int s1, .int s0] := by
    intro l1 l2 s0 s1 hf
    delta jX11_driftsTo_33 at hf
    refine T_iadd dX11_driftsTo_33 ?_
    refine T_istore dX11_driftsTo_34 ?_
    show TX _ _ _ _ _ _ _ _ [_, _, _, _, _] _
    refine T_iload dX11_driftsTo_35 rfl ?_
    refine T_const dX11_driftsTo_36 ?_
    refine T_idiv dX11_driftsTo_38 (by decide) ?_
    refine T_iload dX11_driftsTo_39 rfl ?_
    have J57 : ∀ (l1 : Int32) (l3 : Int32) (s0 : Int32) (s1 : Int32), jX11_driftsTo_57 x l1 l3 s0 s1 = some q → TX false Z mX11_driftsTo 1 y x (RV (.int q) x) 57 [.null, .int l1, .null, .int l3, .null] [.int s1, .int s0] := by
      intro l1 l3 s0 s1 hf
      delta jX11_driftsTo_57 at hf
      refine T_iadd dX11_driftsTo_57 ?_
      refine T_istore dX11_driftsTo_58 ?_
      show TX _ _ _ _ _ _ _ _ [_, _, _, _, _] _
      refine T_iload dX11_driftsTo_60 rfl ?_
      refine T_i2l dX11_driftsTo_61 ?_
      refine T_constL dX11_driftsTo_62 ?_
      refine T_constL dX11_driftsTo_63 ?_
      obtain ⟨q66_2, hc66_2, hf⟩ := bind_t hf
      refine X_Sv (qX11_within _ Z _ _ hc66_2) (Nat.le_of_ble_eq_true rfl) dX11_driftsTo_66 lsX11_96 rfl rfl (Nat.le_of_ble_eq_true rfl) ?_
      refine T_if_eq dX11_driftsTo_69 (fun c69_3 => ?_) (fun c69_3 => ?_)
      · replace hf := ite_t c69_3 hf
        refine T_iload dX11_driftsTo_95 rfl ?_
        obtain rfl := Option.some.inj hf
        exact X_ri dX11_driftsTo_96 ⟨rfl, rfl⟩
      · replace hf := ite_f c69_3 hf
        refine T_iload dX11_driftsTo_72 rfl ?_
        refine T_i2l dX11_driftsTo_74 ?_
        refine T_constL dX11_driftsTo_75 ?_
        refine T_constL dX11_driftsTo_76 ?_
        obtain ⟨q79_4, hc79_4, hf⟩ := bind_t hf
        refine X_Sv (qX11_within _ Z _ _ hc79_4) (Nat.le_of_ble_eq_true rfl) dX11_driftsTo_79 lsX11_96 rfl rfl (Nat.le_of_ble_eq_true rfl) ?_
        refine T_if_eq dX11_driftsTo_82 (fun c82_5 => ?_) (fun c82_5 => ?_)
        · replace hf := ite_t c82_5 hf
          refine T_iload dX11_driftsTo_95 rfl ?_
          obtain rfl := Option.some.inj hf
          exact X_ri dX11_driftsTo_96 ⟨rfl, rfl⟩
        · replace hf := ite_f c82_5 hf
          refine T_const dX11_driftsTo_85 ?_
          refine T_iload dX11_driftsTo_87 rfl ?_
          refine T_imul dX11_driftsTo_89 ?_
          refine T_iload dX11_driftsTo_90 rfl ?_
          refine T_iadd dX11_driftsTo_91 ?_
          refine T_goto dX11_driftsTo_92 ?_
          obtain rfl := Option.some.inj hf
          exact X_ri dX11_driftsTo_96 ⟨rfl, rfl⟩
    refine T_if_ne dX11_driftsTo_40 (fun c40_6 => ?_) (fun c40_6 => ?_)
    · replace hf := ite_f c40_6 hf
      refine T_iload dX11_driftsTo_47 rfl ?_
      refine T_const dX11_driftsTo_48 ?_
      refine T_icmp_ne dX11_driftsTo_49 (fun c49_7 => ?_) (fun c49_7 => ?_)
      · replace hf := ite_f c49_7 hf
        refine T_const dX11_driftsTo_56 ?_
        exact X_wk (WK.n (WK.s (WK.n (WK.s (WK.n WK.e))))) (J57 _ _ _ _ hf)
      · replace hf := ite_t c49_7 hf
        refine T_const dX11_driftsTo_52 ?_
        refine T_goto dX11_driftsTo_53 ?_
        exact X_wk (WK.n (WK.s (WK.n (WK.s (WK.n WK.e))))) (J57 _ _ _ _ hf)
    · replace hf := ite_t c40_6 hf
      refine T_const dX11_driftsTo_43 ?_
      refine T_goto dX11_driftsTo_44 ?_
      exact X_wk (WK.n (WK.s (WK.n (WK.s (WK.n WK.e))))) (J57 _ _ _ _ hf)
  refine T_icmp_ne dX11_driftsTo_16 (fun c16_8 => ?_) (fun c16_8 => ?_)
  · replace hf := ite_f c16_8 hf
    refine T_iload dX11_driftsTo_23 rfl ?_
    refine T_const dX11_driftsTo_24 ?_
    refine T_icmp_ne dX11_driftsTo_25 (fun c25_9 => ?_) (fun c25_9 => ?_)
    · replace hf := ite_f c25_9 hf
      refine T_const dX11_driftsTo_32 ?_
      exact X_wk (WK.n (WK.s (WK.s (WK.n (WK.n WK.e))))) (J33 _ _ _ _ hf)
    · replace hf := ite_t c25_9 hf
      refine T_const dX11_driftsTo_28 ?_
      refine T_goto dX11_driftsTo_29 ?_
      exact X_wk (WK.n (WK.s (WK.s (WK.n (WK.n WK.e))))) (J33 _ _ _ _ hf)
  · replace hf := ite_t c16_8 hf
    refine T_const dX11_driftsTo_19 ?_
    refine T_goto dX11_driftsTo_20 ?_
    exact X_wk (WK.n (WK.s (WK.s (WK.n (WK.n WK.e))))) (J33 _ _ _ _ hf)
