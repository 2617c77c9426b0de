noncomputable def fX11_within (p0 : Int64) (p2 : Int64) (p4 : Int64) : Option Int32 := if (lg_cmp p0 p2) < (0 : Int32) then some (0 : Int32) else if (0 : Int32) < (lg_cmp p0 p4) then some (0 : Int32) else some (1 : Int32)
theorem qX11_within (sd : Bool) (Z : aZ) (y : aH) (x : aH) {p0 : Int64} {p2 : Int64} {p4 : Int64} {q : Int32} (hf : fX11_within p0 p2 p4 = some q) : CX sd Z mX11_within 0 [.long p0, .long p2, .long p4] y x (RV (.int q) x) := by
  refine CX.of mokX11_within (Nat.le_of_ble_eq_true rfl) ?_
  show TX _ _ _ _ _ _ _ _ [_, _, _, _, _, _] _
  delta fX11_within at hf
  refine T_lload dX11_within_0 rfl ?_
  refine T_lload dX11_within_1 rfl ?_
  refine T_lcmp dX11_within_2 ?_
  refine T_if_lt dX11_within_3 (fun c3_1 => ?_) (fun c3_1 => ?_)
  · replace hf := ite_t c3_1 hf
    refine T_const dX11_within_17 ?_
    obtain rfl := Option.some.inj hf
    exact X_rz dX11_within_18 (by first | exact Or.inl rfl | exact Or.inr rfl) ⟨rfl, rfl⟩
  · replace hf := ite_f c3_1 hf
    refine T_lload dX11_within_6 rfl ?_
    refine T_lload dX11_within_7 rfl ?_
    refine T_lcmp dX11_within_9 ?_
    refine T_if_gt dX11_within_10 (fun c10_2 => ?_) (fun c10_2 => ?_)
    · replace hf := ite_t c10_2 hf
      refine T_const dX11_within_17 ?_
      obtain rfl := Option.some.inj hf
      exact X_rz dX11_within_18 (by first | exact Or.inl rfl | exact Or.inr rfl) ⟨rfl, rfl⟩
    · replace hf := ite_f c10_2 hf
      refine T_const dX11_within_13 ?_
      refine T_goto dX11_within_14 ?_
      obtain rfl := Option.some.inj hf
      exact X_rz dX11_within_18 (by first | exact Or.inl rfl | exact Or.inr rfl) ⟨rfl, rfl⟩
noncomputable def fX11_isIn (p0 : Int32) (p1 : Int32) : Option Int32 := if ((p0 >>> (p1 &&& 31)) &&& (1 : Int32)) = (1 : Int32) then some (1 : Int32) else some (0 : Int32)
theorem qX11_isIn (sd : Bool) (Z : aZ) (y : aH) (x : aH) {p0 : Int32} {p1 : Int32} {q : Int32} (hf : fX11_isIn p0 p1 = some q) : CX sd Z mX11_isIn 0 [.int p0, .int p1] y x (RV (.int q) x) := by
  refine CX.of mokX11_isIn (Nat.le_of_ble_eq_true rfl) ?_
  show TX _ _ _ _ _ _ _ _ [_, _] _
  delta fX11_isIn at hf
  refine T_iload dX11_isIn_0 rfl ?_
  refine T_iload dX11_isIn_1 rfl ?_
  refine T_ishr dX11_isIn_2 ?_
  refine T_const dX11_isIn_3 ?_
  refine T_iand dX11_isIn_4 ?_
  refine T_const dX11_isIn_5 ?_
  refine T_icmp_ne dX11_isIn_6 (fun c6_1 => ?_) (fun c6_1 => ?_)
  · replace hf := ite_f c6_1 hf
    refine T_const dX11_isIn_13 ?_
    obtain rfl := Option.some.inj hf
    exact X_rz dX11_isIn_14 (by first | exact Or.inl rfl | exact Or.inr rfl) ⟨rfl, rfl⟩
  · replace hf := ite_t c6_1 hf
    refine T_const dX11_isIn_9 ?_
    refine T_goto dX11_isIn_10 ?_
    obtain rfl := Option.some.inj hf
    exact X_rz dX11_isIn_14 (by first | exact Or.inl rfl | exact Or.inr rfl) ⟨rfl, rfl⟩
noncomputable def jX11_becomes_137 (x : aH) (l1 : Int32) (l2 : Int32) (l3 : Int32) : Option (Int32 × aH) := if (0 : Int32) ≤ l1 ∧ l1 < (172 : Int32) then some (l3, (sri (sfi x 73 4 (fi x 73 5)) 74 (ix l1) l2)) else none
noncomputable def jX11_becomes_97 (x : aH) (l1 : Int32) (l2 : Int32) (l3 : Int32) : Option (Int32 × aH) := if (0 : Int32) ≤ (fi x 73 5) ∧ (fi x 73 5) < (40 : Int32) then if (0 : Int32) ≤ (fi (sri x 75 (ix (fi x 73 5)) l1) 73 5) ∧ (fi (sri x 75 (ix (fi x 73 5)) l1) 73 5) < (40 : Int32) then if (0 : Int32) ≤ (fi (sri (sri x 75 (ix (fi x 73 5)) l1) 76 (ix (fi (sri x 75 (ix (fi x 73 5)) l1) 73 5)) l3) 73 5) ∧ (fi (sri (sri x 75 (ix (fi x 73 5)) l1) 76 (ix (fi (sri x 75 (ix (fi x 73 5)) l1) 73 5)) l3) 73 5) < (40 : Int32) then jX11_becomes_137 (sfi (sri (sri (sri x 75 (ix (fi x 73 5)) l1) 76 (ix (fi (sri x 75 (ix (fi x 73 5)) l1) 73 5)) l3) 77 (ix (fi (sri (sri x 75 (ix (fi x 73 5)) l1) 76 (ix (fi (sri x 75 (ix (fi x 73 5)) l1) 73 5)) l3) 73 5)) l2) 73 5 ((fi (sri (sri (sri x 75 (ix (fi x 73 5)) l1) 76 (ix (fi (sri x 75 (ix (fi x 73 5)) l1) 73 5)) l3) 77 (ix (fi (sri (sri x 75 (ix (fi x 73 5)) l1) 76 (ix (fi (sri x 75 (ix (fi x 73 5)) l1) 73 5)) l3) 73 5)) l2) 73 5) + (1 : Int32))) l1 l2 l3 else none else none else none
noncomputable def jX11_becomes_81 (ih : aH → Int32 → Option aH) (x : aH) (l1 : Int32) (l2 : Int32) (l3 : Int32) (l4 : Int32) : Option aH := ih x (l4 + (1 : Int32))
noncomputable def sX11_becomes_26 (l1 : Int32) (l2 : Int32) (l3 : Int32) (ih : aH → Int32 → Option aH) (x : aH) (l4 : Int32) : Option aH := if (40 : Int32) ≤ l4 then some x else if (0 : Int32) ≤ l4 ∧ l4 < (40 : Int32) then if (0 : Int32) ≤ (l4 - (1 : Int32)) ∧ (l4 - (1 : Int32)) < (40 : Int32) then if (0 : Int32) ≤ l4 ∧ l4 < (40 : Int32) then if (0 : Int32) ≤ (l4 - (1 : Int32)) ∧ (l4 - (1 : Int32)) < (40 : Int32) then if (0 : Int32) ≤ l4 ∧ l4 < (40 : Int32) then if (0 : Int32) ≤ (l4 - (1 : Int32)) ∧ (l4 - (1 : Int32)) < (40 : Int32) then jX11_becomes_81 ih (sri (sri (sri x 75 (ix (l4 - (1 : Int32))) (ri x 75 (ix l4))) 76 (ix (l4 - (1 : Int32))) (ri (sri x 75 (ix (l4 - (1 : Int32))) (ri x 75 (ix l4))) 76 (ix l4))) 77 (ix (l4 - (1 : Int32))) (ri (sri (sri x 75 (ix (l4 - (1 : Int32))) (ri x 75 (ix l4))) 76 (ix (l4 - (1 : Int32))) (ri (sri x 75 (ix (l4 - (1 : Int32))) (ri x 75 (ix l4))) 76 (ix l4))) 77 (ix l4))) l1 l2 l3 l4 else none else none else none else none else none else none
noncomputable def wX11_becomes_26 (l1 : Int32) (l2 : Int32) (l3 : Int32) : Nat → aH → Int32 → Option aH
  | 0 => fun _ _ => none
  | n + 1 => sX11_becomes_26 l1 l2 l3 (wX11_becomes_26 l1 l2 l3 n)
noncomputable def fX11_becomes (x : aH) (p1 : Int32) (p2 : Int32) : Option (Int32 × aH) := if (0 : Int32) ≤ p1 ∧ p1 < (172 : Int32) then if (ri x 74 (ix p1)) = p2 then some ((ri x 74 (ix p1)), x) else if (fi x 73 5) = (40 : Int32) then (wX11_becomes_26 p1 p2 (ri x 74 (ix p1)) 2000 x (1 : Int32)).bind fun q26_15 => jX11_becomes_97 (sfi q26_15 73 5 ((fi q26_15 73 5) - (1 : Int32))) p1 p2 (ri x 74 (ix p1)) else jX11_becomes_97 x p1 p2 (ri x 74 (ix p1)) else none
theorem lX11_becomes_26 (Z : aZ) (y : aH) (l1 : Int32) (l2 : Int32) (l3 : Int32) {Q : Option Value → aH → Prop} {R : aH} : ∀ (n : Nat) (x : aH) (l4 : Int32), wX11_becomes_26 l1 l2 l3 n x l4 = some R → (∀ q, R = q → TX false Z mX11_becomes 0 y q Q 87 [.ref 73, .int l1, .int l2, .int l3, .null] []) → TX false Z mX11_becomes 0 y x Q 26 [.ref 73, .int l1, .int l2, .int l3, .int l4] [] := by
  intro n
  induction n with
  | zero => intro x l4 hf; cases hf
  | succ n ih =>
    intro x l4 hf ke
    replace hf : sX11_becomes_26 l1 l2 l3 (wX11_becomes_26 l1 l2 l3 n) x l4 = some R := hf
    delta sX11_becomes_26 at hf
    refine T_iload dX11_becomes_26 rfl ?_
    refine T_const dX11_becomes_28 ?_
    refine T_icmp_ge dX11_becomes_30 (fun c30_8 => ?_) (fun c30_8 => ?_)
    · replace hf := ite_t c30_8 hf
      exact X_wk (WK.s (WK.s (WK.s (WK.s (WK.n WK.e))))) (ke x (Option.some.inj hf).symm)
    · replace hf := ite_f c30_8 hf
      refine T_aload dX11_becomes_33 rfl ?_
      refine X_getr dX11_becomes_34 lfX11_13 rfl ob73 rfl ?_
      refine T_iload dX11_becomes_37 rfl ?_
      refine T_const dX11_becomes_39 ?_
      refine T_isub dX11_becomes_40 ?_
      refine T_aload dX11_becomes_41 rfl ?_
      refine X_getr dX11_becomes_42 lfX11_13 rfl ob73 rfl ?_
      refine T_iload dX11_becomes_45 rfl ?_
      obtain ⟨hb47_9, hf⟩ := opt_t hf
      refine X_iald (N := 40) dX11_becomes_47 ar75 rfl hb47_9 ?_
      obtain ⟨hb48_10, hf⟩ := opt_t hf
      refine X_iast (N := 40) dX11_becomes_48 ar75 rfl hb48_10 ?_
      refine T_aload dX11_becomes_49 rfl ?_
      refine X_getr dX11_becomes_50 lfX11_16 rfl ob73 rfl ?_
      refine T_iload dX11_becomes_53 rfl ?_
      refine T_const dX11_becomes_55 ?_
      refine T_isub dX11_becomes_56 ?_
      refine T_aload dX11_becomes_57 rfl ?_
      refine X_getr dX11_becomes_58 lfX11_16 rfl ob73 rfl ?_
      refine T_iload dX11_becomes_61 rfl ?_
      obtain ⟨hb63_11, hf⟩ := opt_t hf
      refine X_iald (N := 40) dX11_becomes_63 ar76 rfl hb63_11 ?_
      obtain ⟨hb64_12, hf⟩ := opt_t hf
      refine X_iast (N := 40) dX11_becomes_64 ar76 rfl hb64_12 ?_
      refine T_aload dX11_becomes_65 rfl ?_
      refine X_getr dX11_becomes_66 lfX11_19 rfl ob73 rfl ?_
      refine T_iload dX11_becomes_69 rfl ?_
      refine T_const dX11_becomes_71 ?_
      refine T_isub dX11_becomes_72 ?_
      refine T_aload dX11_becomes_73 rfl ?_
      refine X_getr dX11_becomes_74 lfX11_19 rfl ob73 rfl ?_
      refine T_iload dX11_becomes_77 rfl ?_
      obtain ⟨hb79_13, hf⟩ := opt_t hf
      refine X_iald (N := 40) dX11_becomes_79 ar77 rfl hb79_13 ?_
      obtain ⟨hb80_14, hf⟩ := opt_t hf
      refine X_iast (N := 40) dX11_becomes_80 ar77 rfl hb80_14 ?_
      have J81 : ∀ (x : aH) (l4 : Int32), jX11_becomes_81 (wX11_becomes_26 l1 l2 l3 n) x l1 l2 l3 l4 = some R → TX false Z mX11_becomes 0 y x Q 81 [.ref 73, .int l1, .int l2, .int l3, .int l4] [] := by
        intro x l4 hf
        delta jX11_becomes_81 at hf
        refine T_iinc dX11_becomes_81 rfl ?_
        show TX _ _ _ _ _ _ _ _ [_, _, _, _, _] _
        refine T_goto dX11_becomes_84 ?_
        exact X_wk (WK.s (WK.s (WK.s (WK.s (WK.s WK.e))))) (ih _ _ hf ke)
      exact X_wk (WK.s (WK.s (WK.s (WK.s (WK.s WK.e))))) (J81 _ _ hf)
theorem qX11_becomes (Z : aZ) (y : aH) {x : aH} {p1 : Int32} {p2 : Int32} {q : (Int32 × aH)} (hf : fX11_becomes x p1 p2 = some q) : CX false Z mX11_becomes 0 [.ref 73, .int p1, .int p2] y x (RV (.int q.1) q.2) := by
  refine CX.of mokX11_becomes (Nat.le_of_ble_eq_true rfl) ?_
  show TX _ _ _ _ _ _ _ _ [_, _, _, _, _] _
  delta fX11_becomes at hf
  refine T_aload dX11_becomes_0 rfl ?_
  refine X_getr dX11_becomes_1 lfX11_9 rfl ob73 rfl ?_
  refine T_iload dX11_becomes_4 rfl ?_
  obtain ⟨hb5_1, hf⟩ := opt_t hf
  refine X_iald (N := 172) dX11_becomes_5 ar74 rfl hb5_1 ?_
  refine T_istore dX11_becomes_6 ?_
  show TX _ _ _ _ _ _ _ _ [_, _, _, _, _] _
  refine T_iload dX11_becomes_7 rfl ?_
  refine T_iload dX11_becomes_8 rfl ?_
  refine T_icmp_ne dX11_becomes_9 (fun c9_2 => ?_) (fun c9_2 => ?_)
  · replace hf := ite_f c9_2 hf
    refine T_aload dX11_becomes_14 rfl ?_
    refine X_getf dX11_becomes_15 lfX11_87 rfl ob73 ?_
    refine T_const dX11_becomes_18 ?_
    have J97 : ∀ (x : aH) (l1 : Int32) (l2 : Int32) (l3 : Int32), jX11_becomes_97 x l1 l2 l3 = some q → TX false Z mX11_becomes 0 y x (RV (.int q.1) q.2) 97 [.ref 73, .int l1, .int l2, .int l3, .null] [] := by
      intro x l1 l2 l3 hf
      delta jX11_becomes_97 at hf
      refine T_aload dX11_becomes_97 rfl ?_
      refine X_getr dX11_becomes_98 lfX11_13 rfl ob73 rfl ?_
      refine T_aload dX11_becomes_101 rfl ?_
      refine X_getf dX11_becomes_102 lfX11_87 rfl ob73 ?_
      refine T_iload dX11_becomes_105 rfl ?_
      obtain ⟨hb106_3, hf⟩ := opt_t hf
      refine X_iast (N := 40) dX11_becomes_106 ar75 rfl hb106_3 ?_
      refine T_aload dX11_becomes_107 rfl ?_
      refine X_getr dX11_becomes_108 lfX11_16 rfl ob73 rfl ?_
      refine T_aload dX11_becomes_111 rfl ?_
      refine X_getf dX11_becomes_112 lfX11_87 rfl ob73 ?_
      refine T_iload dX11_becomes_115 rfl ?_
      obtain ⟨hb116_4, hf⟩ := opt_t hf
      refine X_iast (N := 40) dX11_becomes_116 ar76 rfl hb116_4 ?_
      refine T_aload dX11_becomes_117 rfl ?_
      refine X_getr dX11_becomes_118 lfX11_19 rfl ob73 rfl ?_
      refine T_aload dX11_becomes_121 rfl ?_
      refine X_getf dX11_becomes_122 lfX11_87 rfl ob73 ?_
      refine T_iload dX11_becomes_125 rfl ?_
      obtain ⟨hb126_5, hf⟩ := opt_t hf
      refine X_iast (N := 40) dX11_becomes_126 ar77 rfl hb126_5 ?_
      refine T_aload dX11_becomes_127 rfl ?_
      refine T_dup dX11_becomes_128 rfl ?_
      refine X_getf dX11_becomes_129 lfX11_87 rfl ob73 ?_
      refine T_const dX11_becomes_132 ?_
      refine T_iadd dX11_becomes_133 ?_
      refine X_putf dX11_becomes_134 lfX11_87 rfl rfl ob73 ⟨rfl, rfl⟩ ?_
      have J137 : ∀ (x : aH) (l1 : Int32) (l2 : Int32) (l3 : Int32), jX11_becomes_137 x l1 l2 l3 = some q → TX false Z mX11_becomes 0 y x (RV (.int q.1) q.2) 137 [.ref 73, .int l1, .int l2, .int l3, .null] [] := by
        intro x l1 l2 l3 hf
        delta jX11_becomes_137 at hf
        refine T_aload dX11_becomes_137 rfl ?_
        refine T_aload dX11_becomes_138 rfl ?_
        refine X_getf dX11_becomes_139 lfX11_87 rfl ob73 ?_
        refine X_putf dX11_becomes_142 lfX11_90 rfl rfl ob73 ⟨rfl, rfl⟩ ?_
        refine T_aload dX11_becomes_145 rfl ?_
        refine X_getr dX11_becomes_146 lfX11_9 rfl ob73 rfl ?_
        refine T_iload dX11_becomes_149 rfl ?_
        refine T_iload dX11_becomes_150 rfl ?_
        obtain ⟨hb151_6, hf⟩ := opt_t hf
        refine X_iast (N := 172) dX11_becomes_151 ar74 rfl hb151_6 ?_
        refine T_iload dX11_becomes_152 rfl ?_
        obtain rfl := Option.some.inj hf
        exact X_ri dX11_becomes_153 ⟨rfl, rfl⟩
      exact X_wk (WK.s (WK.s (WK.s (WK.s (WK.n WK.e))))) (J137 _ _ _ _ hf)
    refine T_icmp_ne dX11_becomes_20 (fun c20_7 => ?_) (fun c20_7 => ?_)
    · replace hf := ite_f c20_7 hf
      exact X_wk (WK.s (WK.s (WK.s (WK.s (WK.n WK.e))))) (J97 _ _ _ _ hf)
    · replace hf := ite_t c20_7 hf
      refine T_const dX11_becomes_23 ?_
      refine T_istore dX11_becomes_24 ?_
      show TX _ _ _ _ _ _ _ _ [_, _, _, _, _] _
      obtain ⟨q26_15, hc26_15, hf⟩ := bind_t hf
      refine X_wk (WK.s (WK.s (WK.s (WK.s (WK.s WK.e))))) (lX11_becomes_26 Z _ _ _ _ 2000 _ _ hc26_15 ?_)
      intro q26_15z hr
      subst hr
      refine T_aload dX11_becomes_87 rfl ?_
      refine T_dup dX11_becomes_88 rfl ?_
      refine X_getf dX11_becomes_89 lfX11_87 rfl ob73 ?_
      refine T_const dX11_becomes_92 ?_
      refine T_isub dX11_becomes_93 ?_
      refine X_putf dX11_becomes_94 lfX11_87 rfl rfl ob73 ⟨rfl, rfl⟩ ?_
      exact X_wk (WK.s (WK.s (WK.s (WK.s (WK.n WK.e))))) (J97 _ _ _ _ hf)
  · replace hf := ite_t c9_2 hf
    refine T_iload dX11_becomes_12 rfl ?_
    obtain rfl := Option.some.inj hf
    exact X_ri dX11_becomes_13 ⟨rfl, rfl⟩
noncomputable def jX11_undo_43 (x : aH) : Option (Int32 × aH) := some ((fi x 73 5), x)
noncomputable def fX11_undo (x : aH) : Option (Int32 × aH) := if (fi x 73 5) = (0 : Int32) then some ((-5 : Int32), x) else if (0 : Int32) ≤ (fi (sfi x 73 5 ((fi x 73 5) - (1 : Int32))) 73 5) ∧ (fi (sfi x 73 5 ((fi x 73 5) - (1 : Int32))) 73 5) < (40 : Int32) then if (0 : Int32) ≤ (fi (sfi x 73 5 ((fi x 73 5) - (1 : Int32))) 73 5) ∧ (fi (sfi x 73 5 ((fi x 73 5) - (1 : Int32))) 73 5) < (40 : Int32) then if (0 : Int32) ≤ (ri (sfi x 73 5 ((fi x 73 5) - (1 : Int32))) 75 (ix (fi (sfi x 73 5 ((fi x 73 5) - (1 : Int32))) 73 5))) ∧ (ri (sfi x 73 5 ((fi x 73 5) - (1 : Int32))) 75 (ix (fi (sfi x 73 5 ((fi x 73 5) - (1 : Int32))) 73 5))) < (172 : Int32) then jX11_undo_43 (sri (sfi x 73 5 ((fi x 73 5) - (1 : Int32))) 74 (ix (ri (sfi x 73 5 ((fi x 73 5) - (1 : Int32))) 75 (ix (fi (sfi x 73 5 ((fi x 73 5) - (1 : Int32))) 73 5)))) (ri (sfi x 73 5 ((fi x 73 5) - (1 : Int32))) 76 (ix (fi (sfi x 73 5 ((fi x 73 5) - (1 : Int32))) 73 5)))) else none else none else none
theorem qX11_undo (Z : aZ) (y : aH) {x : aH} {q : (Int32 × aH)} (hf : fX11_undo x = some q) : CX false Z mX11_undo 0 [.ref 73] y x (RV (.int q.1) q.2) := by
  refine CX.of mokX11_undo (Nat.le_of_ble_eq_true rfl) ?_
  show TX _ _ _ _ _ _ _ _ [_] _
  delta fX11_undo at hf
  refine T_aload dX11_undo_0 rfl ?_
  refine X_getf dX11_undo_1 lfX11_87 rfl ob73 ?_
  refine T_if_ne dX11_undo_4 (fun c4_1 => ?_) (fun c4_1 => ?_)
  · replace hf := ite_f c4_1 hf
    refine T_aload dX11_undo_10 rfl ?_
    refine T_dup dX11_undo_11 rfl ?_
    refine X_getf dX11_undo_12 lfX11_87 rfl ob73 ?_
    refine T_const dX11_undo_15 ?_
    refine T_isub dX11_undo_16 ?_
    refine X_putf dX11_undo_17 lfX11_87 rfl rfl ob73 ⟨rfl, rfl⟩ ?_
    refine T_aload dX11_undo_20 rfl ?_
    refine X_getr dX11_undo_21 lfX11_9 rfl ob73 rfl ?_
    refine T_aload dX11_undo_24 rfl ?_
    refine X_getr dX11_undo_25 lfX11_13 rfl ob73 rfl ?_
    refine T_aload dX11_undo_28 rfl ?_
    refine X_getf dX11_undo_29 lfX11_87 rfl ob73 ?_
    obtain ⟨hb32_2, hf⟩ := opt_t hf
    refine X_iald (N := 40) dX11_undo_32 ar75 rfl hb32_2 ?_
    refine T_aload dX11_undo_33 rfl ?_
    refine X_getr dX11_undo_34 lfX11_16 rfl ob73 rfl ?_
    refine T_aload dX11_undo_37 rfl ?_
    refine X_getf dX11_undo_38 lfX11_87 rfl ob73 ?_
    obtain ⟨hb41_3, hf⟩ := opt_t hf
    refine X_iald (N := 40) dX11_undo_41 ar76 rfl hb41_3 ?_
    obtain ⟨hb42_4, hf⟩ := opt_t hf
    refine X_iast (N := 172) dX11_undo_42 ar74 rfl hb42_4 ?_
    have J43 : ∀ (x : aH), jX11_undo_43 x = some q → TX false Z mX11_undo 0 y x (RV (.int q.1) q.2) 43 [.ref 73] [] := by
      intro x hf
      delta jX11_undo_43 at hf
      refine T_aload dX11_undo_43 rfl ?_
      refine X_getf dX11_undo_44 lfX11_87 rfl ob73 ?_
      obtain rfl := Option.some.inj hf
      exact X_ri dX11_undo_47 ⟨rfl, rfl⟩
    exact X_wk (WK.s WK.e) (J43 _ hf)
  · replace hf := ite_t c4_1 hf
    refine T_const dX11_undo_7 ?_
    obtain rfl := Option.some.inj hf
    exact X_ri dX11_undo_9 ⟨rfl, rfl⟩
noncomputable def fX11_redo (x : aH) : Option (Int32 × aH) := if (fi x 73 5) = (fi x 73 4) then some ((-5 : Int32), x) else if (0 : Int32) ≤ (fi x 73 5) ∧ (fi x 73 5) < (40 : Int32) then if (0 : Int32) ≤ (fi x 73 5) ∧ (fi x 73 5) < (40 : Int32) then if (0 : Int32) ≤ (ri x 75 (ix (fi x 73 5))) ∧ (ri x 75 (ix (fi x 73 5))) < (172 : Int32) then some (((fi (sfi (sri x 74 (ix (ri x 75 (ix (fi x 73 5)))) (ri x 77 (ix (fi x 73 5)))) 73 5 ((fi (sri x 74 (ix (ri x 75 (ix (fi x 73 5)))) (ri x 77 (ix (fi x 73 5)))) 73 5) + (1 : Int32))) 73 4) - (fi (sfi (sri x 74 (ix (ri x 75 (ix (fi x 73 5)))) (ri x 77 (ix (fi x 73 5)))) 73 5 ((fi (sri x 74 (ix (ri x 75 (ix (fi x 73 5)))) (ri x 77 (ix (fi x 73 5)))) 73 5) + (1 : Int32))) 73 5)), (sfi (sri x 74 (ix (ri x 75 (ix (fi x 73 5)))) (ri x 77 (ix (fi x 73 5)))) 73 5 ((fi (sri x 74 (ix (ri x 75 (ix (fi x 73 5)))) (ri x 77 (ix (fi x 73 5)))) 73 5) + (1 : Int32)))) else none else none else none
theorem qX11_redo (Z : aZ) (y : aH) {x : aH} {q : (Int32 × aH)} (hf : fX11_redo x = some q) : CX false Z mX11_redo 0 [.ref 73] y x (RV (.int q.1) q.2) := by
  refine CX.of mokX11_redo (Nat.le_of_ble_eq_true rfl) ?_
  show TX _ _ _ _ _ _ _ _ [_] _
  delta fX11_redo at hf
  refine T_aload dX11_redo_0 rfl ?_
  refine X_getf dX11_redo_1 lfX11_87 rfl ob73 ?_
  refine T_aload dX11_redo_4 rfl ?_
  refine X_getf dX11_redo_5 lfX11_90 rfl ob73 ?_
  refine T_icmp_ne dX11_redo_8 (fun c8_1 => ?_) (fun c8_1 => ?_)
  · replace hf := ite_f c8_1 hf
    refine T_aload dX11_redo_14 rfl ?_
    refine X_getr dX11_redo_15 lfX11_9 rfl ob73 rfl ?_
    refine T_aload dX11_redo_18 rfl ?_
    refine X_getr dX11_redo_19 lfX11_13 rfl ob73 rfl ?_
    refine T_aload dX11_redo_22 rfl ?_
    refine X_getf dX11_redo_23 lfX11_87 rfl ob73 ?_
    obtain ⟨hb26_2, hf⟩ := opt_t hf
    refine X_iald (N := 40) dX11_redo_26 ar75 rfl hb26_2 ?_
    refine T_aload dX11_redo_27 rfl ?_
    refine X_getr dX11_redo_28 lfX11_19 rfl ob73 rfl ?_
    refine T_aload dX11_redo_31 rfl ?_
    refine X_getf dX11_redo_32 lfX11_87 rfl ob73 ?_
    obtain ⟨hb35_3, hf⟩ := opt_t hf
    refine X_iald (N := 40) dX11_redo_35 ar77 rfl hb35_3 ?_
    obtain ⟨hb36_4, hf⟩ := opt_t hf
    refine X_iast (N := 172) dX11_redo_36 ar74 rfl hb36_4 ?_
    refine T_aload dX11_redo_37 rfl ?_
    refine T_dup dX11_redo_38 rfl ?_
    refine X_getf dX11_redo_39 lfX11_87 rfl ob73 ?_
    refine T_const dX11_redo_42 ?_
    refine T_iadd dX11_redo_43 ?_
    refine X_putf dX11_redo_44 lfX11_87 rfl rfl ob73 ⟨rfl, rfl⟩ ?_
    refine T_aload dX11_redo_47 rfl ?_
    refine X_getf dX11_redo_48 lfX11_90 rfl ob73 ?_
    refine T_aload dX11_redo_51 rfl ?_
    refine X_getf dX11_redo_52 lfX11_87 rfl ob73 ?_
    refine T_isub dX11_redo_55 ?_
    obtain rfl := Option.some.inj hf
    exact X_ri dX11_redo_56 ⟨rfl, rfl⟩
  · replace hf := ite_t c8_1 hf
    refine T_const dX11_redo_11 ?_
    obtain rfl := Option.some.inj hf
    exact X_ri dX11_redo_13 ⟨rfl, rfl⟩
noncomputable def fX11_isLost (x : aH) (p1 : Int64) : Option Int32 := (fX11_within p1 (0 : Int64) (Int32.toInt64 ((fi x 73 6) - (1 : Int32)))).bind fun q9_1 => if q9_1 = (0 : Int32) ∨ q9_1 = (1 : Int32) then some q9_1 else none
theorem qX11_isLost (Z : aZ) (y : aH) {x : aH} {p1 : Int64} {q : Int32} (hf : fX11_isLost x p1 = some q) : CX false Z mX11_isLost 1 [.ref 73, .long p1] y x (RV (.int q) x) := by
  refine CX.of mokX11_isLost (Nat.le_of_ble_eq_true rfl) ?_
  show TX _ _ _ _ _ _ _ _ [_, _, _] _
  delta fX11_isLost at hf
  refine T_lload dX11_isLost_0 rfl ?_
  refine T_constL dX11_isLost_1 ?_
  refine T_aload dX11_isLost_2 rfl ?_
  refine X_getf dX11_isLost_3 lfX11_93 rfl ob73 ?_
  refine T_const dX11_isLost_6 ?_
  refine T_isub dX11_isLost_7 ?_
  refine T_i2l dX11_isLost_8 ?_
  obtain ⟨q9_1, hc9_1, hf⟩ := bind_t hf
  refine X_Sv (qX11_within _ Z _ _ hc9_1) (Nat.le_of_ble_eq_true rfl) dX11_isLost_9 lsX11_96 rfl rfl (Nat.le_of_ble_eq_true rfl) ?_
  obtain ⟨h01, hf⟩ := opt_t hf
  obtain rfl := Option.some.inj hf
  exact X_rz dX11_isLost_12 h01 ⟨rfl, rfl⟩
noncomputable def fX11_isCell (p0 : Int64) : Option Int32 := (fX11_within p0 (0 : Int64) (63 : Int64)).bind fun q5_1 => if q5_1 = (0 : Int32) ∨ q5_1 = (1 : Int32) then some q5_1 else none
theorem qX11_isCell (sd : Bool) (Z : aZ) (y : aH) (x : aH) {p0 : Int64} {q : Int32} (hf : fX11_isCell p0 = some q) : CX sd Z mX11_isCell 1 [.long p0] y x (RV (.int q) x) := by
  refine CX.of mokX11_isCell (Nat.le_of_ble_eq_true rfl) ?_
  show TX _ _ _ _ _ _ _ _ [_, _] _
  delta fX11_isCell at hf
  refine T_lload dX11_isCell_0 rfl ?_
  refine T_constL dX11_isCell_1 ?_
  refine T_constL dX11_isCell_2 ?_
  obtain ⟨q5_1, hc5_1, hf⟩ := bind_t hf
  refine X_Sv (qX11_within _ Z _ _ hc5_1) (Nat.le_of_ble_eq_true rfl) dX11_isCell_5 lsX11_96 rfl rfl (Nat.le_of_ble_eq_true rfl) ?_
  obtain ⟨h01, hf⟩ := opt_t hf
  obtain rfl := Option.some.inj hf
  exact X_rz dX11_isCell_8 h01 ⟨rfl, rfl⟩
noncomputable def fX11_mayCome (p0 : Int64) (p2 : Int64) (p4 : Int64) : Option Int32 := (fX11_isCell p0).bind fun q1_1 => if q1_1 = (0 : Int32) then some (0 : Int32) else (fX11_within p2 (0 : Int64) (3 : Int64)).bind fun q12_3 => if q12_3 = (0 : Int32) then some (0 : Int32) else (fX11_within p4 (0 : Int64) (9 : Int64)).bind fun q24_5 => if q24_5 = (0 : Int32) then some (0 : Int32) else some (1 : Int32)
theorem qX11_mayCome (sd : Bool) (Z : aZ) (y : aH) (x : aH) {p0 : Int64} {p2 : Int64} {p4 : Int64} {q : Int32} (hf : fX11_mayCome p0 p2 p4 = some q) : CX sd Z mX11_mayCome 2 [.long p0, .long p2, .long p4] y x (RV (.int q) x) := by
  refine CX.of mokX11_mayCome (Nat.le_of_ble_eq_true rfl) ?_
  show TX _ _ _ _ _ _ _ _ [_, _, _, _, _, _] _
  delta fX11_mayCome at hf
  refine T_lload dX11_mayCome_0 rfl ?_
  obtain ⟨q1_1, hc1_1, hf⟩ := bind_t hf
  refine X_Sv (qX11_isCell _ Z _ _ hc1_1) (Nat.le_of_ble_eq_true rfl) dX11_mayCome_1 lsX11_102 rfl rfl (Nat.le_of_ble_eq_true rfl) ?_
  refine T_if_eq dX11_mayCome_4 (fun c4_2 => ?_) (fun c4_2 => ?_)
  · replace hf := ite_t c4_2 hf
    refine T_const dX11_mayCome_34 ?_
    obtain rfl := Option.some.inj hf
    exact X_rz dX11_mayCome_35 (by first | exact Or.inl rfl | exact Or.inr rfl) ⟨rfl, rfl⟩
  · replace hf := ite_f c4_2 hf
    refine T_lload dX11_mayCome_7 rfl ?_
    refine T_constL dX11_mayCome_8 ?_
    refine T_constL dX11_mayCome_9 ?_
    obtain ⟨q12_3, hc12_3, hf⟩ := bind_t hf
    refine X_Sv (qX11_within _ Z _ _ hc12_3) (Nat.le_of_ble_eq_true rfl) dX11_mayCome_12 lsX11_96 rfl rfl (Nat.le_of_ble_eq_true rfl) ?_
    refine T_if_eq dX11_mayCome_15 (fun c15_4 => ?_) (fun c15_4 => ?_)
    · replace hf := ite_t c15_4 hf
      refine T_const dX11_mayCome_34 ?_
      obtain rfl := Option.some.inj hf
      exact X_rz dX11_mayCome_35 (by first | exact Or.inl rfl | exact Or.inr rfl) ⟨rfl, rfl⟩
    · replace hf := ite_f c15_4 hf
      refine T_lload dX11_mayCome_18 rfl ?_
      refine T_constL dX11_mayCome_20 ?_
      refine T_constL dX11_mayCome_21 ?_
      obtain ⟨q24_5, hc24_5, hf⟩ := bind_t hf
      refine X_Sv (qX11_within _ Z _ _ hc24_5) (Nat.le_of_ble_eq_true rfl) dX11_mayCome_24 lsX11_96 rfl rfl (Nat.le_of_ble_eq_true rfl) ?_
      refine T_if_eq dX11_mayCome_27 (fun c27_6 => ?_) (fun c27_6 => ?_)
      · replace hf := ite_t c27_6 hf
        refine T_const dX11_mayCome_34 ?_
        obtain rfl := Option.some.inj hf
        exact X_rz dX11_mayCome_35 (by first | exact Or.inl rfl | exact Or.inr rfl) ⟨rfl, rfl⟩
      · replace hf := ite_f c27_6 hf
        refine T_const dX11_mayCome_30 ?_
        refine T_goto dX11_mayCome_31 ?_
        obtain rfl := Option.some.inj hf
        exact X_rz dX11_mayCome_35 (by first | exact Or.inl rfl | exact Or.inr rfl) ⟨rfl, rfl⟩
noncomputable def fX11_adds (x : aH) (p1 : Int32) (p2 : Int32) (p3 : Int32) : Option aH := if (0 : Int32) ≤ (fi x 73 6) ∧ (fi x 73 6) < (172 : Int32) then if (0 : Int32) ≤ ((10 : Int32) + (fi (sri x 74 (ix (fi x 73 6)) p1) 73 6)) ∧ ((10 : Int32) + (fi (sri x 74 (ix (fi x 73 6)) p1) 73 6)) < (172 : Int32) then if (0 : Int32) ≤ ((20 : Int32) + (fi (sri (sri x 74 (ix (fi x 73 6)) p1) 74 (ix ((10 : Int32) + (fi (sri x 74 (ix (fi x 73 6)) p1) 73 6))) p2) 73 6)) ∧ ((20 : Int32) + (fi (sri (sri x 74 (ix (fi x 73 6)) p1) 74 (ix ((10 : Int32) + (fi (sri x 74 (ix (fi x 73 6)) p1) 73 6))) p2) 73 6)) < (172 : Int32) then some (sfi (sri (sri (sri x 74 (ix (fi x 73 6)) p1) 74 (ix ((10 : Int32) + (fi (sri x 74 (ix (fi x 73 6)) p1) 73 6))) p2) 74 (ix ((20 : Int32) + (fi (sri (sri x 74 (ix (fi x 73 6)) p1) 74 (ix ((10 : Int32) + (fi (sri x 74 (ix (fi x 73 6)) p1) 73 6))) p2) 73 6))) p3) 73 6 ((fi (sri (sri (sri x 74 (ix (fi x 73 6)) p1) 74 (ix ((10 : Int32) + (fi (sri x 74 (ix (fi x 73 6)) p1) 73 6))) p2) 74 (ix ((20 : Int32) + (fi (sri (sri x 74 (ix (fi x 73 6)) p1) 74 (ix ((10 : Int32) + (fi (sri x 74 (ix (fi x 73 6)) p1) 73 6))) p2) 73 6))) p3) 73 6) + (1 : Int32))) else none else none else none
theorem qX11_adds (Z : aZ) (y : aH) {x : aH} {p1 : Int32} {p2 : Int32} {p3 : Int32} {q : aH} (hf : fX11_adds x p1 p2 p3 = some q) : CX false Z mX11_adds 0 [.ref 73, .int p1, .int p2, .int p3] y x (RN q) := by
  refine CX.of mokX11_adds (Nat.le_of_ble_eq_true rfl) ?_
  show TX _ _ _ _ _ _ _ _ [_, _, _, _] _
  delta fX11_adds at hf
  refine T_aload dX11_adds_0 rfl ?_
  refine X_getr dX11_adds_1 lfX11_9 rfl ob73 rfl ?_
  refine T_aload dX11_adds_4 rfl ?_
  refine X_getf dX11_adds_5 lfX11_93 rfl ob73 ?_
  refine T_iload dX11_adds_8 rfl ?_
  obtain ⟨hb9_1, hf⟩ := opt_t hf
  refine X_iast (N := 172) dX11_adds_9 ar74 rfl hb9_1 ?_
  refine T_aload dX11_adds_10 rfl ?_
  refine X_getr dX11_adds_11 lfX11_9 rfl ob73 rfl ?_
  refine T_const dX11_adds_14 ?_
  refine T_aload dX11_adds_16 rfl ?_
  refine X_getf dX11_adds_17 lfX11_93 rfl ob73 ?_
  refine T_iadd dX11_adds_20 ?_
  refine T_iload dX11_adds_21 rfl ?_
  obtain ⟨hb22_2, hf⟩ := opt_t hf
  refine X_iast (N := 172) dX11_adds_22 ar74 rfl hb22_2 ?_
  refine T_aload dX11_adds_23 rfl ?_
  refine X_getr dX11_adds_24 lfX11_9 rfl ob73 rfl ?_
  refine T_const dX11_adds_27 ?_
  refine T_aload dX11_adds_29 rfl ?_
  refine X_getf dX11_adds_30 lfX11_93 rfl ob73 ?_
  refine T_iadd dX11_adds_33 ?_
  refine T_iload dX11_adds_34 rfl ?_
  obtain ⟨hb35_3, hf⟩ := opt_t hf
  refine X_iast (N := 172) dX11_adds_35 ar74 rfl hb35_3 ?_
  refine T_aload dX11_adds_36 rfl ?_
  refine T_dup dX11_adds_37 rfl ?_
  refine X_getf dX11_adds_38 lfX11_93 rfl ob73 ?_
  refine T_const dX11_adds_41 ?_
  refine T_iadd dX11_adds_42 ?_
  refine X_putf dX11_adds_43 lfX11_93 rfl rfl ob73 ⟨rfl, rfl⟩ ?_
  obtain rfl := Option.some.inj hf
  exact X_rv dX11_adds_46 ⟨rfl, rfl⟩
noncomputable def fX11_lost (x : aH) (p1 : Int32) (p2 : Int32) : Option (Int32 × aH) := (fX11_mayCome (Int32.toInt64 p1) (Int32.toInt64 p2) (0 : Int64)).bind fun q5_1 => if q5_1 = (0 : Int32) then some ((-1 : Int32), x) else if (fi x 73 6) = (10 : Int32) then some ((-3 : Int32), x) else (fX11_adds x p1 p2 (0 : Int32)).bind fun q29_4 => some (((fi q29_4 73 6) - (1 : Int32)), q29_4)
theorem qX11_lost (Z : aZ) (y : aH) {x : aH} {p1 : Int32} {p2 : Int32} {q : (Int32 × aH)} (hf : fX11_lost x p1 p2 = some q) : CX false Z mX11_lost 3 [.ref 73, .int p1, .int p2] y x (RV (.int q.1) q.2) := by
  refine CX.of mokX11_lost (Nat.le_of_ble_eq_true rfl) ?_
  show TX _ _ _ _ _ _ _ _ [_, _, _] _
  delta fX11_lost at hf
  refine T_iload dX11_lost_0 rfl ?_
  refine T_i2l dX11_lost_1 ?_
  refine T_iload dX11_lost_2 rfl ?_
  refine T_i2l dX11_lost_3 ?_
  refine T_constL dX11_lost_4 ?_
  obtain ⟨q5_1, hc5_1, hf⟩ := bind_t hf
  refine X_Sv (qX11_mayCome _ Z _ _ hc5_1) (Nat.le_of_ble_eq_true rfl) dX11_lost_5 lsX11_110 rfl rfl (Nat.le_of_ble_eq_true rfl) ?_
  refine T_if_ne dX11_lost_8 (fun c8_2 => ?_) (fun c8_2 => ?_)
  · replace hf := ite_f c8_2 hf
    refine T_aload dX11_lost_13 rfl ?_
    refine X_getf dX11_lost_14 lfX11_93 rfl ob73 ?_
    refine T_const dX11_lost_17 ?_
    refine T_icmp_ne dX11_lost_19 (fun c19_3 => ?_) (fun c19_3 => ?_)
    · replace hf := ite_f c19_3 hf
      refine T_aload dX11_lost_25 rfl ?_
      refine T_iload dX11_lost_26 rfl ?_
      refine T_iload dX11_lost_27 rfl ?_
      refine T_const dX11_lost_28 ?_
      obtain ⟨q29_4, hc29_4, hf⟩ := bind_t hf
      refine X_Vn (qX11_adds Z _ hc29_4) (Nat.le_of_ble_eq_true rfl) dX11_lost_29 lvX11_113 rfl rfl ob73 (Nat.le_of_ble_eq_true rfl) ?_
      refine T_aload dX11_lost_32 rfl ?_
      refine X_getf dX11_lost_33 lfX11_93 rfl ob73 ?_
      refine T_const dX11_lost_36 ?_
      refine T_isub dX11_lost_37 ?_
      obtain rfl := Option.some.inj hf
      exact X_ri dX11_lost_38 ⟨rfl, rfl⟩
    · replace hf := ite_t c19_3 hf
      refine T_const dX11_lost_22 ?_
      obtain rfl := Option.some.inj hf
      exact X_ri dX11_lost_24 ⟨rfl, rfl⟩
  · replace hf := ite_t c8_2 hf
    refine T_const dX11_lost_11 ?_
    obtain rfl := Option.some.inj hf
    exact X_ri dX11_lost_12 ⟨rfl, rfl⟩
noncomputable def fX11_isShelf (p0 : Int32) : Option Int32 := (fX11_within (Int32.toInt64 p0) (0 : Int64) (5 : Int64)).bind fun q6_1 => if q6_1 = (0 : Int32) ∨ q6_1 = (1 : Int32) then some q6_1 else none
theorem qX11_isShelf (sd : Bool) (Z : aZ) (y : aH) (x : aH) {p0 : Int32} {q : Int32} (hf : fX11_isShelf p0 = some q) : CX sd Z mX11_isShelf 1 [.int p0] y x (RV (.int q) x) := by
  refine CX.of mokX11_isShelf (Nat.le_of_ble_eq_true rfl) ?_
  show TX _ _ _ _ _ _ _ _ [_] _
  delta fX11_isShelf at hf
  refine T_iload dX11_isShelf_0 rfl ?_
  refine T_i2l dX11_isShelf_1 ?_
  refine T_constL dX11_isShelf_2 ?_
  refine T_constL dX11_isShelf_3 ?_
  obtain ⟨q6_1, hc6_1, hf⟩ := bind_t hf
  refine X_Sv (qX11_within _ Z _ _ hc6_1) (Nat.le_of_ble_eq_true rfl) dX11_isShelf_6 lsX11_96 rfl rfl (Nat.le_of_ble_eq_true rfl) ?_
  obtain ⟨h01, hf⟩ := opt_t hf
  obtain rfl := Option.some.inj hf
  exact X_rz dX11_isShelf_9 h01 ⟨rfl, rfl⟩
noncomputable def jX11_losts_209 (ih : aH → Int32 → Int32 → Option (Int32 × aH)) (x : aH) (l1 : Int32) (l2 : Int32) (l3 : Int32) (l4 : Int32) (l5 : Int32) : Option (Int32 × aH) := ih x l4 l5
noncomputable def jX11_losts_167 (ih : aH → Int32 → Int32 → Option (Int32 × aH)) (x : aH) (l1 : Int32) (l2 : Int32) (l3 : Int32) (l4 : Int32) (l6 : Int32) (s0 : Int32) : Option (Int32 × aH) := if s0 = (0 : Int32) then jX11_losts_209 ih x l1 l2 l3 l4 s0 else if (0 : Int32) ≤ l6 ∧ l6 < (360 : Int32) then if (0 : Int32) ≤ (l6 + (1 : Int32)) ∧ (l6 + (1 : Int32)) < (360 : Int32) then if (0 : Int32) ≤ (l6 + (2 : Int32)) ∧ (l6 + (2 : Int32)) < (360 : Int32) then (fX11_adds x (Int64.toInt32 (rj x 96 (ix l6))) (Int64.toInt32 (rj x 96 (ix (l6 + (1 : Int32))))) (Int64.toInt32 (rj x 96 (ix (l6 + (2 : Int32)))))).bind fun q203_14 => jX11_losts_209 ih q203_14 l1 l2 l3 (l4 + (1 : Int32)) s0 else none else none else none
noncomputable def jX11_losts_166 (ih : aH → Int32 → Int32 → Option (Int32 × aH)) (x : aH) (l1 : Int32) (l2 : Int32) (l3 : Int32) (l4 : Int32) (l6 : Int32) : Option (Int32 × aH) := jX11_losts_167 ih x l1 l2 l3 l4 l6 (0 : Int32)
noncomputable def jX11_losts_111 (ih : aH → Int32 → Int32 → Option (Int32 × aH)) (x : aH) (l1 : Int32) (l2 : Int32) (l3 : Int32) (l4 : Int32) (s0 : Int32) : Option (Int32 × aH) := if s0 = (0 : Int32) then jX11_losts_166 ih x l1 l2 l3 l4 ((((60 : Int32) * l1) + l2) + ((3 : Int32) * l4)) else if (0 : Int32) ≤ ((((60 : Int32) * l1) + l2) + ((3 : Int32) * l4)) ∧ ((((60 : Int32) * l1) + l2) + ((3 : Int32) * l4)) < (360 : Int32) then if (0 : Int32) ≤ (((((60 : Int32) * l1) + l2) + ((3 : Int32) * l4)) + (1 : Int32)) ∧ (((((60 : Int32) * l1) + l2) + ((3 : Int32) * l4)) + (1 : Int32)) < (360 : Int32) then if (0 : Int32) ≤ (((((60 : Int32) * l1) + l2) + ((3 : Int32) * l4)) + (2 : Int32)) ∧ (((((60 : Int32) * l1) + l2) + ((3 : Int32) * l4)) + (2 : Int32)) < (360 : Int32) then (fX11_mayCome (rj x 96 (ix ((((60 : Int32) * l1) + l2) + ((3 : Int32) * l4)))) (rj x 96 (ix (((((60 : Int32) * l1) + l2) + ((3 : Int32) * l4)) + (1 : Int32)))) (rj x 96 (ix (((((60 : Int32) * l1) + l2) + ((3 : Int32) * l4)) + (2 : Int32))))).bind fun q156_19 => if q156_19 = (0 : Int32) then jX11_losts_166 ih x l1 l2 l3 l4 ((((60 : Int32) * l1) + l2) + ((3 : Int32) * l4)) else jX11_losts_167 ih x l1 l2 l3 l4 ((((60 : Int32) * l1) + l2) + ((3 : Int32) * l4)) (1 : Int32) else none else none else none
noncomputable def jX11_losts_110 (ih : aH → Int32 → Int32 → Option (Int32 × aH)) (x : aH) (l1 : Int32) (l2 : Int32) (l3 : Int32) (l4 : Int32) : Option (Int32 × aH) := jX11_losts_111 ih x l1 l2 l3 l4 (0 : Int32)
noncomputable def sX11_losts_69 (l1 : Int32) (l2 : Int32) (l3 : Int32) (ih : aH → Int32 → Int32 → Option (Int32 × aH)) (x : aH) (l4 : Int32) (l5 : Int32) : Option (Int32 × aH) := if l5 = (0 : Int32) then some (l4, x) else if l3 ≤ l4 then some (l4, x) else if (0 : Int32) ≤ l1 ∧ l1 < (6 : Int32) then if (((ri x 95 (ix l1)) - (3 : Int32)) - ((3 : Int32) * l4)) < l2 then jX11_losts_110 ih x l1 l2 l3 l4 else if (10 : Int32) ≤ (fi x 73 6) then jX11_losts_110 ih x l1 l2 l3 l4 else jX11_losts_111 ih x l1 l2 l3 l4 (1 : Int32) else none
noncomputable def wX11_losts_69 (l1 : Int32) (l2 : Int32) (l3 : Int32) : Nat → aH → Int32 → Int32 → Option (Int32 × aH)
  | 0 => fun _ _ _ => none
  | n + 1 => sX11_losts_69 l1 l2 l3 (wX11_losts_69 l1 l2 l3 n)
noncomputable def jX11_losts_67 (x : aH) (l1 : Int32) (l2 : Int32) (l3 : Int32) (l4 : Int32) (s0 : Int32) : Option (Int32 × aH) := (wX11_losts_69 l1 l2 l3 2000 x l4 s0).bind fun q69_23 => some (q69_23.1, q69_23.2)
noncomputable def jX11_losts_66 (x : aH) (l1 : Int32) (l2 : Int32) (l3 : Int32) (l4 : Int32) : Option (Int32 × aH) := jX11_losts_67 x l1 l2 l3 l4 (0 : Int32)
noncomputable def jX11_losts_44 (x : aH) (l1 : Int32) (l2 : Int32) (l3 : Int32) : Option (Int32 × aH) := if (0 : Int32) ≤ l1 ∧ l1 < (6 : Int32) then if (ri x 94 (ix l1)) = (50 : Int32) then if l2 < (0 : Int32) then jX11_losts_66 x l1 l2 l3 (0 : Int32) else jX11_losts_67 x l1 l2 l3 (0 : Int32) (1 : Int32) else jX11_losts_66 x l1 l2 l3 (0 : Int32) else none
noncomputable def fX11_losts (x : aH) (p1 : Int32) (p2 : Int32) (p3 : Int32) : Option (Int32 × aH) := (fX11_isShelf p1).bind fun q1_1 => if q1_1 = (0 : Int32) then some ((-1 : Int32), x) else (fX11_within (Int32.toInt64 p3) (1 : Int64) (10 : Int64)).bind fun q13_3 => if q13_3 = (0 : Int32) then some ((-1 : Int32), x) else if (0 : Int32) ≤ p1 ∧ p1 < (6 : Int32) then if (ri x 94 (ix p1)) < (0 : Int32) then jX11_losts_44 x p1 p2 p3 else if (0 : Int32) ≤ p1 ∧ p1 < (6 : Int32) then if (ri x 94 (ix p1)) = (50 : Int32) then jX11_losts_44 x p1 p2 p3 else some ((-12 : Int32), x) else none else none
theorem lX11_losts_69 (Z : aZ) (y : aH) (l1 : Int32) (l2 : Int32) (l3 : Int32) {Q : Option Value → aH → Prop} {R : (Int32 × aH)} : ∀ (n : Nat) (x : aH) (l4 : Int32) (l5 : Int32), wX11_losts_69 l1 l2 l3 n x l4 l5 = some R → (∀ q, R = q → TX false Z mX11_losts 3 y q.2 Q 212 [.null, .null, .null, .null, .int (q.1), .null, .null] []) → TX false Z mX11_losts 3 y x Q 69 [.ref 73, .int l1, .int l2, .int l3, .int l4, .int l5, .null] [] := by
  intro n
  induction n with
  | zero => intro x l4 l5 hf; cases hf
  | succ n ih =>
    intro x l4 l5 hf ke
    replace hf : sX11_losts_69 l1 l2 l3 (wX11_losts_69 l1 l2 l3 n) x l4 l5 = some R := hf
    delta sX11_losts_69 at hf
    refine T_iload dX11_losts_69 rfl ?_
    refine T_if_eq dX11_losts_71 (fun c71_7 => ?_) (fun c71_7 => ?_)
    · replace hf := ite_t c71_7 hf
      exact X_wk (WK.n (WK.n (WK.n (WK.n (WK.s (WK.n (WK.n WK.e))))))) (ke (l4, x) (Option.some.inj hf).symm)
    · replace hf := ite_f c71_7 hf
      refine T_iload dX11_losts_74 rfl ?_
      refine T_iload dX11_losts_76 rfl ?_
      refine T_icmp_ge dX11_losts_77 (fun c77_8 => ?_) (fun c77_8 => ?_)
      · replace hf := ite_t c77_8 hf
        exact X_wk (WK.n (WK.n (WK.n (WK.n (WK.s (WK.n (WK.n WK.e))))))) (ke (l4, x) (Option.some.inj hf).symm)
      · replace hf := ite_f c77_8 hf
        refine T_iload dX11_losts_80 rfl ?_
        refine T_aload dX11_losts_81 rfl ?_
        refine X_getr dX11_losts_82 lfX11_73 rfl ob73 rfl ?_
        refine T_iload dX11_losts_85 rfl ?_
        obtain ⟨hb86_9, hf⟩ := opt_t hf
        refine X_iald (N := 6) dX11_losts_86 ar95 rfl hb86_9 ?_
        refine T_const dX11_losts_87 ?_
        refine T_isub dX11_losts_88 ?_
        refine T_const dX11_losts_89 ?_
        refine T_iload dX11_losts_90 rfl ?_
        refine T_imul dX11_losts_92 ?_
        refine T_isub dX11_losts_93 ?_
        have J111 : ∀ (x : aH) (l4 : Int32) (s0 : Int32), jX11_losts_111 (wX11_losts_69 l1 l2 l3 n) x l1 l2 l3 l4 s0 = some R → TX false Z mX11_losts 3 y x Q 111 [.ref 73, .int l1, .int l2, .int l3, .int l4, .null, .null] [.int s0] := by
          intro x l4 s0 hf
          delta jX11_losts_111 at hf
          refine T_istore dX11_losts_111 ?_
          show TX _ _ _ _ _ _ _ _ [_, _, _, _, _, _, _] _
          refine T_const dX11_losts_113 ?_
          refine T_iload dX11_losts_115 rfl ?_
          refine T_imul dX11_losts_116 ?_
          refine T_iload dX11_losts_117 rfl ?_
          refine T_iadd dX11_losts_118 ?_
          refine T_const dX11_losts_119 ?_
          refine T_iload dX11_losts_120 rfl ?_
          refine T_imul dX11_losts_122 ?_
          refine T_iadd dX11_losts_123 ?_
          refine T_istore dX11_losts_124 ?_
          show TX _ _ _ _ _ _ _ _ [_, _, _, _, _, _, _] _
          refine T_iload dX11_losts_126 rfl ?_
          have J167 : ∀ (x : aH) (l4 : Int32) (l6 : Int32) (s0 : Int32), jX11_losts_167 (wX11_losts_69 l1 l2 l3 n) x l1 l2 l3 l4 l6 s0 = some R → TX false Z mX11_losts 3 y x Q 167 [.ref 73, .int l1, .int l2, .int l3, .int l4, .null, .int l6] [.int s0] := by
            intro x l4 l6 s0 hf
            delta jX11_losts_167 at hf
            refine T_istore dX11_losts_167 ?_
            show TX _ _ _ _ _ _ _ _ [_, _, _, _, _, _, _] _
            refine T_iload dX11_losts_169 rfl ?_
            have J209 : ∀ (x : aH) (l4 : Int32) (l5 : Int32), jX11_losts_209 (wX11_losts_69 l1 l2 l3 n) x l1 l2 l3 l4 l5 = some R → TX false Z mX11_losts 3 y x Q 209 [.ref 73, .int l1, .int l2, .int l3, .int l4, .int l5, .null] [] := by
              intro x l4 l5 hf
              delta jX11_losts_209 at hf
              refine T_goto dX11_losts_209 ?_
              exact X_wk (WK.s (WK.s (WK.s (WK.s (WK.s (WK.s (WK.n WK.e))))))) (ih _ _ _ hf ke)
            refine T_if_eq dX11_losts_171 (fun c171_10 => ?_) (fun c171_10 => ?_)
            · replace hf := ite_t c171_10 hf
              exact X_wk (WK.s (WK.s (WK.s (WK.s (WK.s (WK.s (WK.n WK.e))))))) (J209 _ _ _ hf)
            · replace hf := ite_f c171_10 hf
              refine T_aload dX11_losts_174 rfl ?_
              refine T_aload dX11_losts_175 rfl ?_
              refine X_getr dX11_losts_176 lfX11_76 rfl ob73 rfl ?_
              refine T_iload dX11_losts_179 rfl ?_
              obtain ⟨hb181_11, hf⟩ := opt_t hf
              refine X_lald (N := 360) dX11_losts_181 ar96 rfl hb181_11 ?_
              refine T_l2i dX11_losts_182 ?_
              refine T_aload dX11_losts_183 rfl ?_
              refine X_getr dX11_losts_184 lfX11_76 rfl ob73 rfl ?_
              refine T_iload dX11_losts_187 rfl ?_
              refine T_const dX11_losts_189 ?_
              refine T_iadd dX11_losts_190 ?_
              obtain ⟨hb191_12, hf⟩ := opt_t hf
              refine X_lald (N := 360) dX11_losts_191 ar96 rfl hb191_12 ?_
              refine T_l2i dX11_losts_192 ?_
              refine T_aload dX11_losts_193 rfl ?_
              refine X_getr dX11_losts_194 lfX11_76 rfl ob73 rfl ?_
              refine T_iload dX11_losts_197 rfl ?_
              refine T_const dX11_losts_199 ?_
              refine T_iadd dX11_losts_200 ?_
              obtain ⟨hb201_13, hf⟩ := opt_t hf
              refine X_lald (N := 360) dX11_losts_201 ar96 rfl hb201_13 ?_
              refine T_l2i dX11_losts_202 ?_
              obtain ⟨q203_14, hc203_14, hf⟩ := bind_t hf
              refine X_Vn (qX11_adds Z _ hc203_14) (Nat.le_of_ble_eq_true rfl) dX11_losts_203 lvX11_113 rfl rfl ob73 (Nat.le_of_ble_eq_true rfl) ?_
              refine T_iinc dX11_losts_206 rfl ?_
              show TX _ _ _ _ _ _ _ _ [_, _, _, _, _, _, _] _
              exact X_wk (WK.s (WK.s (WK.s (WK.s (WK.s (WK.s (WK.n WK.e))))))) (J209 _ _ _ hf)
          have J166 : ∀ (x : aH) (l4 : Int32) (l6 : Int32), jX11_losts_166 (wX11_losts_69 l1 l2 l3 n) x l1 l2 l3 l4 l6 = some R → TX false Z mX11_losts 3 y x Q 166 [.ref 73, .int l1, .int l2, .int l3, .int l4, .null, .int l6] [] := by
            intro x l4 l6 hf
            delta jX11_losts_166 at hf
            refine T_const dX11_losts_166 ?_
            exact X_wk (WK.s (WK.s (WK.s (WK.s (WK.s (WK.n (WK.s WK.e))))))) (J167 _ _ _ _ hf)
          refine T_if_eq dX11_losts_128 (fun c128_15 => ?_) (fun c128_15 => ?_)
          · replace hf := ite_t c128_15 hf
            exact X_wk (WK.s (WK.s (WK.s (WK.s (WK.s (WK.n (WK.s WK.e))))))) (J166 _ _ _ hf)
          · replace hf := ite_f c128_15 hf
            refine T_aload dX11_losts_131 rfl ?_
            refine X_getr dX11_losts_132 lfX11_76 rfl ob73 rfl ?_
            refine T_iload dX11_losts_135 rfl ?_
            obtain ⟨hb137_16, hf⟩ := opt_t hf
            refine X_lald (N := 360) dX11_losts_137 ar96 rfl hb137_16 ?_
            refine T_aload dX11_losts_138 rfl ?_
            refine X_getr dX11_losts_139 lfX11_76 rfl ob73 rfl ?_
            refine T_iload dX11_losts_142 rfl ?_
            refine T_const dX11_losts_144 ?_
            refine T_iadd dX11_losts_145 ?_
            obtain ⟨hb146_17, hf⟩ := opt_t hf
            refine X_lald (N := 360) dX11_losts_146 ar96 rfl hb146_17 ?_
            refine T_aload dX11_losts_147 rfl ?_
            refine X_getr dX11_losts_148 lfX11_76 rfl ob73 rfl ?_
            refine T_iload dX11_losts_151 rfl ?_
            refine T_const dX11_losts_153 ?_
            refine T_iadd dX11_losts_154 ?_
            obtain ⟨hb155_18, hf⟩ := opt_t hf
            refine X_lald (N := 360) dX11_losts_155 ar96 rfl hb155_18 ?_
            obtain ⟨q156_19, hc156_19, hf⟩ := bind_t hf
            refine X_Sv (qX11_mayCome _ Z _ _ hc156_19) (Nat.le_of_ble_eq_true rfl) dX11_losts_156 lsX11_110 rfl rfl (Nat.le_of_ble_eq_true rfl) ?_
            refine T_if_eq dX11_losts_159 (fun c159_20 => ?_) (fun c159_20 => ?_)
            · replace hf := ite_t c159_20 hf
              exact X_wk (WK.s (WK.s (WK.s (WK.s (WK.s (WK.n (WK.s WK.e))))))) (J166 _ _ _ hf)
            · replace hf := ite_f c159_20 hf
              refine T_const dX11_losts_162 ?_
              refine T_goto dX11_losts_163 ?_
              exact X_wk (WK.s (WK.s (WK.s (WK.s (WK.s (WK.n (WK.s WK.e))))))) (J167 _ _ _ _ hf)
        have J110 : ∀ (x : aH) (l4 : Int32), jX11_losts_110 (wX11_losts_69 l1 l2 l3 n) x l1 l2 l3 l4 = some R → TX false Z mX11_losts 3 y x Q 110 [.ref 73, .int l1, .int l2, .int l3, .int l4, .null, .null] [] := by
          intro x l4 hf
          delta jX11_losts_110 at hf
          refine T_const dX11_losts_110 ?_
          exact X_wk (WK.s (WK.s (WK.s (WK.s (WK.s (WK.n (WK.n WK.e))))))) (J111 _ _ _ hf)
        refine T_icmp_gt dX11_losts_94 (fun c94_21 => ?_) (fun c94_21 => ?_)
        · replace hf := ite_t c94_21 hf
          exact X_wk (WK.s (WK.s (WK.s (WK.s (WK.s (WK.n (WK.n WK.e))))))) (J110 _ _ hf)
        · replace hf := ite_f c94_21 hf
          refine T_aload dX11_losts_97 rfl ?_
          refine X_getf dX11_losts_98 lfX11_93 rfl ob73 ?_
          refine T_const dX11_losts_101 ?_
          refine T_icmp_ge dX11_losts_103 (fun c103_22 => ?_) (fun c103_22 => ?_)
          · replace hf := ite_t c103_22 hf
            exact X_wk (WK.s (WK.s (WK.s (WK.s (WK.s (WK.n (WK.n WK.e))))))) (J110 _ _ hf)
          · replace hf := ite_f c103_22 hf
            refine T_const dX11_losts_106 ?_
            refine T_goto dX11_losts_107 ?_
            exact X_wk (WK.s (WK.s (WK.s (WK.s (WK.s (WK.n (WK.n WK.e))))))) (J111 _ _ _ hf)
theorem qX11_losts (Z : aZ) (y : aH) {x : aH} {p1 : Int32} {p2 : Int32} {p3 : Int32} {q : (Int32 × aH)} (hf : fX11_losts x p1 p2 p3 = some q) : CX false Z mX11_losts 3 [.ref 73, .int p1, .int p2, .int p3] y x (RV (.int q.1) q.2) := by
  refine CX.of mokX11_losts (Nat.le_of_ble_eq_true rfl) ?_
  show TX _ _ _ _ _ _ _ _ [_, _, _, _, _, _, _] _
  delta fX11_losts at hf
  refine T_iload dX11_losts_0 rfl ?_
  obtain ⟨q1_1, hc1_1, hf⟩ := bind_t hf
  refine X_Sv (qX11_isShelf _ Z _ _ hc1_1) (Nat.le_of_ble_eq_true rfl) dX11_losts_1 lsX11_117 rfl rfl (Nat.le_of_ble_eq_true rfl) ?_
  refine T_if_eq dX11_losts_4 (fun c4_2 => ?_) (fun c4_2 => ?_)
  · replace hf := ite_t c4_2 hf
    refine T_const dX11_losts_19 ?_
    obtain rfl := Option.some.inj hf
    exact X_ri dX11_losts_20 ⟨rfl, rfl⟩
  · replace hf := ite_f c4_2 hf
    refine T_iload dX11_losts_7 rfl ?_
    refine T_i2l dX11_losts_8 ?_
    refine T_constL dX11_losts_9 ?_
    refine T_constL dX11_losts_10 ?_
    obtain ⟨q13_3, hc13_3, hf⟩ := bind_t hf
    refine X_Sv (qX11_within _ Z _ _ hc13_3) (Nat.le_of_ble_eq_true rfl) dX11_losts_13 lsX11_96 rfl rfl (Nat.le_of_ble_eq_true rfl) ?_
    refine T_if_ne dX11_losts_16 (fun c16_4 => ?_) (fun c16_4 => ?_)
    · replace hf := ite_f c16_4 hf
      refine T_aload dX11_losts_21 rfl ?_
      refine X_getr dX11_losts_22 lfX11_70 rfl ob73 rfl ?_
      refine T_iload dX11_losts_25 rfl ?_
      obtain ⟨hb26_5, hf⟩ := opt_t hf
      refine X_iald (N := 6) dX11_losts_26 ar94 rfl hb26_5 ?_
      have J44 : ∀ (x : aH) (l1 : Int32) (l2 : Int32) (l3 : Int32), jX11_losts_44 x l1 l2 l3 = some q → TX false Z mX11_losts 3 y x (RV (.int q.1) q.2) 44 [.ref 73, .int l1, .int l2, .int l3, .null, .null, .null] [] := by
        intro x l1 l2 l3 hf
        delta jX11_losts_44 at hf
        refine T_const dX11_losts_44 ?_
        refine T_istore dX11_losts_45 ?_
        show TX _ _ _ _ _ _ _ _ [_, _, _, _, _, _, _] _
        refine T_aload dX11_losts_47 rfl ?_
        refine X_getr dX11_losts_48 lfX11_70 rfl ob73 rfl ?_
        refine T_iload dX11_losts_51 rfl ?_
        obtain ⟨hb52_6, hf⟩ := opt_t hf
        refine X_iald (N := 6) dX11_losts_52 ar94 rfl hb52_6 ?_
        refine T_const dX11_losts_53 ?_
        have J67 : ∀ (x : aH) (l1 : Int32) (l2 : Int32) (l3 : Int32) (l4 : Int32) (s0 : Int32), jX11_losts_67 x l1 l2 l3 l4 s0 = some q → TX false Z mX11_losts 3 y x (RV (.int q.1) q.2) 67 [.ref 73, .int l1, .int l2, .int l3, .int l4, .null, .null] [.int s0] := by
          intro x l1 l2 l3 l4 s0 hf
          delta jX11_losts_67 at hf
          refine T_istore dX11_losts_67 ?_
          show TX _ _ _ _ _ _ _ _ [_, _, _, _, _, _, _] _
          obtain ⟨q69_23, hc69_23, hf⟩ := bind_t hf
          refine X_wk (WK.s (WK.s (WK.s (WK.s (WK.s (WK.s (WK.n WK.e))))))) (lX11_losts_69 Z _ _ _ _ 2000 _ _ _ hc69_23 ?_)
          intro q69_23z hr
          subst hr
          refine T_iload dX11_losts_212 rfl ?_
          obtain rfl := Option.some.inj hf
          exact X_ri dX11_losts_214 ⟨rfl, rfl⟩
        have J66 : ∀ (x : aH) (l1 : Int32) (l2 : Int32) (l3 : Int32) (l4 : Int32), jX11_losts_66 x l1 l2 l3 l4 = some q → TX false Z mX11_losts 3 y x (RV (.int q.1) q.2) 66 [.ref 73, .int l1, .int l2, .int l3, .int l4, .null, .null] [] := by
          intro x l1 l2 l3 l4 hf
          delta jX11_losts_66 at hf
          refine T_const dX11_losts_66 ?_
          exact X_wk (WK.s (WK.s (WK.s (WK.s (WK.s (WK.n (WK.n WK.e))))))) (J67 _ _ _ _ _ _ hf)
        refine T_icmp_ne dX11_losts_55 (fun c55_24 => ?_) (fun c55_24 => ?_)
        · replace hf := ite_f c55_24 hf
          exact X_wk (WK.s (WK.s (WK.s (WK.s (WK.s (WK.n (WK.n WK.e))))))) (J66 _ _ _ _ _ hf)
        · replace hf := ite_t c55_24 hf
          refine T_iload dX11_losts_58 rfl ?_
          refine T_if_lt dX11_losts_59 (fun c59_25 => ?_) (fun c59_25 => ?_)
          · replace hf := ite_t c59_25 hf
            exact X_wk (WK.s (WK.s (WK.s (WK.s (WK.s (WK.n (WK.n WK.e))))))) (J66 _ _ _ _ _ hf)
          · replace hf := ite_f c59_25 hf
            refine T_const dX11_losts_62 ?_
            refine T_goto dX11_losts_63 ?_
            exact X_wk (WK.s (WK.s (WK.s (WK.s (WK.s (WK.n (WK.n WK.e))))))) (J67 _ _ _ _ _ _ hf)
      refine T_if_lt dX11_losts_27 (fun c27_26 => ?_) (fun c27_26 => ?_)
      · replace hf := ite_t c27_26 hf
        exact X_wk (WK.s (WK.s (WK.s (WK.s (WK.n (WK.n (WK.n WK.e))))))) (J44 _ _ _ _ hf)
      · replace hf := ite_f c27_26 hf
        refine T_aload dX11_losts_30 rfl ?_
        refine X_getr dX11_losts_31 lfX11_70 rfl ob73 rfl ?_
        refine T_iload dX11_losts_34 rfl ?_
        obtain ⟨hb35_27, hf⟩ := opt_t hf
        refine X_iald (N := 6) dX11_losts_35 ar94 rfl hb35_27 ?_
        refine T_const dX11_losts_36 ?_
        refine T_icmp_eq dX11_losts_38 (fun c38_28 => ?_) (fun c38_28 => ?_)
        · replace hf := ite_t c38_28 hf
          exact X_wk (WK.s (WK.s (WK.s (WK.s (WK.n (WK.n (WK.n WK.e))))))) (J44 _ _ _ _ hf)
        · replace hf := ite_f c38_28 hf
          refine T_const dX11_losts_41 ?_
          obtain rfl := Option.some.inj hf
          exact X_ri dX11_losts_43 ⟨rfl, rfl⟩
    · replace hf := ite_t c16_4 hf
      refine T_const dX11_losts_19 ?_
      obtain rfl := Option.some.inj hf
      exact X_ri dX11_losts_20 ⟨rfl, rfl⟩
noncomputable def fX11_placeOf (x : aH) (p1 : Int32) (p2 : Int32) : Option Int32 := (fX11_within (Int32.toInt64 p2) (0 : Int64) (3 : Int64)).bind fun q6_1 => if q6_1 = (0 : Int32) then (fX11_within (Int32.toInt64 p2) (4 : Int64) (5 : Int64)).bind fun q40_3 => if q40_3 = (0 : Int32) then if p1 = (0 : Int32) then (fX11_within (Int32.toInt64 p2) (6 : Int64) (9 : Int64)).bind fun q82_6 => if q82_6 = (0 : Int32) then some (-1 : Int32) else some (((168 : Int32) + p2) - (6 : Int32)) else some (-1 : Int32) else (fX11_isCell (Int32.toInt64 p1)).bind fun q48_8 => if q48_8 = (0 : Int32) then some (-1 : Int32) else some (((40 : Int32) + ((64 : Int32) * (p2 - (4 : Int32)))) + p1) else (fX11_isLost x (Int32.toInt64 p1)).bind fun q15_10 => if q15_10 = (0 : Int32) then some (-1 : Int32) else some (((10 : Int32) * p2) + p1)
theorem qX11_placeOf (Z : aZ) (y : aH) {x : aH} {p1 : Int32} {p2 : Int32} {q : Int32} (hf : fX11_placeOf x p1 p2 = some q) : CX false Z mX11_placeOf 2 [.ref 73, .int p1, .int p2] y x (RV (.int q) x) := by
  refine CX.of mokX11_placeOf (Nat.le_of_ble_eq_true rfl) ?_
  show TX _ _ _ _ _ _ _ _ [_, _, _] _
  delta fX11_placeOf at hf
  refine T_iload dX11_placeOf_0 rfl ?_
  refine T_i2l dX11_placeOf_1 ?_
  refine T_constL dX11_placeOf_2 ?_
  refine T_constL dX11_placeOf_3 ?_
  obtain ⟨q6_1, hc6_1, hf⟩ := bind_t hf
  refine X_Sv (qX11_within _ Z _ _ hc6_1) (Nat.le_of_ble_eq_true rfl) dX11_placeOf_6 lsX11_96 rfl rfl (Nat.le_of_ble_eq_true rfl) ?_
  refine T_if_eq dX11_placeOf_9 (fun c9_2 => ?_) (fun c9_2 => ?_)
  · replace hf := ite_t c9_2 hf
    refine T_iload dX11_placeOf_32 rfl ?_
    refine T_i2l dX11_placeOf_33 ?_
    refine T_constL dX11_placeOf_34 ?_
    refine T_constL dX11_placeOf_37 ?_
    obtain ⟨q40_3, hc40_3, hf⟩ := bind_t hf
    refine X_Sv (qX11_within _ Z _ _ hc40_3) (Nat.le_of_ble_eq_true rfl) dX11_placeOf_40 lsX11_96 rfl rfl (Nat.le_of_ble_eq_true rfl) ?_
    refine T_if_eq dX11_placeOf_43 (fun c43_4 => ?_) (fun c43_4 => ?_)
    · replace hf := ite_t c43_4 hf
      refine T_iload dX11_placeOf_70 rfl ?_
      refine T_if_ne dX11_placeOf_71 (fun c71_5 => ?_) (fun c71_5 => ?_)
      · replace hf := ite_f c71_5 hf
        refine T_const dX11_placeOf_99 ?_
        obtain rfl := Option.some.inj hf
        exact X_ri dX11_placeOf_100 ⟨rfl, rfl⟩
      · replace hf := ite_t c71_5 hf
        refine T_iload dX11_placeOf_74 rfl ?_
        refine T_i2l dX11_placeOf_75 ?_
        refine T_constL dX11_placeOf_76 ?_
        refine T_constL dX11_placeOf_79 ?_
        obtain ⟨q82_6, hc82_6, hf⟩ := bind_t hf
        refine X_Sv (qX11_within _ Z _ _ hc82_6) (Nat.le_of_ble_eq_true rfl) dX11_placeOf_82 lsX11_96 rfl rfl (Nat.le_of_ble_eq_true rfl) ?_
        refine T_if_eq dX11_placeOf_85 (fun c85_7 => ?_) (fun c85_7 => ?_)
        · replace hf := ite_t c85_7 hf
          refine T_const dX11_placeOf_99 ?_
          obtain rfl := Option.some.inj hf
          exact X_ri dX11_placeOf_100 ⟨rfl, rfl⟩
        · replace hf := ite_f c85_7 hf
          refine T_const dX11_placeOf_88 ?_
          refine T_iload dX11_placeOf_91 rfl ?_
          refine T_iadd dX11_placeOf_92 ?_
          refine T_const dX11_placeOf_93 ?_
          refine T_isub dX11_placeOf_95 ?_
          refine T_goto dX11_placeOf_96 ?_
          obtain rfl := Option.some.inj hf
          exact X_ri dX11_placeOf_100 ⟨rfl, rfl⟩
    · replace hf := ite_f c43_4 hf
      refine T_iload dX11_placeOf_46 rfl ?_
      refine T_i2l dX11_placeOf_47 ?_
      obtain ⟨q48_8, hc48_8, hf⟩ := bind_t hf
      refine X_Sv (qX11_isCell _ Z _ _ hc48_8) (Nat.le_of_ble_eq_true rfl) dX11_placeOf_48 lsX11_102 rfl rfl (Nat.le_of_ble_eq_true rfl) ?_
      refine T_if_eq dX11_placeOf_51 (fun c51_9 => ?_) (fun c51_9 => ?_)
      · replace hf := ite_t c51_9 hf
        refine T_const dX11_placeOf_68 ?_
        obtain rfl := Option.some.inj hf
        exact X_ri dX11_placeOf_69 ⟨rfl, rfl⟩
      · replace hf := ite_f c51_9 hf
        refine T_const dX11_placeOf_54 ?_
        refine T_const dX11_placeOf_56 ?_
        refine T_iload dX11_placeOf_58 rfl ?_
        refine T_const dX11_placeOf_59 ?_
        refine T_isub dX11_placeOf_60 ?_
        refine T_imul dX11_placeOf_61 ?_
        refine T_iadd dX11_placeOf_62 ?_
        refine T_iload dX11_placeOf_63 rfl ?_
        refine T_iadd dX11_placeOf_64 ?_
        refine T_goto dX11_placeOf_65 ?_
        obtain rfl := Option.some.inj hf
        exact X_ri dX11_placeOf_69 ⟨rfl, rfl⟩
  · replace hf := ite_f c9_2 hf
    refine T_aload dX11_placeOf_12 rfl ?_
    refine T_iload dX11_placeOf_13 rfl ?_
    refine T_i2l dX11_placeOf_14 ?_
    obtain ⟨q15_10, hc15_10, hf⟩ := bind_t hf
    refine X_Vv (qX11_isLost Z _ hc15_10) (Nat.le_of_ble_eq_true rfl) dX11_placeOf_15 lvX11_123 rfl rfl ob73 (Nat.le_of_ble_eq_true rfl) ?_
    refine T_if_eq dX11_placeOf_18 (fun c18_11 => ?_) (fun c18_11 => ?_)
    · replace hf := ite_t c18_11 hf
      refine T_const dX11_placeOf_30 ?_
      obtain rfl := Option.some.inj hf
      exact X_ri dX11_placeOf_31 ⟨rfl, rfl⟩
    · replace hf := ite_f c18_11 hf
      refine T_const dX11_placeOf_21 ?_
      refine T_iload dX11_placeOf_23 rfl ?_
      refine T_imul dX11_placeOf_24 ?_
      refine T_iload dX11_placeOf_25 rfl ?_
      refine T_iadd dX11_placeOf_26 ?_
      refine T_goto dX11_placeOf_27 ?_
      obtain rfl := Option.some.inj hf
      exact X_ri dX11_placeOf_31 ⟨rfl, rfl⟩
noncomputable def fX11_mayBecome (p0 : Int32) (p1 : Int32) : Option Int32 := if p0 = (0 : Int32) then (fX11_isCell (Int32.toInt64 p1)).bind fun q58_2 => if q58_2 = (0 : Int32) ∨ q58_2 = (1 : Int32) then some q58_2 else none else if p0 = (1 : Int32) then (fX11_within (Int32.toInt64 p1) (0 : Int64) (3 : Int64)).bind fun q68_4 => if q68_4 = (0 : Int32) ∨ q68_4 = (1 : Int32) then some q68_4 else none else if p0 = (2 : Int32) then (fX11_within (Int32.toInt64 p1) (0 : Int64) (9 : Int64)).bind fun q116_6 => if q116_6 = (0 : Int32) ∨ q116_6 = (1 : Int32) then some q116_6 else none else if p0 = (3 : Int32) then (fX11_within (Int32.toInt64 p1) (0 : Int64) (1 : Int64)).bind fun q76_8 => if q76_8 = (0 : Int32) ∨ q76_8 = (1 : Int32) then some q76_8 else none else if p0 = (4 : Int32) then (fX11_within (Int32.toInt64 p1) (0 : Int64) (9 : Int64)).bind fun q116_10 => if q116_10 = (0 : Int32) ∨ q116_10 = (1 : Int32) then some q116_10 else none else if p0 = (5 : Int32) then (fX11_within (Int32.toInt64 p1) (0 : Int64) (4 : Int64)).bind fun q86_12 => if q86_12 = (0 : Int32) ∨ q86_12 = (1 : Int32) then some q86_12 else none else if p0 = (6 : Int32) then (fX11_isCell (Int32.toInt64 p1)).bind fun q58_14 => if q58_14 = (0 : Int32) ∨ q58_14 = (1 : Int32) then some q58_14 else none else if p0 = (7 : Int32) then (fX11_within (Int32.toInt64 p1) (0 : Int64) (999 : Int64)).bind fun q96_16 => if q96_16 = (0 : Int32) ∨ q96_16 = (1 : Int32) then some q96_16 else none else if p0 = (8 : Int32) then (fX11_within (Int32.toInt64 p1) (1 : Int64) (9 : Int64)).bind fun q106_18 => if q106_18 = (0 : Int32) ∨ q106_18 = (1 : Int32) then some q106_18 else none else if p0 = (9 : Int32) then (fX11_within (Int32.toInt64 p1) (1 : Int64) (9 : Int64)).bind fun q106_20 => if q106_20 = (0 : Int32) ∨ q106_20 = (1 : Int32) then some q106_20 else none else (fX11_within (Int32.toInt64 p1) (0 : Int64) (9 : Int64)).bind fun q116_21 => if q116_21 = (0 : Int32) ∨ q116_21 = (1 : Int32) then some q116_21 else none
theorem qX11_mayBecome (sd : Bool) (Z : aZ) (y : aH) (x : aH) {p0 : Int32} {p1 : Int32} {q : Int32} (hf : fX11_mayBecome p0 p1 = some q) : CX sd Z mX11_mayBecome 2 [.int p0, .int p1] y x (RV (.int q) x) := by
  refine CX.of mokX11_mayBecome (Nat.le_of_ble_eq_true rfl) ?_
  show TX _ _ _ _ _ _ _ _ [_, _] _
  delta fX11_mayBecome at hf
  refine T_iload dX11_mayBecome_0 rfl ?_
  by_cases c1_1 : p0 = (0 : Int32)
  · replace hf := ite_t c1_1 hf
    refine T_tabE (off := 55) (tgt := 56) c1_1 dX11_mayBecome_1 (by decide) (by decide) (by decide) (by decide) ?_
    refine T_iload dX11_mayBecome_56 rfl ?_
    refine T_i2l dX11_mayBecome_57 ?_
    obtain ⟨q58_2, hc58_2, hf⟩ := bind_t hf
    refine X_Sv (qX11_isCell _ Z _ _ hc58_2) (Nat.le_of_ble_eq_true rfl) dX11_mayBecome_58 lsX11_102 rfl rfl (Nat.le_of_ble_eq_true rfl) ?_
    obtain ⟨h01, hf⟩ := opt_t hf
    obtain rfl := Option.some.inj hf
    exact X_rz dX11_mayBecome_61 h01 ⟨rfl, rfl⟩
  replace hf := ite_f c1_1 hf
  by_cases c1_3 : p0 = (1 : Int32)
  · replace hf := ite_t c1_3 hf
    refine T_tabE (off := 61) (tgt := 62) c1_3 dX11_mayBecome_1 (by decide) (by decide) (by decide) (by decide) ?_
    refine T_iload dX11_mayBecome_62 rfl ?_
    refine T_i2l dX11_mayBecome_63 ?_
    refine T_constL dX11_mayBecome_64 ?_
    refine T_constL dX11_mayBecome_65 ?_
    obtain ⟨q68_4, hc68_4, hf⟩ := bind_t hf
    refine X_Sv (qX11_within _ Z _ _ hc68_4) (Nat.le_of_ble_eq_true rfl) dX11_mayBecome_68 lsX11_96 rfl rfl (Nat.le_of_ble_eq_true rfl) ?_
    obtain ⟨h01, hf⟩ := opt_t hf
    obtain rfl := Option.some.inj hf
    exact X_rz dX11_mayBecome_71 h01 ⟨rfl, rfl⟩
  replace hf := ite_f c1_3 hf
  by_cases c1_5 : p0 = (2 : Int32)
  · replace hf := ite_t c1_5 hf
    refine T_tabE (off := 109) (tgt := 110) c1_5 dX11_mayBecome_1 (by decide) (by decide) (by decide) (by decide) ?_
    refine T_iload dX11_mayBecome_110 rfl ?_
    refine T_i2l dX11_mayBecome_111 ?_
    refine T_constL dX11_mayBecome_112 ?_
    refine T_constL dX11_mayBecome_113 ?_
    obtain ⟨q116_6, hc116_6, hf⟩ := bind_t hf
    refine X_Sv (qX11_within _ Z _ _ hc116_6) (Nat.le_of_ble_eq_true rfl) dX11_mayBecome_116 lsX11_96 rfl rfl (Nat.le_of_ble_eq_true rfl) ?_
    obtain ⟨h01, hf⟩ := opt_t hf
    obtain rfl := Option.some.inj hf
    exact X_rz dX11_mayBecome_119 h01 ⟨rfl, rfl⟩
  replace hf := ite_f c1_5 hf
  by_cases c1_7 : p0 = (3 : Int32)
  · replace hf := ite_t c1_7 hf
    refine T_tabE (off := 71) (tgt := 72) c1_7 dX11_mayBecome_1 (by decide) (by decide) (by decide) (by decide) ?_
    refine T_iload dX11_mayBecome_72 rfl ?_
    refine T_i2l dX11_mayBecome_73 ?_
    refine T_constL dX11_mayBecome_74 ?_
    refine T_constL dX11_mayBecome_75 ?_
    obtain ⟨q76_8, hc76_8, hf⟩ := bind_t hf
    refine X_Sv (qX11_within _ Z _ _ hc76_8) (Nat.le_of_ble_eq_true rfl) dX11_mayBecome_76 lsX11_96 rfl rfl (Nat.le_of_ble_eq_true rfl) ?_
    obtain ⟨h01, hf⟩ := opt_t hf
    obtain rfl := Option.some.inj hf
    exact X_rz dX11_mayBecome_79 h01 ⟨rfl, rfl⟩
  replace hf := ite_f c1_7 hf
  by_cases c1_9 : p0 = (4 : Int32)
  · replace hf := ite_t c1_9 hf
    refine T_tabE (off := 109) (tgt := 110) c1_9 dX11_mayBecome_1 (by decide) (by decide) (by decide) (by decide) ?_
    refine T_iload dX11_mayBecome_110 rfl ?_
    refine T_i2l dX11_mayBecome_111 ?_
    refine T_constL dX11_mayBecome_112 ?_
    refine T_constL dX11_mayBecome_113 ?_
    obtain ⟨q116_10, hc116_10, hf⟩ := bind_t hf
    refine X_Sv (qX11_within _ Z _ _ hc116_10) (Nat.le_of_ble_eq_true rfl) dX11_mayBecome_116 lsX11_96 rfl rfl (Nat.le_of_ble_eq_true rfl) ?_
    obtain ⟨h01, hf⟩ := opt_t hf
    obtain rfl := Option.some.inj hf
    exact X_rz dX11_mayBecome_119 h01 ⟨rfl, rfl⟩
  replace hf := ite_f c1_9 hf
  by_cases c1_11 : p0 = (5 : Int32)
  · replace hf := ite_t c1_11 hf
    refine T_tabE (off := 79) (tgt := 80) c1_11 dX11_mayBecome_1 (by decide) (by decide) (by decide) (by decide) ?_
    refine T_iload dX11_mayBecome_80 rfl ?_
    refine T_i2l dX11_mayBecome_81 ?_
    refine T_constL dX11_mayBecome_82 ?_
    refine T_constL dX11_mayBecome_83 ?_
    obtain ⟨q86_12, hc86_12, hf⟩ := bind_t hf
    refine X_Sv (qX11_within _ Z _ _ hc86_12) (Nat.le_of_ble_eq_true rfl) dX11_mayBecome_86 lsX11_96 rfl rfl (Nat.le_of_ble_eq_true rfl) ?_
    obtain ⟨h01, hf⟩ := opt_t hf
    obtain rfl := Option.some.inj hf
    exact X_rz dX11_mayBecome_89 h01 ⟨rfl, rfl⟩
  replace hf := ite_f c1_11 hf
  by_cases c1_13 : p0 = (6 : Int32)
  · replace hf := ite_t c1_13 hf
    refine T_tabE (off := 55) (tgt := 56) c1_13 dX11_mayBecome_1 (by decide) (by decide) (by decide) (by decide) ?_
    refine T_iload dX11_mayBecome_56 rfl ?_
    refine T_i2l dX11_mayBecome_57 ?_
    obtain ⟨q58_14, hc58_14, hf⟩ := bind_t hf
    refine X_Sv (qX11_isCell _ Z _ _ hc58_14) (Nat.le_of_ble_eq_true rfl) dX11_mayBecome_58 lsX11_102 rfl rfl (Nat.le_of_ble_eq_true rfl) ?_
    obtain ⟨h01, hf⟩ := opt_t hf
    obtain rfl := Option.some.inj hf
    exact X_rz dX11_mayBecome_61 h01 ⟨rfl, rfl⟩
  replace hf := ite_f c1_13 hf
  by_cases c1_15 : p0 = (7 : Int32)
  · replace hf := ite_t c1_15 hf
    refine T_tabE (off := 89) (tgt := 90) c1_15 dX11_mayBecome_1 (by decide) (by decide) (by decide) (by decide) ?_
    refine T_iload dX11_mayBecome_90 rfl ?_
    refine T_i2l dX11_mayBecome_91 ?_
    refine T_constL dX11_mayBecome_92 ?_
    refine T_constL dX11_mayBecome_93 ?_
    obtain ⟨q96_16, hc96_16, hf⟩ := bind_t hf
    refine X_Sv (qX11_within _ Z _ _ hc96_16) (Nat.le_of_ble_eq_true rfl) dX11_mayBecome_96 lsX11_96 rfl rfl (Nat.le_of_ble_eq_true rfl) ?_
    obtain ⟨h01, hf⟩ := opt_t hf
    obtain rfl := Option.some.inj hf
    exact X_rz dX11_mayBecome_99 h01 ⟨rfl, rfl⟩
  replace hf := ite_f c1_15 hf
  by_cases c1_17 : p0 = (8 : Int32)
  · replace hf := ite_t c1_17 hf
    refine T_tabE (off := 99) (tgt := 100) c1_17 dX11_mayBecome_1 (by decide) (by decide) (by decide) (by decide) ?_
    refine T_iload dX11_mayBecome_100 rfl ?_
    refine T_i2l dX11_mayBecome_101 ?_
    refine T_constL dX11_mayBecome_102 ?_
    refine T_constL dX11_mayBecome_103 ?_
    obtain ⟨q106_18, hc106_18, hf⟩ := bind_t hf
    refine X_Sv (qX11_within _ Z _ _ hc106_18) (Nat.le_of_ble_eq_true rfl) dX11_mayBecome_106 lsX11_96 rfl rfl (Nat.le_of_ble_eq_true rfl) ?_
    obtain ⟨h01, hf⟩ := opt_t hf
    obtain rfl := Option.some.inj hf
    exact X_rz dX11_mayBecome_109 h01 ⟨rfl, rfl⟩
  replace hf := ite_f c1_17 hf
  by_cases c1_19 : p0 = (9 : Int32)
  · replace hf := ite_t c1_19 hf
    refine T_tabE (off := 99) (tgt := 100) c1_19 dX11_mayBecome_1 (by decide) (by decide) (by decide) (by decide) ?_
    refine T_iload dX11_mayBecome_100 rfl ?_
    refine T_i2l dX11_mayBecome_101 ?_
    refine T_constL dX11_mayBecome_102 ?_
    refine T_constL dX11_mayBecome_103 ?_
    obtain ⟨q106_20, hc106_20, hf⟩ := bind_t hf
    refine X_Sv (qX11_within _ Z _ _ hc106_20) (Nat.le_of_ble_eq_true rfl) dX11_mayBecome_106 lsX11_96 rfl rfl (Nat.le_of_ble_eq_true rfl) ?_
    obtain ⟨h01, hf⟩ := opt_t hf
    obtain rfl := Option.some.inj hf
    exact X_rz dX11_mayBecome_109 h01 ⟨rfl, rfl⟩
  replace hf := ite_f c1_19 hf
  refine T_tabOut (tgt := 110) ⟨dX11_mayBecome_1, by decide⟩ (by
    have n0 := ne_toInt c1_1; rw [show (0 : Int32).toInt = 0 from rfl] at n0
    have n1 := ne_toInt c1_3; rw [show (1 : Int32).toInt = 1 from rfl] at n1
    have n2 := ne_toInt c1_5; rw [show (2 : Int32).toInt = 2 from rfl] at n2
    have n3 := ne_toInt c1_7; rw [show (3 : Int32).toInt = 3 from rfl] at n3
    have n4 := ne_toInt c1_9; rw [show (4 : Int32).toInt = 4 from rfl] at n4
    have n5 := ne_toInt c1_11; rw [show (5 : Int32).toInt = 5 from rfl] at n5
    have n6 := ne_toInt c1_13; rw [show (6 : Int32).toInt = 6 from rfl] at n6
    have n7 := ne_toInt c1_15; rw [show (7 : Int32).toInt = 7 from rfl] at n7
    have n8 := ne_toInt c1_17; rw [show (8 : Int32).toInt = 8 from rfl] at n8
    have n9 := ne_toInt c1_19; rw [show (9 : Int32).toInt = 9 from rfl] at n9
    omega) ?_
  refine T_iload dX11_mayBecome_110 rfl ?_
  refine T_i2l dX11_mayBecome_111 ?_
  refine T_constL dX11_mayBecome_112 ?_
  refine T_constL dX11_mayBecome_113 ?_
  obtain ⟨q116_21, hc116_21, hf⟩ := bind_t hf
  refine X_Sv (qX11_within _ Z _ _ hc116_21) (Nat.le_of_ble_eq_true rfl) dX11_mayBecome_116 lsX11_96 rfl rfl (Nat.le_of_ble_eq_true rfl) ?_
  obtain ⟨h01, hf⟩ := opt_t hf
  obtain rfl := Option.some.inj hf
  exact X_rz dX11_mayBecome_119 h01 ⟨rfl, rfl⟩
noncomputable def fX11_mend (x : aH) (p1 : Int32) (p2 : Int32) (p3 : Int32) : Option (Int32 × aH) := (fX11_placeOf x p1 p2).bind fun q3_1 => if q3_1 < (0 : Int32) then some ((-1 : Int32), x) else (fX11_mayBecome p2 p3).bind fun q15_3 => if q15_3 = (0 : Int32) then some ((-1 : Int32), x) else (fX11_becomes x q3_1 p3).bind fun q25_5 => some (q25_5.1, q25_5.2)
theorem qX11_mend (Z : aZ) (y : aH) {x : aH} {p1 : Int32} {p2 : Int32} {p3 : Int32} {q : (Int32 × aH)} (hf : fX11_mend x p1 p2 p3 = some q) : CX false Z mX11_mend 3 [.ref 73, .int p1, .int p2, .int p3] y x (RV (.int q.1) q.2) := by
  refine CX.of mokX11_mend (Nat.le_of_ble_eq_true rfl) ?_
  show TX _ _ _ _ _ _ _ _ [_, _, _, _, _] _
  delta fX11_mend at hf
  refine T_aload dX11_mend_0 rfl ?_
  refine T_iload dX11_mend_1 rfl ?_
  refine T_iload dX11_mend_2 rfl ?_
  obtain ⟨q3_1, hc3_1, hf⟩ := bind_t hf
  refine X_Vv (qX11_placeOf Z _ hc3_1) (Nat.le_of_ble_eq_true rfl) dX11_mend_3 lvX11_134 rfl rfl ob73 (Nat.le_of_ble_eq_true rfl) ?_
  refine T_istore dX11_mend_6 ?_
  show TX _ _ _ _ _ _ _ _ [_, _, _, _, _] _
  refine T_iload dX11_mend_8 rfl ?_
  refine T_if_lt dX11_mend_10 (fun c10_2 => ?_) (fun c10_2 => ?_)
  · replace hf := ite_t c10_2 hf
    refine T_const dX11_mend_31 ?_
    obtain rfl := Option.some.inj hf
    exact X_ri dX11_mend_32 ⟨rfl, rfl⟩
  · replace hf := ite_f c10_2 hf
    refine T_iload dX11_mend_13 rfl ?_
    refine T_iload dX11_mend_14 rfl ?_
    obtain ⟨q15_3, hc15_3, hf⟩ := bind_t hf
    refine X_Sv (qX11_mayBecome _ Z _ _ hc15_3) (Nat.le_of_ble_eq_true rfl) dX11_mend_15 lsX11_138 rfl rfl (Nat.le_of_ble_eq_true rfl) ?_
    refine T_if_eq dX11_mend_18 (fun c18_4 => ?_) (fun c18_4 => ?_)
    · replace hf := ite_t c18_4 hf
      refine T_const dX11_mend_31 ?_
      obtain rfl := Option.some.inj hf
      exact X_ri dX11_mend_32 ⟨rfl, rfl⟩
    · replace hf := ite_f c18_4 hf
      refine T_aload dX11_mend_21 rfl ?_
      refine T_iload dX11_mend_22 rfl ?_
      refine T_iload dX11_mend_24 rfl ?_
      obtain ⟨q25_5, hc25_5, hf⟩ := bind_t hf
      refine X_Vv (qX11_becomes Z _ hc25_5) (Nat.le_of_ble_eq_true rfl) dX11_mend_25 lvX11_142 rfl rfl ob73 (Nat.le_of_ble_eq_true rfl) ?_
      refine T_goto dX11_mend_28 ?_
      obtain rfl := Option.some.inj hf
      exact X_ri dX11_mend_32 ⟨rfl, rfl⟩
noncomputable def fX11_of (x : aH) (p1 : Int32) (p2 : Int32) : Option Int32 := (fX11_placeOf x p1 p2).bind fun q3_1 => if q3_1 < (0 : Int32) then some (-1 : Int32) else if (0 : Int32) ≤ q3_1 ∧ q3_1 < (172 : Int32) then some (ri x 74 (ix q3_1)) else none
theorem qX11_of (Z : aZ) (y : aH) {x : aH} {p1 : Int32} {p2 : Int32} {q : Int32} (hf : fX11_of x p1 p2 = some q) : CX false Z mX11_of 3 [.ref 73, .int p1, .int p2] y x (RV (.int q) x) := by
  refine CX.of mokX11_of (Nat.le_of_ble_eq_true rfl) ?_
  show TX _ _ _ _ _ _ _ _ [_, _, _, _] _
  delta fX11_of at hf
  refine T_aload dX11_of_0 rfl ?_
  refine T_iload dX11_of_1 rfl ?_
  refine T_iload dX11_of_2 rfl ?_
  obtain ⟨q3_1, hc3_1, hf⟩ := bind_t hf
  refine X_Vv (qX11_placeOf Z _ hc3_1) (Nat.le_of_ble_eq_true rfl) dX11_of_3 lvX11_134 rfl rfl ob73 (Nat.le_of_ble_eq_true rfl) ?_
  refine T_istore dX11_of_6 ?_
  show TX _ _ _ _ _ _ _ _ [_, _, _, _] _
  refine T_iload dX11_of_7 rfl ?_
  refine T_if_lt dX11_of_8 (fun c8_2 => ?_) (fun c8_2 => ?_)
  · replace hf := ite_t c8_2 hf
    refine T_const dX11_of_20 ?_
    obtain rfl := Option.some.inj hf
    exact X_ri dX11_of_21 ⟨rfl, rfl⟩
  · replace hf := ite_f c8_2 hf
    refine T_aload dX11_of_11 rfl ?_
    refine X_getr dX11_of_12 lfX11_9 rfl ob73 rfl ?_
    refine T_iload dX11_of_15 rfl ?_
    obtain ⟨hb16_3, hf⟩ := opt_t hf
    refine X_iald (N := 172) dX11_of_16 ar74 rfl hb16_3 ?_
    refine T_goto dX11_of_17 ?_
    obtain rfl := Option.some.inj hf
    exact X_ri dX11_of_21 ⟨rfl, rfl⟩
noncomputable def fX11_feed (x : aH) (p1 : Int32) : Option (Int32 × aH) := (fX11_within (Int32.toInt64 p1) (0 : Int64) (255 : Int64)).bind fun q6_1 => if q6_1 = (0 : Int32) then some ((-1 : Int32), x) else if (fi x 73 8) = (120 : Int32) then some ((-3 : Int32), x) else if (0 : Int32) ≤ (fi x 73 8) ∧ (fi x 73 8) < (120 : Int32) then some ((fi (sfi (sri x 78 (ix (fi x 73 8)) p1) 73 8 ((fi (sri x 78 (ix (fi x 73 8)) p1) 73 8) + (1 : Int32))) 73 8), (sfi (sri x 78 (ix (fi x 73 8)) p1) 73 8 ((fi (sri x 78 (ix (fi x 73 8)) p1) 73 8) + (1 : Int32)))) else none
theorem qX11_feed (Z : aZ) (y : aH) {x : aH} {p1 : Int32} {q : (Int32 × aH)} (hf : fX11_feed x p1 = some q) : CX false Z mX11_feed 1 [.ref 73, .int p1] y x (RV (.int q.1) q.2) := by
  refine CX.of mokX11_feed (Nat.le_of_ble_eq_true rfl) ?_
  show TX _ _ _ _ _ _ _ _ [_, _] _
  delta fX11_feed at hf
  refine T_iload dX11_feed_0 rfl ?_
  refine T_i2l dX11_feed_1 ?_
  refine T_constL dX11_feed_2 ?_
  refine T_constL dX11_feed_3 ?_
  obtain ⟨q6_1, hc6_1, hf⟩ := bind_t hf
  refine X_Sv (qX11_within _ Z _ _ hc6_1) (Nat.le_of_ble_eq_true rfl) dX11_feed_6 lsX11_96 rfl rfl (Nat.le_of_ble_eq_true rfl) ?_
  refine T_if_ne dX11_feed_9 (fun c9_2 => ?_) (fun c9_2 => ?_)
  · replace hf := ite_f c9_2 hf
    refine T_aload dX11_feed_14 rfl ?_
    refine X_getf dX11_feed_15 lfX11_147 rfl ob73 ?_
    refine T_const dX11_feed_18 ?_
    refine T_icmp_ne dX11_feed_20 (fun c20_3 => ?_) (fun c20_3 => ?_)
    · replace hf := ite_f c20_3 hf
      refine T_aload dX11_feed_26 rfl ?_
      refine X_getr dX11_feed_27 lfX11_22 rfl ob73 rfl ?_
      refine T_aload dX11_feed_30 rfl ?_
      refine X_getf dX11_feed_31 lfX11_147 rfl ob73 ?_
      refine T_iload dX11_feed_34 rfl ?_
      obtain ⟨hb35_4, hf⟩ := opt_t hf
      refine X_iast (N := 120) dX11_feed_35 ar78 rfl hb35_4 ?_
      refine T_aload dX11_feed_36 rfl ?_
      refine T_dup dX11_feed_37 rfl ?_
      refine X_getf dX11_feed_38 lfX11_147 rfl ob73 ?_
      refine T_const dX11_feed_41 ?_
      refine T_iadd dX11_feed_42 ?_
      refine X_putf dX11_feed_43 lfX11_147 rfl rfl ob73 ⟨rfl, rfl⟩ ?_
      refine T_aload dX11_feed_46 rfl ?_
      refine X_getf dX11_feed_47 lfX11_147 rfl ob73 ?_
      obtain rfl := Option.some.inj hf
      exact X_ri dX11_feed_50 ⟨rfl, rfl⟩
    · replace hf := ite_t c20_3 hf
      refine T_const dX11_feed_23 ?_
      obtain rfl := Option.some.inj hf
      exact X_ri dX11_feed_25 ⟨rfl, rfl⟩
  · replace hf := ite_t c9_2 hf
    refine T_const dX11_feed_12 ?_
    obtain rfl := Option.some.inj hf
    exact X_ri dX11_feed_13 ⟨rfl, rfl⟩
noncomputable def fX11_byteAt (x : aH) : Option Int32 := if (fi x 73 13) ≤ (fi x 73 12) then some (0 : Int32) else if (0 : Int32) ≤ (fi x 73 11) then if (0 : Int32) ≤ ((fi x 73 11) + (fi x 73 12)) ∧ ((fi x 73 11) + (fi x 73 12)) < (120 : Int32) then some (ri x 79 (ix ((fi x 73 11) + (fi x 73 12)))) else none else if (0 : Int32) ≤ (fi x 73 12) ∧ (fi x 73 12) < (120 : Int32) then some (ri x 78 (ix (fi x 73 12))) else none
theorem qX11_byteAt (Z : aZ) (y : aH) {x : aH} {q : Int32} (hf : fX11_byteAt x = some q) : CX false Z mX11_byteAt 0 [.ref 73] y x (RV (.int q) x) := by
  refine CX.of mokX11_byteAt (Nat.le_of_ble_eq_true rfl) ?_
  show TX _ _ _ _ _ _ _ _ [_] _
  delta fX11_byteAt at hf
  refine T_aload dX11_byteAt_0 rfl ?_
  refine X_getf dX11_byteAt_1 lfX11_150 rfl ob73 ?_
  refine T_aload dX11_byteAt_4 rfl ?_
  refine X_getf dX11_byteAt_5 lfX11_153 rfl ob73 ?_
  refine T_icmp_ge dX11_byteAt_8 (fun c8_1 => ?_) (fun c8_1 => ?_)
  · replace hf := ite_t c8_1 hf
    refine T_const dX11_byteAt_47 ?_
    obtain rfl := Option.some.inj hf
    exact X_ri dX11_byteAt_48 ⟨rfl, rfl⟩
  · replace hf := ite_f c8_1 hf
    refine T_aload dX11_byteAt_11 rfl ?_
    refine X_getf dX11_byteAt_12 lfX11_156 rfl ob73 ?_
    refine T_if_ge dX11_byteAt_15 (fun c15_2 => ?_) (fun c15_2 => ?_)
    · replace hf := ite_t c15_2 hf
      refine T_aload dX11_byteAt_30 rfl ?_
      refine X_getr dX11_byteAt_31 lfX11_25 rfl ob73 rfl ?_
      refine T_aload dX11_byteAt_34 rfl ?_
      refine X_getf dX11_byteAt_35 lfX11_156 rfl ob73 ?_
      refine T_aload dX11_byteAt_38 rfl ?_
      refine X_getf dX11_byteAt_39 lfX11_150 rfl ob73 ?_
      refine T_iadd dX11_byteAt_42 ?_
      obtain ⟨hb43_3, hf⟩ := opt_t hf
      refine X_iald (N := 120) dX11_byteAt_43 ar79 rfl hb43_3 ?_
      refine T_goto dX11_byteAt_44 ?_
      obtain rfl := Option.some.inj hf
      exact X_ri dX11_byteAt_48 ⟨rfl, rfl⟩
    · replace hf := ite_f c15_2 hf
      refine T_aload dX11_byteAt_18 rfl ?_
      refine X_getr dX11_byteAt_19 lfX11_22 rfl ob73 rfl ?_
      refine T_aload dX11_byteAt_22 rfl ?_
      refine X_getf dX11_byteAt_23 lfX11_150 rfl ob73 ?_
      obtain ⟨hb26_4, hf⟩ := opt_t hf
      refine X_iald (N := 120) dX11_byteAt_26 ar78 rfl hb26_4 ?_
      refine T_goto dX11_byteAt_27 ?_
      obtain rfl := Option.some.inj hf
      exact X_ri dX11_byteAt_48 ⟨rfl, rfl⟩
noncomputable def fX11_wrong (x : aH) : Option (Int32 × aH) := if (0 : Int32) ≤ (fi x 73 14) then some ((0 : Int32), (sfi x 73 14 (fi x 73 14))) else some ((0 : Int32), (sfi x 73 14 (fi x 73 12)))
theorem qX11_wrong (Z : aZ) (y : aH) {x : aH} {q : (Int32 × aH)} (hf : fX11_wrong x = some q) : CX false Z mX11_wrong 0 [.ref 73] y x (RV (.int q.1) q.2) := by
  refine CX.of mokX11_wrong (Nat.le_of_ble_eq_true rfl) ?_
  show TX _ _ _ _ _ _ _ _ [_] _
  delta fX11_wrong at hf
  refine T_aload dX11_wrong_0 rfl ?_
  refine T_aload dX11_wrong_1 rfl ?_
  refine X_getf dX11_wrong_2 lfX11_159 rfl ob73 ?_
  refine T_if_ge dX11_wrong_5 (fun c5_1 => ?_) (fun c5_1 => ?_)
  · replace hf := ite_t c5_1 hf
    refine T_aload dX11_wrong_15 rfl ?_
    refine X_getf dX11_wrong_16 lfX11_159 rfl ob73 ?_
    refine X_putf dX11_wrong_19 lfX11_159 rfl rfl ob73 ⟨rfl, rfl⟩ ?_
    refine T_const dX11_wrong_22 ?_
    obtain rfl := Option.some.inj hf
    exact X_ri dX11_wrong_23 ⟨rfl, rfl⟩
  · replace hf := ite_f c5_1 hf
    refine T_aload dX11_wrong_8 rfl ?_
    refine X_getf dX11_wrong_9 lfX11_150 rfl ob73 ?_
    refine T_goto dX11_wrong_12 ?_
    refine X_putf dX11_wrong_19 lfX11_159 rfl rfl ob73 ⟨rfl, rfl⟩ ?_
    refine T_const dX11_wrong_22 ?_
    obtain rfl := Option.some.inj hf
    exact X_ri dX11_wrong_23 ⟨rfl, rfl⟩
noncomputable def fX11_takes (x : aH) (p1 : Int32) : Option (Int32 × aH) := if (0 : Int32) ≤ (fi x 73 14) then some ((0 : Int32), x) else (fX11_byteAt x).bind fun q8_2 => if q8_2 = p1 then some ((1 : Int32), (sfi x 73 12 ((fi x 73 12) + (1 : Int32)))) else some ((0 : Int32), x)
theorem qX11_takes (Z : aZ) (y : aH) {x : aH} {p1 : Int32} {q : (Int32 × aH)} (hf : fX11_takes x p1 = some q) : CX false Z mX11_takes 1 [.ref 73, .int p1] y x (RV (.int q.1) q.2) := by
  refine CX.of mokX11_takes (Nat.le_of_ble_eq_true rfl) ?_
  show TX _ _ _ _ _ _ _ _ [_, _] _
  delta fX11_takes at hf
  refine T_aload dX11_takes_0 rfl ?_
  refine X_getf dX11_takes_1 lfX11_159 rfl ob73 ?_
  refine T_if_ge dX11_takes_4 (fun c4_1 => ?_) (fun c4_1 => ?_)
  · replace hf := ite_t c4_1 hf
    refine T_const dX11_takes_15 ?_
    obtain rfl := Option.some.inj hf
    exact X_rz dX11_takes_16 (by first | exact Or.inl rfl | exact Or.inr rfl) ⟨rfl, rfl⟩
  · replace hf := ite_f c4_1 hf
    refine T_aload dX11_takes_7 rfl ?_
    obtain ⟨q8_2, hc8_2, hf⟩ := bind_t hf
    refine X_Vv (qX11_byteAt Z _ hc8_2) (Nat.le_of_ble_eq_true rfl) dX11_takes_8 lvX11_162 rfl rfl ob73 (Nat.le_of_ble_eq_true rfl) ?_
    refine T_iload dX11_takes_11 rfl ?_
    refine T_icmp_eq dX11_takes_12 (fun c12_3 => ?_) (fun c12_3 => ?_)
    · replace hf := ite_t c12_3 hf
      refine T_aload dX11_takes_17 rfl ?_
      refine T_dup dX11_takes_18 rfl ?_
      refine X_getf dX11_takes_19 lfX11_150 rfl ob73 ?_
      refine T_const dX11_takes_22 ?_
      refine T_iadd dX11_takes_23 ?_
      refine X_putf dX11_takes_24 lfX11_150 rfl rfl ob73 ⟨rfl, rfl⟩ ?_
      refine T_const dX11_takes_27 ?_
      obtain rfl := Option.some.inj hf
      exact X_rz dX11_takes_28 (by first | exact Or.inl rfl | exact Or.inr rfl) ⟨rfl, rfl⟩
    · replace hf := ite_f c12_3 hf
      refine T_const dX11_takes_15 ?_
      obtain rfl := Option.some.inj hf
      exact X_rz dX11_takes_16 (by first | exact Or.inl rfl | exact Or.inr rfl) ⟨rfl, rfl⟩
noncomputable def fX11_nameOf (p0 : Int32) : Option Int32 := if p0 = (97 : Int32) then some (4 : Int32) else if p0 = (98 : Int32) then some (-1 : Int32) else if p0 = (99 : Int32) then some (-1 : Int32) else if p0 = (100 : Int32) then some (0 : Int32) else if p0 = (101 : Int32) then some (-1 : Int32) else if p0 = (102 : Int32) then some (-1 : Int32) else if p0 = (103 : Int32) then some (-1 : Int32) else if p0 = (104 : Int32) then some (-1 : Int32) else if p0 = (105 : Int32) then some (-1 : Int32) else if p0 = (106 : Int32) then some (-1 : Int32) else if p0 = (107 : Int32) then some (-1 : Int32) else if p0 = (108 : Int32) then some (5 : Int32) else if p0 = (109 : Int32) then some (-1 : Int32) else if p0 = (110 : Int32) then some (3 : Int32) else if p0 = (111 : Int32) then some (2 : Int32) else if p0 = (112 : Int32) then some (1 : Int32) else some (-1 : Int32)
theorem qX11_nameOf (sd : Bool) (Z : aZ) (y : aH) (x : aH) {p0 : Int32} {q : Int32} (hf : fX11_nameOf p0 = some q) : CX sd Z mX11_nameOf 0 [.int p0] y x (RV (.int q) x) := by
  refine CX.of mokX11_nameOf (Nat.le_of_ble_eq_true rfl) ?_
  show TX _ _ _ _ _ _ _ _ [_] _
  delta fX11_nameOf at hf
  refine T_iload dX11_nameOf_0 rfl ?_
  by_cases c1_1 : p0 = (97 : Int32)
  · replace hf := ite_t c1_1 hf
    refine T_tabE (off := 87) (tgt := 88) c1_1 dX11_nameOf_1 (by decide) (by decide) (by decide) (by decide) ?_
    refine T_const dX11_nameOf_88 ?_
    obtain rfl := Option.some.inj hf
    exact X_ri dX11_nameOf_89 ⟨rfl, rfl⟩
  replace hf := ite_f c1_1 hf
  by_cases c1_2 : p0 = (98 : Int32)
  · replace hf := ite_t c1_2 hf
    refine T_tabE (off := 91) (tgt := 92) c1_2 dX11_nameOf_1 (by decide) (by decide) (by decide) (by decide) ?_
    refine T_const dX11_nameOf_92 ?_
    obtain rfl := Option.some.inj hf
    exact X_ri dX11_nameOf_93 ⟨rfl, rfl⟩
  replace hf := ite_f c1_2 hf
  by_cases c1_3 : p0 = (99 : Int32)
  · replace hf := ite_t c1_3 hf
    refine T_tabE (off := 91) (tgt := 92) c1_3 dX11_nameOf_1 (by decide) (by decide) (by decide) (by decide) ?_
    refine T_const dX11_nameOf_92 ?_
    obtain rfl := Option.some.inj hf
    exact X_ri dX11_nameOf_93 ⟨rfl, rfl⟩
  replace hf := ite_f c1_3 hf
  by_cases c1_4 : p0 = (100 : Int32)
  · replace hf := ite_t c1_4 hf
    refine T_tabE (off := 79) (tgt := 80) c1_4 dX11_nameOf_1 (by decide) (by decide) (by decide) (by decide) ?_
    refine T_const dX11_nameOf_80 ?_
    obtain rfl := Option.some.inj hf
    exact X_ri dX11_nameOf_81 ⟨rfl, rfl⟩
  replace hf := ite_f c1_4 hf
  by_cases c1_5 : p0 = (101 : Int32)
  · replace hf := ite_t c1_5 hf
    refine T_tabE (off := 91) (tgt := 92) c1_5 dX11_nameOf_1 (by decide) (by decide) (by decide) (by decide) ?_
    refine T_const dX11_nameOf_92 ?_
    obtain rfl := Option.some.inj hf
    exact X_ri dX11_nameOf_93 ⟨rfl, rfl⟩
  replace hf := ite_f c1_5 hf
  by_cases c1_6 : p0 = (102 : Int32)
  · replace hf := ite_t c1_6 hf
    refine T_tabE (off := 91) (tgt := 92) c1_6 dX11_nameOf_1 (by decide) (by decide) (by decide) (by decide) ?_
    refine T_const dX11_nameOf_92 ?_
    obtain rfl := Option.some.inj hf
    exact X_ri dX11_nameOf_93 ⟨rfl, rfl⟩
  replace hf := ite_f c1_6 hf
  by_cases c1_7 : p0 = (103 : Int32)
  · replace hf := ite_t c1_7 hf
    refine T_tabE (off := 91) (tgt := 92) c1_7 dX11_nameOf_1 (by decide) (by decide) (by decide) (by decide) ?_
    refine T_const dX11_nameOf_92 ?_
    obtain rfl := Option.some.inj hf
    exact X_ri dX11_nameOf_93 ⟨rfl, rfl⟩
  replace hf := ite_f c1_7 hf
  by_cases c1_8 : p0 = (104 : Int32)
  · replace hf := ite_t c1_8 hf
    refine T_tabE (off := 91) (tgt := 92) c1_8 dX11_nameOf_1 (by decide) (by decide) (by decide) (by decide) ?_
    refine T_const dX11_nameOf_92 ?_
    obtain rfl := Option.some.inj hf
    exact X_ri dX11_nameOf_93 ⟨rfl, rfl⟩
  replace hf := ite_f c1_8 hf
  by_cases c1_9 : p0 = (105 : Int32)
  · replace hf := ite_t c1_9 hf
    refine T_tabE (off := 91) (tgt := 92) c1_9 dX11_nameOf_1 (by decide) (by decide) (by decide) (by decide) ?_
    refine T_const dX11_nameOf_92 ?_
    obtain rfl := Option.some.inj hf
    exact X_ri dX11_nameOf_93 ⟨rfl, rfl⟩
  replace hf := ite_f c1_9 hf
  by_cases c1_10 : p0 = (106 : Int32)
  · replace hf := ite_t c1_10 hf
    refine T_tabE (off := 91) (tgt := 92) c1_10 dX11_nameOf_1 (by decide) (by decide) (by decide) (by decide) ?_
    refine T_const dX11_nameOf_92 ?_
    obtain rfl := Option.some.inj hf
    exact X_ri dX11_nameOf_93 ⟨rfl, rfl⟩
  replace hf := ite_f c1_10 hf
  by_cases c1_11 : p0 = (107 : Int32)
  · replace hf := ite_t c1_11 hf
    refine T_tabE (off := 91) (tgt := 92) c1_11 dX11_nameOf_1 (by decide) (by decide) (by decide) (by decide) ?_
    refine T_const dX11_nameOf_92 ?_
    obtain rfl := Option.some.inj hf
    exact X_ri dX11_nameOf_93 ⟨rfl, rfl⟩
  replace hf := ite_f c1_11 hf
  by_cases c1_12 : p0 = (108 : Int32)
  · replace hf := ite_t c1_12 hf
    refine T_tabE (off := 89) (tgt := 90) c1_12 dX11_nameOf_1 (by decide) (by decide) (by decide) (by decide) ?_
    refine T_const dX11_nameOf_90 ?_
    obtain rfl := Option.some.inj hf
    exact X_ri dX11_nameOf_91 ⟨rfl, rfl⟩
  replace hf := ite_f c1_12 hf
  by_cases c1_13 : p0 = (109 : Int32)
  · replace hf := ite_t c1_13 hf
    refine T_tabE (off := 91) (tgt := 92) c1_13 dX11_nameOf_1 (by decide) (by decide) (by decide) (by decide) ?_
    refine T_const dX11_nameOf_92 ?_
    obtain rfl := Option.some.inj hf
    exact X_ri dX11_nameOf_93 ⟨rfl, rfl⟩
  replace hf := ite_f c1_13 hf
  by_cases c1_14 : p0 = (110 : Int32)
  · replace hf := ite_t c1_14 hf
    refine T_tabE (off := 85) (tgt := 86) c1_14 dX11_nameOf_1 (by decide) (by decide) (by decide) (by decide) ?_
    refine T_const dX11_nameOf_86 ?_
    obtain rfl := Option.some.inj hf
    exact X_ri dX11_nameOf_87 ⟨rfl, rfl⟩
  replace hf := ite_f c1_14 hf
  by_cases c1_15 : p0 = (111 : Int32)
  · replace hf := ite_t c1_15 hf
    refine T_tabE (off := 83) (tgt := 84) c1_15 dX11_nameOf_1 (by decide) (by decide) (by decide) (by decide) ?_
    refine T_const dX11_nameOf_84 ?_
    obtain rfl := Option.some.inj hf
    exact X_ri dX11_nameOf_85 ⟨rfl, rfl⟩
  replace hf := ite_f c1_15 hf
  by_cases c1_16 : p0 = (112 : Int32)
  · replace hf := ite_t c1_16 hf
    refine T_tabE (off := 81) (tgt := 82) c1_16 dX11_nameOf_1 (by decide) (by decide) (by decide) (by decide) ?_
    refine T_const dX11_nameOf_82 ?_
    obtain rfl := Option.some.inj hf
    exact X_ri dX11_nameOf_83 ⟨rfl, rfl⟩
  replace hf := ite_f c1_16 hf
  refine T_tabOut (tgt := 92) ⟨dX11_nameOf_1, by decide⟩ (by
    have n97 := ne_toInt c1_1; rw [show (97 : Int32).toInt = 97 from rfl] at n97
    have n98 := ne_toInt c1_2; rw [show (98 : Int32).toInt = 98 from rfl] at n98
    have n99 := ne_toInt c1_3; rw [show (99 : Int32).toInt = 99 from rfl] at n99
    have n100 := ne_toInt c1_4; rw [show (100 : Int32).toInt = 100 from rfl] at n100
    have n101 := ne_toInt c1_5; rw [show (101 : Int32).toInt = 101 from rfl] at n101
    have n102 := ne_toInt c1_6; rw [show (102 : Int32).toInt = 102 from rfl] at n102
    have n103 := ne_toInt c1_7; rw [show (103 : Int32).toInt = 103 from rfl] at n103
    have n104 := ne_toInt c1_8; rw [show (104 : Int32).toInt = 104 from rfl] at n104
    have n105 := ne_toInt c1_9; rw [show (105 : Int32).toInt = 105 from rfl] at n105
    have n106 := ne_toInt c1_10; rw [show (106 : Int32).toInt = 106 from rfl] at n106
    have n107 := ne_toInt c1_11; rw [show (107 : Int32).toInt = 107 from rfl] at n107
    have n108 := ne_toInt c1_12; rw [show (108 : Int32).toInt = 108 from rfl] at n108
    have n109 := ne_toInt c1_13; rw [show (109 : Int32).toInt = 109 from rfl] at n109
    have n110 := ne_toInt c1_14; rw [show (110 : Int32).toInt = 110 from rfl] at n110
    have n111 := ne_toInt c1_15; rw [show (111 : Int32).toInt = 111 from rfl] at n111
    have n112 := ne_toInt c1_16; rw [show (112 : Int32).toInt = 112 from rfl] at n112
    omega) ?_
  refine T_const dX11_nameOf_92 ?_
  obtain rfl := Option.some.inj hf
  exact X_ri dX11_nameOf_93 ⟨rfl, rfl⟩
noncomputable def jX11_either_32 (g_X11_both : aH → Option (Int32 × aH)) (ih : aH → Int32 → Option (Int32 × aH)) (x : aH) (s0 : Int32) : Option (Int32 × aH) := ih x s0
noncomputable def jX11_either_27 (g_X11_both : aH → Option (Int32 × aH)) (ih : aH → Int32 → Option (Int32 × aH)) (x : aH) : Option (Int32 × aH) := jX11_either_32 g_X11_both ih x (1 : Int32)
noncomputable def sX11_either_5 (g_X11_both : aH → Option (Int32 × aH)) (ih : aH → Int32 → Option (Int32 × aH)) (x : aH) (l1 : Int32) : Option (Int32 × aH) := (fX11_takes x (124 : Int32)).bind fun q8_2 => if q8_2.1 = (0 : Int32) then some (l1, q8_2.2) else (g_X11_both q8_2.2).bind fun q15_4 => if l1 = (0 : Int32) then if q15_4.1 = (0 : Int32) then jX11_either_32 g_X11_both ih q15_4.2 (0 : Int32) else jX11_either_27 g_X11_both ih q15_4.2 else jX11_either_27 g_X11_both ih q15_4.2
noncomputable def wX11_either_5 (g_X11_both : aH → Option (Int32 × aH)) : Nat → aH → Int32 → Option (Int32 × aH)
  | 0 => fun _ _ => none
  | n + 1 => sX11_either_5 g_X11_both (wX11_either_5 g_X11_both n)
noncomputable def uX11_either (g_X11_both : aH → Option (Int32 × aH)) (x : aH) : Option (Int32 × aH) := (g_X11_both x).bind fun q1_1 => (wX11_either_5 g_X11_both 2000 q1_1.2 q1_1.1).bind fun q5_7 => some (q5_7.1, q5_7.2)
theorem lX11_either_5 (Z : aZ) (y : aH) {D : Nat} (hK : 1 ≤ D) {g_X11_both : aH → Option (Int32 × aH)} (H_X11_both : ∀ (x : aH) {q : (Int32 × aH)}, g_X11_both x = some q → CX false Z mX11_both D [.ref 73] y x (RV (.int q.1) q.2)) {Q : Option Value → aH → Prop} {R : (Int32 × aH)} : ∀ (n : Nat) (x : aH) (l1 : Int32), wX11_either_5 g_X11_both n x l1 = some R → (∀ q, R = q → TX false Z mX11_either (D + 1) y q.2 Q 36 [.null, .int (q.1), .null] []) → TX false Z mX11_either (D + 1) y x Q 5 [.ref 73, .int l1, .null] [] := by
  intro n
  induction n with
  | zero => intro x l1 hf; cases hf
  | succ n ih =>
    intro x l1 hf ke
    replace hf : sX11_either_5 g_X11_both (wX11_either_5 g_X11_both n) x l1 = some R := hf
    delta sX11_either_5 at hf
    refine T_aload dX11_either_5 rfl ?_
    refine T_const dX11_either_6 ?_
    obtain ⟨q8_2, hc8_2, hf⟩ := bind_t hf
    refine X_Vv (qX11_takes Z _ hc8_2) (Nat.le_trans (Nat.le_of_ble_eq_true rfl) hK) dX11_either_8 lvX11_169 rfl rfl ob73 (Nat.le_of_ble_eq_true rfl) ?_
    refine T_if_eq dX11_either_11 (fun c11_3 => ?_) (fun c11_3 => ?_)
    · replace hf := ite_t c11_3 hf
      exact X_wk (WK.n (WK.s (WK.n WK.e))) (ke (l1, q8_2.2) (Option.some.inj hf).symm)
    · replace hf := ite_f c11_3 hf
      refine T_aload dX11_either_14 rfl ?_
      obtain ⟨q15_4, hc15_4, hf⟩ := bind_t hf
      refine X_Vv (H_X11_both _ hc15_4) (Nat.le_refl _) dX11_either_15 lvX11_166 rfl rfl ob73 (Nat.le_of_ble_eq_true rfl) ?_
      refine T_istore dX11_either_18 ?_
      show TX _ _ _ _ _ _ _ _ [_, _, _] _
      refine T_iload dX11_either_19 rfl ?_
      have J32 : ∀ (x : aH) (s0 : Int32), jX11_either_32 g_X11_both (wX11_either_5 g_X11_both n) x s0 = some R → TX false Z mX11_either (D + 1) y x Q 32 [.ref 73, .null, .null] [.int s0] := by
        intro x s0 hf
        delta jX11_either_32 at hf
        refine T_istore dX11_either_32 ?_
        show TX _ _ _ _ _ _ _ _ [_, _, _] _
        refine T_goto dX11_either_33 ?_
        exact X_wk (WK.s (WK.s (WK.n WK.e))) (ih _ _ hf ke)
      have J27 : ∀ (x : aH), jX11_either_27 g_X11_both (wX11_either_5 g_X11_both n) x = some R → TX false Z mX11_either (D + 1) y x Q 27 [.ref 73, .null, .null] [] := by
        intro x hf
        delta jX11_either_27 at hf
        refine T_const dX11_either_27 ?_
        refine T_goto dX11_either_28 ?_
        exact X_wk (WK.s (WK.n (WK.n WK.e))) (J32 _ _ hf)
      refine T_if_ne dX11_either_20 (fun c20_5 => ?_) (fun c20_5 => ?_)
      · replace hf := ite_f c20_5 hf
        exact X_wk (WK.s (WK.n (WK.n WK.e))) (J27 _ hf)
      · replace hf := ite_t c20_5 hf
        refine T_iload dX11_either_23 rfl ?_
        refine T_if_eq dX11_either_24 (fun c24_6 => ?_) (fun c24_6 => ?_)
        · replace hf := ite_t c24_6 hf
          refine T_const dX11_either_31 ?_
          exact X_wk (WK.s (WK.n (WK.n WK.e))) (J32 _ _ hf)
        · replace hf := ite_f c24_6 hf
          exact X_wk (WK.s (WK.n (WK.n WK.e))) (J27 _ hf)
theorem pX11_either (Z : aZ) (y : aH) {D : Nat} (hK : 1 ≤ D) {g_X11_both : aH → Option (Int32 × aH)} (H_X11_both : ∀ (x : aH) {q : (Int32 × aH)}, g_X11_both x = some q → CX false Z mX11_both D [.ref 73] y x (RV (.int q.1) q.2)) {x : aH} {q : (Int32 × aH)} (hf : uX11_either g_X11_both x = some q) : CX false Z mX11_either (D + 1) [.ref 73] y x (RV (.int q.1) q.2) := by
  refine CX.of mokX11_either (Nat.le_of_ble_eq_true rfl) ?_
  show TX _ _ _ _ _ _ _ _ [_, _, _] _
  delta uX11_either at hf
  refine T_aload dX11_either_0 rfl ?_
  obtain ⟨q1_1, hc1_1, hf⟩ := bind_t hf
  refine X_Vv (H_X11_both _ hc1_1) (Nat.le_refl _) dX11_either_1 lvX11_166 rfl rfl ob73 (Nat.le_of_ble_eq_true rfl) ?_
  refine T_istore dX11_either_4 ?_
  show TX _ _ _ _ _ _ _ _ [_, _, _] _
  obtain ⟨q5_7, hc5_7, hf⟩ := bind_t hf
  refine X_wk (WK.s (WK.s (WK.n WK.e))) (lX11_either_5 Z _ hK H_X11_both 2000 _ _ hc5_7 ?_)
  intro q5_7z hr
  subst hr
  refine T_iload dX11_either_36 rfl ?_
  obtain rfl := Option.some.inj hf
  exact X_ri dX11_either_37 ⟨rfl, rfl⟩
noncomputable def jX11_both_32 (g_X11_compared : aH → Option (Int32 × aH)) (ih : aH → Int32 → Option (Int32 × aH)) (x : aH) (s0 : Int32) : Option (Int32 × aH) := ih x s0
noncomputable def jX11_both_31 (g_X11_compared : aH → Option (Int32 × aH)) (ih : aH → Int32 → Option (Int32 × aH)) (x : aH) : Option (Int32 × aH) := jX11_both_32 g_X11_compared ih x (0 : Int32)
noncomputable def sX11_both_5 (g_X11_compared : aH → Option (Int32 × aH)) (ih : aH → Int32 → Option (Int32 × aH)) (x : aH) (l1 : Int32) : Option (Int32 × aH) := (fX11_takes x (38 : Int32)).bind fun q8_2 => if q8_2.1 = (0 : Int32) then some (l1, q8_2.2) else (g_X11_compared q8_2.2).bind fun q15_4 => if l1 = (0 : Int32) then jX11_both_31 g_X11_compared ih q15_4.2 else if q15_4.1 = (0 : Int32) then jX11_both_31 g_X11_compared ih q15_4.2 else jX11_both_32 g_X11_compared ih q15_4.2 (1 : Int32)
noncomputable def wX11_both_5 (g_X11_compared : aH → Option (Int32 × aH)) : Nat → aH → Int32 → Option (Int32 × aH)
  | 0 => fun _ _ => none
  | n + 1 => sX11_both_5 g_X11_compared (wX11_both_5 g_X11_compared n)
noncomputable def uX11_both (g_X11_compared : aH → Option (Int32 × aH)) (x : aH) : Option (Int32 × aH) := (g_X11_compared x).bind fun q1_1 => (wX11_both_5 g_X11_compared 2000 q1_1.2 q1_1.1).bind fun q5_7 => some (q5_7.1, q5_7.2)
theorem lX11_both_5 (Z : aZ) (y : aH) {D : Nat} (hK : 1 ≤ D) {g_X11_compared : aH → Option (Int32 × aH)} (H_X11_compared : ∀ (x : aH) {q : (Int32 × aH)}, g_X11_compared x = some q → CX false Z mX11_compared D [.ref 73] y x (RV (.int q.1) q.2)) {Q : Option Value → aH → Prop} {R : (Int32 × aH)} : ∀ (n : Nat) (x : aH) (l1 : Int32), wX11_both_5 g_X11_compared n x l1 = some R → (∀ q, R = q → TX false Z mX11_both (D + 1) y q.2 Q 36 [.null, .int (q.1), .null] []) → TX false Z mX11_both (D + 1) y x Q 5 [.ref 73, .int l1, .null] [] := by
  intro n
  induction n with
  | zero => intro x l1 hf; cases hf
  | succ n ih =>
    intro x l1 hf ke
    replace hf : sX11_both_5 g_X11_compared (wX11_both_5 g_X11_compared n) x l1 = some R := hf
    delta sX11_both_5 at hf
    refine T_aload dX11_both_5 rfl ?_
    refine T_const dX11_both_6 ?_
    obtain ⟨q8_2, hc8_2, hf⟩ := bind_t hf
    refine X_Vv (qX11_takes Z _ hc8_2) (Nat.le_trans (Nat.le_of_ble_eq_true rfl) hK) dX11_both_8 lvX11_169 rfl rfl ob73 (Nat.le_of_ble_eq_true rfl) ?_
    refine T_if_eq dX11_both_11 (fun c11_3 => ?_) (fun c11_3 => ?_)
    · replace hf := ite_t c11_3 hf
      exact X_wk (WK.n (WK.s (WK.n WK.e))) (ke (l1, q8_2.2) (Option.some.inj hf).symm)
    · replace hf := ite_f c11_3 hf
      refine T_aload dX11_both_14 rfl ?_
      obtain ⟨q15_4, hc15_4, hf⟩ := bind_t hf
      refine X_Vv (H_X11_compared _ hc15_4) (Nat.le_refl _) dX11_both_15 lvX11_172 rfl rfl ob73 (Nat.le_of_ble_eq_true rfl) ?_
      refine T_istore dX11_both_18 ?_
      show TX _ _ _ _ _ _ _ _ [_, _, _] _
      refine T_iload dX11_both_19 rfl ?_
      have J32 : ∀ (x : aH) (s0 : Int32), jX11_both_32 g_X11_compared (wX11_both_5 g_X11_compared n) x s0 = some R → TX false Z mX11_both (D + 1) y x Q 32 [.ref 73, .null, .null] [.int s0] := by
        intro x s0 hf
        delta jX11_both_32 at hf
        refine T_istore dX11_both_32 ?_
        show TX _ _ _ _ _ _ _ _ [_, _, _] _
        refine T_goto dX11_both_33 ?_
        exact X_wk (WK.s (WK.s (WK.n WK.e))) (ih _ _ hf ke)
      have J31 : ∀ (x : aH), jX11_both_31 g_X11_compared (wX11_both_5 g_X11_compared n) x = some R → TX false Z mX11_both (D + 1) y x Q 31 [.ref 73, .null, .null] [] := by
        intro x hf
        delta jX11_both_31 at hf
        refine T_const dX11_both_31 ?_
        exact X_wk (WK.s (WK.n (WK.n WK.e))) (J32 _ _ hf)
      refine T_if_eq dX11_both_20 (fun c20_5 => ?_) (fun c20_5 => ?_)
      · replace hf := ite_t c20_5 hf
        exact X_wk (WK.s (WK.n (WK.n WK.e))) (J31 _ hf)
      · replace hf := ite_f c20_5 hf
        refine T_iload dX11_both_23 rfl ?_
        refine T_if_eq dX11_both_24 (fun c24_6 => ?_) (fun c24_6 => ?_)
        · replace hf := ite_t c24_6 hf
          exact X_wk (WK.s (WK.n (WK.n WK.e))) (J31 _ hf)
        · replace hf := ite_f c24_6 hf
          refine T_const dX11_both_27 ?_
          refine T_goto dX11_both_28 ?_
          exact X_wk (WK.s (WK.n (WK.n WK.e))) (J32 _ _ hf)
theorem pX11_both (Z : aZ) (y : aH) {D : Nat} (hK : 1 ≤ D) {g_X11_compared : aH → Option (Int32 × aH)} (H_X11_compared : ∀ (x : aH) {q : (Int32 × aH)}, g_X11_compared x = some q → CX false Z mX11_compared D [.ref 73] y x (RV (.int q.1) q.2)) {x : aH} {q : (Int32 × aH)} (hf : uX11_both g_X11_compared x = some q) : CX false Z mX11_both (D + 1) [.ref 73] y x (RV (.int q.1) q.2) := by
  refine CX.of mokX11_both (Nat.le_of_ble_eq_true rfl) ?_
  show TX _ _ _ _ _ _ _ _ [_, _, _] _
  delta uX11_both at hf
  refine T_aload dX11_both_0 rfl ?_
  obtain ⟨q1_1, hc1_1, hf⟩ := bind_t hf
  refine X_Vv (H_X11_compared _ hc1_1) (Nat.le_refl _) dX11_both_1 lvX11_172 rfl rfl ob73 (Nat.le_of_ble_eq_true rfl) ?_
  refine T_istore dX11_both_4 ?_
  show TX _ _ _ _ _ _ _ _ [_, _, _] _
  obtain ⟨q5_7, hc5_7, hf⟩ := bind_t hf
  refine X_wk (WK.s (WK.s (WK.n WK.e))) (lX11_both_5 Z _ hK H_X11_compared 2000 _ _ hc5_7 ?_)
  intro q5_7z hr
  subst hr
  refine T_iload dX11_both_36 rfl ?_
  obtain rfl := Option.some.inj hf
  exact X_ri dX11_both_37 ⟨rfl, rfl⟩
noncomputable def jX11_compared_37 (g_X11_sums : aH → Option (Int32 × aH)) (x : aH) (l1 : Int32) (l2 : Int32) : Option (Int32 × aH) := (g_X11_sums (sfi x 73 12 ((fi x 73 12) + (1 : Int32)))).bind fun q48_4 => if l2 = (60 : Int32) then if q48_4.1 ≤ l1 then some ((0 : Int32), q48_4.2) else some ((1 : Int32), q48_4.2) else if l2 = (61 : Int32) then if l1 = q48_4.1 then some ((1 : Int32), q48_4.2) else some ((0 : Int32), q48_4.2) else if l1 ≤ q48_4.1 then some ((0 : Int32), q48_4.2) else some ((1 : Int32), q48_4.2)
noncomputable def uX11_compared (g_X11_sums : aH → Option (Int32 × aH)) (x : aH) : Option (Int32 × aH) := (g_X11_sums x).bind fun q1_1 => (fX11_byteAt q1_1.2).bind fun q6_2 => if (0 : Int32) ≤ (fi q1_1.2 73 14) then some (q1_1.1, q1_1.2) else if q6_2 = (60 : Int32) then jX11_compared_37 g_X11_sums q1_1.2 q1_1.1 q6_2 else if q6_2 = (61 : Int32) then jX11_compared_37 g_X11_sums q1_1.2 q1_1.1 q6_2 else if q6_2 = (62 : Int32) then jX11_compared_37 g_X11_sums q1_1.2 q1_1.1 q6_2 else some (q1_1.1, q1_1.2)
theorem pX11_compared (Z : aZ) (y : aH) {D : Nat} (hK : 1 ≤ D) {g_X11_sums : aH → Option (Int32 × aH)} (H_X11_sums : ∀ (x : aH) {q : (Int32 × aH)}, g_X11_sums x = some q → CX false Z mX11_sums D [.ref 73] y x (RV (.int q.1) q.2)) {x : aH} {q : (Int32 × aH)} (hf : uX11_compared g_X11_sums x = some q) : CX false Z mX11_compared (D + 1) [.ref 73] y x (RV (.int q.1) q.2) := by
  refine CX.of mokX11_compared (Nat.le_of_ble_eq_true rfl) ?_
  show TX _ _ _ _ _ _ _ _ [_, _, _, _] _
  delta uX11_compared at hf
  refine T_aload dX11_compared_0 rfl ?_
  obtain ⟨q1_1, hc1_1, hf⟩ := bind_t hf
  refine X_Vv (H_X11_sums _ hc1_1) (Nat.le_refl _) dX11_compared_1 lvX11_175 rfl rfl ob73 (Nat.le_of_ble_eq_true rfl) ?_
  refine T_istore dX11_compared_4 ?_
  show TX _ _ _ _ _ _ _ _ [_, _, _, _] _
  refine T_aload dX11_compared_5 rfl ?_
  obtain ⟨q6_2, hc6_2, hf⟩ := bind_t hf
  refine X_Vv (qX11_byteAt Z _ hc6_2) (Nat.le_trans (Nat.le_of_ble_eq_true rfl) hK) dX11_compared_6 lvX11_162 rfl rfl ob73 (Nat.le_of_ble_eq_true rfl) ?_
  refine T_istore dX11_compared_9 ?_
  show TX _ _ _ _ _ _ _ _ [_, _, _, _] _
  refine T_aload dX11_compared_10 rfl ?_
  refine X_getf dX11_compared_11 lfX11_159 rfl ob73 ?_
  refine T_if_ge dX11_compared_14 (fun c14_3 => ?_) (fun c14_3 => ?_)
  · replace hf := ite_t c14_3 hf
    refine T_iload dX11_compared_35 rfl ?_
    obtain rfl := Option.some.inj hf
    exact X_ri dX11_compared_36 ⟨rfl, rfl⟩
  · replace hf := ite_f c14_3 hf
    refine T_iload dX11_compared_17 rfl ?_
    refine T_const dX11_compared_18 ?_
    have J37 : ∀ (x : aH) (l1 : Int32) (l2 : Int32), jX11_compared_37 g_X11_sums x l1 l2 = some q → TX false Z mX11_compared (D + 1) y x (RV (.int q.1) q.2) 37 [.ref 73, .int l1, .int l2, .null] [] := by
      intro x l1 l2 hf
      delta jX11_compared_37 at hf
      refine T_aload dX11_compared_37 rfl ?_
      refine T_dup dX11_compared_38 rfl ?_
      refine X_getf dX11_compared_39 lfX11_150 rfl ob73 ?_
      refine T_const dX11_compared_42 ?_
      refine T_iadd dX11_compared_43 ?_
      refine X_putf dX11_compared_44 lfX11_150 rfl rfl ob73 ⟨rfl, rfl⟩ ?_
      refine T_aload dX11_compared_47 rfl ?_
      obtain ⟨q48_4, hc48_4, hf⟩ := bind_t hf
      refine X_Vv (H_X11_sums _ hc48_4) (Nat.le_refl _) dX11_compared_48 lvX11_175 rfl rfl ob73 (Nat.le_of_ble_eq_true rfl) ?_
      refine T_istore dX11_compared_51 ?_
      show TX _ _ _ _ _ _ _ _ [_, _, _, _] _
      refine T_iload dX11_compared_52 rfl ?_
      refine T_const dX11_compared_53 ?_
      refine T_icmp_ne dX11_compared_55 (fun c55_5 => ?_) (fun c55_5 => ?_)
      · replace hf := ite_f c55_5 hf
        refine T_iload dX11_compared_66 rfl ?_
        refine T_const dX11_compared_67 ?_
        refine T_icmp_ne dX11_compared_69 (fun c69_6 => ?_) (fun c69_6 => ?_)
        · replace hf := ite_f c69_6 hf
          refine T_iload dX11_compared_80 rfl ?_
          refine T_iload dX11_compared_81 rfl ?_
          refine T_icmp_le dX11_compared_82 (fun c82_7 => ?_) (fun c82_7 => ?_)
          · replace hf := ite_t c82_7 hf
            refine T_const dX11_compared_89 ?_
            obtain rfl := Option.some.inj hf
            exact X_ri dX11_compared_90 ⟨rfl, rfl⟩
          · replace hf := ite_f c82_7 hf
            refine T_const dX11_compared_85 ?_
            refine T_goto dX11_compared_86 ?_
            obtain rfl := Option.some.inj hf
            exact X_ri dX11_compared_90 ⟨rfl, rfl⟩
        · replace hf := ite_t c69_6 hf
          refine T_iload dX11_compared_72 rfl ?_
          refine T_iload dX11_compared_73 rfl ?_
          refine T_icmp_ne dX11_compared_74 (fun c74_8 => ?_) (fun c74_8 => ?_)
          · replace hf := ite_f c74_8 hf
            refine T_const dX11_compared_89 ?_
            obtain rfl := Option.some.inj hf
            exact X_ri dX11_compared_90 ⟨rfl, rfl⟩
          · replace hf := ite_t c74_8 hf
            refine T_goto dX11_compared_77 ?_
            refine T_const dX11_compared_85 ?_
            refine T_goto dX11_compared_86 ?_
            obtain rfl := Option.some.inj hf
            exact X_ri dX11_compared_90 ⟨rfl, rfl⟩
      · replace hf := ite_t c55_5 hf
        refine T_iload dX11_compared_58 rfl ?_
        refine T_iload dX11_compared_59 rfl ?_
        refine T_icmp_ge dX11_compared_60 (fun c60_9 => ?_) (fun c60_9 => ?_)
        · replace hf := ite_t c60_9 hf
          refine T_const dX11_compared_89 ?_
          obtain rfl := Option.some.inj hf
          exact X_ri dX11_compared_90 ⟨rfl, rfl⟩
        · replace hf := ite_f c60_9 hf
          refine T_goto dX11_compared_63 ?_
          refine T_const dX11_compared_85 ?_
          refine T_goto dX11_compared_86 ?_
          obtain rfl := Option.some.inj hf
          exact X_ri dX11_compared_90 ⟨rfl, rfl⟩
    refine T_icmp_eq dX11_compared_20 (fun c20_10 => ?_) (fun c20_10 => ?_)
    · replace hf := ite_t c20_10 hf
      exact X_wk (WK.s (WK.s (WK.s (WK.n WK.e)))) (J37 _ _ _ hf)
    · replace hf := ite_f c20_10 hf
      refine T_iload dX11_compared_23 rfl ?_
      refine T_const dX11_compared_24 ?_
      refine T_icmp_eq dX11_compared_26 (fun c26_11 => ?_) (fun c26_11 => ?_)
      · replace hf := ite_t c26_11 hf
        exact X_wk (WK.s (WK.s (WK.s (WK.n WK.e)))) (J37 _ _ _ hf)
      · replace hf := ite_f c26_11 hf
        refine T_iload dX11_compared_29 rfl ?_
        refine T_const dX11_compared_30 ?_
        refine T_icmp_eq dX11_compared_32 (fun c32_12 => ?_) (fun c32_12 => ?_)
        · replace hf := ite_t c32_12 hf
          exact X_wk (WK.s (WK.s (WK.s (WK.n WK.e)))) (J37 _ _ _ hf)
        · replace hf := ite_f c32_12 hf
          refine T_iload dX11_compared_35 rfl ?_
          obtain rfl := Option.some.inj hf
          exact X_ri dX11_compared_36 ⟨rfl, rfl⟩
noncomputable def jX11_sums_73 (g_X11_product : aH → Option (Int32 × aH)) (ih : aH → Int32 → Option (Int32 × aH)) (x : aH) (s0 : Int32) : Option (Int32 × aH) := ih x s0
noncomputable def jX11_sums_44 (g_X11_product : aH → Option (Int32 × aH)) (ih : aH → Int32 → Option (Int32 × aH)) (x : aH) (l1 : Int32) (s0 : Int32) : Option (Int32 × aH) := (g_X11_product (sfi x 73 12 ((fi x 73 12) + (1 : Int32)))).bind fun q56_5 => if s0 = (0 : Int32) then jX11_sums_73 g_X11_product ih q56_5.2 (l1 - q56_5.1) else jX11_sums_73 g_X11_product ih q56_5.2 (l1 + q56_5.1)
noncomputable def jX11_sums_30 (g_X11_product : aH → Option (Int32 × aH)) (ih : aH → Int32 → Option (Int32 × aH)) (x : aH) (l1 : Int32) : Option (Int32 × aH) := (fX11_byteAt x).bind fun q31_4 => if q31_4 = (43 : Int32) then jX11_sums_44 g_X11_product ih x l1 (1 : Int32) else jX11_sums_44 g_X11_product ih x l1 (0 : Int32)
noncomputable def sX11_sums_5 (g_X11_product : aH → Option (Int32 × aH)) (ih : aH → Int32 → Option (Int32 × aH)) (x : aH) (l1 : Int32) : Option (Int32 × aH) := if (0 : Int32) ≤ (fi x 73 14) then some (l1, x) else (fX11_byteAt x).bind fun q13_3 => if q13_3 = (43 : Int32) then jX11_sums_30 g_X11_product ih x l1 else (fX11_byteAt x).bind fun q22_9 => if q22_9 = (45 : Int32) then jX11_sums_30 g_X11_product ih x l1 else some (l1, x)
noncomputable def wX11_sums_5 (g_X11_product : aH → Option (Int32 × aH)) : Nat → aH → Int32 → Option (Int32 × aH)
  | 0 => fun _ _ => none
  | n + 1 => sX11_sums_5 g_X11_product (wX11_sums_5 g_X11_product n)
noncomputable def uX11_sums (g_X11_product : aH → Option (Int32 × aH)) (x : aH) : Option (Int32 × aH) := (g_X11_product x).bind fun q1_1 => (wX11_sums_5 g_X11_product 2000 q1_1.2 q1_1.1).bind fun q5_11 => some (q5_11.1, q5_11.2)
theorem lX11_sums_5 (Z : aZ) (y : aH) {D : Nat} (hK : 1 ≤ D) {g_X11_product : aH → Option (Int32 × aH)} (H_X11_product : ∀ (x : aH) {q : (Int32 × aH)}, g_X11_product x = some q → CX false Z mX11_product D [.ref 73] y x (RV (.int q.1) q.2)) {Q : Option Value → aH → Prop} {R : (Int32 × aH)} : ∀ (n : Nat) (x : aH) (l1 : Int32), wX11_sums_5 g_X11_product n x l1 = some R → (∀ q, R = q → TX false Z mX11_sums (D + 1) y q.2 Q 77 [.null, .int (q.1), .null, .null] []) → TX false Z mX11_sums (D + 1) y x Q 5 [.ref 73, .int l1, .null, .null] [] := by
  intro n
  induction n with
  | zero => intro x l1 hf; cases hf
  | succ n ih =>
    intro x l1 hf ke
    replace hf : sX11_sums_5 g_X11_product (wX11_sums_5 g_X11_product n) x l1 = some R := hf
    delta sX11_sums_5 at hf
    refine T_aload dX11_sums_5 rfl ?_
    refine X_getf dX11_sums_6 lfX11_159 rfl ob73 ?_
    refine T_if_ge dX11_sums_9 (fun c9_2 => ?_) (fun c9_2 => ?_)
    · replace hf := ite_t c9_2 hf
      exact X_wk (WK.n (WK.s (WK.n (WK.n WK.e)))) (ke (l1, x) (Option.some.inj hf).symm)
    · replace hf := ite_f c9_2 hf
      refine T_aload dX11_sums_12 rfl ?_
      obtain ⟨q13_3, hc13_3, hf⟩ := bind_t hf
      refine X_Vv (qX11_byteAt Z _ hc13_3) (Nat.le_trans (Nat.le_of_ble_eq_true rfl) hK) dX11_sums_13 lvX11_162 rfl rfl ob73 (Nat.le_of_ble_eq_true rfl) ?_
      refine T_const dX11_sums_16 ?_
      have J30 : ∀ (x : aH) (l1 : Int32), jX11_sums_30 g_X11_product (wX11_sums_5 g_X11_product n) x l1 = some R → TX false Z mX11_sums (D + 1) y x Q 30 [.ref 73, .int l1, .null, .null] [] := by
        intro x l1 hf
        delta jX11_sums_30 at hf
        refine T_aload dX11_sums_30 rfl ?_
        obtain ⟨q31_4, hc31_4, hf⟩ := bind_t hf
        refine X_Vv (qX11_byteAt Z _ hc31_4) (Nat.le_trans (Nat.le_of_ble_eq_true rfl) hK) dX11_sums_31 lvX11_162 rfl rfl ob73 (Nat.le_of_ble_eq_true rfl) ?_
        refine T_const dX11_sums_34 ?_
        have J44 : ∀ (x : aH) (l1 : Int32) (s0 : Int32), jX11_sums_44 g_X11_product (wX11_sums_5 g_X11_product n) x l1 s0 = some R → TX false Z mX11_sums (D + 1) y x Q 44 [.ref 73, .int l1, .null, .null] [.int s0] := by
          intro x l1 s0 hf
          delta jX11_sums_44 at hf
          refine T_istore dX11_sums_44 ?_
          show TX _ _ _ _ _ _ _ _ [_, _, _, _] _
          refine T_aload dX11_sums_45 rfl ?_
          refine T_dup dX11_sums_46 rfl ?_
          refine X_getf dX11_sums_47 lfX11_150 rfl ob73 ?_
          refine T_const dX11_sums_50 ?_
          refine T_iadd dX11_sums_51 ?_
          refine X_putf dX11_sums_52 lfX11_150 rfl rfl ob73 ⟨rfl, rfl⟩ ?_
          refine T_aload dX11_sums_55 rfl ?_
          obtain ⟨q56_5, hc56_5, hf⟩ := bind_t hf
          refine X_Vv (H_X11_product _ hc56_5) (Nat.le_refl _) dX11_sums_56 lvX11_178 rfl rfl ob73 (Nat.le_of_ble_eq_true rfl) ?_
          refine T_istore dX11_sums_59 ?_
          show TX _ _ _ _ _ _ _ _ [_, _, _, _] _
          refine T_iload dX11_sums_60 rfl ?_
          have J73 : ∀ (x : aH) (s0 : Int32), jX11_sums_73 g_X11_product (wX11_sums_5 g_X11_product n) x s0 = some R → TX false Z mX11_sums (D + 1) y x Q 73 [.ref 73, .null, .null, .null] [.int s0] := by
            intro x s0 hf
            delta jX11_sums_73 at hf
            refine T_istore dX11_sums_73 ?_
            show TX _ _ _ _ _ _ _ _ [_, _, _, _] _
            refine T_goto dX11_sums_74 ?_
            exact X_wk (WK.s (WK.s (WK.n (WK.n WK.e)))) (ih _ _ hf ke)
          refine T_if_eq dX11_sums_61 (fun c61_6 => ?_) (fun c61_6 => ?_)
          · replace hf := ite_t c61_6 hf
            refine T_iload dX11_sums_70 rfl ?_
            refine T_iload dX11_sums_71 rfl ?_
            refine T_isub dX11_sums_72 ?_
            exact X_wk (WK.s (WK.n (WK.n (WK.n WK.e)))) (J73 _ _ hf)
          · replace hf := ite_f c61_6 hf
            refine T_iload dX11_sums_64 rfl ?_
            refine T_iload dX11_sums_65 rfl ?_
            refine T_iadd dX11_sums_66 ?_
            refine T_goto dX11_sums_67 ?_
            exact X_wk (WK.s (WK.n (WK.n (WK.n WK.e)))) (J73 _ _ hf)
        refine T_icmp_ne dX11_sums_36 (fun c36_7 => ?_) (fun c36_7 => ?_)
        · replace hf := ite_f c36_7 hf
          refine T_const dX11_sums_43 ?_
          exact X_wk (WK.s (WK.s (WK.n (WK.n WK.e)))) (J44 _ _ _ hf)
        · replace hf := ite_t c36_7 hf
          refine T_const dX11_sums_39 ?_
          refine T_goto dX11_sums_40 ?_
          exact X_wk (WK.s (WK.s (WK.n (WK.n WK.e)))) (J44 _ _ _ hf)
      refine T_icmp_eq dX11_sums_18 (fun c18_8 => ?_) (fun c18_8 => ?_)
      · replace hf := ite_t c18_8 hf
        exact X_wk (WK.s (WK.s (WK.n (WK.n WK.e)))) (J30 _ _ hf)
      · replace hf := ite_f c18_8 hf
        refine T_aload dX11_sums_21 rfl ?_
        obtain ⟨q22_9, hc22_9, hf⟩ := bind_t hf
        refine X_Vv (qX11_byteAt Z _ hc22_9) (Nat.le_trans (Nat.le_of_ble_eq_true rfl) hK) dX11_sums_22 lvX11_162 rfl rfl ob73 (Nat.le_of_ble_eq_true rfl) ?_
        refine T_const dX11_sums_25 ?_
        refine T_icmp_ne dX11_sums_27 (fun c27_10 => ?_) (fun c27_10 => ?_)
        · replace hf := ite_f c27_10 hf
          exact X_wk (WK.n (WK.s (WK.n (WK.n WK.e)))) (ke (l1, x) (Option.some.inj hf).symm)
        · replace hf := ite_t c27_10 hf
          exact X_wk (WK.s (WK.s (WK.n (WK.n WK.e)))) (J30 _ _ hf)
theorem pX11_sums (Z : aZ) (y : aH) {D : Nat} (hK : 1 ≤ D) {g_X11_product : aH → Option (Int32 × aH)} (H_X11_product : ∀ (x : aH) {q : (Int32 × aH)}, g_X11_product x = some q → CX false Z mX11_product D [.ref 73] y x (RV (.int q.1) q.2)) {x : aH} {q : (Int32 × aH)} (hf : uX11_sums g_X11_product x = some q) : CX false Z mX11_sums (D + 1) [.ref 73] y x (RV (.int q.1) q.2) := by
  refine CX.of mokX11_sums (Nat.le_of_ble_eq_true rfl) ?_
  show TX _ _ _ _ _ _ _ _ [_, _, _, _] _
  delta uX11_sums at hf
  refine T_aload dX11_sums_0 rfl ?_
  obtain ⟨q1_1, hc1_1, hf⟩ := bind_t hf
  refine X_Vv (H_X11_product _ hc1_1) (Nat.le_refl _) dX11_sums_1 lvX11_178 rfl rfl ob73 (Nat.le_of_ble_eq_true rfl) ?_
  refine T_istore dX11_sums_4 ?_
  show TX _ _ _ _ _ _ _ _ [_, _, _, _] _
  obtain ⟨q5_11, hc5_11, hf⟩ := bind_t hf
  refine X_wk (WK.s (WK.s (WK.n (WK.n WK.e)))) (lX11_sums_5 Z _ hK H_X11_product 2000 _ _ hc5_11 ?_)
  intro q5_11z hr
  subst hr
  refine T_iload dX11_sums_77 rfl ?_
  obtain rfl := Option.some.inj hf
  exact X_ri dX11_sums_78 ⟨rfl, rfl⟩
noncomputable def jX11_product_85 (g_X11_one : aH → Option (Int32 × aH)) (ih : aH → Int32 → Int32 → Option (Int32 × aH)) (x : aH) (s0 : Int32) : Option (Int32 × aH) := (fX11_byteAt x).bind fun q87_5 => ih x s0 q87_5
noncomputable def jX11_product_35 (g_X11_one : aH → Option (Int32 × aH)) (ih : aH → Int32 → Int32 → Option (Int32 × aH)) (x : aH) (l1 : Int32) (l2 : Int32) : Option (Int32 × aH) := (g_X11_one (sfi x 73 12 ((fi x 73 12) + (1 : Int32)))).bind fun q46_4 => if l2 = (42 : Int32) then jX11_product_85 g_X11_one ih q46_4.2 (l1 * q46_4.1) else if q46_4.1 = (0 : Int32) then jX11_product_85 g_X11_one ih q46_4.2 (0 : Int32) else if l2 = (47 : Int32) then if ¬ (q46_4.1 = (0 : Int32)) then jX11_product_85 g_X11_one ih q46_4.2 (l1 / q46_4.1) else none else if ¬ (q46_4.1 = (0 : Int32)) then jX11_product_85 g_X11_one ih q46_4.2 (l1 - l1 / q46_4.1 * q46_4.1) else none
noncomputable def sX11_product_10 (g_X11_one : aH → Option (Int32 × aH)) (ih : aH → Int32 → Int32 → Option (Int32 × aH)) (x : aH) (l1 : Int32) (l2 : Int32) : Option (Int32 × aH) := if (0 : Int32) ≤ (fi x 73 14) then some (l1, x) else if l2 = (42 : Int32) then jX11_product_35 g_X11_one ih x l1 l2 else if l2 = (47 : Int32) then jX11_product_35 g_X11_one ih x l1 l2 else if l2 = (37 : Int32) then jX11_product_35 g_X11_one ih x l1 l2 else some (l1, x)
noncomputable def wX11_product_10 (g_X11_one : aH → Option (Int32 × aH)) : Nat → aH → Int32 → Int32 → Option (Int32 × aH)
  | 0 => fun _ _ _ => none
  | n + 1 => sX11_product_10 g_X11_one (wX11_product_10 g_X11_one n)
noncomputable def uX11_product (g_X11_one : aH → Option (Int32 × aH)) (x : aH) : Option (Int32 × aH) := (g_X11_one x).bind fun q1_1 => (fX11_byteAt q1_1.2).bind fun q6_2 => (wX11_product_10 g_X11_one 2000 q1_1.2 q1_1.1 q6_2).bind fun q10_12 => some (q10_12.1, q10_12.2)
theorem lX11_product_10 (Z : aZ) (y : aH) {D : Nat} (hK : 1 ≤ D) {g_X11_one : aH → Option (Int32 × aH)} (H_X11_one : ∀ (x : aH) {q : (Int32 × aH)}, g_X11_one x = some q → CX false Z mX11_one D [.ref 73] y x (RV (.int q.1) q.2)) {Q : Option Value → aH → Prop} {R : (Int32 × aH)} : ∀ (n : Nat) (x : aH) (l1 : Int32) (l2 : Int32), wX11_product_10 g_X11_one n x l1 l2 = some R → (∀ q, R = q → TX false Z mX11_product (D + 1) y q.2 Q 94 [.null, .int (q.1), .null, .null] []) → TX false Z mX11_product (D + 1) y x Q 10 [.ref 73, .int l1, .int l2, .null] [] := by
  intro n
  induction n with
  | zero => intro x l1 l2 hf; cases hf
  | succ n ih =>
    intro x l1 l2 hf ke
    replace hf : sX11_product_10 g_X11_one (wX11_product_10 g_X11_one n) x l1 l2 = some R := hf
    delta sX11_product_10 at hf
    refine T_aload dX11_product_10 rfl ?_
    refine X_getf dX11_product_11 lfX11_159 rfl ob73 ?_
    refine T_if_ge dX11_product_14 (fun c14_3 => ?_) (fun c14_3 => ?_)
    · replace hf := ite_t c14_3 hf
      exact X_wk (WK.n (WK.s (WK.n (WK.n WK.e)))) (ke (l1, x) (Option.some.inj hf).symm)
    · replace hf := ite_f c14_3 hf
      refine T_iload dX11_product_17 rfl ?_
      refine T_const dX11_product_18 ?_
      have J35 : ∀ (x : aH) (l1 : Int32) (l2 : Int32), jX11_product_35 g_X11_one (wX11_product_10 g_X11_one n) x l1 l2 = some R → TX false Z mX11_product (D + 1) y x Q 35 [.ref 73, .int l1, .int l2, .null] [] := by
        intro x l1 l2 hf
        delta jX11_product_35 at hf
        refine T_aload dX11_product_35 rfl ?_
        refine T_dup dX11_product_36 rfl ?_
        refine X_getf dX11_product_37 lfX11_150 rfl ob73 ?_
        refine T_const dX11_product_40 ?_
        refine T_iadd dX11_product_41 ?_
        refine X_putf dX11_product_42 lfX11_150 rfl rfl ob73 ⟨rfl, rfl⟩ ?_
        refine T_aload dX11_product_45 rfl ?_
        obtain ⟨q46_4, hc46_4, hf⟩ := bind_t hf
        refine X_Vv (H_X11_one _ hc46_4) (Nat.le_refl _) dX11_product_46 lvX11_181 rfl rfl ob73 (Nat.le_of_ble_eq_true rfl) ?_
        refine T_istore dX11_product_49 ?_
        show TX _ _ _ _ _ _ _ _ [_, _, _, _] _
        refine T_iload dX11_product_50 rfl ?_
        refine T_const dX11_product_51 ?_
        have J85 : ∀ (x : aH) (s0 : Int32), jX11_product_85 g_X11_one (wX11_product_10 g_X11_one n) x s0 = some R → TX false Z mX11_product (D + 1) y x Q 85 [.ref 73, .null, .null, .null] [.int s0] := by
          intro x s0 hf
          delta jX11_product_85 at hf
          refine T_istore dX11_product_85 ?_
          show TX _ _ _ _ _ _ _ _ [_, _, _, _] _
          refine T_aload dX11_product_86 rfl ?_
          obtain ⟨q87_5, hc87_5, hf⟩ := bind_t hf
          refine X_Vv (qX11_byteAt Z _ hc87_5) (Nat.le_trans (Nat.le_of_ble_eq_true rfl) hK) dX11_product_87 lvX11_162 rfl rfl ob73 (Nat.le_of_ble_eq_true rfl) ?_
          refine T_istore dX11_product_90 ?_
          show TX _ _ _ _ _ _ _ _ [_, _, _, _] _
          refine T_goto dX11_product_91 ?_
          exact X_wk (WK.s (WK.s (WK.s (WK.n WK.e)))) (ih _ _ _ hf ke)
        refine T_icmp_ne dX11_product_53 (fun c53_6 => ?_) (fun c53_6 => ?_)
        · replace hf := ite_f c53_6 hf
          refine T_iload dX11_product_62 rfl ?_
          refine T_if_ne dX11_product_63 (fun c63_7 => ?_) (fun c63_7 => ?_)
          · replace hf := ite_f c63_7 hf
            refine T_iload dX11_product_70 rfl ?_
            refine T_const dX11_product_71 ?_
            refine T_icmp_ne dX11_product_73 (fun c73_8 => ?_) (fun c73_8 => ?_)
            · replace hf := ite_f c73_8 hf
              refine T_iload dX11_product_82 rfl ?_
              refine T_iload dX11_product_83 rfl ?_
              obtain ⟨h0, hf⟩ := opt_t hf
              refine T_irem dX11_product_84 h0 ?_
              exact X_wk (WK.s (WK.n (WK.n (WK.n WK.e)))) (J85 _ _ hf)
            · replace hf := ite_t c73_8 hf
              refine T_iload dX11_product_76 rfl ?_
              refine T_iload dX11_product_77 rfl ?_
              obtain ⟨h0, hf⟩ := opt_t hf
              refine T_idiv dX11_product_78 h0 ?_
              refine T_goto dX11_product_79 ?_
              exact X_wk (WK.s (WK.n (WK.n (WK.n WK.e)))) (J85 _ _ hf)
          · replace hf := ite_t c63_7 hf
            refine T_const dX11_product_66 ?_
            refine T_goto dX11_product_67 ?_
            exact X_wk (WK.s (WK.n (WK.n (WK.n WK.e)))) (J85 _ _ hf)
        · replace hf := ite_t c53_6 hf
          refine T_iload dX11_product_56 rfl ?_
          refine T_iload dX11_product_57 rfl ?_
          refine T_imul dX11_product_58 ?_
          refine T_goto dX11_product_59 ?_
          exact X_wk (WK.s (WK.n (WK.n (WK.n WK.e)))) (J85 _ _ hf)
      refine T_icmp_eq dX11_product_20 (fun c20_9 => ?_) (fun c20_9 => ?_)
      · replace hf := ite_t c20_9 hf
        exact X_wk (WK.s (WK.s (WK.s (WK.n WK.e)))) (J35 _ _ _ hf)
      · replace hf := ite_f c20_9 hf
        refine T_iload dX11_product_23 rfl ?_
        refine T_const dX11_product_24 ?_
        refine T_icmp_eq dX11_product_26 (fun c26_10 => ?_) (fun c26_10 => ?_)
        · replace hf := ite_t c26_10 hf
          exact X_wk (WK.s (WK.s (WK.s (WK.n WK.e)))) (J35 _ _ _ hf)
        · replace hf := ite_f c26_10 hf
          refine T_iload dX11_product_29 rfl ?_
          refine T_const dX11_product_30 ?_
          refine T_icmp_ne dX11_product_32 (fun c32_11 => ?_) (fun c32_11 => ?_)
          · replace hf := ite_f c32_11 hf
            exact X_wk (WK.n (WK.s (WK.n (WK.n WK.e)))) (ke (l1, x) (Option.some.inj hf).symm)
          · replace hf := ite_t c32_11 hf
            exact X_wk (WK.s (WK.s (WK.s (WK.n WK.e)))) (J35 _ _ _ hf)
theorem pX11_product (Z : aZ) (y : aH) {D : Nat} (hK : 1 ≤ D) {g_X11_one : aH → Option (Int32 × aH)} (H_X11_one : ∀ (x : aH) {q : (Int32 × aH)}, g_X11_one x = some q → CX false Z mX11_one D [.ref 73] y x (RV (.int q.1) q.2)) {x : aH} {q : (Int32 × aH)} (hf : uX11_product g_X11_one x = some q) : CX false Z mX11_product (D + 1) [.ref 73] y x (RV (.int q.1) q.2) := by
  refine CX.of mokX11_product (Nat.le_of_ble_eq_true rfl) ?_
  show TX _ _ _ _ _ _ _ _ [_, _, _, _] _
  delta uX11_product at hf
  refine T_aload dX11_product_0 rfl ?_
  obtain ⟨q1_1, hc1_1, hf⟩ := bind_t hf
  refine X_Vv (H_X11_one _ hc1_1) (Nat.le_refl _) dX11_product_1 lvX11_181 rfl rfl ob73 (Nat.le_of_ble_eq_true rfl) ?_
  refine T_istore dX11_product_4 ?_
  show TX _ _ _ _ _ _ _ _ [_, _, _, _] _
  refine T_aload dX11_product_5 rfl ?_
  obtain ⟨q6_2, hc6_2, hf⟩ := bind_t hf
  refine X_Vv (qX11_byteAt Z _ hc6_2) (Nat.le_trans (Nat.le_of_ble_eq_true rfl) hK) dX11_product_6 lvX11_162 rfl rfl ob73 (Nat.le_of_ble_eq_true rfl) ?_
  refine T_istore dX11_product_9 ?_
  show TX _ _ _ _ _ _ _ _ [_, _, _, _] _
  obtain ⟨q10_12, hc10_12, hf⟩ := bind_t hf
  refine X_wk (WK.s (WK.s (WK.s (WK.n WK.e)))) (lX11_product_10 Z _ hK H_X11_one 2000 _ _ _ hc10_12 ?_)
  intro q10_12z hr
  subst hr
  refine T_iload dX11_product_94 rfl ?_
  obtain rfl := Option.some.inj hf
  exact X_ri dX11_product_95 ⟨rfl, rfl⟩
noncomputable def jX11_one_104 (g_X11_either : aH → Option (Int32 × aH)) (g_X11_one : aH → Option (Int32 × aH)) (x : aH) (l1 : Int32) (l2 : Int32) : Option (Int32 × aH) := if l1 = (40 : Int32) then some (l2, (sfi x 73 15 ((fi x 73 15) - (1 : Int32)))) else if l1 = (45 : Int32) then some ((-l2), (sfi x 73 15 ((fi x 73 15) - (1 : Int32)))) else if l2 = (0 : Int32) then some ((1 : Int32), (sfi x 73 15 ((fi x 73 15) - (1 : Int32)))) else some ((0 : Int32), (sfi x 73 15 ((fi x 73 15) - (1 : Int32))))
noncomputable def jX11_one_83 (g_X11_either : aH → Option (Int32 × aH)) (g_X11_one : aH → Option (Int32 × aH)) (x : aH) (l1 : Int32) (s0 : Int32) : Option (Int32 × aH) := if l1 = (40 : Int32) then (fX11_takes x (41 : Int32)).bind fun q93_8 => if q93_8.1 = (0 : Int32) then (fX11_wrong q93_8.2).bind fun q100_10 => some (q100_10.1, q100_10.2) else jX11_one_104 g_X11_either g_X11_one q93_8.2 l1 s0 else jX11_one_104 g_X11_either g_X11_one x l1 s0
noncomputable def jX11_one_32 (g_X11_either : aH → Option (Int32 × aH)) (g_X11_one : aH → Option (Int32 × aH)) (x : aH) (l1 : Int32) : Option (Int32 × aH) := if (fi x 73 15) = (6 : Int32) then (fX11_wrong x).bind fun q42_14 => some (q42_14.1, q42_14.2) else if l1 = (40 : Int32) then (g_X11_either (sfi (sfi x 73 15 ((fi x 73 15) + (1 : Int32))) 73 12 ((fi (sfi x 73 15 ((fi x 73 15) + (1 : Int32))) 73 12) + (1 : Int32)))).bind fun q73_13 => jX11_one_83 g_X11_either g_X11_one q73_13.2 l1 q73_13.1 else (g_X11_one (sfi (sfi x 73 15 ((fi x 73 15) + (1 : Int32))) 73 12 ((fi (sfi x 73 15 ((fi x 73 15) + (1 : Int32))) 73 12) + (1 : Int32)))).bind fun q80_12 => jX11_one_83 g_X11_either g_X11_one q80_12.2 l1 q80_12.1
noncomputable def sX11_one_176 (g_X11_either : aH → Option (Int32 × aH)) (g_X11_one : aH → Option (Int32 × aH)) (ih : aH → Int32 → Int32 → Option (Int32 × Int32 × aH)) (x : aH) (l3 : Int32) (l4 : Int32) : Option (Int32 × Int32 × aH) := if (4 : Int32) ≤ l4 then some (l3, l4, x) else (fX11_byteAt x).bind fun q183_21 => if q183_21 < (48 : Int32) then some (l3, l4, x) else (fX11_byteAt x).bind fun q192_23 => if (57 : Int32) < q192_23 then some (l3, l4, x) else (fX11_byteAt x).bind fun q205_25 => ih (sfi x 73 12 ((fi x 73 12) + (1 : Int32))) ((((10 : Int32) * l3) + q205_25) - (48 : Int32)) (l4 + (1 : Int32))
noncomputable def wX11_one_176 (g_X11_either : aH → Option (Int32 × aH)) (g_X11_one : aH → Option (Int32 × aH)) : Nat → aH → Int32 → Int32 → Option (Int32 × Int32 × aH)
  | 0 => fun _ _ _ => none
  | n + 1 => sX11_one_176 g_X11_either g_X11_one (wX11_one_176 g_X11_either g_X11_one n)
noncomputable def uX11_one (g_X11_either : aH → Option (Int32 × aH)) (g_X11_one : aH → Option (Int32 × aH)) (x : aH) : Option (Int32 × aH) := if (fi x 73 14) < (0 : Int32) then (fX11_byteAt x).bind fun q10_2 => if q10_2 = (33 : Int32) then jX11_one_32 g_X11_either g_X11_one x q10_2 else if q10_2 = (45 : Int32) then jX11_one_32 g_X11_either g_X11_one x q10_2 else if q10_2 = (40 : Int32) then jX11_one_32 g_X11_either g_X11_one x q10_2 else (fX11_nameOf q10_2).bind fun q146_18 => if q146_18 < (0 : Int32) then (wX11_one_176 g_X11_either g_X11_one 2000 x (0 : Int32) (0 : Int32)).bind fun q176_26 => if q176_26.2.1 = (0 : Int32) then (fX11_wrong q176_26.2.2).bind fun q235_28 => some (q235_28.1, q235_28.2) else some (q176_26.1, q176_26.2.2) else if (0 : Int32) ≤ q146_18 ∧ q146_18 < (6 : Int32) then some ((ri (sfi x 73 12 ((fi x 73 12) + (1 : Int32))) 80 (ix q146_18)), (sfi x 73 12 ((fi x 73 12) + (1 : Int32)))) else none else some ((0 : Int32), x)
theorem lX11_one_176 (Z : aZ) (y : aH) {D : Nat} (hK : 1 ≤ D) {g_X11_either : aH → Option (Int32 × aH)} (H_X11_either : ∀ (x : aH) {q : (Int32 × aH)}, g_X11_either x = some q → CX false Z mX11_either D [.ref 73] y x (RV (.int q.1) q.2)) {g_X11_one : aH → Option (Int32 × aH)} (H_X11_one : ∀ (x : aH) {q : (Int32 × aH)}, g_X11_one x = some q → CX false Z mX11_one D [.ref 73] y x (RV (.int q.1) q.2)) {Q : Option Value → aH → Prop} {R : (Int32 × Int32 × aH)} : ∀ (n : Nat) (x : aH) (l3 : Int32) (l4 : Int32), wX11_one_176 g_X11_either g_X11_one n x l3 l4 = some R → (∀ q, R = q → TX false Z mX11_one (D + 1) y q.2.2 Q 229 [.ref 73, .null, .null, .int (q.1), .int (q.2.1)] []) → TX false Z mX11_one (D + 1) y x Q 176 [.ref 73, .null, .null, .int l3, .int l4] [] := by
  intro n
  induction n with
  | zero => intro x l3 l4 hf; cases hf
  | succ n ih =>
    intro x l3 l4 hf ke
    replace hf : sX11_one_176 g_X11_either g_X11_one (wX11_one_176 g_X11_either g_X11_one n) x l3 l4 = some R := hf
    delta sX11_one_176 at hf
    refine T_iload dX11_one_176 rfl ?_
    refine T_const dX11_one_178 ?_
    refine T_icmp_ge dX11_one_179 (fun c179_20 => ?_) (fun c179_20 => ?_)
    · replace hf := ite_t c179_20 hf
      exact X_wk (WK.s (WK.n (WK.n (WK.s (WK.s WK.e))))) (ke (l3, l4, x) (Option.some.inj hf).symm)
    · replace hf := ite_f c179_20 hf
      refine T_aload dX11_one_182 rfl ?_
      obtain ⟨q183_21, hc183_21, hf⟩ := bind_t hf
      refine X_Vv (qX11_byteAt Z _ hc183_21) (Nat.le_trans (Nat.le_of_ble_eq_true rfl) hK) dX11_one_183 lvX11_162 rfl rfl ob73 (Nat.le_of_ble_eq_true rfl) ?_
      refine T_const dX11_one_186 ?_
      refine T_icmp_lt dX11_one_188 (fun c188_22 => ?_) (fun c188_22 => ?_)
      · replace hf := ite_t c188_22 hf
        exact X_wk (WK.s (WK.n (WK.n (WK.s (WK.s WK.e))))) (ke (l3, l4, x) (Option.some.inj hf).symm)
      · replace hf := ite_f c188_22 hf
        refine T_aload dX11_one_191 rfl ?_
        obtain ⟨q192_23, hc192_23, hf⟩ := bind_t hf
        refine X_Vv (qX11_byteAt Z _ hc192_23) (Nat.le_trans (Nat.le_of_ble_eq_true rfl) hK) dX11_one_192 lvX11_162 rfl rfl ob73 (Nat.le_of_ble_eq_true rfl) ?_
        refine T_const dX11_one_195 ?_
        refine T_icmp_gt dX11_one_197 (fun c197_24 => ?_) (fun c197_24 => ?_)
        · replace hf := ite_t c197_24 hf
          exact X_wk (WK.s (WK.n (WK.n (WK.s (WK.s WK.e))))) (ke (l3, l4, x) (Option.some.inj hf).symm)
        · replace hf := ite_f c197_24 hf
          refine T_const dX11_one_200 ?_
          refine T_iload dX11_one_202 rfl ?_
          refine T_imul dX11_one_203 ?_
          refine T_aload dX11_one_204 rfl ?_
          obtain ⟨q205_25, hc205_25, hf⟩ := bind_t hf
          refine X_Vv (qX11_byteAt Z _ hc205_25) (Nat.le_trans (Nat.le_of_ble_eq_true rfl) hK) dX11_one_205 lvX11_162 rfl rfl ob73 (Nat.le_of_ble_eq_true rfl) ?_
          refine T_iadd dX11_one_208 ?_
          refine T_const dX11_one_209 ?_
          refine T_isub dX11_one_211 ?_
          refine T_istore dX11_one_212 ?_
          show TX _ _ _ _ _ _ _ _ [_, _, _, _, _] _
          refine T_iinc dX11_one_213 rfl ?_
          show TX _ _ _ _ _ _ _ _ [_, _, _, _, _] _
          refine T_aload dX11_one_216 rfl ?_
          refine T_dup dX11_one_217 rfl ?_
          refine X_getf dX11_one_218 lfX11_150 rfl ob73 ?_
          refine T_const dX11_one_221 ?_
          refine T_iadd dX11_one_222 ?_
          refine X_putf dX11_one_223 lfX11_150 rfl rfl ob73 ⟨rfl, rfl⟩ ?_
          refine T_goto dX11_one_226 ?_
          exact X_wk (WK.s (WK.n (WK.n (WK.s (WK.s WK.e))))) (ih _ _ _ hf ke)
theorem pX11_one (Z : aZ) (y : aH) {D : Nat} (hK : 1 ≤ D) {g_X11_either : aH → Option (Int32 × aH)} (H_X11_either : ∀ (x : aH) {q : (Int32 × aH)}, g_X11_either x = some q → CX false Z mX11_either D [.ref 73] y x (RV (.int q.1) q.2)) {g_X11_one : aH → Option (Int32 × aH)} (H_X11_one : ∀ (x : aH) {q : (Int32 × aH)}, g_X11_one x = some q → CX false Z mX11_one D [.ref 73] y x (RV (.int q.1) q.2)) {x : aH} {q : (Int32 × aH)} (hf : uX11_one g_X11_either g_X11_one x = some q) : CX false Z mX11_one (D + 1) [.ref 73] y x (RV (.int q.1) q.2) := by
  refine CX.of mokX11_one (Nat.le_of_ble_eq_true rfl) ?_
  show TX _ _ _ _ _ _ _ _ [_, _, _, _, _] _
  delta uX11_one at hf
  refine T_aload dX11_one_0 rfl ?_
  refine X_getf dX11_one_1 lfX11_159 rfl ob73 ?_
  refine T_if_lt dX11_one_4 (fun c4_1 => ?_) (fun c4_1 => ?_)
  · replace hf := ite_t c4_1 hf
    refine T_aload dX11_one_9 rfl ?_
    obtain ⟨q10_2, hc10_2, hf⟩ := bind_t hf
    refine X_Vv (qX11_byteAt Z _ hc10_2) (Nat.le_trans (Nat.le_of_ble_eq_true rfl) hK) dX11_one_10 lvX11_162 rfl rfl ob73 (Nat.le_of_ble_eq_true rfl) ?_
    refine T_istore dX11_one_13 ?_
    show TX _ _ _ _ _ _ _ _ [_, _, _, _, _] _
    refine T_iload dX11_one_14 rfl ?_
    refine T_const dX11_one_15 ?_
    have J32 : ∀ (x : aH) (l1 : Int32), jX11_one_32 g_X11_either g_X11_one x l1 = some q → TX false Z mX11_one (D + 1) y x (RV (.int q.1) q.2) 32 [.ref 73, .int l1, .null, .null, .null] [] := by
      intro x l1 hf
      delta jX11_one_32 at hf
      refine T_aload dX11_one_32 rfl ?_
      refine X_getf dX11_one_33 lfX11_184 rfl ob73 ?_
      refine T_const dX11_one_36 ?_
      refine T_icmp_ne dX11_one_38 (fun c38_3 => ?_) (fun c38_3 => ?_)
      · replace hf := ite_f c38_3 hf
        refine T_aload dX11_one_46 rfl ?_
        refine T_dup dX11_one_47 rfl ?_
        refine X_getf dX11_one_48 lfX11_184 rfl ob73 ?_
        refine T_const dX11_one_51 ?_
        refine T_iadd dX11_one_52 ?_
        refine X_putf dX11_one_53 lfX11_184 rfl rfl ob73 ⟨rfl, rfl⟩ ?_
        refine T_aload dX11_one_56 rfl ?_
        refine T_dup dX11_one_57 rfl ?_
        refine X_getf dX11_one_58 lfX11_150 rfl ob73 ?_
        refine T_const dX11_one_61 ?_
        refine T_iadd dX11_one_62 ?_
        refine X_putf dX11_one_63 lfX11_150 rfl rfl ob73 ⟨rfl, rfl⟩ ?_
        refine T_iload dX11_one_66 rfl ?_
        refine T_const dX11_one_67 ?_
        have J83 : ∀ (x : aH) (l1 : Int32) (s0 : Int32), jX11_one_83 g_X11_either g_X11_one x l1 s0 = some q → TX false Z mX11_one (D + 1) y x (RV (.int q.1) q.2) 83 [.ref 73, .int l1, .null, .null, .null] [.int s0] := by
          intro x l1 s0 hf
          delta jX11_one_83 at hf
          refine T_istore dX11_one_83 ?_
          show TX _ _ _ _ _ _ _ _ [_, _, _, _, _] _
          refine T_iload dX11_one_84 rfl ?_
          refine T_const dX11_one_85 ?_
          have J104 : ∀ (x : aH) (l1 : Int32) (l2 : Int32), jX11_one_104 g_X11_either g_X11_one x l1 l2 = some q → TX false Z mX11_one (D + 1) y x (RV (.int q.1) q.2) 104 [.ref 73, .int l1, .int l2, .null, .null] [] := by
            intro x l1 l2 hf
            delta jX11_one_104 at hf
            refine T_aload dX11_one_104 rfl ?_
            refine T_dup dX11_one_105 rfl ?_
            refine X_getf dX11_one_106 lfX11_184 rfl ob73 ?_
            refine T_const dX11_one_109 ?_
            refine T_isub dX11_one_110 ?_
            refine X_putf dX11_one_111 lfX11_184 rfl rfl ob73 ⟨rfl, rfl⟩ ?_
            refine T_iload dX11_one_114 rfl ?_
            refine T_const dX11_one_115 ?_
            refine T_icmp_ne dX11_one_117 (fun c117_4 => ?_) (fun c117_4 => ?_)
            · replace hf := ite_f c117_4 hf
              refine T_iload dX11_one_124 rfl ?_
              refine T_const dX11_one_125 ?_
              refine T_icmp_ne dX11_one_127 (fun c127_5 => ?_) (fun c127_5 => ?_)
              · replace hf := ite_f c127_5 hf
                refine T_iload dX11_one_135 rfl ?_
                refine T_if_ne dX11_one_136 (fun c136_6 => ?_) (fun c136_6 => ?_)
                · replace hf := ite_f c136_6 hf
                  refine T_const dX11_one_143 ?_
                  obtain rfl := Option.some.inj hf
                  exact X_ri dX11_one_144 ⟨rfl, rfl⟩
                · replace hf := ite_t c136_6 hf
                  refine T_const dX11_one_139 ?_
                  refine T_goto dX11_one_140 ?_
                  obtain rfl := Option.some.inj hf
                  exact X_ri dX11_one_144 ⟨rfl, rfl⟩
              · replace hf := ite_t c127_5 hf
                refine T_iload dX11_one_130 rfl ?_
                refine T_ineg dX11_one_131 ?_
                refine T_goto dX11_one_132 ?_
                obtain rfl := Option.some.inj hf
                exact X_ri dX11_one_144 ⟨rfl, rfl⟩
            · replace hf := ite_t c117_4 hf
              refine T_iload dX11_one_120 rfl ?_
              refine T_goto dX11_one_121 ?_
              obtain rfl := Option.some.inj hf
              exact X_ri dX11_one_144 ⟨rfl, rfl⟩
          refine T_icmp_ne dX11_one_87 (fun c87_7 => ?_) (fun c87_7 => ?_)
          · replace hf := ite_f c87_7 hf
            exact X_wk (WK.s (WK.s (WK.s (WK.n (WK.n WK.e))))) (J104 _ _ _ hf)
          · replace hf := ite_t c87_7 hf
            refine T_aload dX11_one_90 rfl ?_
            refine T_const dX11_one_91 ?_
            obtain ⟨q93_8, hc93_8, hf⟩ := bind_t hf
            refine X_Vv (qX11_takes Z _ hc93_8) (Nat.le_trans (Nat.le_of_ble_eq_true rfl) hK) dX11_one_93 lvX11_169 rfl rfl ob73 (Nat.le_of_ble_eq_true rfl) ?_
            refine T_if_ne dX11_one_96 (fun c96_9 => ?_) (fun c96_9 => ?_)
            · replace hf := ite_f c96_9 hf
              exact X_wk (WK.s (WK.s (WK.s (WK.n (WK.n WK.e))))) (J104 _ _ _ hf)
            · replace hf := ite_t c96_9 hf
              refine T_aload dX11_one_99 rfl ?_
              obtain ⟨q100_10, hc100_10, hf⟩ := bind_t hf
              refine X_Vv (qX11_wrong Z _ hc100_10) (Nat.le_trans (Nat.le_of_ble_eq_true rfl) hK) dX11_one_100 lvX11_187 rfl rfl ob73 (Nat.le_of_ble_eq_true rfl) ?_
              obtain rfl := Option.some.inj hf
              exact X_ri dX11_one_103 ⟨rfl, rfl⟩
        refine T_icmp_ne dX11_one_69 (fun c69_11 => ?_) (fun c69_11 => ?_)
        · replace hf := ite_f c69_11 hf
          refine T_aload dX11_one_79 rfl ?_
          obtain ⟨q80_12, hc80_12, hf⟩ := bind_t hf
          refine X_Vv (H_X11_one _ hc80_12) (Nat.le_refl _) dX11_one_80 lvX11_181 rfl rfl ob73 (Nat.le_of_ble_eq_true rfl) ?_
          exact X_wk (WK.s (WK.s (WK.n (WK.n (WK.n WK.e))))) (J83 _ _ _ hf)
        · replace hf := ite_t c69_11 hf
          refine T_aload dX11_one_72 rfl ?_
          obtain ⟨q73_13, hc73_13, hf⟩ := bind_t hf
          refine X_Vv (H_X11_either _ hc73_13) (Nat.le_refl _) dX11_one_73 lvX11_190 rfl rfl ob73 (Nat.le_of_ble_eq_true rfl) ?_
          refine T_goto dX11_one_76 ?_
          exact X_wk (WK.s (WK.s (WK.n (WK.n (WK.n WK.e))))) (J83 _ _ _ hf)
      · replace hf := ite_t c38_3 hf
        refine T_aload dX11_one_41 rfl ?_
        obtain ⟨q42_14, hc42_14, hf⟩ := bind_t hf
        refine X_Vv (qX11_wrong Z _ hc42_14) (Nat.le_trans (Nat.le_of_ble_eq_true rfl) hK) dX11_one_42 lvX11_187 rfl rfl ob73 (Nat.le_of_ble_eq_true rfl) ?_
        obtain rfl := Option.some.inj hf
        exact X_ri dX11_one_45 ⟨rfl, rfl⟩
    refine T_icmp_eq dX11_one_17 (fun c17_15 => ?_) (fun c17_15 => ?_)
    · replace hf := ite_t c17_15 hf
      exact X_wk (WK.s (WK.s (WK.n (WK.n (WK.n WK.e))))) (J32 _ _ hf)
    · replace hf := ite_f c17_15 hf
      refine T_iload dX11_one_20 rfl ?_
      refine T_const dX11_one_21 ?_
      refine T_icmp_eq dX11_one_23 (fun c23_16 => ?_) (fun c23_16 => ?_)
      · replace hf := ite_t c23_16 hf
        exact X_wk (WK.s (WK.s (WK.n (WK.n (WK.n WK.e))))) (J32 _ _ hf)
      · replace hf := ite_f c23_16 hf
        refine T_iload dX11_one_26 rfl ?_
        refine T_const dX11_one_27 ?_
        refine T_icmp_ne dX11_one_29 (fun c29_17 => ?_) (fun c29_17 => ?_)
        · replace hf := ite_f c29_17 hf
          refine T_iload dX11_one_145 rfl ?_
          obtain ⟨q146_18, hc146_18, hf⟩ := bind_t hf
          refine X_Sv (qX11_nameOf _ Z _ _ hc146_18) (Nat.le_trans (Nat.le_of_ble_eq_true rfl) hK) dX11_one_146 lsX11_193 rfl rfl (Nat.le_of_ble_eq_true rfl) ?_
          refine T_istore dX11_one_149 ?_
          show TX _ _ _ _ _ _ _ _ [_, _, _, _, _] _
          refine T_iload dX11_one_150 rfl ?_
          refine T_if_lt dX11_one_151 (fun c151_19 => ?_) (fun c151_19 => ?_)
          · replace hf := ite_t c151_19 hf
            refine T_const dX11_one_171 ?_
            refine T_istore dX11_one_172 ?_
            show TX _ _ _ _ _ _ _ _ [_, _, _, _, _] _
            refine T_const dX11_one_173 ?_
            refine T_istore dX11_one_174 ?_
            show TX _ _ _ _ _ _ _ _ [_, _, _, _, _] _
            obtain ⟨q176_26, hc176_26, hf⟩ := bind_t hf
            refine X_wk (WK.s (WK.n (WK.n (WK.s (WK.s WK.e))))) (lX11_one_176 Z _ hK H_X11_either H_X11_one 2000 _ _ _ hc176_26 ?_)
            intro q176_26z hr
            subst hr
            refine T_iload dX11_one_229 rfl ?_
            refine T_if_ne dX11_one_231 (fun c231_27 => ?_) (fun c231_27 => ?_)
            · replace hf := ite_f c231_27 hf
              refine T_iload dX11_one_241 rfl ?_
              obtain rfl := Option.some.inj hf
              exact X_ri dX11_one_242 ⟨rfl, rfl⟩
            · replace hf := ite_t c231_27 hf
              refine T_aload dX11_one_234 rfl ?_
              obtain ⟨q235_28, hc235_28, hf⟩ := bind_t hf
              refine X_Vv (qX11_wrong Z _ hc235_28) (Nat.le_trans (Nat.le_of_ble_eq_true rfl) hK) dX11_one_235 lvX11_187 rfl rfl ob73 (Nat.le_of_ble_eq_true rfl) ?_
              refine T_goto dX11_one_238 ?_
              obtain rfl := Option.some.inj hf
              exact X_ri dX11_one_242 ⟨rfl, rfl⟩
          · replace hf := ite_f c151_19 hf
            refine T_aload dX11_one_154 rfl ?_
            refine T_dup dX11_one_155 rfl ?_
            refine X_getf dX11_one_156 lfX11_150 rfl ob73 ?_
            refine T_const dX11_one_159 ?_
            refine T_iadd dX11_one_160 ?_
            refine X_putf dX11_one_161 lfX11_150 rfl rfl ob73 ⟨rfl, rfl⟩ ?_
            refine T_aload dX11_one_164 rfl ?_
            refine X_getr dX11_one_165 lfX11_28 rfl ob73 rfl ?_
            refine T_iload dX11_one_168 rfl ?_
            obtain ⟨hb169_29, hf⟩ := opt_t hf
            refine X_iald (N := 6) dX11_one_169 ar80 rfl hb169_29 ?_
            obtain rfl := Option.some.inj hf
            exact X_ri dX11_one_170 ⟨rfl, rfl⟩
        · replace hf := ite_t c29_17 hf
          exact X_wk (WK.s (WK.s (WK.n (WK.n (WK.n WK.e))))) (J32 _ _ hf)
  · replace hf := ite_f c4_1 hf
    refine T_const dX11_one_7 ?_
    obtain rfl := Option.some.inj hf
    exact X_ri dX11_one_8 ⟨rfl, rfl⟩
noncomputable def GX11_either : Nat → (aH → Option (Int32 × aH)) × (aH → Option (Int32 × aH)) × (aH → Option (Int32 × aH)) × (aH → Option (Int32 × aH)) × (aH → Option (Int32 × aH)) × (aH → Option (Int32 × aH))
  | 0 => (fun _ => none, fun _ => none, fun _ => none, fun _ => none, fun _ => none, fun _ => none)
  | n + 1 => (uX11_either ((GX11_either n).2.1), uX11_both ((GX11_either n).2.2.1), uX11_compared ((GX11_either n).2.2.2.1), uX11_sums ((GX11_either n).2.2.2.2.1), uX11_product ((GX11_either n).2.2.2.2.2), uX11_one ((GX11_either n).1) ((GX11_either n).2.2.2.2.2))
noncomputable def fX11_either (n : Nat) : aH → Option (Int32 × aH) := (GX11_either n).1
noncomputable def fX11_both (n : Nat) : aH → Option (Int32 × aH) := (GX11_either n).2.1
noncomputable def fX11_compared (n : Nat) : aH → Option (Int32 × aH) := (GX11_either n).2.2.1
noncomputable def fX11_sums (n : Nat) : aH → Option (Int32 × aH) := (GX11_either n).2.2.2.1
noncomputable def fX11_product (n : Nat) : aH → Option (Int32 × aH) := (GX11_either n).2.2.2.2.1
noncomputable def fX11_one (n : Nat) : aH → Option (Int32 × aH) := (GX11_either n).2.2.2.2.2
theorem fX11_either_S (n : Nat) : fX11_either (n + 1) = uX11_either (fX11_both n) := rfl
theorem fX11_both_S (n : Nat) : fX11_both (n + 1) = uX11_both (fX11_compared n) := rfl
theorem fX11_compared_S (n : Nat) : fX11_compared (n + 1) = uX11_compared (fX11_sums n) := rfl
theorem fX11_sums_S (n : Nat) : fX11_sums (n + 1) = uX11_sums (fX11_product n) := rfl
theorem fX11_product_S (n : Nat) : fX11_product (n + 1) = uX11_product (fX11_one n) := rfl
theorem fX11_one_S (n : Nat) : fX11_one (n + 1) = uX11_one (fX11_either n) (fX11_one n) := rfl
theorem qGX11_either (Z : aZ) (y : aH) : ∀ n, (∀ (x : aH) {q : (Int32 × aH)}, fX11_either n x = some q → CX false Z mX11_either (n + 1) [.ref 73] y x (RV (.int q.1) q.2)) ∧ (∀ (x : aH) {q : (Int32 × aH)}, fX11_both n x = some q → CX false Z mX11_both (n + 1) [.ref 73] y x (RV (.int q.1) q.2)) ∧ (∀ (x : aH) {q : (Int32 × aH)}, fX11_compared n x = some q → CX false Z mX11_compared (n + 1) [.ref 73] y x (RV (.int q.1) q.2)) ∧ (∀ (x : aH) {q : (Int32 × aH)}, fX11_sums n x = some q → CX false Z mX11_sums (n + 1) [.ref 73] y x (RV (.int q.1) q.2)) ∧ (∀ (x : aH) {q : (Int32 × aH)}, fX11_product n x = some q → CX false Z mX11_product (n + 1) [.ref 73] y x (RV (.int q.1) q.2)) ∧ (∀ (x : aH) {q : (Int32 × aH)}, fX11_one n x = some q → CX false Z mX11_one (n + 1) [.ref 73] y x (RV (.int q.1) q.2)) := by
  intro n
  induction n with
  | zero => exact ⟨(by intro _ q hf; cases hf), (by intro _ q hf; cases hf), (by intro _ q hf; cases hf), (by intro _ q hf; cases hf), (by intro _ q hf; cases hf), (by intro _ q hf; cases hf)⟩
  | succ n ih =>
    obtain ⟨ih_X11_either, ih_X11_both, ih_X11_compared, ih_X11_sums, ih_X11_product, ih_X11_one⟩ := ih
    exact ⟨(by intro _ q hf; exact (pX11_either Z y (D := n + 1) (Nat.le_add_left _ _) ih_X11_both hf).le (by omega)),
      (by intro _ q hf; exact (pX11_both Z y (D := n + 1) (Nat.le_add_left _ _) ih_X11_compared hf).le (by omega)),
      (by intro _ q hf; exact (pX11_compared Z y (D := n + 1) (Nat.le_add_left _ _) ih_X11_sums hf).le (by omega)),
      (by intro _ q hf; exact (pX11_sums Z y (D := n + 1) (Nat.le_add_left _ _) ih_X11_product hf).le (by omega)),
      (by intro _ q hf; exact (pX11_product Z y (D := n + 1) (Nat.le_add_left _ _) ih_X11_one hf).le (by omega)),
      (by intro _ q hf; exact (pX11_one Z y (D := n + 1) (Nat.le_add_left _ _) ih_X11_either ih_X11_one hf).le (by omega))⟩
theorem qX11_either (Z : aZ) (y : aH) {x : aH} {q : (Int32 × aH)} (hf : fX11_either 64 x = some q) : CX false Z mX11_either 65 [.ref 73] y x (RV (.int q.1) q.2) := (qGX11_either Z y 64).1 _ hf
theorem qX11_both (Z : aZ) (y : aH) {x : aH} {q : (Int32 × aH)} (hf : fX11_both 64 x = some q) : CX false Z mX11_both 65 [.ref 73] y x (RV (.int q.1) q.2) := (qGX11_either Z y 64).2.1 _ hf
theorem qX11_compared (Z : aZ) (y : aH) {x : aH} {q : (Int32 × aH)} (hf : fX11_compared 64 x = some q) : CX false Z mX11_compared 65 [.ref 73] y x (RV (.int q.1) q.2) := (qGX11_either Z y 64).2.2.1 _ hf
theorem qX11_sums (Z : aZ) (y : aH) {x : aH} {q : (Int32 × aH)} (hf : fX11_sums 64 x = some q) : CX false Z mX11_sums 65 [.ref 73] y x (RV (.int q.1) q.2) := (qGX11_either Z y 64).2.2.2.1 _ hf
theorem qX11_product (Z : aZ) (y : aH) {x : aH} {q : (Int32 × aH)} (hf : fX11_product 64 x = some q) : CX false Z mX11_product 65 [.ref 73] y x (RV (.int q.1) q.2) := (qGX11_either Z y 64).2.2.2.2.1 _ hf
theorem qX11_one (Z : aZ) (y : aH) {x : aH} {q : (Int32 × aH)} (hf : fX11_one 64 x = some q) : CX false Z mX11_one 65 [.ref 73] y x (RV (.int q.1) q.2) := (qGX11_either Z y 64).2.2.2.2.2 _ hf
