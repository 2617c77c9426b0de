def fX11_within (p0 : Int64) (p2 : Int64) (p4 : Int64) : Option Int32 := if (lg_cmp p0 p2) < (0 : Int32) then some (0 : Int32) else if (0 : Int32) < (lg_cmp p0 p4) then some (0 : Int32) else some (1 : Int32)
theorem qX11_within (sd : Bool) (Z : aZ) (y : aH) (x : aH) {p0 : Int64} {p2 : Int64} {p4 : Int64} {q : Int32} (hf : fX11_within p0 p2 p4 = some q) : CX sd Z mX11_within 0 [.long p0, .long p2, .long p4] y x (RV (.int q) x) := by
  refine CX.of mokX11_within (Nat.le_of_ble_eq_true rfl) ?_
  show TX _ _ _ _ _ _ _ _ [_, _, _, _, _, _] _
  unfold fX11_within at hf
  refine T_lload dX11_within_0 rfl ?_
  refine T_lload dX11_within_1 rfl ?_
  refine T_lcmp dX11_within_2 ?_
  refine T_if_lt dX11_within_3 (fun c3_1 => ?_) (fun c3_1 => ?_)
  · replace hf := ite_t c3_1 hf
    refine T_const dX11_within_17 ?_
    obtain rfl := Option.some.inj hf
    exact X_rz dX11_within_18 (by first | exact Or.inl rfl | exact Or.inr rfl) ⟨rfl, rfl⟩
  · replace hf := ite_f c3_1 hf
    refine T_lload dX11_within_6 rfl ?_
    refine T_lload dX11_within_7 rfl ?_
    refine T_lcmp dX11_within_9 ?_
    refine T_if_gt dX11_within_10 (fun c10_2 => ?_) (fun c10_2 => ?_)
    · replace hf := ite_t c10_2 hf
      refine T_const dX11_within_17 ?_
      obtain rfl := Option.some.inj hf
      exact X_rz dX11_within_18 (by first | exact Or.inl rfl | exact Or.inr rfl) ⟨rfl, rfl⟩
    · replace hf := ite_f c10_2 hf
      refine T_const dX11_within_13 ?_
      refine T_goto dX11_within_14 ?_
      obtain rfl := Option.some.inj hf
      exact X_rz dX11_within_18 (by first | exact Or.inl rfl | exact Or.inr rfl) ⟨rfl, rfl⟩
def fX11_isIn (p0 : Int32) (p1 : Int32) : Option Int32 := if ((p0 >>> (p1 &&& 31)) &&& (1 : Int32)) = (1 : Int32) then some (1 : Int32) else some (0 : Int32)
theorem qX11_isIn (sd : Bool) (Z : aZ) (y : aH) (x : aH) {p0 : Int32} {p1 : Int32} {q : Int32} (hf : fX11_isIn p0 p1 = some q) : CX sd Z mX11_isIn 0 [.int p0, .int p1] y x (RV (.int q) x) := by
  refine CX.of mokX11_isIn (Nat.le_of_ble_eq_true rfl) ?_
  show TX _ _ _ _ _ _ _ _ [_, _] _
  unfold fX11_isIn at hf
  refine T_iload dX11_isIn_0 rfl ?_
  refine T_iload dX11_isIn_1 rfl ?_
  refine T_ishr dX11_isIn_2 ?_
  refine T_const dX11_isIn_3 ?_
  refine T_iand dX11_isIn_4 ?_
  refine T_const dX11_isIn_5 ?_
  refine T_icmp_ne dX11_isIn_6 (fun c6_1 => ?_) (fun c6_1 => ?_)
  · replace hf := ite_f c6_1 hf
    refine T_const dX11_isIn_13 ?_
    obtain rfl := Option.some.inj hf
    exact X_rz dX11_isIn_14 (by first | exact Or.inl rfl | exact Or.inr rfl) ⟨rfl, rfl⟩
  · replace hf := ite_t c6_1 hf
    refine T_const dX11_isIn_9 ?_
    refine T_goto dX11_isIn_10 ?_
    obtain rfl := Option.some.inj hf
    exact X_rz dX11_isIn_14 (by first | exact Or.inl rfl | exact Or.inr rfl) ⟨rfl, rfl⟩
def jX11_becomes_137 (x : aH) (l1 : Int32) (l2 : Int32) (l3 : Int32) : Option (Int32 × aH) := if (0 : Int32) ≤ l1 ∧ l1 < (172 : Int32) then some (l3, (sri (sfi x 73 4 (fi x 73 5)) 74 (ix l1) l2)) else none
def jX11_becomes_97 (x : aH) (l1 : Int32) (l2 : Int32) (l3 : Int32) : Option (Int32 × aH) := if (0 : Int32) ≤ (fi x 73 5) ∧ (fi x 73 5) < (40 : Int32) then if (0 : Int32) ≤ (fi (sri x 75 (ix (fi x 73 5)) l1) 73 5) ∧ (fi (sri x 75 (ix (fi x 73 5)) l1) 73 5) < (40 : Int32) then if (0 : Int32) ≤ (fi (sri (sri x 75 (ix (fi x 73 5)) l1) 76 (ix (fi (sri x 75 (ix (fi x 73 5)) l1) 73 5)) l3) 73 5) ∧ (fi (sri (sri x 75 (ix (fi x 73 5)) l1) 76 (ix (fi (sri x 75 (ix (fi x 73 5)) l1) 73 5)) l3) 73 5) < (40 : Int32) then jX11_becomes_137 (sfi (sri (sri (sri x 75 (ix (fi x 73 5)) l1) 76 (ix (fi (sri x 75 (ix (fi x 73 5)) l1) 73 5)) l3) 77 (ix (fi (sri (sri x 75 (ix (fi x 73 5)) l1) 76 (ix (fi (sri x 75 (ix (fi x 73 5)) l1) 73 5)) l3) 73 5)) l2) 73 5 ((fi (sri (sri (sri x 75 (ix (fi x 73 5)) l1) 76 (ix (fi (sri x 75 (ix (fi x 73 5)) l1) 73 5)) l3) 77 (ix (fi (sri (sri x 75 (ix (fi x 73 5)) l1) 76 (ix (fi (sri x 75 (ix (fi x 73 5)) l1) 73 5)) l3) 73 5)) l2) 73 5) + (1 : Int32))) l1 l2 l3 else none else none else none
def jX11_becomes_81 (ih : aH → Int32 → Option aH) (x : aH) (l1 : Int32) (l2 : Int32) (l3 : Int32) (l4 : Int32) : Option aH := ih x (l4 + (1 : Int32))
def sX11_becomes_26 (l1 : Int32) (l2 : Int32) (l3 : Int32) (ih : aH → Int32 → Option aH) (x : aH) (l4 : Int32) : Option aH := if (40 : Int32) ≤ l4 then some x else if (0 : Int32) ≤ l4 ∧ l4 < (40 : Int32) then if (0 : Int32) ≤ (l4 - (1 : Int32)) ∧ (l4 - (1 : Int32)) < (40 : Int32) then if (0 : Int32) ≤ l4 ∧ l4 < (40 : Int32) then if (0 : Int32) ≤ (l4 - (1 : Int32)) ∧ (l4 - (1 : Int32)) < (40 : Int32) then if (0 : Int32) ≤ l4 ∧ l4 < (40 : Int32) then if (0 : Int32) ≤ (l4 - (1 : Int32)) ∧ (l4 - (1 : Int32)) < (40 : Int32) then jX11_becomes_81 ih (sri (sri (sri x 75 (ix (l4 - (1 : Int32))) (ri x 75 (ix l4))) 76 (ix (l4 - (1 : Int32))) (ri (sri x 75 (ix (l4 - (1 : Int32))) (ri x 75 (ix l4))) 76 (ix l4))) 77 (ix (l4 - (1 : Int32))) (ri (sri (sri x 75 (ix (l4 - (1 : Int32))) (ri x 75 (ix l4))) 76 (ix (l4 - (1 : Int32))) (ri (sri x 75 (ix (l4 - (1 : Int32))) (ri x 75 (ix l4))) 76 (ix l4))) 77 (ix l4))) l1 l2 l3 l4 else none else none else none else none else none else none
def wX11_becomes_26 (l1 : Int32) (l2 : Int32) (l3 : Int32) : Nat → aH → Int32 → Option aH
  | 0 => fun _ _ => none
  | n + 1 => sX11_becomes_26 l1 l2 l3 (wX11_becomes_26 l1 l2 l3 n)
def fX11_becomes (x : aH) (p1 : Int32) (p2 : Int32) : Option (Int32 × aH) := if (0 : Int32) ≤ p1 ∧ p1 < (172 : Int32) then if (ri x 74 (ix p1)) = p2 then some ((ri x 74 (ix p1)), x) else if (fi x 73 5) = (40 : Int32) then (wX11_becomes_26 p1 p2 (ri x 74 (ix p1)) 2000 x (1 : Int32)).bind fun q26_15 => jX11_becomes_97 (sfi q26_15 73 5 ((fi q26_15 73 5) - (1 : Int32))) p1 p2 (ri x 74 (ix p1)) else jX11_becomes_97 x p1 p2 (ri x 74 (ix p1)) else none
theorem lX11_becomes_26 (Z : aZ) (y : aH) (l1 : Int32) (l2 : Int32) (l3 : Int32) {Q : Option Value → aH → Prop} {R : aH} : ∀ (n : Nat) (x : aH) (l4 : Int32), wX11_becomes_26 l1 l2 l3 n x l4 = some R → (∀ q, R = q → TX false Z mX11_becomes 0 y q Q 87 [.ref 73, .int l1, .int l2, .int l3, .null] []) → TX false Z mX11_becomes 0 y x Q 26 [.ref 73, .int l1, .int l2, .int l3, .int l4] [] := by
  intro n
  induction n with
  | zero => intro x l4 hf; cases hf
  | succ n ih =>
    intro x l4 hf ke
    replace hf : sX11_becomes_26 l1 l2 l3 (wX11_becomes_26 l1 l2 l3 n) x l4 = some R := hf
    unfold sX11_becomes_26 at hf
    refine T_iload dX11_becomes_26 rfl ?_
    refine T_const dX11_becomes_28 ?_
    refine T_icmp_ge dX11_becomes_30 (fun c30_8 => ?_) (fun c30_8 => ?_)
    · replace hf := ite_t c30_8 hf
      exact X_wk (WK.s (WK.s (WK.s (WK.s (WK.n WK.e))))) (ke _ (Option.some.inj hf).symm)
    · replace hf := ite_f c30_8 hf
      refine T_aload dX11_becomes_33 rfl ?_
      refine X_getr dX11_becomes_34 lfX11_13 rfl ob73 rfl ?_
      refine T_iload dX11_becomes_37 rfl ?_
      refine T_const dX11_becomes_39 ?_
      refine T_isub dX11_becomes_40 ?_
      refine T_aload dX11_becomes_41 rfl ?_
      refine X_getr dX11_becomes_42 lfX11_13 rfl ob73 rfl ?_
      refine T_iload dX11_becomes_45 rfl ?_
      obtain ⟨hb47_9, hf⟩ := opt_t hf
      refine X_iald (N := 40) dX11_becomes_47 ar75 rfl hb47_9 ?_
      obtain ⟨hb48_10, hf⟩ := opt_t hf
      refine X_iast (N := 40) dX11_becomes_48 ar75 rfl hb48_10 ?_
      refine T_aload dX11_becomes_49 rfl ?_
      refine X_getr dX11_becomes_50 lfX11_16 rfl ob73 rfl ?_
      refine T_iload dX11_becomes_53 rfl ?_
      refine T_const dX11_becomes_55 ?_
      refine T_isub dX11_becomes_56 ?_
      refine T_aload dX11_becomes_57 rfl ?_
      refine X_getr dX11_becomes_58 lfX11_16 rfl ob73 rfl ?_
      refine T_iload dX11_becomes_61 rfl ?_
      obtain ⟨hb63_11, hf⟩ := opt_t hf
      refine X_iald (N := 40) dX11_becomes_63 ar76 rfl hb63_11 ?_
      obtain ⟨hb64_12, hf⟩ := opt_t hf
      refine X_iast (N := 40) dX11_becomes_64 ar76 rfl hb64_12 ?_
      refine T_aload dX11_becomes_65 rfl ?_
      refine X_getr dX11_becomes_66 lfX11_19 rfl ob73 rfl ?_
      refine T_iload dX11_becomes_69 rfl ?_
      refine T_const dX11_becomes_71 ?_
      refine T_isub dX11_becomes_72 ?_
      refine T_aload dX11_becomes_73 rfl ?_
      refine X_getr dX11_becomes_74 lfX11_19 rfl ob73 rfl ?_
      refine T_iload dX11_becomes_77 rfl ?_
      obtain ⟨hb79_13, hf⟩ := opt_t hf
      refine X_iald (N := 40) dX11_becomes_79 ar77 rfl hb79_13 ?_
      obtain ⟨hb80_14, hf⟩ := opt_t hf
      refine X_iast (N := 40) dX11_becomes_80 ar77 rfl hb80_14 ?_
      have J81 : ∀ (x : aH) (l4 : Int32), jX11_becomes_81 (wX11_becomes_26 l1 l2 l3 n) x l1 l2 l3 l4 = some R → TX false Z mX11_becomes 0 y x Q 81 [.ref 73, .int l1, .int l2, .int l3, .int l4] [] := by
        intro x l4 hf
        unfold jX11_becomes_81 at hf
        refine T_iinc dX11_becomes_81 rfl ?_
        show TX _ _ _ _ _ _ _ _ [_, _, _, _, _] _
        refine T_goto dX11_becomes_84 ?_
        exact X_wk (WK.s (WK.s (WK.s (WK.s (WK.s WK.e))))) (ih _ _ hf ke)
      exact X_wk (WK.s (WK.s (WK.s (WK.s (WK.s WK.e))))) (J81 _ _ hf)
theorem qX11_becomes (Z : aZ) (y : aH) {x : aH} {p1 : Int32} {p2 : Int32} {q : (Int32 × aH)} (hf : fX11_becomes x p1 p2 = some q) : CX false Z mX11_becomes 0 [.ref 73, .int p1, .int p2] y x (RV (.int q.1) q.2) := by
  refine CX.of mokX11_becomes (Nat.le_of_ble_eq_true rfl) ?_
  show TX _ _ _ _ _ _ _ _ [_, _, _, _, _] _
  unfold fX11_becomes at hf
  refine T_aload dX11_becomes_0 rfl ?_
  refine X_getr dX11_becomes_1 lfX11_9 rfl ob73 rfl ?_
  refine T_iload dX11_becomes_4 rfl ?_
  obtain ⟨hb5_1, hf⟩ := opt_t hf
  refine X_iald (N := 172) dX11_becomes_5 ar74 rfl hb5_1 ?_
  refine T_istore dX11_becomes_6 ?_
  show TX _ _ _ _ _ _ _ _ [_, _, _, _, _] _
  refine T_iload dX11_becomes_7 rfl ?_
  refine T_iload dX11_becomes_8 rfl ?_
  refine T_icmp_ne dX11_becomes_9 (fun c9_2 => ?_) (fun c9_2 => ?_)
  · replace hf := ite_f c9_2 hf
    refine T_aload dX11_becomes_14 rfl ?_
    refine X_getf dX11_becomes_15 lfX11_87 rfl ob73 ?_
    refine T_const dX11_becomes_18 ?_
    have J97 : ∀ (x : aH) (l1 : Int32) (l2 : Int32) (l3 : Int32), jX11_becomes_97 x l1 l2 l3 = some q → TX false Z mX11_becomes 0 y x (RV (.int q.1) q.2) 97 [.ref 73, .int l1, .int l2, .int l3, .null] [] := by
      intro x l1 l2 l3 hf
      unfold jX11_becomes_97 at hf
      refine T_aload dX11_becomes_97 rfl ?_
      refine X_getr dX11_becomes_98 lfX11_13 rfl ob73 rfl ?_
      refine T_aload dX11_becomes_101 rfl ?_
      refine X_getf dX11_becomes_102 lfX11_87 rfl ob73 ?_
      refine T_iload dX11_becomes_105 rfl ?_
      obtain ⟨hb106_3, hf⟩ := opt_t hf
      refine X_iast (N := 40) dX11_becomes_106 ar75 rfl hb106_3 ?_
      refine T_aload dX11_becomes_107 rfl ?_
      refine X_getr dX11_becomes_108 lfX11_16 rfl ob73 rfl ?_
      refine T_aload dX11_becomes_111 rfl ?_
      refine X_getf dX11_becomes_112 lfX11_87 rfl ob73 ?_
      refine T_iload dX11_becomes_115 rfl ?_
      obtain ⟨hb116_4, hf⟩ := opt_t hf
      refine X_iast (N := 40) dX11_becomes_116 ar76 rfl hb116_4 ?_
      refine T_aload dX11_becomes_117 rfl ?_
      refine X_getr dX11_becomes_118 lfX11_19 rfl ob73 rfl ?_
      refine T_aload dX11_becomes_121 rfl ?_
      refine X_getf dX11_becomes_122 lfX11_87 rfl ob73 ?_
      refine T_iload dX11_becomes_125 rfl ?_
      obtain ⟨hb126_5, hf⟩ := opt_t hf
      refine X_iast (N := 40) dX11_becomes_126 ar77 rfl hb126_5 ?_
      refine T_aload dX11_becomes_127 rfl ?_
      refine T_dup dX11_becomes_128 rfl ?_
      refine X_getf dX11_becomes_129 lfX11_87 rfl ob73 ?_
      refine T_const dX11_becomes_132 ?_
      refine T_iadd dX11_becomes_133 ?_
      refine X_putf dX11_becomes_134 lfX11_87 rfl rfl ob73 ⟨rfl, rfl⟩ ?_
      have J137 : ∀ (x : aH) (l1 : Int32) (l2 : Int32) (l3 : Int32), jX11_becomes_137 x l1 l2 l3 = some q → TX false Z mX11_becomes 0 y x (RV (.int q.1) q.2) 137 [.ref 73, .int l1, .int l2, .int l3, .null] [] := by
        intro x l1 l2 l3 hf
        unfold jX11_becomes_137 at hf
        refine T_aload dX11_becomes_137 rfl ?_
        refine T_aload dX11_becomes_138 rfl ?_
        refine X_getf dX11_becomes_139 lfX11_87 rfl ob73 ?_
        refine X_putf dX11_becomes_142 lfX11_90 rfl rfl ob73 ⟨rfl, rfl⟩ ?_
        refine T_aload dX11_becomes_145 rfl ?_
        refine X_getr dX11_becomes_146 lfX11_9 rfl ob73 rfl ?_
        refine T_iload dX11_becomes_149 rfl ?_
        refine T_iload dX11_becomes_150 rfl ?_
        obtain ⟨hb151_6, hf⟩ := opt_t hf
        refine X_iast (N := 172) dX11_becomes_151 ar74 rfl hb151_6 ?_
        refine T_iload dX11_becomes_152 rfl ?_
        obtain rfl := Option.some.inj hf
        exact X_ri dX11_becomes_153 ⟨rfl, rfl⟩
      exact X_wk (WK.s (WK.s (WK.s (WK.s (WK.n WK.e))))) (J137 _ _ _ _ hf)
    refine T_icmp_ne dX11_becomes_20 (fun c20_7 => ?_) (fun c20_7 => ?_)
    · replace hf := ite_f c20_7 hf
      exact X_wk (WK.s (WK.s (WK.s (WK.s (WK.n WK.e))))) (J97 _ _ _ _ hf)
    · replace hf := ite_t c20_7 hf
      refine T_const dX11_becomes_23 ?_
      refine T_istore dX11_becomes_24 ?_
      show TX _ _ _ _ _ _ _ _ [_, _, _, _, _] _
      obtain ⟨q26_15, hc26_15, hf⟩ := bind_t hf
      refine X_wk (WK.s (WK.s (WK.s (WK.s (WK.s WK.e))))) (lX11_becomes_26 Z _ _ _ _ 2000 _ _ hc26_15 ?_)
      intro q26_15z hr
      subst hr
      refine T_aload dX11_becomes_87 rfl ?_
      refine T_dup dX11_becomes_88 rfl ?_
      refine X_getf dX11_becomes_89 lfX11_87 rfl ob73 ?_
      refine T_const dX11_becomes_92 ?_
      refine T_isub dX11_becomes_93 ?_
      refine X_putf dX11_becomes_94 lfX11_87 rfl rfl ob73 ⟨rfl, rfl⟩ ?_
      exact X_wk (WK.s (WK.s (WK.s (WK.s (WK.n WK.e))))) (J97 _ _ _ _ hf)
  · replace hf := ite_t c9_2 hf
    refine T_iload dX11_becomes_12 rfl ?_
    obtain rfl := Option.some.inj hf
    exact X_ri dX11_becomes_13 ⟨rfl, rfl⟩
def jX11_undo_43 (x : aH) : Option (Int32 × aH) := some ((fi x 73 5), x)
def fX11_undo (x : aH) : Option (Int32 × aH) := if (fi x 73 5) = (0 : Int32) then some ((-5 : Int32), x) else if (0 : Int32) ≤ (fi (sfi x 73 5 ((fi x 73 5) - (1 : Int32))) 73 5) ∧ (fi (sfi x 73 5 ((fi x 73 5) - (1 : Int32))) 73 5) < (40 : Int32) then if (0 : Int32) ≤ (fi (sfi x 73 5 ((fi x 73 5) - (1 : Int32))) 73 5) ∧ (fi (sfi x 73 5 ((fi x 73 5) - (1 : Int32))) 73 5) < (40 : Int32) then if (0 : Int32) ≤ (ri (sfi x 73 5 ((fi x 73 5) - (1 : Int32))) 75 (ix (fi (sfi x 73 5 ((fi x 73 5) - (1 : Int32))) 73 5))) ∧ (ri (sfi x 73 5 ((fi x 73 5) - (1 : Int32))) 75 (ix (fi (sfi x 73 5 ((fi x 73 5) - (1 : Int32))) 73 5))) < (172 : Int32) then jX11_undo_43 (sri (sfi x 73 5 ((fi x 73 5) - (1 : Int32))) 74 (ix (ri (sfi x 73 5 ((fi x 73 5) - (1 : Int32))) 75 (ix (fi (sfi x 73 5 ((fi x 73 5) - (1 : Int32))) 73 5)))) (ri (sfi x 73 5 ((fi x 73 5) - (1 : Int32))) 76 (ix (fi (sfi x 73 5 ((fi x 73 5) - (1 : Int32))) 73 5)))) else none else none else none
theorem qX11_undo (Z : aZ) (y : aH) {x : aH} {q : (Int32 × aH)} (hf : fX11_undo x = some q) : CX false Z mX11_undo 0 [.ref 73] y x (RV (.int q.1) q.2) := by
  refine CX.of mokX11_undo (Nat.le_of_ble_eq_true rfl) ?_
  show TX _ _ _ _ _ _ _ _ [_] _
  unfold fX11_undo at hf
  refine T_aload dX11_undo_0 rfl ?_
  refine X_getf dX11_undo_1 lfX11_87 rfl ob73 ?_
  refine T_if_ne dX11_undo_4 (fun c4_1 => ?_) (fun c4_1 => ?_)
  · replace hf := ite_f c4_1 hf
    refine T_aload dX11_undo_10 rfl ?_
    refine T_dup dX11_undo_11 rfl ?_
    refine X_getf dX11_undo_12 lfX11_87 rfl ob73 ?_
    refine T_const dX11_undo_15 ?_
    refine T_isub dX11_undo_16 ?_
    refine X_putf dX11_undo_17 lfX11_87 rfl rfl ob73 ⟨rfl, rfl⟩ ?_
    refine T_aload dX11_undo_20 rfl ?_
    refine X_getr dX11_undo_21 lfX11_9 rfl ob73 rfl ?_
    refine T_aload dX11_undo_24 rfl ?_
    refine X_getr dX11_undo_25 lfX11_13 rfl ob73 rfl ?_
    refine T_aload dX11_undo_28 rfl ?_
    refine X_getf dX11_undo_29 lfX11_87 rfl ob73 ?_
    obtain ⟨hb32_2, hf⟩ := opt_t hf
    refine X_iald (N := 40) dX11_undo_32 ar75 rfl hb32_2 ?_
    refine T_aload dX11_undo_33 rfl ?_
    refine X_getr dX11_undo_34 lfX11_16 rfl ob73 rfl ?_
    refine T_aload dX11_undo_37 rfl ?_
    refine X_getf dX11_undo_38 lfX11_87 rfl ob73 ?_
    obtain ⟨hb41_3, hf⟩ := opt_t hf
    refine X_iald (N := 40) dX11_undo_41 ar76 rfl hb41_3 ?_
    obtain ⟨hb42_4, hf⟩ := opt_t hf
    refine X_iast (N := 172) dX11_undo_42 ar74 rfl hb42_4 ?_
    have J43 : ∀ (x : aH), jX11_undo_43 x = some q → TX false Z mX11_undo 0 y x (RV (.int q.1) q.2) 43 [.ref 73] [] := by
      intro x hf
      unfold jX11_undo_43 at hf
      refine T_aload dX11_undo_43 rfl ?_
      refine X_getf dX11_undo_44 lfX11_87 rfl ob73 ?_
      obtain rfl := Option.some.inj hf
      exact X_ri dX11_undo_47 ⟨rfl, rfl⟩
    exact X_wk (WK.s WK.e) (J43 _ hf)
  · replace hf := ite_t c4_1 hf
    refine T_const dX11_undo_7 ?_
    obtain rfl := Option.some.inj hf
    exact X_ri dX11_undo_9 ⟨rfl, rfl⟩
def fX11_redo (x : aH) : Option (Int32 × aH) := if (fi x 73 5) = (fi x 73 4) then some ((-5 : Int32), x) else if (0 : Int32) ≤ (fi x 73 5) ∧ (fi x 73 5) < (40 : Int32) then if (0 : Int32) ≤ (fi x 73 5) ∧ (fi x 73 5) < (40 : Int32) then if (0 : Int32) ≤ (ri x 75 (ix (fi x 73 5))) ∧ (ri x 75 (ix (fi x 73 5))) < (172 : Int32) then some (((fi (sfi (sri x 74 (ix (ri x 75 (ix (fi x 73 5)))) (ri x 77 (ix (fi x 73 5)))) 73 5 ((fi (sri x 74 (ix (ri x 75 (ix (fi x 73 5)))) (ri x 77 (ix (fi x 73 5)))) 73 5) + (1 : Int32))) 73 4) - (fi (sfi (sri x 74 (ix (ri x 75 (ix (fi x 73 5)))) (ri x 77 (ix (fi x 73 5)))) 73 5 ((fi (sri x 74 (ix (ri x 75 (ix (fi x 73 5)))) (ri x 77 (ix (fi x 73 5)))) 73 5) + (1 : Int32))) 73 5)), (sfi (sri x 74 (ix (ri x 75 (ix (fi x 73 5)))) (ri x 77 (ix (fi x 73 5)))) 73 5 ((fi (sri x 74 (ix (ri x 75 (ix (fi x 73 5)))) (ri x 77 (ix (fi x 73 5)))) 73 5) + (1 : Int32)))) else none else none else none
theorem qX11_redo (Z : aZ) (y : aH) {x : aH} {q : (Int32 × aH)} (hf : fX11_redo x = some q) : CX false Z mX11_redo 0 [.ref 73] y x (RV (.int q.1) q.2) := by
  refine CX.of mokX11_redo (Nat.le_of_ble_eq_true rfl) ?_
  show TX _ _ _ _ _ _ _ _ [_] _
  unfold fX11_redo at hf
  refine T_aload dX11_redo_0 rfl ?_
  refine X_getf dX11_redo_1 lfX11_87 rfl ob73 ?_
  refine T_aload dX11_redo_4 rfl ?_
  refine X_getf dX11_redo_5 lfX11_90 rfl ob73 ?_
  refine T_icmp_ne dX11_redo_8 (fun c8_1 => ?_) (fun c8_1 => ?_)
  · replace hf := ite_f c8_1 hf
    refine T_aload dX11_redo_14 rfl ?_
    refine X_getr dX11_redo_15 lfX11_9 rfl ob73 rfl ?_
    refine T_aload dX11_redo_18 rfl ?_
    refine X_getr dX11_redo_19 lfX11_13 rfl ob73 rfl ?_
    refine T_aload dX11_redo_22 rfl ?_
    refine X_getf dX11_redo_23 lfX11_87 rfl ob73 ?_
    obtain ⟨hb26_2, hf⟩ := opt_t hf
    refine X_iald (N := 40) dX11_redo_26 ar75 rfl hb26_2 ?_
    refine T_aload dX11_redo_27 rfl ?_
    refine X_getr dX11_redo_28 lfX11_19 rfl ob73 rfl ?_
    refine T_aload dX11_redo_31 rfl ?_
    refine X_getf dX11_redo_32 lfX11_87 rfl ob73 ?_
    obtain ⟨hb35_3, hf⟩ := opt_t hf
    refine X_iald (N := 40) dX11_redo_35 ar77 rfl hb35_3 ?_
    obtain ⟨hb36_4, hf⟩ := opt_t hf
    refine X_iast (N := 172) dX11_redo_36 ar74 rfl hb36_4 ?_
    refine T_aload dX11_redo_37 rfl ?_
    refine T_dup dX11_redo_38 rfl ?_
    refine X_getf dX11_redo_39 lfX11_87 rfl ob73 ?_
    refine T_const dX11_redo_42 ?_
    refine T_iadd dX11_redo_43 ?_
    refine X_putf dX11_redo_44 lfX11_87 rfl rfl ob73 ⟨rfl, rfl⟩ ?_
    refine T_aload dX11_redo_47 rfl ?_
    refine X_getf dX11_redo_48 lfX11_90 rfl ob73 ?_
    refine T_aload dX11_redo_51 rfl ?_
    refine X_getf dX11_redo_52 lfX11_87 rfl ob73 ?_
    refine T_isub dX11_redo_55 ?_
    obtain rfl := Option.some.inj hf
    exact X_ri dX11_redo_56 ⟨rfl, rfl⟩
  · replace hf := ite_t c8_1 hf
    refine T_const dX11_redo_11 ?_
    obtain rfl := Option.some.inj hf
    exact X_ri dX11_redo_13 ⟨rfl, rfl⟩
def fX11_isLost (x : aH) (p1 : Int64) : Option Int32 := (fX11_within p1 (0 : Int64) (Int32.toInt64 ((fi x 73 6) - (1 : Int32)))).bind fun q9_1 => if q9_1 = (0 : Int32) ∨ q9_1 = (1 : Int32) then some q9_1 else none
theorem qX11_isLost (Z : aZ) (y : aH) {x : aH} {p1 : Int64} {q : Int32} (hf : fX11_isLost x p1 = some q) : CX false Z mX11_isLost 1 [.ref 73, .long p1] y x (RV (.int q) x) := by
  refine CX.of mokX11_isLost (Nat.le_of_ble_eq_true rfl) ?_
  show TX _ _ _ _ _ _ _ _ [_, _, _] _
  unfold fX11_isLost at hf
  refine T_lload dX11_isLost_0 rfl ?_
  refine T_constL dX11_isLost_1 ?_
  refine T_aload dX11_isLost_2 rfl ?_
  refine X_getf dX11_isLost_3 lfX11_93 rfl ob73 ?_
  refine T_const dX11_isLost_6 ?_
  refine T_isub dX11_isLost_7 ?_
  refine T_i2l dX11_isLost_8 ?_
  obtain ⟨q9_1, hc9_1, hf⟩ := bind_t hf
  refine X_Sv (qX11_within _ Z _ _ hc9_1) (Nat.le_of_ble_eq_true rfl) dX11_isLost_9 lsX11_96 rfl rfl (Nat.le_of_ble_eq_true rfl) ?_
  obtain ⟨h01, hf⟩ := opt_t hf
  obtain rfl := Option.some.inj hf
  exact X_rz dX11_isLost_12 h01 ⟨rfl, rfl⟩
def fX11_isCell (p0 : Int64) : Option Int32 := (fX11_within p0 (0 : Int64) (63 : Int64)).bind fun q5_1 => if q5_1 = (0 : Int32) ∨ q5_1 = (1 : Int32) then some q5_1 else none
theorem qX11_isCell (sd : Bool) (Z : aZ) (y : aH) (x : aH) {p0 : Int64} {q : Int32} (hf : fX11_isCell p0 = some q) : CX sd Z mX11_isCell 1 [.long p0] y x (RV (.int q) x) := by
  refine CX.of mokX11_isCell (Nat.le_of_ble_eq_true rfl) ?_
  show TX _ _ _ _ _ _ _ _ [_, _] _
  unfold fX11_isCell at hf
  refine T_lload dX11_isCell_0 rfl ?_
  refine T_constL dX11_isCell_1 ?_
  refine T_constL dX11_isCell_2 ?_
  obtain ⟨q5_1, hc5_1, hf⟩ := bind_t hf
  refine X_Sv (qX11_within _ Z _ _ hc5_1) (Nat.le_of_ble_eq_true rfl) dX11_isCell_5 lsX11_96 rfl rfl (Nat.le_of_ble_eq_true rfl) ?_
  obtain ⟨h01, hf⟩ := opt_t hf
  obtain rfl := Option.some.inj hf
  exact X_rz dX11_isCell_8 h01 ⟨rfl, rfl⟩
def fX11_mayCome (p0 : Int64) (p2 : Int64) (p4 : Int64) : Option Int32 := (fX11_isCell p0).bind fun q1_1 => if q1_1 = (0 : Int32) then some (0 : Int32) else (fX11_within p2 (0 : Int64) (3 : Int64)).bind fun q12_3 => if q12_3 = (0 : Int32) then some (0 : Int32) else (fX11_within p4 (0 : Int64) (9 : Int64)).bind fun q24_5 => if q24_5 = (0 : Int32) then some (0 : Int32) else some (1 : Int32)
theorem qX11_mayCome (sd : Bool) (Z : aZ) (y : aH) (x : aH) {p0 : Int64} {p2 : Int64} {p4 : Int64} {q : Int32} (hf : fX11_mayCome p0 p2 p4 = some q) : CX sd Z mX11_mayCome 2 [.long p0, .long p2, .long p4] y x (RV (.int q) x) := by
  refine CX.of mokX11_mayCome (Nat.le_of_ble_eq_true rfl) ?_
  show TX _ _ _ _ _ _ _ _ [_, _, _, _, _, _] _
  unfold fX11_mayCome at hf
  refine T_lload dX11_mayCome_0 rfl ?_
  obtain ⟨q1_1, hc1_1, hf⟩ := bind_t hf
  refine X_Sv (qX11_isCell _ Z _ _ hc1_1) (Nat.le_of_ble_eq_true rfl) dX11_mayCome_1 lsX11_102 rfl rfl (Nat.le_of_ble_eq_true rfl) ?_
  refine T_if_eq dX11_mayCome_4 (fun c4_2 => ?_) (fun c4_2 => ?_)
  · replace hf := ite_t c4_2 hf
    refine T_const dX11_mayCome_34 ?_
    obtain rfl := Option.some.inj hf
    exact X_rz dX11_mayCome_35 (by first | exact Or.inl rfl | exact Or.inr rfl) ⟨rfl, rfl⟩
  · replace hf := ite_f c4_2 hf
    refine T_lload dX11_mayCome_7 rfl ?_
    refine T_constL dX11_mayCome_8 ?_
    refine T_constL dX11_mayCome_9 ?_
    obtain ⟨q12_3, hc12_3, hf⟩ := bind_t hf
    refine X_Sv (qX11_within _ Z _ _ hc12_3) (Nat.le_of_ble_eq_true rfl) dX11_mayCome_12 lsX11_96 rfl rfl (Nat.le_of_ble_eq_true rfl) ?_
    refine T_if_eq dX11_mayCome_15 (fun c15_4 => ?_) (fun c15_4 => ?_)
    · replace hf := ite_t c15_4 hf
      refine T_const dX11_mayCome_34 ?_
      obtain rfl := Option.some.inj hf
      exact X_rz dX11_mayCome_35 (by first | exact Or.inl rfl | exact Or.inr rfl) ⟨rfl, rfl⟩
    · replace hf := ite_f c15_4 hf
      refine T_lload dX11_mayCome_18 rfl ?_
      refine T_constL dX11_mayCome_20 ?_
      refine T_constL dX11_mayCome_21 ?_
      obtain ⟨q24_5, hc24_5, hf⟩ := bind_t hf
      refine X_Sv (qX11_within _ Z _ _ hc24_5) (Nat.le_of_ble_eq_true rfl) dX11_mayCome_24 lsX11_96 rfl rfl (Nat.le_of_ble_eq_true rfl) ?_
      refine T_if_eq dX11_mayCome_27 (fun c27_6 => ?_) (fun c27_6 => ?_)
      · replace hf := ite_t c27_6 hf
        refine T_const dX11_mayCome_34 ?_
        obtain rfl := Option.some.inj hf
        exact X_rz dX11_mayCome_35 (by first | exact Or.inl rfl | exact Or.inr rfl) ⟨rfl, rfl⟩
      · replace hf := ite_f c27_6 hf
        refine T_const dX11_mayCome_30 ?_
        refine T_goto dX11_mayCome_31 ?_
        obtain rfl := Option.some.inj hf
        exact X_rz dX11_mayCome_35 (by first | exact Or.inl rfl | exact Or.inr rfl) ⟨rfl, rfl⟩
def fX11_adds (x : aH) (p1 : Int32) (p2 : Int32) (p3 : Int32) : Option aH := if (0 : Int32) ≤ (fi x 73 6) ∧ (fi x 73 6) < (172 : Int32) then if (0 : Int32) ≤ ((10 : Int32) + (fi (sri x 74 (ix (fi x 73 6)) p1) 73 6)) ∧ ((10 : Int32) + (fi (sri x 74 (ix (fi x 73 6)) p1) 73 6)) < (172 : Int32) then if (0 : Int32) ≤ ((20 : Int32) + (fi (sri (sri x 74 (ix (fi x 73 6)) p1) 74 (ix ((10 : Int32) + (fi (sri x 74 (ix (fi x 73 6)) p1) 73 6))) p2) 73 6)) ∧ ((20 : Int32) + (fi (sri (sri x 74 (ix (fi x 73 6)) p1) 74 (ix ((10 : Int32) + (fi (sri x 74 (ix (fi x 73 6)) p1) 73 6))) p2) 73 6)) < (172 : Int32) then some (sfi (sri (sri (sri x 74 (ix (fi x 73 6)) p1) 74 (ix ((10 : Int32) + (fi (sri x 74 (ix (fi x 73 6)) p1) 73 6))) p2) 74 (ix ((20 : Int32) + (fi (sri (sri x 74 (ix (fi x 73 6)) p1) 74 (ix ((10 : Int32) + (fi (sri x 74 (ix (fi x 73 6)) p1) 73 6))) p2) 73 6))) p3) 73 6 ((fi (sri (sri (sri x 74 (ix (fi x 73 6)) p1) 74 (ix ((10 : Int32) + (fi (sri x 74 (ix (fi x 73 6)) p1) 73 6))) p2) 74 (ix ((20 : Int32) + (fi (sri (sri x 74 (ix (fi x 73 6)) p1) 74 (ix ((10 : Int32) + (fi (sri x 74 (ix (fi x 73 6)) p1) 73 6))) p2) 73 6))) p3) 73 6) + (1 : Int32))) else none else none else none
theorem qX11_adds (Z : aZ) (y : aH) {x : aH} {p1 : Int32} {p2 : Int32} {p3 : Int32} {q : aH} (hf : fX11_adds x p1 p2 p3 = some q) : CX false Z mX11_adds 0 [.ref 73, .int p1, .int p2, .int p3] y x (RN q) := by
  refine CX.of mokX11_adds (Nat.le_of_ble_eq_true rfl) ?_
  show TX _ _ _ _ _ _ _ _ [_, _, _, _] _
  unfold fX11_adds at hf
  refine T_aload dX11_adds_0 rfl ?_
  refine X_getr dX11_adds_1 lfX11_9 rfl ob73 rfl ?_
  refine T_aload dX11_adds_4 rfl ?_
  refine X_getf dX11_adds_5 lfX11_93 rfl ob73 ?_
  refine T_iload dX11_adds_8 rfl ?_
  obtain ⟨hb9_1, hf⟩ := opt_t hf
  refine X_iast (N := 172) dX11_adds_9 ar74 rfl hb9_1 ?_
  refine T_aload dX11_adds_10 rfl ?_
  refine X_getr dX11_adds_11 lfX11_9 rfl ob73 rfl ?_
  refine T_const dX11_adds_14 ?_
  refine T_aload dX11_adds_16 rfl ?_
  refine X_getf dX11_adds_17 lfX11_93 rfl ob73 ?_
  refine T_iadd dX11_adds_20 ?_
  refine T_iload dX11_adds_21 rfl ?_
  obtain ⟨hb22_2, hf⟩ := opt_t hf
  refine X_iast (N := 172) dX11_adds_22 ar74 rfl hb22_2 ?_
  refine T_aload dX11_adds_23 rfl ?_
  refine X_getr dX11_adds_24 lfX11_9 rfl ob73 rfl ?_
  refine T_const dX11_adds_27 ?_
  refine T_aload dX11_adds_29 rfl ?_
  refine X_getf dX11_adds_30 lfX11_93 rfl ob73 ?_
  refine T_iadd dX11_adds_33 ?_
  refine T_iload dX11_adds_34 rfl ?_
  obtain ⟨hb35_3, hf⟩ := opt_t hf
  refine X_iast (N := 172) dX11_adds_35 ar74 rfl hb35_3 ?_
  refine T_aload dX11_adds_36 rfl ?_
  refine T_dup dX11_adds_37 rfl ?_
  refine X_getf dX11_adds_38 lfX11_93 rfl ob73 ?_
  refine T_const dX11_adds_41 ?_
  refine T_iadd dX11_adds_42 ?_
  refine X_putf dX11_adds_43 lfX11_93 rfl rfl ob73 ⟨rfl, rfl⟩ ?_
  obtain rfl := Option.some.inj hf
  exact X_rv dX11_adds_46 ⟨rfl, rfl⟩
def fX11_lost (x : aH) (p1 : Int32) (p2 : Int32) : Option (Int32 × aH) := (fX11_mayCome (Int32.toInt64 p1) (Int32.toInt64 p2) (0 : Int64)).bind fun q5_1 => if q5_1 = (0 : Int32) then some ((-1 : Int32), x) else if (fi x 73 6) = (10 : Int32) then some ((-3 : Int32), x) else (fX11_adds x p1 p2 (0 : Int32)).bind fun q29_4 => some (((fi q29_4 73 6) - (1 : Int32)), q29_4)
theorem qX11_lost (Z : aZ) (y : aH) {x : aH} {p1 : Int32} {p2 : Int32} {q : (Int32 × aH)} (hf : fX11_lost x p1 p2 = some q) : CX false Z mX11_lost 3 [.ref 73, .int p1, .int p2] y x (RV (.int q.1) q.2) := by
  refine CX.of mokX11_lost (Nat.le_of_ble_eq_true rfl) ?_
  show TX _ _ _ _ _ _ _ _ [_, _, _] _
  unfold fX11_lost at hf
  refine T_iload dX11_lost_0 rfl ?_
  refine T_i2l dX11_lost_1 ?_
  refine T_iload dX11_lost_2 rfl ?_
  refine T_i2l dX11_lost_3 ?_
  refine T_constL dX11_lost_4 ?_
  obtain ⟨q5_1, hc5_1, hf⟩ := bind_t hf
  refine X_Sv (qX11_mayCome _ Z _ _ hc5_1) (Nat.le_of_ble_eq_true rfl) dX11_lost_5 lsX11_110 rfl rfl (Nat.le_of_ble_eq_true rfl) ?_
  refine T_if_ne dX11_lost_8 (fun c8_2 => ?_) (fun c8_2 => ?_)
  · replace hf := ite_f c8_2 hf
    refine T_aload dX11_lost_13 rfl ?_
    refine X_getf dX11_lost_14 lfX11_93 rfl ob73 ?_
    refine T_const dX11_lost_17 ?_
    refine T_icmp_ne dX11_lost_19 (fun c19_3 => ?_) (fun c19_3 => ?_)
    · replace hf := ite_f c19_3 hf
      refine T_aload dX11_lost_25 rfl ?_
      refine T_iload dX11_lost_26 rfl ?_
      refine T_iload dX11_lost_27 rfl ?_
      refine T_const dX11_lost_28 ?_
      obtain ⟨q29_4, hc29_4, hf⟩ := bind_t hf
      refine X_Vn (qX11_adds Z _ hc29_4) (Nat.le_of_ble_eq_true rfl) dX11_lost_29 lvX11_113 rfl rfl ob73 (Nat.le_of_ble_eq_true rfl) ?_
      refine T_aload dX11_lost_32 rfl ?_
      refine X_getf dX11_lost_33 lfX11_93 rfl ob73 ?_
      refine T_const dX11_lost_36 ?_
      refine T_isub dX11_lost_37 ?_
      obtain rfl := Option.some.inj hf
      exact X_ri dX11_lost_38 ⟨rfl, rfl⟩
    · replace hf := ite_t c19_3 hf
      refine T_const dX11_lost_22 ?_
      obtain rfl := Option.some.inj hf
      exact X_ri dX11_lost_24 ⟨rfl, rfl⟩
  · replace hf := ite_t c8_2 hf
    refine T_const dX11_lost_11 ?_
    obtain rfl := Option.some.inj hf
    exact X_ri dX11_lost_12 ⟨rfl, rfl⟩
def fX11_isShelf (p0 : Int32) : Option Int32 := (fX11_within (Int32.toInt64 p0) (0 : Int64) (5 : Int64)).bind fun q6_1 => if q6_1 = (0 : Int32) ∨ q6_1 = (1 : Int32) then some q6_1 else none
theorem qX11_isShelf (sd : Bool) (Z : aZ) (y : aH) (x : aH) {p0 : Int32} {q : Int32} (hf : fX11_isShelf p0 = some q) : CX sd Z mX11_isShelf 1 [.int p0] y x (RV (.int q) x) := by
  refine CX.of mokX11_isShelf (Nat.le_of_ble_eq_true rfl) ?_
  show TX _ _ _ _ _ _ _ _ [_] _
  unfold fX11_isShelf at hf
  refine T_iload dX11_isShelf_0 rfl ?_
  refine T_i2l dX11_isShelf_1 ?_
  refine T_constL dX11_isShelf_2 ?_
  refine T_constL dX11_isShelf_3 ?_
  obtain ⟨q6_1, hc6_1, hf⟩ := bind_t hf
  refine X_Sv (qX11_within _ Z _ _ hc6_1) (Nat.le_of_ble_eq_true rfl) dX11_isShelf_6 lsX11_96 rfl rfl (Nat.le_of_ble_eq_true rfl) ?_
  obtain ⟨h01, hf⟩ := opt_t hf
  obtain rfl := Option.some.inj hf
  exact X_rz dX11_isShelf_9 h01 ⟨rfl, rfl⟩
def jX11_losts_209 (ih : aH → Int32 → Int32 → Option (Int32 × aH)) (x : aH) (l1 : Int32) (l2 : Int32) (l3 : Int32) (l4 : Int32) (l5 : Int32) : Option (Int32 × aH) := ih x l4 l5
def jX11_losts_167 (ih : aH → Int32 → Int32 → Option (Int32 × aH)) (x : aH) (l1 : Int32) (l2 : Int32) (l3 : Int32) (l4 : Int32) (l6 : Int32) (s0 : Int32) : Option (Int32 × aH) := if s0 = (0 : Int32) then jX11_losts_209 ih x l1 l2 l3 l4 s0 else if (0 : Int32) ≤ l6 ∧ l6 < (360 : Int32) then if (0 : Int32) ≤ (l6 + (1 : Int32)) ∧ (l6 + (1 : Int32)) < (360 : Int32) then if (0 : Int32) ≤ (l6 + (2 : Int32)) ∧ (l6 + (2 : Int32)) < (360 : Int32) then (fX11_adds x (Int64.toInt32 (rj x 96 (ix l6))) (Int64.toInt32 (rj x 96 (ix (l6 + (1 : Int32))))) (Int64.toInt32 (rj x 96 (ix (l6 + (2 : Int32)))))).bind fun q203_14 => jX11_losts_209 ih q203_14 l1 l2 l3 (l4 + (1 : Int32)) s0 else none else none else none
def jX11_losts_166 (ih : aH → Int32 → Int32 → Option (Int32 × aH)) (x : aH) (l1 : Int32) (l2 : Int32) (l3 : Int32) (l4 : Int32) (l6 : Int32) : Option (Int32 × aH) := jX11_losts_167 ih x l1 l2 l3 l4 l6 (0 : Int32)
def jX11_losts_111 (ih : aH → Int32 → Int32 → Option (Int32 × aH)) (x : aH) (l1 : Int32) (l2 : Int32) (l3 : Int32) (l4 : Int32) (s0 : Int32) : Option (Int32 × aH) := if s0 = (0 : Int32) then jX11_losts_166 ih x l1 l2 l3 l4 ((((60 : Int32) * l1) + l2) + ((3 : Int32) * l4)) else if (0 : Int32) ≤ ((((60 : Int32) * l1) + l2) + ((3 : Int32) * l4)) ∧ ((((60 : Int32) * l1) + l2) + ((3 : Int32) * l4)) < (360 : Int32) then if (0 : Int32) ≤ (((((60 : Int32) * l1) + l2) + ((3 : Int32) * l4)) + (1 : Int32)) ∧ (((((60 : Int32) * l1) + l2) + ((3 : Int32) * l4)) + (1 : Int32)) < (360 : Int32) then if (0 : Int32) ≤ (((((60 : Int32) * l1) + l2) + ((3 : Int32) * l4)) + (2 : Int32)) ∧ (((((60 : Int32) * l1) + l2) + ((3 : Int32) * l4)) + (2 : Int32)) < (360 : Int32) then (fX11_mayCome (rj x 96 (ix ((((60 : Int32) * l1) + l2) + ((3 : Int32) * l4)))) (rj x 96 (ix (((((60 : Int32) * l1) + l2) + ((3 : Int32) * l4)) + (1 : Int32)))) (rj x 96 (ix (((((60 : Int32) * l1) + l2) + ((3 : Int32) * l4)) + (2 : Int32))))).bind fun q156_19 => if q156_19 = (0 : Int32) then jX11_losts_166 ih x l1 l2 l3 l4 ((((60 : Int32) * l1) + l2) + ((3 : Int32) * l4)) else jX11_losts_167 ih x l1 l2 l3 l4 ((((60 : Int32) * l1) + l2) + ((3 : Int32) * l4)) (1 : Int32) else none else none else none
def jX11_losts_110 (ih : aH → Int32 → Int32 → Option (Int32 × aH)) (x : aH) (l1 : Int32) (l2 : Int32) (l3 : Int32) (l4 : Int32) : Option (Int32 × aH) := jX11_losts_111 ih x l1 l2 l3 l4 (0 : Int32)
def sX11_losts_69 (l1 : Int32) (l2 : Int32) (l3 : Int32) (ih : aH → Int32 → Int32 → Option (Int32 × aH)) (x : aH) (l4 : Int32) (l5 : Int32) : Option (Int32 × aH) := if l5 = (0 : Int32) then some (l4, x) else if l3 ≤ l4 then some (l4, x) else if (0 : Int32) ≤ l1 ∧ l1 < (6 : Int32) then if (((ri x 95 (ix l1)) - (3 : Int32)) - ((3 : Int32) * l4)) < l2 then jX11_losts_110 ih x l1 l2 l3 l4 else if (10 : Int32) ≤ (fi x 73 6) then jX11_losts_110 ih x l1 l2 l3 l4 else jX11_losts_111 ih x l1 l2 l3 l4 (1 : Int32) else none
def wX11_losts_69 (l1 : Int32) (l2 : Int32) (l3 : Int32) : Nat → aH → Int32 → Int32 → Option (Int32 × aH)
  | 0 => fun _ _ _ => none
  | n + 1 => sX11_losts_69 l1 l2 l3 (wX11_losts_69 l1 l2 l3 n)
def jX11_losts_67 (x : aH) (l1 : Int32) (l2 : Int32) (l3 : Int32) (l4 : Int32) (s0 : Int32) : Option (Int32 × aH) := (wX11_losts_69 l1 l2 l3 2000 x l4 s0).bind fun q69_23 => some (q69_23.1, q69_23.2)
def jX11_losts_66 (x : aH) (l1 : Int32) (l2 : Int32) (l3 : Int32) (l4 : Int32) : Option (Int32 × aH) := jX11_losts_67 x l1 l2 l3 l4 (0 : Int32)
def jX11_losts_44 (x : aH) (l1 : Int32) (l2 : Int32) (l3 : Int32) : Option (Int32 × aH) := if (0 : Int32) ≤ l1 ∧ l1 < (6 : Int32) then if (ri x 94 (ix l1)) = (50 : Int32) then if l2 < (0 : Int32) then jX11_losts_66 x l1 l2 l3 (0 : Int32) else jX11_losts_67 x l1 l2 l3 (0 : Int32) (1 : Int32) else jX11_losts_66 x l1 l2 l3 (0 : Int32) else none
def fX11_losts (x : aH) (p1 : Int32) (p2 : Int32) (p3 : Int32) : Option (Int32 × aH) := (fX11_isShelf p1).bind fun q1_1 => if q1_1 = (0 : Int32) then some ((-1 : Int32), x) else (fX11_within (Int32.toInt64 p3) (1 : Int64) (10 : Int64)).bind fun q13_3 => if q13_3 = (0 : Int32) then some ((-1 : Int32), x) else if (0 : Int32) ≤ p1 ∧ p1 < (6 : Int32) then if (ri x 94 (ix p1)) < (0 : Int32) then jX11_losts_44 x p1 p2 p3 else if (0 : Int32) ≤ p1 ∧ p1 < (6 : Int32) then if (ri x 94 (ix p1)) = (50 : Int32) then jX11_losts_44 x p1 p2 p3 else some ((-12 : Int32), x) else none else none
theorem lX11_losts_69 (Z : aZ) (y : aH) (l1 : Int32) (l2 : Int32) (l3 : Int32) {Q : Option Value → aH → Prop} {R : (Int32 × aH)} : ∀ (n : Nat) (x : aH) (l4 : Int32) (l5 : Int32), wX11_losts_69 l1 l2 l3 n x l4 l5 = some R → (∀ q, R = q → TX false Z mX11_losts 3 y q.2 Q 212 [.null, .null, .null, .null, .int (q.1), .null, .null] []) → TX false Z mX11_losts 3 y x Q 69 [.ref 73, .int l1, .int l2, .int l3, .int l4, .int l5, .null] [] := by
  intro n
  induction n with
  | zero => intro x l4 l5 hf; cases hf
  | succ n ih =>
    intro x l4 l5 hf ke
    replace hf : sX11_losts_69 l1 l2 l3 (wX11_losts_69 l1 l2 l3 n) x l4 l5 = some R := hf
    unfold sX11_losts_69 at hf
    refine T_iload dX11_losts_69 rfl ?_
    refine T_if_eq dX11_losts_71 (fun c71_7 => ?_) (fun c71_7 => ?_)
    · replace hf := ite_t c71_7 hf
      exact X_wk (WK.n (WK.n (WK.n (WK.n (WK.s (WK.n (WK.n WK.e))))))) (ke _ (Option.some.inj hf).symm)
    · replace hf := ite_f c71_7 hf
      refine T_iload dX11_losts_74 rfl ?_
      refine T_iload dX11_losts_76 rfl ?_
      refine T_icmp_ge dX11_losts_77 (fun c77_8 => ?_) (fun c77_8 => ?_)
      · replace hf := ite_t c77_8 hf
        exact X_wk (WK.n (WK.n (WK.n (WK.n (WK.s (WK.n (WK.n WK.e))))))) (ke _ (Option.some.inj hf).symm)
      · replace hf := ite_f c77_8 hf
        refine T_iload dX11_losts_80 rfl ?_
        refine T_aload dX11_losts_81 rfl ?_
        refine X_getr dX11_losts_82 lfX11_73 rfl ob73 rfl ?_
        refine T_iload dX11_losts_85 rfl ?_
        obtain ⟨hb86_9, hf⟩ := opt_t hf
        refine X_iald (N := 6) dX11_losts_86 ar95 rfl hb86_9 ?_
        refine T_const dX11_losts_87 ?_
        refine T_isub dX11_losts_88 ?_
        refine T_const dX11_losts_89 ?_
        refine T_iload dX11_losts_90 rfl ?_
        refine T_imul dX11_losts_92 ?_
        refine T_isub dX11_losts_93 ?_
        have J111 : ∀ (x : aH) (l4 : Int32) (s0 : Int32), jX11_losts_111 (wX11_losts_69 l1 l2 l3 n) x l1 l2 l3 l4 s0 = some R → TX false Z mX11_losts 3 y x Q 111 [.ref 73, .int l1, .int l2, .int l3, .int l4, .null, .null] [.int s0] := by
          intro x l4 s0 hf
          unfold jX11_losts_111 at hf
          refine T_istore dX11_losts_111 ?_
          show TX _ _ _ _ _ _ _ _ [_, _, _, _, _, _, _] _
          refine T_const dX11_losts_113 ?_
          refine T_iload dX11_losts_115 rfl ?_
          refine T_imul dX11_losts_116 ?_
          refine T_iload dX11_losts_117 rfl ?_
          refine T_iadd dX11_losts_118 ?_
          refine T_const dX11_losts_119 ?_
          refine T_iload dX11_losts_120 rfl ?_
          refine T_imul dX11_losts_122 ?_
          refine T_iadd dX11_losts_123 ?_
          refine T_istore dX11_losts_124 ?_
          show TX _ _ _ _ _ _ _ _ [_, _, _, _, _, _, _] _
          refine T_iload dX11_losts_126 rfl ?_
          have J167 : ∀ (x : aH) (l4 : Int32) (l6 : Int32) (s0 : Int32), jX11_losts_167 (wX11_losts_69 l1 l2 l3 n) x l1 l2 l3 l4 l6 s0 = some R → TX false Z mX11_losts 3 y x Q 167 [.ref 73, .int l1, .int l2, .int l3, .int l4, .null, .int l6] [.int s0] := by
            intro x l4 l6 s0 hf
            unfold jX11_losts_167 at hf
            refine T_istore dX11_losts_167 ?_
            show TX _ _ _ _ _ _ _ _ [_, _, _, _, _, _, _] _
            refine T_iload dX11_losts_169 rfl ?_
            have J209 : ∀ (x : aH) (l4 : Int32) (l5 : Int32), jX11_losts_209 (wX11_losts_69 l1 l2 l3 n) x l1 l2 l3 l4 l5 = some R → TX false Z mX11_losts 3 y x Q 209 [.ref 73, .int l1, .int l2, .int l3, .int l4, .int l5, .null] [] := by
              intro x l4 l5 hf
              unfold jX11_losts_209 at hf
              refine T_goto dX11_losts_209 ?_
              exact X_wk (WK.s (WK.s (WK.s (WK.s (WK.s (WK.s (WK.n WK.e))))))) (ih _ _ _ hf ke)
            refine T_if_eq dX11_losts_171 (fun c171_10 => ?_) (fun c171_10 => ?_)
            · replace hf := ite_t c171_10 hf
              exact X_wk (WK.s (WK.s (WK.s (WK.s (WK.s (WK.s (WK.n WK.e))))))) (J209 _ _ _ hf)
            · replace hf := ite_f c171_10 hf
              refine T_aload dX11_losts_174 rfl ?_
              refine T_aload dX11_losts_175 rfl ?_
              refine X_getr dX11_losts_176 lfX11_76 rfl ob73 rfl ?_
              refine T_iload dX11_losts_179 rfl ?_
              obtain ⟨hb181_11, hf⟩ := opt_t hf
              refine X_lald (N := 360) dX11_losts_181 ar96 rfl hb181_11 ?_
              refine T_l2i dX11_losts_182 ?_
              refine T_aload dX11_losts_183 rfl ?_
              refine X_getr dX11_losts_184 lfX11_76 rfl ob73 rfl ?_
              refine T_iload dX11_losts_187 rfl ?_
              refine T_const dX11_losts_189 ?_
              refine T_iadd dX11_losts_190 ?_
              obtain ⟨hb191_12, hf⟩ := opt_t hf
              refine X_lald (N := 360) dX11_losts_191 ar96 rfl hb191_12 ?_
              refine T_l2i dX11_losts_192 ?_
              refine T_aload dX11_losts_193 rfl ?_
              refine X_getr dX11_losts_194 lfX11_76 rfl ob73 rfl ?_
              refine T_iload dX11_losts_197 rfl ?_
              refine T_const dX11_losts_199 ?_
              refine T_iadd dX11_losts_200 ?_
              obtain ⟨hb201_13, hf⟩ := opt_t hf
              refine X_lald (N := 360) dX11_losts_201 ar96 rfl hb201_13 ?_
              refine T_l2i dX11_losts_202 ?_
              obtain ⟨q203_14, hc203_14, hf⟩ := bind_t hf
              refine X_Vn (qX11_adds Z _ hc203_14) (Nat.le_of_ble_eq_true rfl) dX11_losts_203 lvX11_113 rfl rfl ob73 (Nat.le_of_ble_eq_true rfl) ?_
              refine T_iinc dX11_losts_206 rfl ?_
              show TX _ _ _ _ _ _ _ _ [_, _, _, _, _, _, _] _
              exact X_wk (WK.s (WK.s (WK.s (WK.s (WK.s (WK.s (WK.n WK.e))))))) (J209 _ _ _ hf)
          have J166 : ∀ (x : aH) (l4 : Int32) (l6 : Int32), jX11_losts_166 (wX11_losts_69 l1 l2 l3 n) x l1 l2 l3 l4 l6 = some R → TX false Z mX11_losts 3 y x Q 166 [.ref 73, .int l1, .int l2, .int l3, .int l4, .null, .int l6] [] := by
            intro x l4 l6 hf
            unfold jX11_losts_166 at hf
            refine T_const dX11_losts_166 ?_
            exact X_wk (WK.s (WK.s (WK.s (WK.s (WK.s (WK.n (WK.s WK.e))))))) (J167 _ _ _ _ hf)
          refine T_if_eq dX11_losts_128 (fun c128_15 => ?_) (fun c128_15 => ?_)
          · replace hf := ite_t c128_15 hf
            exact X_wk (WK.s (WK.s (WK.s (WK.s (WK.s (WK.n (WK.s WK.e))))))) (J166 _ _ _ hf)
          · replace hf := ite_f c128_15 hf
            refine T_aload dX11_losts_131 rfl ?_
            refine X_getr dX11_losts_132 lfX11_76 rfl ob73 rfl ?_
            refine T_iload dX11_losts_135 rfl ?_
            obtain ⟨hb137_16, hf⟩ := opt_t hf
            refine X_lald (N := 360) dX11_losts_137 ar96 rfl hb137_16 ?_
            refine T_aload dX11_losts_138 rfl ?_
            refine X_getr dX11_losts_139 lfX11_76 rfl ob73 rfl ?_
            refine T_iload dX11_losts_142 rfl ?_
            refine T_const dX11_losts_144 ?_
            refine T_iadd dX11_losts_145 ?_
            obtain ⟨hb146_17, hf⟩ := opt_t hf
            refine X_lald (N := 360) dX11_losts_146 ar96 rfl hb146_17 ?_
            refine T_aload dX11_losts_147 rfl ?_
            refine X_getr dX11_losts_148 lfX11_76 rfl ob73 rfl ?_
            refine T_iload dX11_losts_151 rfl ?_
            refine T_const dX11_losts_153 ?_
            refine T_iadd dX11_losts_154 ?_
            obtain ⟨hb155_18, hf⟩ := opt_t hf
            refine X_lald (N := 360) dX11_losts_155 ar96 rfl hb155_18 ?_
            obtain ⟨q156_19, hc156_19, hf⟩ := bind_t hf
            refine X_Sv (qX11_mayCome _ Z _ _ hc156_19) (Nat.le_of_ble_eq_true rfl) dX11_losts_156 lsX11_110 rfl rfl (Nat.le_of_ble_eq_true rfl) ?_
            refine T_if_eq dX11_losts_159 (fun c159_20 => ?_) (fun c159_20 => ?_)
            · replace hf := ite_t c159_20 hf
              exact X_wk (WK.s (WK.s (WK.s (WK.s (WK.s (WK.n (WK.s WK.e))))))) (J166 _ _ _ hf)
            · replace hf := ite_f c159_20 hf
              refine T_const dX11_losts_162 ?_
              refine T_goto dX11_losts_163 ?_
              exact X_wk (WK.s (WK.s (WK.s (WK.s (WK.s (WK.n (WK.s WK.e))))))) (J167 _ _ _ _ hf)
        have J110 : ∀ (x : aH) (l4 : Int32), jX11_losts_110 (wX11_losts_69 l1 l2 l3 n) x l1 l2 l3 l4 = some R → TX false Z mX11_losts 3 y x Q 110 [.ref 73, .int l1, .int l2, .int l3, .int l4, .null, .null] [] := by
          intro x l4 hf
          unfold jX11_losts_110 at hf
          refine T_const dX11_losts_110 ?_
          exact X_wk (WK.s (WK.s (WK.s (WK.s (WK.s (WK.n (WK.n WK.e))))))) (J111 _ _ _ hf)
        refine T_icmp_gt dX11_losts_94 (fun c94_21 => ?_) (fun c94_21 => ?_)
        · replace hf := ite_t c94_21 hf
          exact X_wk (WK.s (WK.s (WK.s (WK.s (WK.s (WK.n (WK.n WK.e))))))) (J110 _ _ hf)
        · replace hf := ite_f c94_21 hf
          refine T_aload dX11_losts_97 rfl ?_
          refine X_getf dX11_losts_98 lfX11_93 rfl ob73 ?_
          refine T_const dX11_losts_101 ?_
          refine T_icmp_ge dX11_losts_103 (fun c103_22 => ?_) (fun c103_22 => ?_)
          · replace hf := ite_t c103_22 hf
            exact X_wk (WK.s (WK.s (WK.s (WK.s (WK.s (WK.n (WK.n WK.e))))))) (J110 _ _ hf)
          · replace hf := ite_f c103_22 hf
            refine T_const dX11_losts_106 ?_
            refine T_goto dX11_losts_107 ?_
            exact X_wk (WK.s (WK.s (WK.s (WK.s (WK.s (WK.n (WK.n WK.e))))))) (J111 _ _ _ hf)
theorem qX11_losts (Z : aZ) (y : aH) {x : aH} {p1 : Int32} {p2 : Int32} {p3 : Int32} {q : (Int32 × aH)} (hf : fX11_losts x p1 p2 p3 = some q) : CX false Z mX11_losts 3 [.ref 73, .int p1, .int p2, .int p3] y x (RV (.int q.1) q.2) := by
  refine CX.of mokX11_losts (Nat.le_of_ble_eq_true rfl) ?_
  show TX _ _ _ _ _ _ _ _ [_, _, _, _, _, _, _] _
  unfold fX11_losts at hf
  refine T_iload dX11_losts_0 rfl ?_
  obtain ⟨q1_1, hc1_1, hf⟩ := bind_t hf
  refine X_Sv (qX11_isShelf _ Z _ _ hc1_1) (Nat.le_of_ble_eq_true rfl) dX11_losts_1 lsX11_117 rfl rfl (Nat.le_of_ble_eq_true rfl) ?_
  refine T_if_eq dX11_losts_4 (fun c4_2 => ?_) (fun c4_2 => ?_)
  · replace hf := ite_t c4_2 hf
    refine T_const dX11_losts_19 ?_
    obtain rfl := Option.some.inj hf
    exact X_ri dX11_losts_20 ⟨rfl, rfl⟩
  · replace hf := ite_f c4_2 hf
    refine T_iload dX11_losts_7 rfl ?_
    refine T_i2l dX11_losts_8 ?_
    refine T_constL dX11_losts_9 ?_
    refine T_constL dX11_losts_10 ?_
    obtain ⟨q13_3, hc13_3, hf⟩ := bind_t hf
    refine X_Sv (qX11_within _ Z _ _ hc13_3) (Nat.le_of_ble_eq_true rfl) dX11_losts_13 lsX11_96 rfl rfl (Nat.le_of_ble_eq_true rfl) ?_
    refine T_if_ne dX11_losts_16 (fun c16_4 => ?_) (fun c16_4 => ?_)
    · replace hf := ite_f c16_4 hf
      refine T_aload dX11_losts_21 rfl ?_
      refine X_getr dX11_losts_22 lfX11_70 rfl ob73 rfl ?_
      refine T_iload dX11_losts_25 rfl ?_
      obtain ⟨hb26_5, hf⟩ := opt_t hf
      refine X_iald (N := 6) dX11_losts_26 ar94 rfl hb26_5 ?_
      have J44 : ∀ (x : aH) (l1 : Int32) (l2 : Int32) (l3 : Int32), jX11_losts_44 x l1 l2 l3 = some q → TX false Z mX11_losts 3 y x (RV (.int q.1) q.2) 44 [.ref 73, .int l1, .int l2, .int l3, .null, .null, .null] [] := by
        intro x l1 l2 l3 hf
        unfold jX11_losts_44 at hf
        refine T_const dX11_losts_44 ?_
        refine T_istore dX11_losts_45 ?_
        show TX _ _ _ _ _ _ _ _ [_, _, _, _, _, _, _] _
        refine T_aload dX11_losts_47 rfl ?_
        refine X_getr dX11_losts_48 lfX11_70 rfl ob73 rfl ?_
        refine T_iload dX11_losts_51 rfl ?_
        obtain ⟨hb52_6, hf⟩ := opt_t hf
        refine X_iald (N := 6) dX11_losts_52 ar94 rfl hb52_6 ?_
        refine T_const dX11_losts_53 ?_
        have J67 : ∀ (x : aH) (l1 : Int32) (l2 : Int32) (l3 : Int32) (l4 : Int32) (s0 : Int32), jX11_losts_67 x l1 l2 l3 l4 s0 = some q → TX false Z mX11_losts 3 y x (RV (.int q.1) q.2) 67 [.ref 73, .int l1, .int l2, .int l3, .int l4, .null, .null] [.int s0] := by
          intro x l1 l2 l3 l4 s0 hf
          unfold jX11_losts_67 at hf
          refine T_istore dX11_losts_67 ?_
          show TX _ _ _ _ _ _ _ _ [_, _, _, _, _, _, _] _
          obtain ⟨q69_23, hc69_23, hf⟩ := bind_t hf
          refine X_wk (WK.s (WK.s (WK.s (WK.s (WK.s (WK.s (WK.n WK.e))))))) (lX11_losts_69 Z _ _ _ _ 2000 _ _ _ hc69_23 ?_)
          intro q69_23z hr
          subst hr
          refine T_iload dX11_losts_212 rfl ?_
          obtain rfl := Option.some.inj hf
          exact X_ri dX11_losts_214 ⟨rfl, rfl⟩
        have J66 : ∀ (x : aH) (l1 : Int32) (l2 : Int32) (l3 : Int32) (l4 : Int32), jX11_losts_66 x l1 l2 l3 l4 = some q → TX false Z mX11_losts 3 y x (RV (.int q.1) q.2) 66 [.ref 73, .int l1, .int l2, .int l3, .int l4, .null, .null] [] := by
          intro x l1 l2 l3 l4 hf
          unfold jX11_losts_66 at hf
          refine T_const dX11_losts_66 ?_
          exact X_wk (WK.s (WK.s (WK.s (WK.s (WK.s (WK.n (WK.n WK.e))))))) (J67 _ _ _ _ _ _ hf)
        refine T_icmp_ne dX11_losts_55 (fun c55_24 => ?_) (fun c55_24 => ?_)
        · replace hf := ite_f c55_24 hf
          exact X_wk (WK.s (WK.s (WK.s (WK.s (WK.s (WK.n (WK.n WK.e))))))) (J66 _ _ _ _ _ hf)
        · replace hf := ite_t c55_24 hf
          refine T_iload dX11_losts_58 rfl ?_
          refine T_if_lt dX11_losts_59 (fun c59_25 => ?_) (fun c59_25 => ?_)
          · replace hf := ite_t c59_25 hf
            exact X_wk (WK.s (WK.s (WK.s (WK.s (WK.s (WK.n (WK.n WK.e))))))) (J66 _ _ _ _ _ hf)
          · replace hf := ite_f c59_25 hf
            refine T_const dX11_losts_62 ?_
            refine T_goto dX11_losts_63 ?_
            exact X_wk (WK.s (WK.s (WK.s (WK.s (WK.s (WK.n (WK.n WK.e))))))) (J67 _ _ _ _ _ _ hf)
      refine T_if_lt dX11_losts_27 (fun c27_26 => ?_) (fun c27_26 => ?_)
      · replace hf := ite_t c27_26 hf
        exact X_wk (WK.s (WK.s (WK.s (WK.s (WK.n (WK.n (WK.n WK.e))))))) (J44 _ _ _ _ hf)
      · replace hf := ite_f c27_26 hf
        refine T_aload dX11_losts_30 rfl ?_
        refine X_getr dX11_losts_31 lfX11_70 rfl ob73 rfl ?_
        refine T_iload dX11_losts_34 rfl ?_
        obtain ⟨hb35_27, hf⟩ := opt_t hf
        refine X_iald (N := 6) dX11_losts_35 ar94 rfl hb35_27 ?_
        refine T_const dX11_losts_36 ?_
        refine T_icmp_eq dX11_losts_38 (fun c38_28 => ?_) (fun c38_28 => ?_)
        · replace hf := ite_t c38_28 hf
          exact X_wk (WK.s (WK.s (WK.s (WK.s (WK.n (WK.n (WK.n WK.e))))))) (J44 _ _ _ _ hf)
        · replace hf := ite_f c38_28 hf
          refine T_const dX11_losts_41 ?_
          obtain rfl := Option.some.inj hf
          exact X_ri dX11_losts_43 ⟨rfl, rfl⟩
    · replace hf := ite_t c16_4 hf
      refine T_const dX11_losts_19 ?_
      obtain rfl := Option.some.inj hf
      exact X_ri dX11_losts_20 ⟨rfl, rfl⟩
def fX11_placeOf (x : aH) (p1 : Int32) (p2 : Int32) : Option Int32 := (fX11_within (Int32.toInt64 p2) (0 : Int64) (3 : Int64)).bind fun q6_1 => if q6_1 = (0 : Int32) then (fX11_within (Int32.toInt64 p2) (4 : Int64) (5 : Int64)).bind fun q40_3 => if q40_3 = (0 : Int32) then if p1 = (0 : Int32) then (fX11_within (Int32.toInt64 p2) (6 : Int64) (9 : Int64)).bind fun q82_6 => if q82_6 = (0 : Int32) then some (-1 : Int32) else some (((168 : Int32) + p2) - (6 : Int32)) else some (-1 : Int32) else (fX11_isCell (Int32.toInt64 p1)).bind fun q48_8 => if q48_8 = (0 : Int32) then some (-1 : Int32) else some (((40 : Int32) + ((64 : Int32) * (p2 - (4 : Int32)))) + p1) else (fX11_isLost x (Int32.toInt64 p1)).bind fun q15_10 => if q15_10 = (0 : Int32) then some (-1 : Int32) else some (((10 : Int32) * p2) + p1)
theorem qX11_placeOf (Z : aZ) (y : aH) {x : aH} {p1 : Int32} {p2 : Int32} {q : Int32} (hf : fX11_placeOf x p1 p2 = some q) : CX false Z mX11_placeOf 2 [.ref 73, .int p1, .int p2] y x (RV (.int q) x) := by
  refine CX.of mokX11_placeOf (Nat.le_of_ble_eq_true rfl) ?_
  show TX _ _ _ _ _ _ _ _ [_, _, _] _
  unfold fX11_placeOf at hf
  refine T_iload dX11_placeOf_0 rfl ?_
  refine T_i2l dX11_placeOf_1 ?_
  refine T_constL dX11_placeOf_2 ?_
  refine T_constL dX11_placeOf_3 ?_
  obtain ⟨q6_1, hc6_1, hf⟩ := bind_t hf
  refine X_Sv (qX11_within _ Z _ _ hc6_1) (Nat.le_of_ble_eq_true rfl) dX11_placeOf_6 lsX11_96 rfl rfl (Nat.le_of_ble_eq_true rfl) ?_
  refine T_if_eq dX11_placeOf_9 (fun c9_2 => ?_) (fun c9_2 => ?_)
  · replace hf := ite_t c9_2 hf
    refine T_iload dX11_placeOf_32 rfl ?_
    refine T_i2l dX11_placeOf_33 ?_
    refine T_constL dX11_placeOf_34 ?_
    refine T_constL dX11_placeOf_37 ?_
    obtain ⟨q40_3, hc40_3, hf⟩ := bind_t hf
    refine X_Sv (qX11_within _ Z _ _ hc40_3) (Nat.le_of_ble_eq_true rfl) dX11_placeOf_40 lsX11_96 rfl rfl (Nat.le_of_ble_eq_true rfl) ?_
    refine T_if_eq dX11_placeOf_43 (fun c43_4 => ?_) (fun c43_4 => ?_)
    · replace hf := ite_t c43_4 hf
      refine T_iload dX11_placeOf_70 rfl ?_
      refine T_if_ne dX11_placeOf_71 (fun c71_5 => ?_) (fun c71_5 => ?_)
      · replace hf := ite_f c71_5 hf
        refine T_const dX11_placeOf_99 ?_
        obtain rfl := Option.some.inj hf
        exact X_ri dX11_placeOf_100 ⟨rfl, rfl⟩
      · replace hf := ite_t c71_5 hf
        refine T_iload dX11_placeOf_74 rfl ?_
        refine T_i2l dX11_placeOf_75 ?_
        refine T_constL dX11_placeOf_76 ?_
        refine T_constL dX11_placeOf_79 ?_
        obtain ⟨q82_6, hc82_6, hf⟩ := bind_t hf
        refine X_Sv (qX11_within _ Z _ _ hc82_6) (Nat.le_of_ble_eq_true rfl) dX11_placeOf_82 lsX11_96 rfl rfl (Nat.le_of_ble_eq_true rfl) ?_
        refine T_if_eq dX11_placeOf_85 (fun c85_7 => ?_) (fun c85_7 => ?_)
        · replace hf := ite_t c85_7 hf
          refine T_const dX11_placeOf_99 ?_
          obtain rfl := Option.some.inj hf
          exact X_ri dX11_placeOf_100 ⟨rfl, rfl⟩
        · replace hf := ite_f c85_7 hf
          refine T_const dX11_placeOf_88 ?_
          refine T_iload dX11_placeOf_91 rfl ?_
          refine T_iadd dX11_placeOf_92 ?_
          refine T_const dX11_placeOf_93 ?_
          refine T_isub dX11_placeOf_95 ?_
          refine T_goto dX11_placeOf_96 ?_
          obtain rfl := Option.some.inj hf
          exact X_ri dX11_placeOf_100 ⟨rfl, rfl⟩
    · replace hf := ite_f c43_4 hf
      refine T_iload dX11_placeOf_46 rfl ?_
      refine T_i2l dX11_placeOf_47 ?_
      obtain ⟨q48_8, hc48_8, hf⟩ := bind_t hf
      refine X_Sv (qX11_isCell _ Z _ _ hc48_8) (Nat.le_of_ble_eq_true rfl) dX11_placeOf_48 lsX11_102 rfl rfl (Nat.le_of_ble_eq_true rfl) ?_
      refine T_if_eq dX11_placeOf_51 (fun c51_9 => ?_) (fun c51_9 => ?_)
      · replace hf := ite_t c51_9 hf
        refine T_const dX11_placeOf_68 ?_
        obtain rfl := Option.some.inj hf
        exact X_ri dX11_placeOf_69 ⟨rfl, rfl⟩
      · replace hf := ite_f c51_9 hf
        refine T_const dX11_placeOf_54 ?_
        refine T_const dX11_placeOf_56 ?_
        refine T_iload dX11_placeOf_58 rfl ?_
        refine T_const dX11_placeOf_59 ?_
        refine T_isub dX11_placeOf_60 ?_
        refine T_imul dX11_placeOf_61 ?_
        refine T_iadd dX11_placeOf_62 ?_
        refine T_iload dX11_placeOf_63 rfl ?_
        refine T_iadd dX11_placeOf_64 ?_
        refine T_goto dX11_placeOf_65 ?_
        obtain rfl := Option.some.inj hf
        exact X_ri dX11_placeOf_69 ⟨rfl, rfl⟩
  · replace hf := ite_f c9_2 hf
    refine T_aload dX11_placeOf_12 rfl ?_
    refine T_iload dX11_placeOf_13 rfl ?_
    refine T_i2l dX11_placeOf_14 ?_
    obtain ⟨q15_10, hc15_10, hf⟩ := bind_t hf
    refine X_Vv (qX11_isLost Z _ hc15_10) (Nat.le_of_ble_eq_true rfl) dX11_placeOf_15 lvX11_123 rfl rfl ob73 (Nat.le_of_ble_eq_true rfl) ?_
    refine T_if_eq dX11_placeOf_18 (fun c18_11 => ?_) (fun c18_11 => ?_)
    · replace hf := ite_t c18_11 hf
      refine T_const dX11_placeOf_30 ?_
      obtain rfl := Option.some.inj hf
      exact X_ri dX11_placeOf_31 ⟨rfl, rfl⟩
    · replace hf := ite_f c18_11 hf
      refine T_const dX11_placeOf_21 ?_
      refine T_iload dX11_placeOf_23 rfl ?_
      refine T_imul dX11_placeOf_24 ?_
      refine T_iload dX11_placeOf_25 rfl ?_
      refine T_iadd dX11_placeOf_26 ?_
      refine T_goto dX11_placeOf_27 ?_
      obtain rfl := Option.some.inj hf
      exact X_ri dX11_placeOf_31 ⟨rfl, rfl⟩
def fX11_mayBecome (p0 : Int32) (p1 : Int32) : Option Int32 := if p0 = (0 : Int32) then (fX11_isCell (Int32.toInt64 p1)).bind fun q58_2 => if q58_2 = (0 : Int32) ∨ q58_2 = (1 : Int32) then some q58_2 else none else if p0 = (1 : Int32) then (fX11_within (Int32.toInt64 p1) (0 : Int64) (3 : Int64)).bind fun q68_4 => if q68_4 = (0 : Int32) ∨ q68_4 = (1 : Int32) then some q68_4 else none else if p0 = (2 : Int32) then (fX11_within (Int32.toInt64 p1) (0 : Int64) (9 : Int64)).bind fun q116_6 => if q116_6 = (0 : Int32) ∨ q116_6 = (1 : Int32) then some q116_6 else none else if p0 = (3 : Int32) then (fX11_within (Int32.toInt64 p1) (0 : Int64) (1 : Int64)).bind fun q76_8 => if q76_8 = (0 : Int32) ∨ q76_8 = (1 : Int32) then some q76_8 else none else if p0 = (4 : Int32) then (fX11_within (Int32.toInt64 p1) (0 : Int64) (9 : Int64)).bind fun q116_10 => if q116_10 = (0 : Int32) ∨ q116_10 = (1 : Int32) then some q116_10 else none else if p0 = (5 : Int32) then (fX11_within (Int32.toInt64 p1) (0 : Int64) (4 : Int64)).bind fun q86_12 => if q86_12 = (0 : Int32) ∨ q86_12 = (1 : Int32) then some q86_12 else none else if p0 = (6 : Int32) then (fX11_isCell (Int32.toInt64 p1)).bind fun q58_14 => if q58_14 = (0 : Int32) ∨ q58_14 = (1 : Int32) then some q58_14 else none else if p0 = (7 : Int32) then (fX11_within (Int32.toInt64 p1) (0 : Int64) (999 : Int64)).bind fun q96_16 => if q96_16 = (0 : Int32) ∨ q96_16 = (1 : Int32) then some q96_16 else none else if p0 = (8 : Int32) then (fX11_within (Int32.toInt64 p1) (1 : Int64) (9 : Int64)).bind fun q106_18 => if q106_18 = (0 : Int32) ∨ q106_18 = (1 : Int32) then some q106_18 else none else if p0 = (9 : Int32) then (fX11_within (Int32.toInt64 p1) (1 : Int64) (9 : Int64)).bind fun q106_20 => if q106_20 = (0 : Int32) ∨ q106_20 = (1 : Int32) then some q106_20 else none else (fX11_within (Int32.toInt64 p1) (0 : Int64) (9 : Int64)).bind fun q116_21 => if q116_21 = (0 : Int32) ∨ q116_21 = (1 : Int32) then some q116_21 else none
theorem qX11_mayBecome (sd : Bool) (Z : aZ) (y : aH) (x : aH) {p0 : Int32} {p1 : Int32} {q : Int32} (hf : fX11_mayBecome p0 p1 = some q) : CX sd Z mX11_mayBecome 2 [.int p0, .int p1] y x (RV (.int q) x) := by
  refine CX.of mokX11_mayBecome (Nat.le_of_ble_eq_true rfl) ?_
  show TX _ _ _ _ _ _ _ _ [_, _] _
  unfold fX11_mayBecome at hf
  refine T_iload dX11_mayBecome_0 rfl ?_
  by_cases c1_1 : p0 = (0 : Int32)
  · replace hf := ite_t c1_1 hf
    refine T_tabE (off := 55) (tgt := 56) c1_1 dX11_mayBecome_1 (by decide) (by decide) (by decide) (by decide) ?_
    refine T_iload dX11_mayBecome_56 rfl ?_
    refine T_i2l dX11_mayBecome_57 ?_
    obtain ⟨q58_2, hc58_2, hf⟩ := bind_t hf
    refine X_Sv (qX11_isCell _ Z _ _ hc58_2) (Nat.le_of_ble_eq_true rfl) dX11_mayBecome_58 lsX11_102 rfl rfl (Nat.le_of_ble_eq_true rfl) ?_
    obtain ⟨h01, hf⟩ := opt_t hf
    obtain rfl := Option.some.inj hf
    exact X_rz dX11_mayBecome_61 h01 ⟨rfl, rfl⟩
  replace hf := ite_f c1_1 hf
  by_cases c1_3 : p0 = (1 : Int32)
  · replace hf := ite_t c1_3 hf
    refine T_tabE (off := 61) (tgt := 62) c1_3 dX11_mayBecome_1 (by decide) (by decide) (by decide) (by decide) ?_
    refine T_iload dX11_mayBecome_62 rfl ?_
    refine T_i2l dX11_mayBecome_63 ?_
    refine T_constL dX11_mayBecome_64 ?_
    refine T_constL dX11_mayBecome_65 ?_
    obtain ⟨q68_4, hc68_4, hf⟩ := bind_t hf
    refine X_Sv (qX11_within _ Z _ _ hc68_4) (Nat.le_of_ble_eq_true rfl) dX11_mayBecome_68 lsX11_96 rfl rfl (Nat.le_of_ble_eq_true rfl) ?_
    obtain ⟨h01, hf⟩ := opt_t hf
    obtain rfl := Option.some.inj hf
    exact X_rz dX11_mayBecome_71 h01 ⟨rfl, rfl⟩
  replace hf := ite_f c1_3 hf
  by_cases c1_5 : p0 = (2 : Int32)
  · replace hf := ite_t c1_5 hf
    refine T_tabE (off := 109) (tgt := 110) c1_5 dX11_mayBecome_1 (by decide) (by decide) (by decide) (by decide) ?_
    refine T_iload dX11_mayBecome_110 rfl ?_
    refine T_i2l dX11_mayBecome_111 ?_
    refine T_constL dX11_mayBecome_112 ?_
    refine T_constL dX11_mayBecome_113 ?_
    obtain ⟨q116_6, hc116_6, hf⟩ := bind_t hf
    refine X_Sv (qX11_within _ Z _ _ hc116_6) (Nat.le_of_ble_eq_true rfl) dX11_mayBecome_116 lsX11_96 rfl rfl (Nat.le_of_ble_eq_true rfl) ?_
    obtain ⟨h01, hf⟩ := opt_t hf
    obtain rfl := Option.some.inj hf
    exact X_rz dX11_mayBecome_119 h01 ⟨rfl, rfl⟩
  replace hf := ite_f c1_5 hf
  by_cases c1_7 : p0 = (3 : Int32)
  · replace hf := ite_t c1_7 hf
    refine T_tabE (off := 71) (tgt := 72) c1_7 dX11_mayBecome_1 (by decide) (by decide) (by decide) (by decide) ?_
    refine T_iload dX11_mayBecome_72 rfl ?_
    refine T_i2l dX11_mayBecome_73 ?_
    refine T_constL dX11_mayBecome_74 ?_
    refine T_constL dX11_mayBecome_75 ?_
    obtain ⟨q76_8, hc76_8, hf⟩ := bind_t hf
    refine X_Sv (qX11_within _ Z _ _ hc76_8) (Nat.le_of_ble_eq_true rfl) dX11_mayBecome_76 lsX11_96 rfl rfl (Nat.le_of_ble_eq_true rfl) ?_
    obtain ⟨h01, hf⟩ := opt_t hf
    obtain rfl := Option.some.inj hf
    exact X_rz dX11_mayBecome_79 h01 ⟨rfl, rfl⟩
  replace hf := ite_f c1_7 hf
  by_cases c1_9 : p0 = (4 : Int32)
  · replace hf := ite_t c1_9 hf
    refine T_tabE (off := 109) (tgt := 110) c1_9 dX11_mayBecome_1 (by decide) (by decide) (by decide) (by decide) ?_
    refine T_iload dX11_mayBecome_110 rfl ?_
    refine T_i2l dX11_mayBecome_111 ?_
    refine T_constL dX11_mayBecome_112 ?_
    refine T_constL dX11_mayBecome_113 ?_
    obtain ⟨q116_10, hc116_10, hf⟩ := bind_t hf
    refine X_Sv (qX11_within _ Z _ _ hc116_10) (Nat.le_of_ble_eq_true rfl) dX11_mayBecome_116 lsX11_96 rfl rfl (Nat.le_of_ble_eq_true rfl) ?_
    obtain ⟨h01, hf⟩ := opt_t hf
    obtain rfl := Option.some.inj hf
    exact X_rz dX11_mayBecome_119 h01 ⟨rfl, rfl⟩
  replace hf := ite_f c1_9 hf
  by_cases c1_11 : p0 = (5 : Int32)
  · replace hf := ite_t c1_11 hf
    refine T_tabE (off := 79) (tgt := 80) c1_11 dX11_mayBecome_1 (by decide) (by decide) (by decide) (by decide) ?_
    refine T_iload dX11_mayBecome_80 rfl ?_
    refine T_i2l dX11_mayBecome_81 ?_
    refine T_constL dX11_mayBecome_82 ?_
    refine T_constL dX11_mayBecome_83 ?_
    obtain ⟨q86_12, hc86_12, hf⟩ := bind_t hf
    refine X_Sv (qX11_within _ Z _ _ hc86_12) (Nat.le_of_ble_eq_true rfl) dX11_mayBecome_86 lsX11_96 rfl rfl (Nat.le_of_ble_eq_true rfl) ?_
    obtain ⟨h01, hf⟩ := opt_t hf
    obtain rfl := Option.some.inj hf
    exact X_rz dX11_mayBecome_89 h01 ⟨rfl, rfl⟩
  replace hf := ite_f c1_11 hf
  by_cases c1_13 : p0 = (6 : Int32)
  · replace hf := ite_t c1_13 hf
    refine T_tabE (off := 55) (tgt := 56) c1_13 dX11_mayBecome_1 (by decide) (by decide) (by decide) (by decide) ?_
    refine T_iload dX11_mayBecome_56 rfl ?_
    refine T_i2l dX11_mayBecome_57 ?_
    obtain ⟨q58_14, hc58_14, hf⟩ := bind_t hf
    refine X_Sv (qX11_isCell _ Z _ _ hc58_14) (Nat.le_of_ble_eq_true rfl) dX11_mayBecome_58 lsX11_102 rfl rfl (Nat.le_of_ble_eq_true rfl) ?_
    obtain ⟨h01, hf⟩ := opt_t hf
    obtain rfl := Option.some.inj hf
    exact X_rz dX11_mayBecome_61 h01 ⟨rfl, rfl⟩
  replace hf := ite_f c1_13 hf
  by_cases c1_15 : p0 = (7 : Int32)
  · replace hf := ite_t c1_15 hf
    refine T_tabE (off := 89) (tgt := 90) c1_15 dX11_mayBecome_1 (by decide) (by decide) (by decide) (by decide) ?_
    refine T_iload dX11_mayBecome_90 rfl ?_
    refine T_i2l dX11_mayBecome_91 ?_
    refine T_constL dX11_mayBecome_92 ?_
    refine T_constL dX11_mayBecome_93 ?_
    obtain ⟨q96_16, hc96_16, hf⟩ := bind_t hf
    refine X_Sv (qX11_within _ Z _ _ hc96_16) (Nat.le_of_ble_eq_true rfl) dX11_mayBecome_96 lsX11_96 rfl rfl (Nat.le_of_ble_eq_true rfl) ?_
    obtain ⟨h01, hf⟩ := opt_t hf
    obtain rfl := Option.some.inj hf
    exact X_rz dX11_mayBecome_99 h01 ⟨rfl, rfl⟩
  replace hf := ite_f c1_15 hf
  by_cases c1_17 : p0 = (8 : Int32)
  · replace hf := ite_t c1_17 hf
    refine T_tabE (off := 99) (tgt := 100) c1_17 dX11_mayBecome_1 (by decide) (by decide) (by decide) (by decide) ?_
    refine T_iload dX11_mayBecome_100 rfl ?_
    refine T_i2l dX11_mayBecome_101 ?_
    refine T_constL dX11_mayBecome_102 ?_
    refine T_constL dX11_mayBecome_103 ?_
    obtain ⟨q106_18, hc106_18, hf⟩ := bind_t hf
    refine X_Sv (qX11_within _ Z _ _ hc106_18) (Nat.le_of_ble_eq_true rfl) dX11_mayBecome_106 lsX11_96 rfl rfl (Nat.le_of_ble_eq_true rfl) ?_
    obtain ⟨h01, hf⟩ := opt_t hf
    obtain rfl := Option.some.inj hf
    exact X_rz dX11_mayBecome_109 h01 ⟨rfl, rfl⟩
  replace hf := ite_f c1_17 hf
  by_cases c1_19 : p0 = (9 : Int32)
  · replace hf := ite_t c1_19 hf
    refine T_tabE (off := 99) (tgt := 100) c1_19 dX11_mayBecome_1 (by decide) (by decide) (by decide) (by decide) ?_
    refine T_iload dX11_mayBecome_100 rfl ?_
    refine T_i2l dX11_mayBecome_101 ?_
    refine T_constL dX11_mayBecome_102 ?_
    refine T_constL dX11_mayBecome_103 ?_
    obtain ⟨q106_20, hc106_20, hf⟩ := bind_t hf
    refine X_Sv (qX11_within _ Z _ _ hc106_20) (Nat.le_of_ble_eq_true rfl) dX11_mayBecome_106 lsX11_96 rfl rfl (Nat.le_of_ble_eq_true rfl) ?_
    obtain ⟨h01, hf⟩ := opt_t hf
    obtain rfl := Option.some.inj hf
    exact X_rz dX11_mayBecome_109 h01 ⟨rfl, rfl⟩
  replace hf := ite_f c1_19 hf
  refine T_tabOut (tgt := 110) ⟨dX11_mayBecome_1, by decide⟩ (by
    have n0 := ne_toInt c1_1; rw [show (0 : Int32).toInt = 0 from rfl] at n0
    have n1 := ne_toInt c1_3; rw [show (1 : Int32).toInt = 1 from rfl] at n1
    have n2 := ne_toInt c1_5; rw [show (2 : Int32).toInt = 2 from rfl] at n2
    have n3 := ne_toInt c1_7; rw [show (3 : Int32).toInt = 3 from rfl] at n3
    have n4 := ne_toInt c1_9; rw [show (4 : Int32).toInt = 4 from rfl] at n4
    have n5 := ne_toInt c1_11; rw [show (5 : Int32).toInt = 5 from rfl] at n5
    have n6 := ne_toInt c1_13; rw [show (6 : Int32).toInt = 6 from rfl] at n6
    have n7 := ne_toInt c1_15; rw [show (7 : Int32).toInt = 7 from rfl] at n7
    have n8 := ne_toInt c1_17; rw [show (8 : Int32).toInt = 8 from rfl] at n8
    have n9 := ne_toInt c1_19; rw [show (9 : Int32).toInt = 9 from rfl] at n9
    omega) ?_
  refine T_iload dX11_mayBecome_110 rfl ?_
  refine T_i2l dX11_mayBecome_111 ?_
  refine T_constL dX11_mayBecome_112 ?_
  refine T_constL dX11_mayBecome_113 ?_
  obtain ⟨q116_21, hc116_21, hf⟩ := bind_t hf
  refine X_Sv (qX11_within _ Z _ _ hc116_21) (Nat.le_of_ble_eq_true rfl) dX11_mayBecome_116 lsX11_96 rfl rfl (Nat.le_of_ble_eq_true rfl) ?_
  obtain ⟨h01, hf⟩ := opt_t hf
  obtain rfl := Option.some.inj hf
  exact X_rz dX11_mayBecome_119 h01 ⟨rfl, rfl⟩
def fX11_mend (x : aH) (p1 : Int32) (p2 : Int32) (p3 : Int32) : Option (Int32 × aH) := (fX11_placeOf x p1 p2).bind fun q3_1 => if q3_1 < (0 : Int32) then some ((-1 : Int32), x) else (fX11_mayBecome p2 p3).bind fun q15_3 => if q15_3 = (0 : Int32) then some ((-1 : Int32), x) else (fX11_becomes x q3_1 p3).bind fun q25_5 => some (q25_5.1, q25_5.2)
theorem qX11_mend (Z : aZ) (y : aH) {x : aH} {p1 : Int32} {p2 : Int32} {p3 : Int32} {q : (Int32 × aH)} (hf : fX11_mend x p1 p2 p3 = some q) : CX false Z mX11_mend 3 [.ref 73, .int p1, .int p2, .int p3] y x (RV (.int q.1) q.2) := by
  refine CX.of mokX11_mend (Nat.le_of_ble_eq_true rfl) ?_
  show TX _ _ _ _ _ _ _ _ [_, _, _, _, _] _
  unfold fX11_mend at hf
  refine T_aload dX11_mend_0 rfl ?_
  refine T_iload dX11_mend_1 rfl ?_
  refine T_iload dX11_mend_2 rfl ?_
  obtain ⟨q3_1, hc3_1, hf⟩ := bind_t hf
  refine X_Vv (qX11_placeOf Z _ hc3_1) (Nat.le_of_ble_eq_true rfl) dX11_mend_3 lvX11_134 rfl rfl ob73 (Nat.le_of_ble_eq_true rfl) ?_
  refine T_istore dX11_mend_6 ?_
  show TX _ _ _ _ _ _ _ _ [_, _, _, _, _] _
  refine T_iload dX11_mend_8 rfl ?_
  refine T_if_lt dX11_mend_10 (fun c10_2 => ?_) (fun c10_2 => ?_)
  · replace hf := ite_t c10_2 hf
    refine T_const dX11_mend_31 ?_
    obtain rfl := Option.some.inj hf
    exact X_ri dX11_mend_32 ⟨rfl, rfl⟩
  · replace hf := ite_f c10_2 hf
    refine T_iload dX11_mend_13 rfl ?_
    refine T_iload dX11_mend_14 rfl ?_
    obtain ⟨q15_3, hc15_3, hf⟩ := bind_t hf
    refine X_Sv (qX11_mayBecome _ Z _ _ hc15_3) (Nat.le_of_ble_eq_true rfl) dX11_mend_15 lsX11_138 rfl rfl (Nat.le_of_ble_eq_true rfl) ?_
    refine T_if_eq dX11_mend_18 (fun c18_4 => ?_) (fun c18_4 => ?_)
    · replace hf := ite_t c18_4 hf
      refine T_const dX11_mend_31 ?_
      obtain rfl := Option.some.inj hf
      exact X_ri dX11_mend_32 ⟨rfl, rfl⟩
    · replace hf := ite_f c18_4 hf
      refine T_aload dX11_mend_21 rfl ?_
      refine T_iload dX11_mend_22 rfl ?_
      refine T_iload dX11_mend_24 rfl ?_
      obtain ⟨q25_5, hc25_5, hf⟩ := bind_t hf
      refine X_Vv (qX11_becomes Z _ hc25_5) (Nat.le_of_ble_eq_true rfl) dX11_mend_25 lvX11_142 rfl rfl ob73 (Nat.le_of_ble_eq_true rfl) ?_
      refine T_goto dX11_mend_28 ?_
      obtain rfl := Option.some.inj hf
      exact X_ri dX11_mend_32 ⟨rfl, rfl⟩
def fX11_of (x : aH) (p1 : Int32) (p2 : Int32) : Option Int32 := (fX11_placeOf x p1 p2).bind fun q3_1 => if q3_1 < (0 : Int32) then some (-1 : Int32) else if (0 : Int32) ≤ q3_1 ∧ q3_1 < (172 : Int32) then some (ri x 74 (ix q3_1)) else none
theorem qX11_of (Z : aZ) (y : aH) {x : aH} {p1 : Int32} {p2 : Int32} {q : Int32} (hf : fX11_of x p1 p2 = some q) : CX false Z mX11_of 3 [.ref 73, .int p1, .int p2] y x (RV (.int q) x) := by
  refine CX.of mokX11_of (Nat.le_of_ble_eq_true rfl) ?_
  show TX _ _ _ _ _ _ _ _ [_, _, _, _] _
  unfold fX11_of at hf
  refine T_aload dX11_of_0 rfl ?_
  refine T_iload dX11_of_1 rfl ?_
  refine T_iload dX11_of_2 rfl ?_
  obtain ⟨q3_1, hc3_1, hf⟩ := bind_t hf
  refine X_Vv (qX11_placeOf Z _ hc3_1) (Nat.le_of_ble_eq_true rfl) dX11_of_3 lvX11_134 rfl rfl ob73 (Nat.le_of_ble_eq_true rfl) ?_
  refine T_istore dX11_of_6 ?_
  show TX _ _ _ _ _ _ _ _ [_, _, _, _] _
  refine T_iload dX11_of_7 rfl ?_
  refine T_if_lt dX11_of_8 (fun c8_2 => ?_) (fun c8_2 => ?_)
  · replace hf := ite_t c8_2 hf
    refine T_const dX11_of_20 ?_
    obtain rfl := Option.some.inj hf
    exact X_ri dX11_of_21 ⟨rfl, rfl⟩
  · replace hf := ite_f c8_2 hf
    refine T_aload dX11_of_11 rfl ?_
    refine X_getr dX11_of_12 lfX11_9 rfl ob73 rfl ?_
    refine T_iload dX11_of_15 rfl ?_
    obtain ⟨hb16_3, hf⟩ := opt_t hf
    refine X_iald (N := 172) dX11_of_16 ar74 rfl hb16_3 ?_
    refine T_goto dX11_of_17 ?_
    obtain rfl := Option.some.inj hf
    exact X_ri dX11_of_21 ⟨rfl, rfl⟩
def fX11_feed (x : aH) (p1 : Int32) : Option (Int32 × aH) := (fX11_within (Int32.toInt64 p1) (0 : Int64) (255 : Int64)).bind fun q6_1 => if q6_1 = (0 : Int32) then some ((-1 : Int32), x) else if (fi x 73 8) = (120 : Int32) then some ((-3 : Int32), x) else if (0 : Int32) ≤ (fi x 73 8) ∧ (fi x 73 8) < (120 : Int32) then some ((fi (sfi (sri x 78 (ix (fi x 73 8)) p1) 73 8 ((fi (sri x 78 (ix (fi x 73 8)) p1) 73 8) + (1 : Int32))) 73 8), (sfi (sri x 78 (ix (fi x 73 8)) p1) 73 8 ((fi (sri x 78 (ix (fi x 73 8)) p1) 73 8) + (1 : Int32)))) else none
theorem qX11_feed (Z : aZ) (y : aH) {x : aH} {p1 : Int32} {q : (Int32 × aH)} (hf : fX11_feed x p1 = some q) : CX false Z mX11_feed 1 [.ref 73, .int p1] y x (RV (.int q.1) q.2) := by
  refine CX.of mokX11_feed (Nat.le_of_ble_eq_true rfl) ?_
  show TX _ _ _ _ _ _ _ _ [_, _] _
  unfold fX11_feed at hf
  refine T_iload dX11_feed_0 rfl ?_
  refine T_i2l dX11_feed_1 ?_
  refine T_constL dX11_feed_2 ?_
  refine T_constL dX11_feed_3 ?_
  obtain ⟨q6_1, hc6_1, hf⟩ := bind_t hf
  refine X_Sv (qX11_within _ Z _ _ hc6_1) (Nat.le_of_ble_eq_true rfl) dX11_feed_6 lsX11_96 rfl rfl (Nat.le_of_ble_eq_true rfl) ?_
  refine T_if_ne dX11_feed_9 (fun c9_2 => ?_) (fun c9_2 => ?_)
  · replace hf := ite_f c9_2 hf
    refine T_aload dX11_feed_14 rfl ?_
    refine X_getf dX11_feed_15 lfX11_147 rfl ob73 ?_
    refine T_const dX11_feed_18 ?_
    refine T_icmp_ne dX11_feed_20 (fun c20_3 => ?_) (fun c20_3 => ?_)
    · replace hf := ite_f c20_3 hf
      refine T_aload dX11_feed_26 rfl ?_
      refine X_getr dX11_feed_27 lfX11_22 rfl ob73 rfl ?_
      refine T_aload dX11_feed_30 rfl ?_
      refine X_getf dX11_feed_31 lfX11_147 rfl ob73 ?_
      refine T_iload dX11_feed_34 rfl ?_
      obtain ⟨hb35_4, hf⟩ := opt_t hf
      refine X_iast (N := 120) dX11_feed_35 ar78 rfl hb35_4 ?_
      refine T_aload dX11_feed_36 rfl ?_
      refine T_dup dX11_feed_37 rfl ?_
      refine X_getf dX11_feed_38 lfX11_147 rfl ob73 ?_
      refine T_const dX11_feed_41 ?_
      refine T_iadd dX11_feed_42 ?_
      refine X_putf dX11_feed_43 lfX11_147 rfl rfl ob73 ⟨rfl, rfl⟩ ?_
      refine T_aload dX11_feed_46 rfl ?_
      refine X_getf dX11_feed_47 lfX11_147 rfl ob73 ?_
      obtain rfl := Option.some.inj hf
      exact X_ri dX11_feed_50 ⟨rfl, rfl⟩
    · replace hf := ite_t c20_3 hf
      refine T_const dX11_feed_23 ?_
      obtain rfl := Option.some.inj hf
      exact X_ri dX11_feed_25 ⟨rfl, rfl⟩
  · replace hf := ite_t c9_2 hf
    refine T_const dX11_feed_12 ?_
    obtain rfl := Option.some.inj hf
    exact X_ri dX11_feed_13 ⟨rfl, rfl⟩
def fX11_byteAt (x : aH) : Option Int32 := if (fi x 73 13) ≤ (fi x 73 12) then some (0 : Int32) else if (0 : Int32) ≤ (fi x 73 11) then if (0 : Int32) ≤ ((fi x 73 11) + (fi x 73 12)) ∧ ((fi x 73 11) + (fi x 73 12)) < (120 : Int32) then some (ri x 79 (ix ((fi x 73 11) + (fi x 73 12)))) else none else if (0 : Int32) ≤ (fi x 73 12) ∧ (fi x 73 12) < (120 : Int32) then some (ri x 78 (ix (fi x 73 12))) else none
theorem qX11_byteAt (Z : aZ) (y : aH) {x : aH} {q : Int32} (hf : fX11_byteAt x = some q) : CX false Z mX11_byteAt 0 [.ref 73] y x (RV (.int q) x) := by
  refine CX.of mokX11_byteAt (Nat.le_of_ble_eq_true rfl) ?_
  show TX _ _ _ _ _ _ _ _ [_] _
  unfold fX11_byteAt at hf
  refine T_aload dX11_byteAt_0 rfl ?_
  refine X_getf dX11_byteAt_1 lfX11_150 rfl ob73 ?_
  refine T_aload dX11_byteAt_4 rfl ?_
  refine X_getf dX11_byteAt_5 lfX11_153 rfl ob73 ?_
  refine T_icmp_ge dX11_byteAt_8 (fun c8_1 => ?_) (fun c8_1 => ?_)
  · replace hf := ite_t c8_1 hf
    refine T_const dX11_byteAt_47 ?_
    obtain rfl := Option.some.inj hf
    exact X_ri dX11_byteAt_48 ⟨rfl, rfl⟩
  · replace hf := ite_f c8_1 hf
    refine T_aload dX11_byteAt_11 rfl ?_
    refine X_getf dX11_byteAt_12 lfX11_156 rfl ob73 ?_
    refine T_if_ge dX11_byteAt_15 (fun c15_2 => ?_) (fun c15_2 => ?_)
    · replace hf := ite_t c15_2 hf
      refine T_aload dX11_byteAt_30 rfl ?_
      refine X_getr dX11_byteAt_31 lfX11_25 rfl ob73 rfl ?_
      refine T_aload dX11_byteAt_34 rfl ?_
      refine X_getf dX11_byteAt_35 lfX11_156 rfl ob73 ?_
      refine T_aload dX11_byteAt_38 rfl ?_
      refine X_getf dX11_byteAt_39 lfX11_150 rfl ob73 ?_
      refine T_iadd dX11_byteAt_42 ?_
      obtain ⟨hb43_3, hf⟩ := opt_t hf
      refine X_iald (N := 120) dX11_byteAt_43 ar79 rfl hb43_3 ?_
      refine T_goto dX11_byteAt_44 ?_
      obtain rfl := Option.some.inj hf
      exact X_ri dX11_byteAt_48 ⟨rfl, rfl⟩
    · replace hf := ite_f c15_2 hf
      refine T_aload dX11_byteAt_18 rfl ?_
      refine X_getr dX11_byteAt_19 lfX11_22 rfl ob73 rfl ?_
      refine T_aload dX11_byteAt_22 rfl ?_
      refine X_getf dX11_byteAt_23 lfX11_150 rfl ob73 ?_
      obtain ⟨hb26_4, hf⟩ := opt_t hf
      refine X_iald (N := 120) dX11_byteAt_26 ar78 rfl hb26_4 ?_
      refine T_goto dX11_byteAt_27 ?_
      obtain rfl := Option.some.inj hf
      exact X_ri dX11_byteAt_48 ⟨rfl, rfl⟩
def fX11_wrong (x : aH) : Option (Int32 × aH) := if (0 : Int32) ≤ (fi x 73 14) then some ((0 : Int32), (sfi x 73 14 (fi x 73 14))) else some ((0 : Int32), (sfi x 73 14 (fi x 73 12)))
theorem qX11_wrong (Z : aZ) (y : aH) {x : aH} {q : (Int32 × aH)} (hf : fX11_wrong x = some q) : CX false Z mX11_wrong 0 [.ref 73] y x (RV (.int q.1) q.2) := by
  refine CX.of mokX11_wrong (Nat.le_of_ble_eq_true rfl) ?_
  show TX _ _ _ _ _ _ _ _ [_] _
  unfold fX11_wrong at hf
  refine T_aload dX11_wrong_0 rfl ?_
  refine T_aload dX11_wrong_1 rfl ?_
  refine X_getf dX11_wrong_2 lfX11_159 rfl ob73 ?_
  refine T_if_ge dX11_wrong_5 (fun c5_1 => ?_) (fun c5_1 => ?_)
  · replace hf := ite_t c5_1 hf
    refine T_aload dX11_wrong_15 rfl ?_
    refine X_getf dX11_wrong_16 lfX11_159 rfl ob73 ?_
    refine X_putf dX11_wrong_19 lfX11_159 rfl rfl ob73 ⟨rfl, rfl⟩ ?_
    refine T_const dX11_wrong_22 ?_
    obtain rfl := Option.some.inj hf
    exact X_ri dX11_wrong_23 ⟨rfl, rfl⟩
  · replace hf := ite_f c5_1 hf
    refine T_aload dX11_wrong_8 rfl ?_
    refine X_getf dX11_wrong_9 lfX11_150 rfl ob73 ?_
    refine T_goto dX11_wrong_12 ?_
    refine X_putf dX11_wrong_19 lfX11_159 rfl rfl ob73 ⟨rfl, rfl⟩ ?_
    refine T_const dX11_wrong_22 ?_
    obtain rfl := Option.some.inj hf
    exact X_ri dX11_wrong_23 ⟨rfl, rfl⟩
def fX11_takes (x : aH) (p1 : Int32) : Option (Int32 × aH) := if (0 : Int32) ≤ (fi x 73 14) then some ((0 : Int32), x) else (fX11_byteAt x).bind fun q8_2 => if q8_2 = p1 then some ((1 : Int32), (sfi x 73 12 ((fi x 73 12) + (1 : Int32)))) else some ((0 : Int32), x)
theorem qX11_takes (Z : aZ) (y : aH) {x : aH} {p1 : Int32} {q : (Int32 × aH)} (hf : fX11_takes x p1 = some q) : CX false Z mX11_takes 1 [.ref 73, .int p1] y x (RV (.int q.1) q.2) := by
  refine CX.of mokX11_takes (Nat.le_of_ble_eq_true rfl) ?_
  show TX _ _ _ _ _ _ _ _ [_, _] _
  unfold fX11_takes at hf
  refine T_aload dX11_takes_0 rfl ?_
  refine X_getf dX11_takes_1 lfX11_159 rfl ob73 ?_
  refine T_if_ge dX11_takes_4 (fun c4_1 => ?_) (fun c4_1 => ?_)
  · replace hf := ite_t c4_1 hf
    refine T_const dX11_takes_15 ?_
    obtain rfl := Option.some.inj hf
    exact X_rz dX11_takes_16 (by first | exact Or.inl rfl | exact Or.inr rfl) ⟨rfl, rfl⟩
  · replace hf := ite_f c4_1 hf
    refine T_aload dX11_takes_7 rfl ?_
    obtain ⟨q8_2, hc8_2, hf⟩ := bind_t hf
    refine X_Vv (qX11_byteAt Z _ hc8_2) (Nat.le_of_ble_eq_true rfl) dX11_takes_8 lvX11_162 rfl rfl ob73 (Nat.le_of_ble_eq_true rfl) ?_
    refine T_iload dX11_takes_11 rfl ?_
    refine T_icmp_eq dX11_takes_12 (fun c12_3 => ?_) (fun c12_3 => ?_)
    · replace hf := ite_t c12_3 hf
      refine T_aload dX11_takes_17 rfl ?_
      refine T_dup dX11_takes_18 rfl ?_
      refine X_getf dX11_takes_19 lfX11_150 rfl ob73 ?_
      refine T_const dX11_takes_22 ?_
      refine T_iadd dX11_takes_23 ?_
      refine X_putf dX11_takes_24 lfX11_150 rfl rfl ob73 ⟨rfl, rfl⟩ ?_
      refine T_const dX11_takes_27 ?_
      obtain rfl := Option.some.inj hf
      exact X_rz dX11_takes_28 (by first | exact Or.inl rfl | exact Or.inr rfl) ⟨rfl, rfl⟩
    · replace hf := ite_f c12_3 hf
      refine T_const dX11_takes_15 ?_
      obtain rfl := Option.some.inj hf
      exact X_rz dX11_takes_16 (by first | exact Or.inl rfl | exact Or.inr rfl) ⟨rfl, rfl⟩
def fX11_nameOf (p0 : Int32) : Option Int32 := if p0 = (97 : Int32) then some (4 : Int32) else if p0 = (98 : Int32) then some (-1 : Int32) else if p0 = (99 : Int32) then some (-1 : Int32) else if p0 = (100 : Int32) then some (0 : Int32) else if p0 = (101 : Int32) then some (-1 : Int32) else if p0 = (102 : Int32) then some (-1 : Int32) else if p0 = (103 : Int32) then some (-1 : Int32) else if p0 = (104 : Int32) then some (-1 : Int32) else if p0 = (105 : Int32) then some (-1 : Int32) else if p0 = (106 : Int32) then some (-1 : Int32) else if p0 = (107 : Int32) then some (-1 : Int32) else if p0 = (108 : Int32) then some (5 : Int32) else if p0 = (109 : Int32) then some (-1 : Int32) else if p0 = (110 : Int32) then some (3 : Int32) else if p0 = (111 : Int32) then some (2 : Int32) else if p0 = (112 : Int32) then some (1 : Int32) else some (-1 : Int32)
theorem qX11_nameOf (sd : Bool) (Z : aZ) (y : aH) (x : aH) {p0 : Int32} {q : Int32} (hf : fX11_nameOf p0 = some q) : CX sd Z mX11_nameOf 0 [.int p0] y x (RV (.int q) x) := by
  refine CX.of mokX11_nameOf (Nat.le_of_ble_eq_true rfl) ?_
  show TX _ _ _ _ _ _ _ _ [_] _
  unfold fX11_nameOf at hf
  refine T_iload dX11_nameOf_0 rfl ?_
  by_cases c1_1 : p0 = (97 : Int32)
  · replace hf := ite_t c1_1 hf
    refine T_tabE (off := 87) (tgt := 88) c1_1 dX11_nameOf_1 (by decide) (by decide) (by decide) (by decide) ?_
    refine T_const dX11_nameOf_88 ?_
    obtain rfl := Option.some.inj hf
    exact X_ri dX11_nameOf_89 ⟨rfl, rfl⟩
  replace hf := ite_f c1_1 hf
  by_cases c1_2 : p0 = (98 : Int32)
  · replace hf := ite_t c1_2 hf
    refine T_tabE (off := 91) (tgt := 92) c1_2 dX11_nameOf_1 (by decide) (by decide) (by decide) (by decide) ?_
    refine T_const dX11_nameOf_92 ?_
    obtain rfl := Option.some.inj hf
    exact X_ri dX11_nameOf_93 ⟨rfl, rfl⟩
  replace hf := ite_f c1_2 hf
  by_cases c1_3 : p0 = (99 : Int32)
  · replace hf := ite_t c1_3 hf
    refine T_tabE (off := 91) (tgt := 92) c1_3 dX11_nameOf_1 (by decide) (by decide) (by decide) (by decide) ?_
    refine T_const dX11_nameOf_92 ?_
    obtain rfl := Option.some.inj hf
    exact X_ri dX11_nameOf_93 ⟨rfl, rfl⟩
  replace hf := ite_f c1_3 hf
  by_cases c1_4 : p0 = (100 : Int32)
  · replace hf := ite_t c1_4 hf
    refine T_tabE (off := 79) (tgt := 80) c1_4 dX11_nameOf_1 (by decide) (by decide) (by decide) (by decide) ?_
    refine T_const dX11_nameOf_80 ?_
    obtain rfl := Option.some.inj hf
    exact X_ri dX11_nameOf_81 ⟨rfl, rfl⟩
  replace hf := ite_f c1_4 hf
  by_cases c1_5 : p0 = (101 : Int32)
  · replace hf := ite_t c1_5 hf
    refine T_tabE (off := 91) (tgt := 92) c1_5 dX11_nameOf_1 (by decide) (by decide) (by decide) (by decide) ?_
    refine T_const dX11_nameOf_92 ?_
    obtain rfl := Option.some.inj hf
    exact X_ri dX11_nameOf_93 ⟨rfl, rfl⟩
  replace hf := ite_f c1_5 hf
  by_cases c1_6 : p0 = (102 : Int32)
  · replace hf := ite_t c1_6 hf
    refine T_tabE (off := 91) (tgt := 92) c1_6 dX11_nameOf_1 (by decide) (by decide) (by decide) (by decide) ?_
    refine T_const dX11_nameOf_92 ?_
    obtain rfl := Option.some.inj hf
    exact X_ri dX11_nameOf_93 ⟨rfl, rfl⟩
  replace hf := ite_f c1_6 hf
  by_cases c1_7 : p0 = (103 : Int32)
  · replace hf := ite_t c1_7 hf
    refine T_tabE (off := 91) (tgt := 92) c1_7 dX11_nameOf_1 (by decide) (by decide) (by decide) (by decide) ?_
    refine T_const dX11_nameOf_92 ?_
    obtain rfl := Option.some.inj hf
    exact X_ri dX11_nameOf_93 ⟨rfl, rfl⟩
  replace hf := ite_f c1_7 hf
  by_cases c1_8 : p0 = (104 : Int32)
  · replace hf := ite_t c1_8 hf
    refine T_tabE (off := 91) (tgt := 92) c1_8 dX11_nameOf_1 (by decide) (by decide) (by decide) (by decide) ?_
    refine T_const dX11_nameOf_92 ?_
    obtain rfl := Option.some.inj hf
    exact X_ri dX11_nameOf_93 ⟨rfl, rfl⟩
  replace hf := ite_f c1_8 hf
  by_cases c1_9 : p0 = (105 : Int32)
  · replace hf := ite_t c1_9 hf
    refine T_tabE (off := 91) (tgt := 92) c1_9 dX11_nameOf_1 (by decide) (by decide) (by decide) (by decide) ?_
    refine T_const dX11_nameOf_92 ?_
    obtain rfl := Option.some.inj hf
    exact X_ri dX11_nameOf_93 ⟨rfl, rfl⟩
  replace hf := ite_f c1_9 hf
  by_cases c1_10 : p0 = (106 : Int32)
  · replace hf := ite_t c1_10 hf
    refine T_tabE (off := 91) (tgt := 92) c1_10 dX11_nameOf_1 (by decide) (by decide) (by decide) (by decide) ?_
    refine T_const dX11_nameOf_92 ?_
    obtain rfl := Option.some.inj hf
    exact X_ri dX11_nameOf_93 ⟨rfl, rfl⟩
  replace hf := ite_f c1_10 hf
  by_cases c1_11 : p0 = (107 : Int32)
  · replace hf := ite_t c1_11 hf
    refine T_tabE (off := 91) (tgt := 92) c1_11 dX11_nameOf_1 (by decide) (by decide) (by decide) (by decide) ?_
    refine T_const dX11_nameOf_92 ?_
    obtain rfl := Option.some.inj hf
    exact X_ri dX11_nameOf_93 ⟨rfl, rfl⟩
  replace hf := ite_f c1_11 hf
  by_cases c1_12 : p0 = (108 : Int32)
  · replace hf := ite_t c1_12 hf
    refine T_tabE (off := 89) (tgt := 90) c1_12 dX11_nameOf_1 (by decide) (by decide) (by decide) (by decide) ?_
    refine T_const dX11_nameOf_90 ?_
    obtain rfl := Option.some.inj hf
    exact X_ri dX11_nameOf_91 ⟨rfl, rfl⟩
  replace hf := ite_f c1_12 hf
  by_cases c1_13 : p0 = (109 : Int32)
  · replace hf := ite_t c1_13 hf
    refine T_tabE (off := 91) (tgt := 92) c1_13 dX11_nameOf_1 (by decide) (by decide) (by decide) (by decide) ?_
    refine T_const dX11_nameOf_92 ?_
    obtain rfl := Option.some.inj hf
    exact X_ri dX11_nameOf_93 ⟨rfl, rfl⟩
  replace hf := ite_f c1_13 hf
  by_cases c1_14 : p0 = (110 : Int32)
  · replace hf := ite_t c1_14 hf
    refine T_tabE (off := 85) (tgt := 86) c1_14 dX11_nameOf_1 (by decide) (by decide) (by decide) (by decide) ?_
    refine T_const dX11_nameOf_86 ?_
    obtain rfl := Option.some.inj hf
    exact X_ri dX11_nameOf_87 ⟨rfl, rfl⟩
  replace hf := ite_f c1_14 hf
  by_cases c1_15 : p0 = (111 : Int32)
  · replace hf := ite_t c1_15 hf
    refine T_tabE (off := 83) (tgt := 84) c1_15 dX11_nameOf_1 (by decide) (by decide) (by decide) (by decide) ?_
    refine T_const dX11_nameOf_84 ?_
    obtain rfl := Option.some.inj hf
    exact X_ri dX11_nameOf_85 ⟨rfl, rfl⟩
  replace hf := ite_f c1_15 hf
  by_cases c1_16 : p0 = (112 : Int32)
  · replace hf := ite_t c1_16 hf
    refine T_tabE (off := 81) (tgt := 82) c1_16 dX11_nameOf_1 (by decide) (by decide) (by decide) (by decide) ?_
    refine T_const dX11_nameOf_82 ?_
    obtain rfl := Option.some.inj hf
    exact X_ri dX11_nameOf_83 ⟨rfl, rfl⟩
  replace hf := ite_f c1_16 hf
  refine T_tabOut (tgt := 92) ⟨dX11_nameOf_1, by decide⟩ (by
    have n97 := ne_toInt c1_1; rw [show (97 : Int32).toInt = 97 from rfl] at n97
    have n98 := ne_toInt c1_2; rw [show (98 : Int32).toInt = 98 from rfl] at n98
    have n99 := ne_toInt c1_3; rw [show (99 : Int32).toInt = 99 from rfl] at n99
    have n100 := ne_toInt c1_4; rw [show (100 : Int32).toInt = 100 from rfl] at n100
    have n101 := ne_toInt c1_5; rw [show (101 : Int32).toInt = 101 from rfl] at n101
    have n102 := ne_toInt c1_6; rw [show (102 : Int32).toInt = 102 from rfl] at n102
    have n103 := ne_toInt c1_7; rw [show (103 : Int32).toInt = 103 from rfl] at n103
    have n104 := ne_toInt c1_8; rw [show (104 : Int32).toInt = 104 from rfl] at n104
    have n105 := ne_toInt c1_9; rw [show (105 : Int32).toInt = 105 from rfl] at n105
    have n106 := ne_toInt c1_10; rw [show (106 : Int32).toInt = 106 from rfl] at n106
    have n107 := ne_toInt c1_11; rw [show (107 : Int32).toInt = 107 from rfl] at n107
    have n108 := ne_toInt c1_12; rw [show (108 : Int32).toInt = 108 from rfl] at n108
    have n109 := ne_toInt c1_13; rw [show (109 : Int32).toInt = 109 from rfl] at n109
    have n110 := ne_toInt c1_14; rw [show (110 : Int32).toInt = 110 from rfl] at n110
    have n111 := ne_toInt c1_15; rw [show (111 : Int32).toInt = 111 from rfl] at n111
    have n112 := ne_toInt c1_16; rw [show (112 : Int32).toInt = 112 from rfl] at n112
    omega) ?_
  refine T_const dX11_nameOf_92 ?_
  obtain rfl := Option.some.inj hf
  exact X_ri dX11_nameOf_93 ⟨rfl, rfl⟩
def jX11_either_32 (g_X11_both : aH → Option (Int32 × aH)) (ih : aH → Int32 → Option (Int32 × aH)) (x : aH) (s0 : Int32) : Option (Int32 × aH) := ih x s0
def jX11_either_27 (g_X11_both : aH → Option (Int32 × aH)) (ih : aH → Int32 → Option (Int32 × aH)) (x : aH) : Option (Int32 × aH) := jX11_either_32 g_X11_both ih x (1 : Int32)
def sX11_either_5 (g_X11_both : aH → Option (Int32 × aH)) (ih : aH → Int32 → Option (Int32 × aH)) (x : aH) (l1 : Int32) : Option (Int32 × aH) := (fX11_takes x (124 : Int32)).bind fun q8_2 => if q8_2.1 = (0 : Int32) then some (l1, q8_2.2) else (g_X11_both q8_2.2).bind fun q15_4 => if l1 = (0 : Int32) then if q15_4.1 = (0 : Int32) then jX11_either_32 g_X11_both ih q15_4.2 (0 : Int32) else jX11_either_27 g_X11_both ih q15_4.2 else jX11_either_27 g_X11_both ih q15_4.2
def wX11_either_5 (g_X11_both : aH → Option (Int32 × aH)) : Nat → aH → Int32 → Option (Int32 × aH)
  | 0 => fun _ _ => none
  | n + 1 => sX11_either_5 g_X11_both (wX11_either_5 g_X11_both n)
def uX11_either (g_X11_both : aH → Option (Int32 × aH)) (x : aH) : Option (Int32 × aH) := (g_X11_both x).bind fun q1_1 => (wX11_either_5 g_X11_both 2000 q1_1.2 q1_1.1).bind fun q5_7 => some (q5_7.1, q5_7.2)
theorem lX11_either_5 (Z : aZ) (y : aH) {D : Nat} (hK : 1 ≤ D) {g_X11_both : aH → Option (Int32 × aH)} (H_X11_both : ∀ (x : aH) {q : (Int32 × aH)}, g_X11_both x = some q → CX false Z mX11_both D [.ref 73] y x (RV (.int q.1) q.2)) {Q : Option Value → aH → Prop} {R : (Int32 × aH)} : ∀ (n : Nat) (x : aH) (l1 : Int32), wX11_either_5 g_X11_both n x l1 = some R → (∀ q, R = q → TX false Z mX11_either (D + 1) y q.2 Q 36 [.null, .int (q.1), .null] []) → TX false Z mX11_either (D + 1) y x Q 5 [.ref 73, .int l1, .null] [] := by
  intro n
  induction n with
  | zero => intro x l1 hf; cases hf
  | succ n ih =>
    intro x l1 hf ke
    replace hf : sX11_either_5 g_X11_both (wX11_either_5 g_X11_both n) x l1 = some R := hf
    unfold sX11_either_5 at hf
    refine T_aload dX11_either_5 rfl ?_
    refine T_const dX11_either_6 ?_
    obtain ⟨q8_2, hc8_2, hf⟩ := bind_t hf
    refine X_Vv (qX11_takes Z _ hc8_2) (Nat.le_trans (Nat.le_of_ble_eq_true rfl) hK) dX11_either_8 lvX11_169 rfl rfl ob73 (Nat.le_of_ble_eq_true rfl) ?_
    refine T_if_eq dX11_either_11 (fun c11_3 => ?_) (fun c11_3 => ?_)
    · replace hf := ite_t c11_3 hf
      exact X_wk (WK.n (WK.s (WK.n WK.e))) (ke _ (Option.some.inj hf).symm)
    · replace hf := ite_f c11_3 hf
      refine T_aload dX11_either_14 rfl ?_
      obtain ⟨q15_4, hc15_4, hf⟩ := bind_t hf
      refine X_Vv (H_X11_both _ hc15_4) (Nat.le_refl _) dX11_either_15 lvX11_166 rfl rfl ob73 (Nat.le_of_ble_eq_true rfl) ?_
      refine T_istore dX11_either_18 ?_
      show TX _ _ _ _ _ _ _ _ [_, _, _] _
      refine T_iload dX11_either_19 rfl ?_
      have J32 : ∀ (x : aH) (s0 : Int32), jX11_either_32 g_X11_both (wX11_either_5 g_X11_both n) x s0 = some R → TX false Z mX11_either (D + 1) y x Q 32 [.ref 73, .null, .null] [.int s0] := by
        intro x s0 hf
        unfold jX11_either_32 at hf
        refine T_istore dX11_either_32 ?_
        show TX _ _ _ _ _ _ _ _ [_, _, _] _
        refine T_goto dX11_either_33 ?_
        exact X_wk (WK.s (WK.s (WK.n WK.e))) (ih _ _ hf ke)
      have J27 : ∀ (x : aH), jX11_either_27 g_X11_both (wX11_either_5 g_X11_both n) x = some R → TX false Z mX11_either (D + 1) y x Q 27 [.ref 73, .null, .null] [] := by
        intro x hf
        unfold jX11_either_27 at hf
        refine T_const dX11_either_27 ?_
        refine T_goto dX11_either_28 ?_
        exact X_wk (WK.s (WK.n (WK.n WK.e))) (J32 _ _ hf)
      refine T_if_ne dX11_either_20 (fun c20_5 => ?_) (fun c20_5 => ?_)
      · replace hf := ite_f c20_5 hf
        exact X_wk (WK.s (WK.n (WK.n WK.e))) (J27 _ hf)
      · replace hf := ite_t c20_5 hf
        refine T_iload dX11_either_23 rfl ?_
        refine T_if_eq dX11_either_24 (fun c24_6 => ?_) (fun c24_6 => ?_)
        · replace hf := ite_t c24_6 hf
          refine T_const dX11_either_31 ?_
          exact X_wk (WK.s (WK.n (WK.n WK.e))) (J32 _ _ hf)
        · replace hf := ite_f c24_6 hf
          exact X_wk (WK.s (WK.n (WK.n WK.e))) (J27 _ hf)
theorem pX11_either (Z : aZ) (y : aH) {D : Nat} (hK : 1 ≤ D) {g_X11_both : aH → Option (Int32 × aH)} (H_X11_both : ∀ (x : aH) {q : (Int32 × aH)}, g_X11_both x = some q → CX false Z mX11_both D [.ref 73] y x (RV (.int q.1) q.2)) {x : aH} {q : (Int32 × aH)} (hf : uX11_either g_X11_both x = some q) : CX false Z mX11_either (D + 1) [.ref 73] y x (RV (.int q.1) q.2) := by
  refine CX.of mokX11_either (Nat.le_of_ble_eq_true rfl) ?_
  show TX _ _ _ _ _ _ _ _ [_, _, _] _
  unfold uX11_either at hf
  refine T_aload dX11_either_0 rfl ?_
  obtain ⟨q1_1, hc1_1, hf⟩ := bind_t hf
  refine X_Vv (H_X11_both _ hc1_1) (Nat.le_refl _) dX11_either_1 lvX11_166 rfl rfl ob73 (Nat.le_of_ble_eq_true rfl) ?_
  refine T_istore dX11_either_4 ?_
  show TX _ _ _ _ _ _ _ _ [_, _, _] _
  obtain ⟨q5_7, hc5_7, hf⟩ := bind_t hf
  refine X_wk (WK.s (WK.s (WK.n WK.e))) (lX11_either_5 Z _ hK H_X11_both 2000 _ _ hc5_7 ?_)
  intro q5_7z hr
  subst hr
  refine T_iload dX11_either_36 rfl ?_
  obtain rfl := Option.some.inj hf
  exact X_ri dX11_either_37 ⟨rfl, rfl⟩
def jX11_both_32 (g_X11_compared : aH → Option (Int32 × aH)) (ih : aH → Int32 → Option (Int32 × aH)) (x : aH) (s0 : Int32) : Option (Int32 × aH) := ih x s0
def jX11_both_31 (g_X11_compared : aH → Option (Int32 × aH)) (ih : aH → Int32 → Option (Int32 × aH)) (x : aH) : Option (Int32 × aH) := jX11_both_32 g_X11_compared ih x (0 : Int32)
def sX11_both_5 (g_X11_compared : aH → Option (Int32 × aH)) (ih : aH → Int32 → Option (Int32 × aH)) (x : aH) (l1 : Int32) : Option (Int32 × aH) := (fX11_takes x (38 : Int32)).bind fun q8_2 => if q8_2.1 = (0 : Int32) then some (l1, q8_2.2) else (g_X11_compared q8_2.2).bind fun q15_4 => if l1 = (0 : Int32) then jX11_both_31 g_X11_compared ih q15_4.2 else if q15_4.1 = (0 : Int32) then jX11_both_31 g_X11_compared ih q15_4.2 else jX11_both_32 g_X11_compared ih q15_4.2 (1 : Int32)
def wX11_both_5 (g_X11_compared : aH → Option (Int32 × aH)) : Nat → aH → Int32 → Option (Int32 × aH)
  | 0 => fun _ _ => none
  | n + 1 => sX11_both_5 g_X11_compared (wX11_both_5 g_X11_compared n)
def uX11_both (g_X11_compared : aH → Option (Int32 × aH)) (x : aH) : Option (Int32 × aH) := (g_X11_compared x).bind fun q1_1 => (wX11_both_5 g_X11_compared 2000 q1_1.2 q1_1.1).bind fun q5_7 => some (q5_7.1, q5_7.2)
theorem lX11_both_5 (Z : aZ) (y : aH) {D : Nat} (hK : 1 ≤ D) {g_X11_compared : aH → Option (Int32 × aH)} (H_X11_compared : ∀ (x : aH) {q : (Int32 × aH)}, g_X11_compared x = some q → CX false Z mX11_compared D [.ref 73] y x (RV (.int q.1) q.2)) {Q : Option Value → aH → Prop} {R : (Int32 × aH)} : ∀ (n : Nat) (x : aH) (l1 : Int32), wX11_both_5 g_X11_compared n x l1 = some R → (∀ q, R = q → TX false Z mX11_both (D + 1) y q.2 Q 36 [.null, .int (q.1), .null] []) → TX false Z mX11_both (D + 1) y x Q 5 [.ref 73, .int l1, .null] [] := by
  intro n
  induction n with
  | zero => intro x l1 hf; cases hf
  | succ n ih =>
    intro x l1 hf ke
    replace hf : sX11_both_5 g_X11_compared (wX11_both_5 g_X11_compared n) x l1 = some R := hf
    unfold sX11_both_5 at hf
    refine T_aload dX11_both_5 rfl ?_
    refine T_const dX11_both_6 ?_
    obtain ⟨q8_2, hc8_2, hf⟩ := bind_t hf
    refine X_Vv (qX11_takes Z _ hc8_2) (Nat.le_trans (Nat.le_of_ble_eq_true rfl) hK) dX11_both_8 lvX11_169 rfl rfl ob73 (Nat.le_of_ble_eq_true rfl) ?_
    refine T_if_eq dX11_both_11 (fun c11_3 => ?_) (fun c11_3 => ?_)
    · replace hf := ite_t c11_3 hf
      exact X_wk (WK.n (WK.s (WK.n WK.e))) (ke _ (Option.some.inj hf).symm)
    · replace hf := ite_f c11_3 hf
      refine T_aload dX11_both_14 rfl ?_
      obtain ⟨q15_4, hc15_4, hf⟩ := bind_t hf
      refine X_Vv (H_X11_compared _ hc15_4) (Nat.le_refl _) dX11_both_15 lvX11_172 rfl rfl ob73 (Nat.le_of_ble_eq_true rfl) ?_
      refine T_istore dX11_both_18 ?_
      show TX _ _ _ _ _ _ _ _ [_, _, _] _
      refine T_iload dX11_both_19 rfl ?_
      have J32 : ∀ (x : aH) (s0 : Int32), jX11_both_32 g_X11_compared (wX11_both_5 g_X11_compared n) x s0 = some R → TX false Z mX11_both (D + 1) y x Q 32 [.ref 73, .null, .null] [.int s0] := by
        intro x s0 hf
        unfold jX11_both_32 at hf
        refine T_istore dX11_both_32 ?_
        show TX _ _ _ _ _ _ _ _ [_, _, _] _
        refine T_goto dX11_both_33 ?_
        exact X_wk (WK.s (WK.s (WK.n WK.e))) (ih _ _ hf ke)
      have J31 : ∀ (x : aH), jX11_both_31 g_X11_compared (wX11_both_5 g_X11_compared n) x = some R → TX false Z mX11_both (D + 1) y x Q 31 [.ref 73, .null, .null] [] := by
        intro x hf
        unfold jX11_both_31 at hf
        refine T_const dX11_both_31 ?_
        exact X_wk (WK.s (WK.n (WK.n WK.e))) (J32 _ _ hf)
      refine T_if_eq dX11_both_20 (fun c20_5 => ?_) (fun c20_5 => ?_)
      · replace hf := ite_t c20_5 hf
        exact X_wk (WK.s (WK.n (WK.n WK.e))) (J31 _ hf)
      · replace hf := ite_f c20_5 hf
        refine T_iload dX11_both_23 rfl ?_
        refine T_if_eq dX11_both_24 (fun c24_6 => ?_) (fun c24_6 => ?_)
        · replace hf := ite_t c24_6 hf
          exact X_wk (WK.s (WK.n (WK.n WK.e))) (J31 _ hf)
        · replace hf := ite_f c24_6 hf
          refine T_const dX11_both_27 ?_
          refine T_goto dX11_both_28 ?_
          exact X_wk (WK.s (WK.n (WK.n WK.e))) (J32 _ _ hf)
theorem pX11_both (Z : aZ) (y : aH) {D : Nat} (hK : 1 ≤ D) {g_X11_compared : aH → Option (Int32 × aH)} (H_X11_compared : ∀ (x : aH) {q : (Int32 × aH)}, g_X11_compared x = some q → CX false Z mX11_compared D [.ref 73] y x (RV (.int q.1) q.2)) {x : aH} {q : (Int32 × aH)} (hf : uX11_both g_X11_compared x = some q) : CX false Z mX11_both (D + 1) [.ref 73] y x (RV (.int q.1) q.2) := by
  refine CX.of mokX11_both (Nat.le_of_ble_eq_true rfl) ?_
  show TX _ _ _ _ _ _ _ _ [_, _, _] _
  unfold uX11_both at hf
  refine T_aload dX11_both_0 rfl ?_
  obtain ⟨q1_1, hc1_1, hf⟩ := bind_t hf
  refine X_Vv (H_X11_compared _ hc1_1) (Nat.le_refl _) dX11_both_1 lvX11_172 rfl rfl ob73 (Nat.le_of_ble_eq_true rfl) ?_
  refine T_istore dX11_both_4 ?_
  show TX _ _ _ _ _ _ _ _ [_, _, _] _
  obtain ⟨q5_7, hc5_7, hf⟩ := bind_t hf
  refine X_wk (WK.s (WK.s (WK.n WK.e))) (lX11_both_5 Z _ hK H_X11_compared 2000 _ _ hc5_7 ?_)
  intro q5_7z hr
  subst hr
  refine T_iload dX11_both_36 rfl ?_
  obtain rfl := Option.some.inj hf
  exact X_ri dX11_both_37 ⟨rfl, rfl⟩
def jX11_compared_37 (g_X11_sums : aH → Option (Int32 × aH)) (x : aH) (l1 : Int32) (l2 : Int32) : Option (Int32 × aH) := (g_X11_sums (sfi x 73 12 ((fi x 73 12) + (1 : Int32)))).bind fun q48_4 => if l2 = (60 : Int32) then if q48_4.1 ≤ l1 then some ((0 : Int32), q48_4.2) else some ((1 : Int32), q48_4.2) else if l2 = (61 : Int32) then if l1 = q48_4.1 then some ((1 : Int32), q48_4.2) else some ((0 : Int32), q48_4.2) else if l1 ≤ q48_4.1 then some ((0 : Int32), q48_4.2) else some ((1 : Int32), q48_4.2)
def uX11_compared (g_X11_sums : aH → Option (Int32 × aH)) (x : aH) : Option (Int32 × aH) := (g_X11_sums x).bind fun q1_1 => (fX11_byteAt q1_1.2).bind fun q6_2 => if (0 : Int32) ≤ (fi q1_1.2 73 14) then some (q1_1.1, q1_1.2) else if q6_2 = (60 : Int32) then jX11_compared_37 g_X11_sums q1_1.2 q1_1.1 q6_2 else if q6_2 = (61 : Int32) then jX11_compared_37 g_X11_sums q1_1.2 q1_1.1 q6_2 else if q6_2 = (62 : Int32) then jX11_compared_37 g_X11_sums q1_1.2 q1_1.1 q6_2 else some (q1_1.1, q1_1.2)
theorem pX11_compared (Z : aZ) (y : aH) {D : Nat} (hK : 1 ≤ D) {g_X11_sums : aH → Option (Int32 × aH)} (H_X11_sums : ∀ (x : aH) {q : (Int32 × aH)}, g_X11_sums x = some q → CX false Z mX11_sums D [.ref 73] y x (RV (.int q.1) q.2)) {x : aH} {q : (Int32 × aH)} (hf : uX11_compared g_X11_sums x = some q) : CX false Z mX11_compared (D + 1) [.ref 73] y x (RV (.int q.1) q.2) := by
  refine CX.of mokX11_compared (Nat.le_of_ble_eq_true rfl) ?_
  show TX _ _ _ _ _ _ _ _ [_, _, _, _] _
  unfold uX11_compared at hf
  refine T_aload dX11_compared_0 rfl ?_
  obtain ⟨q1_1, hc1_1, hf⟩ := bind_t hf
  refine X_Vv (H_X11_sums _ hc1_1) (Nat.le_refl _) dX11_compared_1 lvX11_175 rfl rfl ob73 (Nat.le_of_ble_eq_true rfl) ?_
  refine T_istore dX11_compared_4 ?_
  show TX _ _ _ _ _ _ _ _ [_, _, _, _] _
  refine T_aload dX11_compared_5 rfl ?_
  obtain ⟨q6_2, hc6_2, hf⟩ := bind_t hf
  refine X_Vv (qX11_byteAt Z _ hc6_2) (Nat.le_trans (Nat.le_of_ble_eq_true rfl) hK) dX11_compared_6 lvX11_162 rfl rfl ob73 (Nat.le_of_ble_eq_true rfl) ?_
  refine T_istore dX11_compared_9 ?_
  show TX _ _ _ _ _ _ _ _ [_, _, _, _] _
  refine T_aload dX11_compared_10 rfl ?_
  refine X_getf dX11_compared_11 lfX11_159 rfl ob73 ?_
  refine T_if_ge dX11_compared_14 (fun c14_3 => ?_) (fun c14_3 => ?_)
  · replace hf := ite_t c14_3 hf
    refine T_iload dX11_compared_35 rfl ?_
    obtain rfl := Option.some.inj hf
    exact X_ri dX11_compared_36 ⟨rfl, rfl⟩
  · replace hf := ite_f c14_3 hf
    refine T_iload dX11_compared_17 rfl ?_
    refine T_const dX11_compared_18 ?_
    have J37 : ∀ (x : aH) (l1 : Int32) (l2 : Int32), jX11_compared_37 g_X11_sums x l1 l2 = some q → TX false Z mX11_compared (D + 1) y x (RV (.int q.1) q.2) 37 [.ref 73, .int l1, .int l2, .null] [] := by
      intro x l1 l2 hf
      unfold jX11_compared_37 at hf
      refine T_aload dX11_compared_37 rfl ?_
      refine T_dup dX11_compared_38 rfl ?_
      refine X_getf dX11_compared_39 lfX11_150 rfl ob73 ?_
      refine T_const dX11_compared_42 ?_
      refine T_iadd dX11_compared_43 ?_
      refine X_putf dX11_compared_44 lfX11_150 rfl rfl ob73 ⟨rfl, rfl⟩ ?_
      refine T_aload dX11_compared_47 rfl ?_
      obtain ⟨q48_4, hc48_4, hf⟩ := bind_t hf
      refine X_Vv (H_X11_sums _ hc48_4) (Nat.le_refl _) dX11_compared_48 lvX11_175 rfl rfl ob73 (Nat.le_of_ble_eq_true rfl) ?_
      refine T_istore dX11_compared_51 ?_
      show TX _ _ _ _ _ _ _ _ [_, _, _, _] _
      refine T_iload dX11_compared_52 rfl ?_
      refine T_const dX11_compared_53 ?_
      refine T_icmp_ne dX11_compared_55 (fun c55_5 => ?_) (fun c55_5 => ?_)
      · replace hf := ite_f c55_5 hf
        refine T_iload dX11_compared_66 rfl ?_
        refine T_const dX11_compared_67 ?_
        refine T_icmp_ne dX11_compared_69 (fun c69_6 => ?_) (fun c69_6 => ?_)
        · replace hf := ite_f c69_6 hf
          refine T_iload dX11_compared_80 rfl ?_
          refine T_iload dX11_compared_81 rfl ?_
          refine T_icmp_le dX11_compared_82 (fun c82_7 => ?_) (fun c82_7 => ?_)
          · replace hf := ite_t c82_7 hf
            refine T_const dX11_compared_89 ?_
            obtain rfl := Option.some.inj hf
            exact X_ri dX11_compared_90 ⟨rfl, rfl⟩
          · replace hf := ite_f c82_7 hf
            refine T_const dX11_compared_85 ?_
            refine T_goto dX11_compared_86 ?_
            obtain rfl := Option.some.inj hf
            exact X_ri dX11_compared_90 ⟨rfl, rfl⟩
        · replace hf := ite_t c69_6 hf
          refine T_iload dX11_compared_72 rfl ?_
          refine T_iload dX11_compared_73 rfl ?_
          refine T_icmp_ne dX11_compared_74 (fun c74_8 => ?_) (fun c74_8 => ?_)
          · replace hf := ite_f c74_8 hf
            refine T_const dX11_compared_89 ?_
            obtain rfl := Option.some.inj hf
            exact X_ri dX11_compared_90 ⟨rfl, rfl⟩
          · replace hf := ite_t c74_8 hf
            refine T_goto dX11_compared_77 ?_
            refine T_const dX11_compared_85 ?_
            refine T_goto dX11_compared_86 ?_
            obtain rfl := Option.some.inj hf
            exact X_ri dX11_compared_90 ⟨rfl, rfl⟩
      · replace hf := ite_t c55_5 hf
        refine T_iload dX11_compared_58 rfl ?_
        refine T_iload dX11_compared_59 rfl ?_
        refine T_icmp_ge dX11_compared_60 (fun c60_9 => ?_) (fun c60_9 => ?_)
        · replace hf := ite_t c60_9 hf
          refine T_const dX11_compared_89 ?_
          obtain rfl := Option.some.inj hf
          exact X_ri dX11_compared_90 ⟨rfl, rfl⟩
        · replace hf := ite_f c60_9 hf
          refine T_goto dX11_compared_63 ?_
          refine T_const dX11_compared_85 ?_
          refine T_goto dX11_compared_86 ?_
          obtain rfl := Option.some.inj hf
          exact X_ri dX11_compared_90 ⟨rfl, rfl⟩
    refine T_icmp_eq dX11_compared_20 (fun c20_10 => ?_) (fun c20_10 => ?_)
    · replace hf := ite_t c20_10 hf
      exact X_wk (WK.s (WK.s (WK.s (WK.n WK.e)))) (J37 _ _ _ hf)
    · replace hf := ite_f c20_10 hf
      refine T_iload dX11_compared_23 rfl ?_
      refine T_const dX11_compared_24 ?_
      refine T_icmp_eq dX11_compared_26 (fun c26_11 => ?_) (fun c26_11 => ?_)
      · replace hf := ite_t c26_11 hf
        exact X_wk (WK.s (WK.s (WK.s (WK.n WK.e)))) (J37 _ _ _ hf)
      · replace hf := ite_f c26_11 hf
        refine T_iload dX11_compared_29 rfl ?_
        refine T_const dX11_compared_30 ?_
        refine T_icmp_eq dX11_compared_32 (fun c32_12 => ?_) (fun c32_12 => ?_)
        · replace hf := ite_t c32_12 hf
          exact X_wk (WK.s (WK.s (WK.s (WK.n WK.e)))) (J37 _ _ _ hf)
        · replace hf := ite_f c32_12 hf
          refine T_iload dX11_compared_35 rfl ?_
          obtain rfl := Option.some.inj hf
          exact X_ri dX11_compared_36 ⟨rfl, rfl⟩
def jX11_sums_73 (g_X11_product : aH → Option (Int32 × aH)) (ih : aH → Int32 → Option (Int32 × aH)) (x : aH) (s0 : Int32) : Option (Int32 × aH) := ih x s0
def jX11_sums_44 (g_X11_product : aH → Option (Int32 × aH)) (ih : aH → Int32 → Option (Int32 × aH)) (x : aH) (l1 : Int32) (s0 : Int32) : Option (Int32 × aH) := (g_X11_product (sfi x 73 12 ((fi x 73 12) + (1 : Int32)))).bind fun q56_5 => if s0 = (0 : Int32) then jX11_sums_73 g_X11_product ih q56_5.2 (l1 - q56_5.1) else jX11_sums_73 g_X11_product ih q56_5.2 (l1 + q56_5.1)
def jX11_sums_30 (g_X11_product : aH → Option (Int32 × aH)) (ih : aH → Int32 → Option (Int32 × aH)) (x : aH) (l1 : Int32) : Option (Int32 × aH) := (fX11_byteAt x).bind fun q31_4 => if q31_4 = (43 : Int32) then jX11_sums_44 g_X11_product ih x l1 (1 : Int32) else jX11_sums_44 g_X11_product ih x l1 (0 : Int32)
def sX11_sums_5 (g_X11_product : aH → Option (Int32 × aH)) (ih : aH → Int32 → Option (Int32 × aH)) (x : aH) (l1 : Int32) : Option (Int32 × aH) := if (0 : Int32) ≤ (fi x 73 14) then some (l1, x) else (fX11_byteAt x).bind fun q13_3 => if q13_3 = (43 : Int32) then jX11_sums_30 g_X11_product ih x l1 else (fX11_byteAt x).bind fun q22_9 => if q22_9 = (45 : Int32) then jX11_sums_30 g_X11_product ih x l1 else some (l1, x)
def wX11_sums_5 (g_X11_product : aH → Option (Int32 × aH)) : Nat → aH → Int32 → Option (Int32 × aH)
  | 0 => fun _ _ => none
  | n + 1 => sX11_sums_5 g_X11_product (wX11_sums_5 g_X11_product n)
def uX11_sums (g_X11_product : aH → Option (Int32 × aH)) (x : aH) : Option (Int32 × aH) := (g_X11_product x).bind fun q1_1 => (wX11_sums_5 g_X11_product 2000 q1_1.2 q1_1.1).bind fun q5_11 => some (q5_11.1, q5_11.2)
theorem lX11_sums_5 (Z : aZ) (y : aH) {D : Nat} (hK : 1 ≤ D) {g_X11_product : aH → Option (Int32 × aH)} (H_X11_product : ∀ (x : aH) {q : (Int32 × aH)}, g_X11_product x = some q → CX false Z mX11_product D [.ref 73] y x (RV (.int q.1) q.2)) {Q : Option Value → aH → Prop} {R : (Int32 × aH)} : ∀ (n : Nat) (x : aH) (l1 : Int32), wX11_sums_5 g_X11_product n x l1 = some R → (∀ q, R = q → TX false Z mX11_sums (D + 1) y q.2 Q 77 [.null, .int (q.1), .null, .null] []) → TX false Z mX11_sums (D + 1) y x Q 5 [.ref 73, .int l1, .null, .null] [] := by
  intro n
  induction n with
  | zero => intro x l1 hf; cases hf
  | succ n ih =>
    intro x l1 hf ke
    replace hf : sX11_sums_5 g_X11_product (wX11_sums_5 g_X11_product n) x l1 = some R := hf
    unfold sX11_sums_5 at hf
    refine T_aload dX11_sums_5 rfl ?_
    refine X_getf dX11_sums_6 lfX11_159 rfl ob73 ?_
    refine T_if_ge dX11_sums_9 (fun c9_2 => ?_) (fun c9_2 => ?_)
    · replace hf := ite_t c9_2 hf
      exact X_wk (WK.n (WK.s (WK.n (WK.n WK.e)))) (ke _ (Option.some.inj hf).symm)
    · replace hf := ite_f c9_2 hf
      refine T_aload dX11_sums_12 rfl ?_
      obtain ⟨q13_3, hc13_3, hf⟩ := bind_t hf
      refine X_Vv (qX11_byteAt Z _ hc13_3) (Nat.le_trans (Nat.le_of_ble_eq_true rfl) hK) dX11_sums_13 lvX11_162 rfl rfl ob73 (Nat.le_of_ble_eq_true rfl) ?_
      refine T_const dX11_sums_16 ?_
      have J30 : ∀ (x : aH) (l1 : Int32), jX11_sums_30 g_X11_product (wX11_sums_5 g_X11_product n) x l1 = some R → TX false Z mX11_sums (D + 1) y x Q 30 [.ref 73, .int l1, .null, .null] [] := by
        intro x l1 hf
        unfold jX11_sums_30 at hf
        refine T_aload dX11_sums_30 rfl ?_
        obtain ⟨q31_4, hc31_4, hf⟩ := bind_t hf
        refine X_Vv (qX11_byteAt Z _ hc31_4) (Nat.le_trans (Nat.le_of_ble_eq_true rfl) hK) dX11_sums_31 lvX11_162 rfl rfl ob73 (Nat.le_of_ble_eq_true rfl) ?_
        refine T_const dX11_sums_34 ?_
        have J44 : ∀ (x : aH) (l1 : Int32) (s0 : Int32), jX11_sums_44 g_X11_product (wX11_sums_5 g_X11_product n) x l1 s0 = some R → TX false Z mX11_sums (D + 1) y x Q 44 [.ref 73, .int l1, .null, .null] [.int s0] := by
          intro x l1 s0 hf
          unfold jX11_sums_44 at hf
          refine T_istore dX11_sums_44 ?_
          show TX _ _ _ _ _ _ _ _ [_, _, _, _] _
          refine T_aload dX11_sums_45 rfl ?_
          refine T_dup dX11_sums_46 rfl ?_
          refine X_getf dX11_sums_47 lfX11_150 rfl ob73 ?_
          refine T_const dX11_sums_50 ?_
          refine T_iadd dX11_sums_51 ?_
          refine X_putf dX11_sums_52 lfX11_150 rfl rfl ob73 ⟨rfl, rfl⟩ ?_
          refine T_aload dX11_sums_55 rfl ?_
          obtain ⟨q56_5, hc56_5, hf⟩ := bind_t hf
          refine X_Vv (H_X11_product _ hc56_5) (Nat.le_refl _) dX11_sums_56 lvX11_178 rfl rfl ob73 (Nat.le_of_ble_eq_true rfl) ?_
          refine T_istore dX11_sums_59 ?_
          show TX _ _ _ _ _ _ _ _ [_, _, _, _] _
          refine T_iload dX11_sums_60 rfl ?_
          have J73 : ∀ (x : aH) (s0 : Int32), jX11_sums_73 g_X11_product (wX11_sums_5 g_X11_product n) x s0 = some R → TX false Z mX11_sums (D + 1) y x Q 73 [.ref 73, .null, .null, .null] [.int s0] := by
            intro x s0 hf
            unfold jX11_sums_73 at hf
            refine T_istore dX11_sums_73 ?_
            show TX _ _ _ _ _ _ _ _ [_, _, _, _] _
            refine T_goto dX11_sums_74 ?_
            exact X_wk (WK.s (WK.s (WK.n (WK.n WK.e)))) (ih _ _ hf ke)
          refine T_if_eq dX11_sums_61 (fun c61_6 => ?_) (fun c61_6 => ?_)
          · replace hf := ite_t c61_6 hf
            refine T_iload dX11_sums_70 rfl ?_
            refine T_iload dX11_sums_71 rfl ?_
            refine T_isub dX11_sums_72 ?_
            exact X_wk (WK.s (WK.n (WK.n (WK.n WK.e)))) (J73 _ _ hf)
          · replace hf := ite_f c61_6 hf
            refine T_iload dX11_sums_64 rfl ?_
            refine T_iload dX11_sums_65 rfl ?_
            refine T_iadd dX11_sums_66 ?_
            refine T_goto dX11_sums_67 ?_
            exact X_wk (WK.s (WK.n (WK.n (WK.n WK.e)))) (J73 _ _ hf)
        refine T_icmp_ne dX11_sums_36 (fun c36_7 => ?_) (fun c36_7 => ?_)
        · replace hf := ite_f c36_7 hf
          refine T_const dX11_sums_43 ?_
          exact X_wk (WK.s (WK.s (WK.n (WK.n WK.e)))) (J44 _ _ _ hf)
        · replace hf := ite_t c36_7 hf
          refine T_const dX11_sums_39 ?_
          refine T_goto dX11_sums_40 ?_
          exact X_wk (WK.s (WK.s (WK.n (WK.n WK.e)))) (J44 _ _ _ hf)
      refine T_icmp_eq dX11_sums_18 (fun c18_8 => ?_) (fun c18_8 => ?_)
      · replace hf := ite_t c18_8 hf
        exact X_wk (WK.s (WK.s (WK.n (WK.n WK.e)))) (J30 _ _ hf)
      · replace hf := ite_f c18_8 hf
        refine T_aload dX11_sums_21 rfl ?_
        obtain ⟨q22_9, hc22_9, hf⟩ := bind_t hf
        refine X_Vv (qX11_byteAt Z _ hc22_9) (Nat.le_trans (Nat.le_of_ble_eq_true rfl) hK) dX11_sums_22 lvX11_162 rfl rfl ob73 (Nat.le_of_ble_eq_true rfl) ?_
        refine T_const dX11_sums_25 ?_
        refine T_icmp_ne dX11_sums_27 (fun c27_10 => ?_) (fun c27_10 => ?_)
        · replace hf := ite_f c27_10 hf
          exact X_wk (WK.n (WK.s (WK.n (WK.n WK.e)))) (ke _ (Option.some.inj hf).symm)
        · replace hf := ite_t c27_10 hf
          exact X_wk (WK.s (WK.s (WK.n (WK.n WK.e)))) (J30 _ _ hf)
theorem pX11_sums (Z : aZ) (y : aH) {D : Nat} (hK : 1 ≤ D) {g_X11_product : aH → Option (Int32 × aH)} (H_X11_product : ∀ (x : aH) {q : (Int32 × aH)}, g_X11_product x = some q → CX false Z mX11_product D [.ref 73] y x (RV (.int q.1) q.2)) {x : aH} {q : (Int32 × aH)} (hf : uX11_sums g_X11_product x = some q) : CX false Z mX11_sums (D + 1) [.ref 73] y x (RV (.int q.1) q.2) := by
  refine CX.of mokX11_sums (Nat.le_of_ble_eq_true rfl) ?_
  show TX _ _ _ _ _ _ _ _ [_, _, _, _] _
  unfold uX11_sums at hf
  refine T_aload dX11_sums_0 rfl ?_
  obtain ⟨q1_1, hc1_1, hf⟩ := bind_t hf
  refine X_Vv (H_X11_product _ hc1_1) (Nat.le_refl _) dX11_sums_1 lvX11_178 rfl rfl ob73 (Nat.le_of_ble_eq_true rfl) ?_
  refine T_istore dX11_sums_4 ?_
  show TX _ _ _ _ _ _ _ _ [_, _, _, _] _
  obtain ⟨q5_11, hc5_11, hf⟩ := bind_t hf
  refine X_wk (WK.s (WK.s (WK.n (WK.n WK.e)))) (lX11_sums_5 Z _ hK H_X11_product 2000 _ _ hc5_11 ?_)
  intro q5_11z hr
  subst hr
  refine T_iload dX11_sums_77 rfl ?_
  obtain rfl := Option.some.inj hf
  exact X_ri dX11_sums_78 ⟨rfl, rfl⟩
def jX11_product_85 (g_X11_one : aH → Option (Int32 × aH)) (ih : aH → Int32 → Int32 → Option (Int32 × aH)) (x : aH) (s0 : Int32) : Option (Int32 × aH) := (fX11_byteAt x).bind fun q87_5 => ih x s0 q87_5
def jX11_product_35 (g_X11_one : aH → Option (Int32 × aH)) (ih : aH → Int32 → Int32 → Option (Int32 × aH)) (x : aH) (l1 : Int32) (l2 : Int32) : Option (Int32 × aH) := (g_X11_one (sfi x 73 12 ((fi x 73 12) + (1 : Int32)))).bind fun q46_4 => if l2 = (42 : Int32) then jX11_product_85 g_X11_one ih q46_4.2 (l1 * q46_4.1) else if q46_4.1 = (0 : Int32) then jX11_product_85 g_X11_one ih q46_4.2 (0 : Int32) else if l2 = (47 : Int32) then if ¬ (q46_4.1 = (0 : Int32)) then jX11_product_85 g_X11_one ih q46_4.2 (l1 / q46_4.1) else none else if ¬ (q46_4.1 = (0 : Int32)) then jX11_product_85 g_X11_one ih q46_4.2 (l1 - l1 / q46_4.1 * q46_4.1) else none
def sX11_product_10 (g_X11_one : aH → Option (Int32 × aH)) (ih : aH → Int32 → Int32 → Option (Int32 × aH)) (x : aH) (l1 : Int32) (l2 : Int32) : Option (Int32 × aH) := if (0 : Int32) ≤ (fi x 73 14) then some (l1, x) else if l2 = (42 : Int32) then jX11_product_35 g_X11_one ih x l1 l2 else if l2 = (47 : Int32) then jX11_product_35 g_X11_one ih x l1 l2 else if l2 = (37 : Int32) then jX11_product_35 g_X11_one ih x l1 l2 else some (l1, x)
def wX11_product_10 (g_X11_one : aH → Option (Int32 × aH)) : Nat → aH → Int32 → Int32 → Option (Int32 × aH)
  | 0 => fun _ _ _ => none
  | n + 1 => sX11_product_10 g_X11_one (wX11_product_10 g_X11_one n)
def uX11_product (g_X11_one : aH → Option (Int32 × aH)) (x : aH) : Option (Int32 × aH) := (g_X11_one x).bind fun q1_1 => (fX11_byteAt q1_1.2).bind fun q6_2 => (wX11_product_10 g_X11_one 2000 q1_1.2 q1_1.1 q6_2).bind fun q10_12 => some (q10_12.1, q10_12.2)
theorem lX11_product_10 (Z : aZ) (y : aH) {D : Nat} (hK : 1 ≤ D) {g_X11_one : aH → Option (Int32 × aH)} (H_X11_one : ∀ (x : aH) {q : (Int32 × aH)}, g_X11_one x = some q → CX false Z mX11_one D [.ref 73] y x (RV (.int q.1) q.2)) {Q : Option Value → aH → Prop} {R : (Int32 × aH)} : ∀ (n : Nat) (x : aH) (l1 : Int32) (l2 : Int32), wX11_product_10 g_X11_one n x l1 l2 = some R → (∀ q, R = q → TX false Z mX11_product (D + 1) y q.2 Q 94 [.null, .int (q.1), .null, .null] []) → TX false Z mX11_product (D + 1) y x Q 10 [.ref 73, .int l1, .int l2, .null] [] := by
  intro n
  induction n with
  | zero => intro x l1 l2 hf; cases hf
  | succ n ih =>
    intro x l1 l2 hf ke
    replace hf : sX11_product_10 g_X11_one (wX11_product_10 g_X11_one n) x l1 l2 = some R := hf
    unfold sX11_product_10 at hf
    refine T_aload dX11_product_10 rfl ?_
    refine X_getf dX11_product_11 lfX11_159 rfl ob73 ?_
    refine T_if_ge dX11_product_14 (fun c14_3 => ?_) (fun c14_3 => ?_)
    · replace hf := ite_t c14_3 hf
      exact X_wk (WK.n (WK.s (WK.n (WK.n WK.e)))) (ke _ (Option.some.inj hf).symm)
    · replace hf := ite_f c14_3 hf
      refine T_iload dX11_product_17 rfl ?_
      refine T_const dX11_product_18 ?_
      have J35 : ∀ (x : aH) (l1 : Int32) (l2 : Int32), jX11_product_35 g_X11_one (wX11_product_10 g_X11_one n) x l1 l2 = some R → TX false Z mX11_product (D + 1) y x Q 35 [.ref 73, .int l1, .int l2, .null] [] := by
        intro x l1 l2 hf
        unfold jX11_product_35 at hf
        refine T_aload dX11_product_35 rfl ?_
        refine T_dup dX11_product_36 rfl ?_
        refine X_getf dX11_product_37 lfX11_150 rfl ob73 ?_
        refine T_const dX11_product_40 ?_
        refine T_iadd dX11_product_41 ?_
        refine X_putf dX11_product_42 lfX11_150 rfl rfl ob73 ⟨rfl, rfl⟩ ?_
        refine T_aload dX11_product_45 rfl ?_
        obtain ⟨q46_4, hc46_4, hf⟩ := bind_t hf
        refine X_Vv (H_X11_one _ hc46_4) (Nat.le_refl _) dX11_product_46 lvX11_181 rfl rfl ob73 (Nat.le_of_ble_eq_true rfl) ?_
        refine T_istore dX11_product_49 ?_
        show TX _ _ _ _ _ _ _ _ [_, _, _, _] _
        refine T_iload dX11_product_50 rfl ?_
        refine T_const dX11_product_51 ?_
        have J85 : ∀ (x : aH) (s0 : Int32), jX11_product_85 g_X11_one (wX11_product_10 g_X11_one n) x s0 = some R → TX false Z mX11_product (D + 1) y x Q 85 [.ref 73, .null, .null, .null] [.int s0] := by
          intro x s0 hf
          unfold jX11_product_85 at hf
          refine T_istore dX11_product_85 ?_
          show TX _ _ _ _ _ _ _ _ [_, _, _, _] _
          refine T_aload dX11_product_86 rfl ?_
          obtain ⟨q87_5, hc87_5, hf⟩ := bind_t hf
          refine X_Vv (qX11_byteAt Z _ hc87_5) (Nat.le_trans (Nat.le_of_ble_eq_true rfl) hK) dX11_product_87 lvX11_162 rfl rfl ob73 (Nat.le_of_ble_eq_true rfl) ?_
          refine T_istore dX11_product_90 ?_
          show TX _ _ _ _ _ _ _ _ [_, _, _, _] _
          refine T_goto dX11_product_91 ?_
          exact X_wk (WK.s (WK.s (WK.s (WK.n WK.e)))) (ih _ _ _ hf ke)
        refine T_icmp_ne dX11_product_53 (fun c53_6 => ?_) (fun c53_6 => ?_)
        · replace hf := ite_f c53_6 hf
          refine T_iload dX11_product_62 rfl ?_
          refine T_if_ne dX11_product_63 (fun c63_7 => ?_) (fun c63_7 => ?_)
          · replace hf := ite_f c63_7 hf
            refine T_iload dX11_product_70 rfl ?_
            refine T_const dX11_product_71 ?_
            refine T_icmp_ne dX11_product_73 (fun c73_8 => ?_) (fun c73_8 => ?_)
            · replace hf := ite_f c73_8 hf
              refine T_iload dX11_product_82 rfl ?_
              refine T_iload dX11_product_83 rfl ?_
              obtain ⟨h0, hf⟩ := opt_t hf
              refine T_irem dX11_product_84 h0 ?_
              exact X_wk (WK.s (WK.n (WK.n (WK.n WK.e)))) (J85 _ _ hf)
            · replace hf := ite_t c73_8 hf
              refine T_iload dX11_product_76 rfl ?_
              refine T_iload dX11_product_77 rfl ?_
              obtain ⟨h0, hf⟩ := opt_t hf
              refine T_idiv dX11_product_78 h0 ?_
              refine T_goto dX11_product_79 ?_
              exact X_wk (WK.s (WK.n (WK.n (WK.n WK.e)))) (J85 _ _ hf)
          · replace hf := ite_t c63_7 hf
            refine T_const dX11_product_66 ?_
            refine T_goto dX11_product_67 ?_
            exact X_wk (WK.s (WK.n (WK.n (WK.n WK.e)))) (J85 _ _ hf)
        · replace hf := ite_t c53_6 hf
          refine T_iload dX11_product_56 rfl ?_
          refine T_iload dX11_product_57 rfl ?_
          refine T_imul dX11_product_58 ?_
          refine T_goto dX11_product_59 ?_
          exact X_wk (WK.s (WK.n (WK.n (WK.n WK.e)))) (J85 _ _ hf)
      refine T_icmp_eq dX11_product_20 (fun c20_9 => ?_) (fun c20_9 => ?_)
      · replace hf := ite_t c20_9 hf
        exact X_wk (WK.s (WK.s (WK.s (WK.n WK.e)))) (J35 _ _ _ hf)
      · replace hf := ite_f c20_9 hf
        refine T_iload dX11_product_23 rfl ?_
        refine T_const dX11_product_24 ?_
        refine T_icmp_eq dX11_product_26 (fun c26_10 => ?_) (fun c26_10 => ?_)
        · replace hf := ite_t c26_10 hf
          exact X_wk (WK.s (WK.s (WK.s (WK.n WK.e)))) (J35 _ _ _ hf)
        · replace hf := ite_f c26_10 hf
          refine T_iload dX11_product_29 rfl ?_
          refine T_const dX11_product_30 ?_
          refine T_icmp_ne dX11_product_32 (fun c32_11 => ?_) (fun c32_11 => ?_)
          · replace hf := ite_f c32_11 hf
            exact X_wk (WK.n (WK.s (WK.n (WK.n WK.e)))) (ke _ (Option.some.inj hf).symm)
          · replace hf := ite_t c32_11 hf
            exact X_wk (WK.s (WK.s (WK.s (WK.n WK.e)))) (J35 _ _ _ hf)
theorem pX11_product (Z : aZ) (y : aH) {D : Nat} (hK : 1 ≤ D) {g_X11_one : aH → Option (Int32 × aH)} (H_X11_one : ∀ (x : aH) {q : (Int32 × aH)}, g_X11_one x = some q → CX false Z mX11_one D [.ref 73] y x (RV (.int q.1) q.2)) {x : aH} {q : (Int32 × aH)} (hf : uX11_product g_X11_one x = some q) : CX false Z mX11_product (D + 1) [.ref 73] y x (RV (.int q.1) q.2) := by
  refine CX.of mokX11_product (Nat.le_of_ble_eq_true rfl) ?_
  show TX _ _ _ _ _ _ _ _ [_, _, _, _] _
  unfold uX11_product at hf
  refine T_aload dX11_product_0 rfl ?_
  obtain ⟨q1_1, hc1_1, hf⟩ := bind_t hf
  refine X_Vv (H_X11_one _ hc1_1) (Nat.le_refl _) dX11_product_1 lvX11_181 rfl rfl ob73 (Nat.le_of_ble_eq_true rfl) ?_
  refine T_istore dX11_product_4 ?_
  show TX _ _ _ _ _ _ _ _ [_, _, _, _] _
  refine T_aload dX11_product_5 rfl ?_
  obtain ⟨q6_2, hc6_2, hf⟩ := bind_t hf
  refine X_Vv (qX11_byteAt Z _ hc6_2) (Nat.le_trans (Nat.le_of_ble_eq_true rfl) hK) dX11_product_6 lvX11_162 rfl rfl ob73 (Nat.le_of_ble_eq_true rfl) ?_
  refine T_istore dX11_product_9 ?_
  show TX _ _ _ _ _ _ _ _ [_, _, _, _] _
  obtain ⟨q10_12, hc10_12, hf⟩ := bind_t hf
  refine X_wk (WK.s (WK.s (WK.s (WK.n WK.e)))) (lX11_product_10 Z _ hK H_X11_one 2000 _ _ _ hc10_12 ?_)
  intro q10_12z hr
  subst hr
  refine T_iload dX11_product_94 rfl ?_
  obtain rfl := Option.some.inj hf
  exact X_ri dX11_product_95 ⟨rfl, rfl⟩
def jX11_one_104 (g_X11_either : aH → Option (Int32 × aH)) (g_X11_one : aH → Option (Int32 × aH)) (x : aH) (l1 : Int32) (l2 : Int32) : Option (Int32 × aH) := if l1 = (40 : Int32) then some (l2, (sfi x 73 15 ((fi x 73 15) - (1 : Int32)))) else if l1 = (45 : Int32) then some ((-l2), (sfi x 73 15 ((fi x 73 15) - (1 : Int32)))) else if l2 = (0 : Int32) then some ((1 : Int32), (sfi x 73 15 ((fi x 73 15) - (1 : Int32)))) else some ((0 : Int32), (sfi x 73 15 ((fi x 73 15) - (1 : Int32))))
def jX11_one_83 (g_X11_either : aH → Option (Int32 × aH)) (g_X11_one : aH → Option (Int32 × aH)) (x : aH) (l1 : Int32) (s0 : Int32) : Option (Int32 × aH) := if l1 = (40 : Int32) then (fX11_takes x (41 : Int32)).bind fun q93_8 => if q93_8.1 = (0 : Int32) then (fX11_wrong q93_8.2).bind fun q100_10 => some (q100_10.1, q100_10.2) else jX11_one_104 g_X11_either g_X11_one q93_8.2 l1 s0 else jX11_one_104 g_X11_either g_X11_one x l1 s0
def jX11_one_32 (g_X11_either : aH → Option (Int32 × aH)) (g_X11_one : aH → Option (Int32 × aH)) (x : aH) (l1 : Int32) : Option (Int32 × aH) := if (fi x 73 15) = (6 : Int32) then (fX11_wrong x).bind fun q42_14 => some (q42_14.1, q42_14.2) else if l1 = (40 : Int32) then (g_X11_either (sfi (sfi x 73 15 ((fi x 73 15) + (1 : Int32))) 73 12 ((fi (sfi x 73 15 ((fi x 73 15) + (1 : Int32))) 73 12) + (1 : Int32)))).bind fun q73_13 => jX11_one_83 g_X11_either g_X11_one q73_13.2 l1 q73_13.1 else (g_X11_one (sfi (sfi x 73 15 ((fi x 73 15) + (1 : Int32))) 73 12 ((fi (sfi x 73 15 ((fi x 73 15) + (1 : Int32))) 73 12) + (1 : Int32)))).bind fun q80_12 => jX11_one_83 g_X11_either g_X11_one q80_12.2 l1 q80_12.1
def sX11_one_176 (g_X11_either : aH → Option (Int32 × aH)) (g_X11_one : aH → Option (Int32 × aH)) (ih : aH → Int32 → Int32 → Option (Int32 × Int32 × aH)) (x : aH) (l3 : Int32) (l4 : Int32) : Option (Int32 × Int32 × aH) := if (4 : Int32) ≤ l4 then some (l3, l4, x) else (fX11_byteAt x).bind fun q183_21 => if q183_21 < (48 : Int32) then some (l3, l4, x) else (fX11_byteAt x).bind fun q192_23 => if (57 : Int32) < q192_23 then some (l3, l4, x) else (fX11_byteAt x).bind fun q205_25 => ih (sfi x 73 12 ((fi x 73 12) + (1 : Int32))) ((((10 : Int32) * l3) + q205_25) - (48 : Int32)) (l4 + (1 : Int32))
def wX11_one_176 (g_X11_either : aH → Option (Int32 × aH)) (g_X11_one : aH → Option (Int32 × aH)) : Nat → aH → Int32 → Int32 → Option (Int32 × Int32 × aH)
  | 0 => fun _ _ _ => none
  | n + 1 => sX11_one_176 g_X11_either g_X11_one (wX11_one_176 g_X11_either g_X11_one n)
def uX11_one (g_X11_either : aH → Option (Int32 × aH)) (g_X11_one : aH → Option (Int32 × aH)) (x : aH) : Option (Int32 × aH) := if (fi x 73 14) < (0 : Int32) then (fX11_byteAt x).bind fun q10_2 => if q10_2 = (33 : Int32) then jX11_one_32 g_X11_either g_X11_one x q10_2 else if q10_2 = (45 : Int32) then jX11_one_32 g_X11_either g_X11_one x q10_2 else if q10_2 = (40 : Int32) then jX11_one_32 g_X11_either g_X11_one x q10_2 else (fX11_nameOf q10_2).bind fun q146_18 => if q146_18 < (0 : Int32) then (wX11_one_176 g_X11_either g_X11_one 2000 x (0 : Int32) (0 : Int32)).bind fun q176_26 => if q176_26.2.1 = (0 : Int32) then (fX11_wrong q176_26.2.2).bind fun q235_28 => some (q235_28.1, q235_28.2) else some (q176_26.1, q176_26.2.2) else if (0 : Int32) ≤ q146_18 ∧ q146_18 < (6 : Int32) then some ((ri (sfi x 73 12 ((fi x 73 12) + (1 : Int32))) 80 (ix q146_18)), (sfi x 73 12 ((fi x 73 12) + (1 : Int32)))) else none else some ((0 : Int32), x)
theorem lX11_one_176 (Z : aZ) (y : aH) {D : Nat} (hK : 1 ≤ D) {g_X11_either : aH → Option (Int32 × aH)} (H_X11_either : ∀ (x : aH) {q : (Int32 × aH)}, g_X11_either x = some q → CX false Z mX11_either D [.ref 73] y x (RV (.int q.1) q.2)) {g_X11_one : aH → Option (Int32 × aH)} (H_X11_one : ∀ (x : aH) {q : (Int32 × aH)}, g_X11_one x = some q → CX false Z mX11_one D [.ref 73] y x (RV (.int q.1) q.2)) {Q : Option Value → aH → Prop} {R : (Int32 × Int32 × aH)} : ∀ (n : Nat) (x : aH) (l3 : Int32) (l4 : Int32), wX11_one_176 g_X11_either g_X11_one n x l3 l4 = some R → (∀ q, R = q → TX false Z mX11_one (D + 1) y q.2.2 Q 229 [.ref 73, .null, .null, .int (q.1), .int (q.2.1)] []) → TX false Z mX11_one (D + 1) y x Q 176 [.ref 73, .null, .null, .int l3, .int l4] [] := by
  intro n
  induction n with
  | zero => intro x l3 l4 hf; cases hf
  | succ n ih =>
    intro x l3 l4 hf ke
    replace hf : sX11_one_176 g_X11_either g_X11_one (wX11_one_176 g_X11_either g_X11_one n) x l3 l4 = some R := hf
    unfold sX11_one_176 at hf
    refine T_iload dX11_one_176 rfl ?_
    refine T_const dX11_one_178 ?_
    refine T_icmp_ge dX11_one_179 (fun c179_20 => ?_) (fun c179_20 => ?_)
    · replace hf := ite_t c179_20 hf
      exact X_wk (WK.s (WK.n (WK.n (WK.s (WK.s WK.e))))) (ke _ (Option.some.inj hf).symm)
    · replace hf := ite_f c179_20 hf
      refine T_aload dX11_one_182 rfl ?_
      obtain ⟨q183_21, hc183_21, hf⟩ := bind_t hf
      refine X_Vv (qX11_byteAt Z _ hc183_21) (Nat.le_trans (Nat.le_of_ble_eq_true rfl) hK) dX11_one_183 lvX11_162 rfl rfl ob73 (Nat.le_of_ble_eq_true rfl) ?_
      refine T_const dX11_one_186 ?_
      refine T_icmp_lt dX11_one_188 (fun c188_22 => ?_) (fun c188_22 => ?_)
      · replace hf := ite_t c188_22 hf
        exact X_wk (WK.s (WK.n (WK.n (WK.s (WK.s WK.e))))) (ke _ (Option.some.inj hf).symm)
      · replace hf := ite_f c188_22 hf
        refine T_aload dX11_one_191 rfl ?_
        obtain ⟨q192_23, hc192_23, hf⟩ := bind_t hf
        refine X_Vv (qX11_byteAt Z _ hc192_23) (Nat.le_trans (Nat.le_of_ble_eq_true rfl) hK) dX11_one_192 lvX11_162 rfl rfl ob73 (Nat.le_of_ble_eq_true rfl) ?_
        refine T_const dX11_one_195 ?_
        refine T_icmp_gt dX11_one_197 (fun c197_24 => ?_) (fun c197_24 => ?_)
        · replace hf := ite_t c197_24 hf
          exact X_wk (WK.s (WK.n (WK.n (WK.s (WK.s WK.e))))) (ke _ (Option.some.inj hf).symm)
        · replace hf := ite_f c197_24 hf
          refine T_const dX11_one_200 ?_
          refine T_iload dX11_one_202 rfl ?_
          refine T_imul dX11_one_203 ?_
          refine T_aload dX11_one_204 rfl ?_
          obtain ⟨q205_25, hc205_25, hf⟩ := bind_t hf
          refine X_Vv (qX11_byteAt Z _ hc205_25) (Nat.le_trans (Nat.le_of_ble_eq_true rfl) hK) dX11_one_205 lvX11_162 rfl rfl ob73 (Nat.le_of_ble_eq_true rfl) ?_
          refine T_iadd dX11_one_208 ?_
          refine T_const dX11_one_209 ?_
          refine T_isub dX11_one_211 ?_
          refine T_istore dX11_one_212 ?_
          show TX _ _ _ _ _ _ _ _ [_, _, _, _, _] _
          refine T_iinc dX11_one_213 rfl ?_
          show TX _ _ _ _ _ _ _ _ [_, _, _, _, _] _
          refine T_aload dX11_one_216 rfl ?_
          refine T_dup dX11_one_217 rfl ?_
          refine X_getf dX11_one_218 lfX11_150 rfl ob73 ?_
          refine T_const dX11_one_221 ?_
          refine T_iadd dX11_one_222 ?_
          refine X_putf dX11_one_223 lfX11_150 rfl rfl ob73 ⟨rfl, rfl⟩ ?_
          refine T_goto dX11_one_226 ?_
          exact X_wk (WK.s (WK.n (WK.n (WK.s (WK.s WK.e))))) (ih _ _ _ hf ke)
theorem pX11_one (Z : aZ) (y : aH) {D : Nat} (hK : 1 ≤ D) {g_X11_either : aH → Option (Int32 × aH)} (H_X11_either : ∀ (x : aH) {q : (Int32 × aH)}, g_X11_either x = some q → CX false Z mX11_either D [.ref 73] y x (RV (.int q.1) q.2)) {g_X11_one : aH → Option (Int32 × aH)} (H_X11_one : ∀ (x : aH) {q : (Int32 × aH)}, g_X11_one x = some q → CX false Z mX11_one D [.ref 73] y x (RV (.int q.1) q.2)) {x : aH} {q : (Int32 × aH)} (hf : uX11_one g_X11_either g_X11_one x = some q) : CX false Z mX11_one (D + 1) [.ref 73] y x (RV (.int q.1) q.2) := by
  refine CX.of mokX11_one (Nat.le_of_ble_eq_true rfl) ?_
  show TX _ _ _ _ _ _ _ _ [_, _, _, _, _] _
  unfold uX11_one at hf
  refine T_aload dX11_one_0 rfl ?_
  refine X_getf dX11_one_1 lfX11_159 rfl ob73 ?_
  refine T_if_lt dX11_one_4 (fun c4_1 => ?_) (fun c4_1 => ?_)
  · replace hf := ite_t c4_1 hf
    refine T_aload dX11_one_9 rfl ?_
    obtain ⟨q10_2, hc10_2, hf⟩ := bind_t hf
    refine X_Vv (qX11_byteAt Z _ hc10_2) (Nat.le_trans (Nat.le_of_ble_eq_true rfl) hK) dX11_one_10 lvX11_162 rfl rfl ob73 (Nat.le_of_ble_eq_true rfl) ?_
    refine T_istore dX11_one_13 ?_
    show TX _ _ _ _ _ _ _ _ [_, _, _, _, _] _
    refine T_iload dX11_one_14 rfl ?_
    refine T_const dX11_one_15 ?_
    have J32 : ∀ (x : aH) (l1 : Int32), jX11_one_32 g_X11_either g_X11_one x l1 = some q → TX false Z mX11_one (D + 1) y x (RV (.int q.1) q.2) 32 [.ref 73, .int l1, .null, .null, .null] [] := by
      intro x l1 hf
      unfold jX11_one_32 at hf
      refine T_aload dX11_one_32 rfl ?_
      refine X_getf dX11_one_33 lfX11_184 rfl ob73 ?_
      refine T_const dX11_one_36 ?_
      refine T_icmp_ne dX11_one_38 (fun c38_3 => ?_) (fun c38_3 => ?_)
      · replace hf := ite_f c38_3 hf
        refine T_aload dX11_one_46 rfl ?_
        refine T_dup dX11_one_47 rfl ?_
        refine X_getf dX11_one_48 lfX11_184 rfl ob73 ?_
        refine T_const dX11_one_51 ?_
        refine T_iadd dX11_one_52 ?_
        refine X_putf dX11_one_53 lfX11_184 rfl rfl ob73 ⟨rfl, rfl⟩ ?_
        refine T_aload dX11_one_56 rfl ?_
        refine T_dup dX11_one_57 rfl ?_
        refine X_getf dX11_one_58 lfX11_150 rfl ob73 ?_
        refine T_const dX11_one_61 ?_
        refine T_iadd dX11_one_62 ?_
        refine X_putf dX11_one_63 lfX11_150 rfl rfl ob73 ⟨rfl, rfl⟩ ?_
        refine T_iload dX11_one_66 rfl ?_
        refine T_const dX11_one_67 ?_
        have J83 : ∀ (x : aH) (l1 : Int32) (s0 : Int32), jX11_one_83 g_X11_either g_X11_one x l1 s0 = some q → TX false Z mX11_one (D + 1) y x (RV (.int q.1) q.2) 83 [.ref 73, .int l1, .null, .null, .null] [.int s0] := by
          intro x l1 s0 hf
          unfold jX11_one_83 at hf
          refine T_istore dX11_one_83 ?_
          show TX _ _ _ _ _ _ _ _ [_, _, _, _, _] _
          refine T_iload dX11_one_84 rfl ?_
          refine T_const dX11_one_85 ?_
          have J104 : ∀ (x : aH) (l1 : Int32) (l2 : Int32), jX11_one_104 g_X11_either g_X11_one x l1 l2 = some q → TX false Z mX11_one (D + 1) y x (RV (.int q.1) q.2) 104 [.ref 73, .int l1, .int l2, .null, .null] [] := by
            intro x l1 l2 hf
            unfold jX11_one_104 at hf
            refine T_aload dX11_one_104 rfl ?_
            refine T_dup dX11_one_105 rfl ?_
            refine X_getf dX11_one_106 lfX11_184 rfl ob73 ?_
            refine T_const dX11_one_109 ?_
            refine T_isub dX11_one_110 ?_
            refine X_putf dX11_one_111 lfX11_184 rfl rfl ob73 ⟨rfl, rfl⟩ ?_
            refine T_iload dX11_one_114 rfl ?_
            refine T_const dX11_one_115 ?_
            refine T_icmp_ne dX11_one_117 (fun c117_4 => ?_) (fun c117_4 => ?_)
            · replace hf := ite_f c117_4 hf
              refine T_iload dX11_one_124 rfl ?_
              refine T_const dX11_one_125 ?_
              refine T_icmp_ne dX11_one_127 (fun c127_5 => ?_) (fun c127_5 => ?_)
              · replace hf := ite_f c127_5 hf
                refine T_iload dX11_one_135 rfl ?_
                refine T_if_ne dX11_one_136 (fun c136_6 => ?_) (fun c136_6 => ?_)
                · replace hf := ite_f c136_6 hf
                  refine T_const dX11_one_143 ?_
                  obtain rfl := Option.some.inj hf
                  exact X_ri dX11_one_144 ⟨rfl, rfl⟩
                · replace hf := ite_t c136_6 hf
                  refine T_const dX11_one_139 ?_
                  refine T_goto dX11_one_140 ?_
                  obtain rfl := Option.some.inj hf
                  exact X_ri dX11_one_144 ⟨rfl, rfl⟩
              · replace hf := ite_t c127_5 hf
                refine T_iload dX11_one_130 rfl ?_
                refine T_ineg dX11_one_131 ?_
                refine T_goto dX11_one_132 ?_
                obtain rfl := Option.some.inj hf
                exact X_ri dX11_one_144 ⟨rfl, rfl⟩
            · replace hf := ite_t c117_4 hf
              refine T_iload dX11_one_120 rfl ?_
              refine T_goto dX11_one_121 ?_
              obtain rfl := Option.some.inj hf
              exact X_ri dX11_one_144 ⟨rfl, rfl⟩
          refine T_icmp_ne dX11_one_87 (fun c87_7 => ?_) (fun c87_7 => ?_)
          · replace hf := ite_f c87_7 hf
            exact X_wk (WK.s (WK.s (WK.s (WK.n (WK.n WK.e))))) (J104 _ _ _ hf)
          · replace hf := ite_t c87_7 hf
            refine T_aload dX11_one_90 rfl ?_
            refine T_const dX11_one_91 ?_
            obtain ⟨q93_8, hc93_8, hf⟩ := bind_t hf
            refine X_Vv (qX11_takes Z _ hc93_8) (Nat.le_trans (Nat.le_of_ble_eq_true rfl) hK) dX11_one_93 lvX11_169 rfl rfl ob73 (Nat.le_of_ble_eq_true rfl) ?_
            refine T_if_ne dX11_one_96 (fun c96_9 => ?_) (fun c96_9 => ?_)
            · replace hf := ite_f c96_9 hf
              exact X_wk (WK.s (WK.s (WK.s (WK.n (WK.n WK.e))))) (J104 _ _ _ hf)
            · replace hf := ite_t c96_9 hf
              refine T_aload dX11_one_99 rfl ?_
              obtain ⟨q100_10, hc100_10, hf⟩ := bind_t hf
              refine X_Vv (qX11_wrong Z _ hc100_10) (Nat.le_trans (Nat.le_of_ble_eq_true rfl) hK) dX11_one_100 lvX11_187 rfl rfl ob73 (Nat.le_of_ble_eq_true rfl) ?_
              obtain rfl := Option.some.inj hf
              exact X_ri dX11_one_103 ⟨rfl, rfl⟩
        refine T_icmp_ne dX11_one_69 (fun c69_11 => ?_) (fun c69_11 => ?_)
        · replace hf := ite_f c69_11 hf
          refine T_aload dX11_one_79 rfl ?_
          obtain ⟨q80_12, hc80_12, hf⟩ := bind_t hf
          refine X_Vv (H_X11_one _ hc80_12) (Nat.le_refl _) dX11_one_80 lvX11_181 rfl rfl ob73 (Nat.le_of_ble_eq_true rfl) ?_
          exact X_wk (WK.s (WK.s (WK.n (WK.n (WK.n WK.e))))) (J83 _ _ _ hf)
        · replace hf := ite_t c69_11 hf
          refine T_aload dX11_one_72 rfl ?_
          obtain ⟨q73_13, hc73_13, hf⟩ := bind_t hf
          refine X_Vv (H_X11_either _ hc73_13) (Nat.le_refl _) dX11_one_73 lvX11_190 rfl rfl ob73 (Nat.le_of_ble_eq_true rfl) ?_
          refine T_goto dX11_one_76 ?_
          exact X_wk (WK.s (WK.s (WK.n (WK.n (WK.n WK.e))))) (J83 _ _ _ hf)
      · replace hf := ite_t c38_3 hf
        refine T_aload dX11_one_41 rfl ?_
        obtain ⟨q42_14, hc42_14, hf⟩ := bind_t hf
        refine X_Vv (qX11_wrong Z _ hc42_14) (Nat.le_trans (Nat.le_of_ble_eq_true rfl) hK) dX11_one_42 lvX11_187 rfl rfl ob73 (Nat.le_of_ble_eq_true rfl) ?_
        obtain rfl := Option.some.inj hf
        exact X_ri dX11_one_45 ⟨rfl, rfl⟩
    refine T_icmp_eq dX11_one_17 (fun c17_15 => ?_) (fun c17_15 => ?_)
    · replace hf := ite_t c17_15 hf
      exact X_wk (WK.s (WK.s (WK.n (WK.n (WK.n WK.e))))) (J32 _ _ hf)
    · replace hf := ite_f c17_15 hf
      refine T_iload dX11_one_20 rfl ?_
      refine T_const dX11_one_21 ?_
      refine T_icmp_eq dX11_one_23 (fun c23_16 => ?_) (fun c23_16 => ?_)
      · replace hf := ite_t c23_16 hf
        exact X_wk (WK.s (WK.s (WK.n (WK.n (WK.n WK.e))))) (J32 _ _ hf)
      · replace hf := ite_f c23_16 hf
        refine T_iload dX11_one_26 rfl ?_
        refine T_const dX11_one_27 ?_
        refine T_icmp_ne dX11_one_29 (fun c29_17 => ?_) (fun c29_17 => ?_)
        · replace hf := ite_f c29_17 hf
          refine T_iload dX11_one_145 rfl ?_
          obtain ⟨q146_18, hc146_18, hf⟩ := bind_t hf
          refine X_Sv (qX11_nameOf _ Z _ _ hc146_18) (Nat.le_trans (Nat.le_of_ble_eq_true rfl) hK) dX11_one_146 lsX11_193 rfl rfl (Nat.le_of_ble_eq_true rfl) ?_
          refine T_istore dX11_one_149 ?_
          show TX _ _ _ _ _ _ _ _ [_, _, _, _, _] _
          refine T_iload dX11_one_150 rfl ?_
          refine T_if_lt dX11_one_151 (fun c151_19 => ?_) (fun c151_19 => ?_)
          · replace hf := ite_t c151_19 hf
            refine T_const dX11_one_171 ?_
            refine T_istore dX11_one_172 ?_
            show TX _ _ _ _ _ _ _ _ [_, _, _, _, _] _
            refine T_const dX11_one_173 ?_
            refine T_istore dX11_one_174 ?_
            show TX _ _ _ _ _ _ _ _ [_, _, _, _, _] _
            obtain ⟨q176_26, hc176_26, hf⟩ := bind_t hf
            refine X_wk (WK.s (WK.n (WK.n (WK.s (WK.s WK.e))))) (lX11_one_176 Z _ hK H_X11_either H_X11_one 2000 _ _ _ hc176_26 ?_)
            intro q176_26z hr
            subst hr
            refine T_iload dX11_one_229 rfl ?_
            refine T_if_ne dX11_one_231 (fun c231_27 => ?_) (fun c231_27 => ?_)
            · replace hf := ite_f c231_27 hf
              refine T_iload dX11_one_241 rfl ?_
              obtain rfl := Option.some.inj hf
              exact X_ri dX11_one_242 ⟨rfl, rfl⟩
            · replace hf := ite_t c231_27 hf
              refine T_aload dX11_one_234 rfl ?_
              obtain ⟨q235_28, hc235_28, hf⟩ := bind_t hf
              refine X_Vv (qX11_wrong Z _ hc235_28) (Nat.le_trans (Nat.le_of_ble_eq_true rfl) hK) dX11_one_235 lvX11_187 rfl rfl ob73 (Nat.le_of_ble_eq_true rfl) ?_
              refine T_goto dX11_one_238 ?_
              obtain rfl := Option.some.inj hf
              exact X_ri dX11_one_242 ⟨rfl, rfl⟩
          · replace hf := ite_f c151_19 hf
            refine T_aload dX11_one_154 rfl ?_
            refine T_dup dX11_one_155 rfl ?_
            refine X_getf dX11_one_156 lfX11_150 rfl ob73 ?_
            refine T_const dX11_one_159 ?_
            refine T_iadd dX11_one_160 ?_
            refine X_putf dX11_one_161 lfX11_150 rfl rfl ob73 ⟨rfl, rfl⟩ ?_
            refine T_aload dX11_one_164 rfl ?_
            refine X_getr dX11_one_165 lfX11_28 rfl ob73 rfl ?_
            refine T_iload dX11_one_168 rfl ?_
            obtain ⟨hb169_29, hf⟩ := opt_t hf
            refine X_iald (N := 6) dX11_one_169 ar80 rfl hb169_29 ?_
            obtain rfl := Option.some.inj hf
            exact X_ri dX11_one_170 ⟨rfl, rfl⟩
        · replace hf := ite_t c29_17 hf
          exact X_wk (WK.s (WK.s (WK.n (WK.n (WK.n WK.e))))) (J32 _ _ hf)
  · replace hf := ite_f c4_1 hf
    refine T_const dX11_one_7 ?_
    obtain rfl := Option.some.inj hf
    exact X_ri dX11_one_8 ⟨rfl, rfl⟩
def GX11_either : Nat → (aH → Option (Int32 × aH)) × (aH → Option (Int32 × aH)) × (aH → Option (Int32 × aH)) × (aH → Option (Int32 × aH)) × (aH → Option (Int32 × aH)) × (aH → Option (Int32 × aH))
  | 0 => (fun _ => none, fun _ => none, fun _ => none, fun _ => none, fun _ => none, fun _ => none)
  | n + 1 => (uX11_either ((GX11_either n).2.1), uX11_both ((GX11_either n).2.2.1), uX11_compared ((GX11_either n).2.2.2.1), uX11_sums ((GX11_either n).2.2.2.2.1), uX11_product ((GX11_either n).2.2.2.2.2), uX11_one ((GX11_either n).1) ((GX11_either n).2.2.2.2.2))
def fX11_either (n : Nat) : aH → Option (Int32 × aH) := (GX11_either n).1
def fX11_both (n : Nat) : aH → Option (Int32 × aH) := (GX11_either n).2.1
def fX11_compared (n : Nat) : aH → Option (Int32 × aH) := (GX11_either n).2.2.1
def fX11_sums (n : Nat) : aH → Option (Int32 × aH) := (GX11_either n).2.2.2.1
def fX11_product (n : Nat) : aH → Option (Int32 × aH) := (GX11_either n).2.2.2.2.1
def fX11_one (n : Nat) : aH → Option (Int32 × aH) := (GX11_either n).2.2.2.2.2
theorem fX11_either_S (n : Nat) : fX11_either (n + 1) = uX11_either (fX11_both n) := rfl
theorem fX11_both_S (n : Nat) : fX11_both (n + 1) = uX11_both (fX11_compared n) := rfl
theorem fX11_compared_S (n : Nat) : fX11_compared (n + 1) = uX11_compared (fX11_sums n) := rfl
theorem fX11_sums_S (n : Nat) : fX11_sums (n + 1) = uX11_sums (fX11_product n) := rfl
theorem fX11_product_S (n : Nat) : fX11_product (n + 1) = uX11_product (fX11_one n) := rfl
theorem fX11_one_S (n : Nat) : fX11_one (n + 1) = uX11_one (fX11_either n) (fX11_one n) := rfl
theorem qGX11_either (Z : aZ) (y : aH) : ∀ n, (∀ (x : aH) {q : (Int32 × aH)}, fX11_either n x = some q → CX false Z mX11_either (n + 1) [.ref 73] y x (RV (.int q.1) q.2)) ∧ (∀ (x : aH) {q : (Int32 × aH)}, fX11_both n x = some q → CX false Z mX11_both (n + 1) [.ref 73] y x (RV (.int q.1) q.2)) ∧ (∀ (x : aH) {q : (Int32 × aH)}, fX11_compared n x = some q → CX false Z mX11_compared (n + 1) [.ref 73] y x (RV (.int q.1) q.2)) ∧ (∀ (x : aH) {q : (Int32 × aH)}, fX11_sums n x = some q → CX false Z mX11_sums (n + 1) [.ref 73] y x (RV (.int q.1) q.2)) ∧ (∀ (x : aH) {q : (Int32 × aH)}, fX11_product n x = some q → CX false Z mX11_product (n + 1) [.ref 73] y x (RV (.int q.1) q.2)) ∧ (∀ (x : aH) {q : (Int32 × aH)}, fX11_one n x = some q → CX false Z mX11_one (n + 1) [.ref 73] y x (RV (.int q.1) q.2)) := by
  intro n
  induction n with
  | zero => exact ⟨(by intro _ q hf; cases hf), (by intro _ q hf; cases hf), (by intro _ q hf; cases hf), (by intro _ q hf; cases hf), (by intro _ q hf; cases hf), (by intro _ q hf; cases hf)⟩
  | succ n ih =>
    obtain ⟨ih_X11_either, ih_X11_both, ih_X11_compared, ih_X11_sums, ih_X11_product, ih_X11_one⟩ := ih
    exact ⟨(by intro _ q hf; exact (pX11_either Z y (D := n + 1) (Nat.le_add_left _ _) ih_X11_both hf).le (by omega)),
      (by intro _ q hf; exact (pX11_both Z y (D := n + 1) (Nat.le_add_left _ _) ih_X11_compared hf).le (by omega)),
      (by intro _ q hf; exact (pX11_compared Z y (D := n + 1) (Nat.le_add_left _ _) ih_X11_sums hf).le (by omega)),
      (by intro _ q hf; exact (pX11_sums Z y (D := n + 1) (Nat.le_add_left _ _) ih_X11_product hf).le (by omega)),
      (by intro _ q hf; exact (pX11_product Z y (D := n + 1) (Nat.le_add_left _ _) ih_X11_one hf).le (by omega)),
      (by intro _ q hf; exact (pX11_one Z y (D := n + 1) (Nat.le_add_left _ _) ih_X11_either ih_X11_one hf).le (by omega))⟩
theorem qX11_either (Z : aZ) (y : aH) {x : aH} {q : (Int32 × aH)} (hf : fX11_either 64 x = some q) : CX false Z mX11_either 65 [.ref 73] y x (RV (.int q.1) q.2) := (qGX11_either Z y 64).1 _ hf
theorem qX11_both (Z : aZ) (y : aH) {x : aH} {q : (Int32 × aH)} (hf : fX11_both 64 x = some q) : CX false Z mX11_both 65 [.ref 73] y x (RV (.int q.1) q.2) := (qGX11_either Z y 64).2.1 _ hf
theorem qX11_compared (Z : aZ) (y : aH) {x : aH} {q : (Int32 × aH)} (hf : fX11_compared 64 x = some q) : CX false Z mX11_compared 65 [.ref 73] y x (RV (.int q.1) q.2) := (qGX11_either Z y 64).2.2.1 _ hf
theorem qX11_sums (Z : aZ) (y : aH) {x : aH} {q : (Int32 × aH)} (hf : fX11_sums 64 x = some q) : CX false Z mX11_sums 65 [.ref 73] y x (RV (.int q.1) q.2) := (qGX11_either Z y 64).2.2.2.1 _ hf
theorem qX11_product (Z : aZ) (y : aH) {x : aH} {q : (Int32 × aH)} (hf : fX11_product 64 x = some q) : CX false Z mX11_product 65 [.ref 73] y x (RV (.int q.1) q.2) := (qGX11_either Z y 64).2.2.2.2.1 _ hf
theorem qX11_one (Z : aZ) (y : aH) {x : aH} {q : (Int32 × aH)} (hf : fX11_one 64 x = some q) : CX false Z mX11_one 65 [.ref 73] y x (RV (.int q.1) q.2) := (qGX11_either Z y 64).2.2.2.2.2 _ hf
def jX11_workOut_96 (ih : aH → Int32 → Int32 → Int32 → Option (Int32 × aH)) (x : aH) (l3 : Int32) (l4 : Int32) : Option (Int32 × aH) := (fX11_takes x (59 : Int32)).bind fun q99_4 => ih q99_4.2 l3 l4 q99_4.1
def jX11_workOut_74 (ih : aH → Int32 → Int32 → Int32 → Option (Int32 × aH)) (x : aH) (l3 : Int32) (l4 : Int32) (l6 : Int32) (l7 : Int32) : Option (Int32 × aH) := if (0 : Int32) ≤ (fi x 73 14) then jX11_workOut_96 ih x l3 l4 else if l7 = (0 : Int32) then jX11_workOut_96 ih x l3 l4 else if l3 = (0 : Int32) then jX11_workOut_96 ih x (1 : Int32) l6 else jX11_workOut_96 ih x l3 l4
def jX11_workOut_66 (ih : aH → Int32 → Int32 → Int32 → Option (Int32 × aH)) (x : aH) (l3 : Int32) (l4 : Int32) (s0 : Int32) : Option (Int32 × aH) := (fX11_either 64 x).bind fun q69_9 => jX11_workOut_74 ih q69_9.2 l3 l4 q69_9.1 s0
def sX11_workOut_33 (ih : aH → Int32 → Int32 → Int32 → Option (Int32 × aH)) (x : aH) (l3 : Int32) (l4 : Int32) (l5 : Int32) : Option (Int32 × aH) := if l5 = (0 : Int32) then some (l4, x) else (fX11_either 64 x).bind fun q39_2 => (fX11_takes q39_2.2 (63 : Int32)).bind fun q50_3 => if q50_3.1 = (0 : Int32) then jX11_workOut_74 ih q50_3.2 l3 l4 q39_2.1 (1 : Int32) else if q39_2.1 = (0 : Int32) then jX11_workOut_66 ih q50_3.2 l3 l4 (0 : Int32) else jX11_workOut_66 ih q50_3.2 l3 l4 (1 : Int32)
def wX11_workOut_33 : Nat → aH → Int32 → Int32 → Int32 → Option (Int32 × aH)
  | 0 => fun _ _ _ _ => none
  | n + 1 => sX11_workOut_33 (wX11_workOut_33 n)
def fX11_workOut (x : aH) (p1 : Int32) (p2 : Int32) : Option (Int32 × aH) := (wX11_workOut_33 2000 (sfi (sfi (sfi (sfi (sfi x 73 11 p1) 73 12 (0 : Int32)) 73 13 p2) 73 14 (-1 : Int32)) 73 15 (0 : Int32)) (0 : Int32) (0 : Int32) (1 : Int32)).bind fun q33_11 => if (0 : Int32) ≤ (fi q33_11.2 73 14) then some (q33_11.1, q33_11.2) else if (fi q33_11.2 73 13) ≤ (fi q33_11.2 73 12) then some (q33_11.1, q33_11.2) else (fX11_wrong q33_11.2).bind fun q126_14 => some (q126_14.1, q126_14.2)
theorem lX11_workOut_33 (Z : aZ) (y : aH) {Q : Option Value → aH → Prop} {R : (Int32 × aH)} : ∀ (n : Nat) (x : aH) (l3 : Int32) (l4 : Int32) (l5 : Int32), wX11_workOut_33 n x l3 l4 l5 = some R → (∀ q, R = q → TX false Z mX11_workOut 66 y q.2 Q 107 [.ref 73, .null, .null, .null, .int (q.1), .null, .null, .null] []) → TX false Z mX11_workOut 66 y x Q 33 [.ref 73, .null, .null, .int l3, .int l4, .int l5, .null, .null] [] := by
  intro n
  induction n with
  | zero => intro x l3 l4 l5 hf; cases hf
  | succ n ih =>
    intro x l3 l4 l5 hf ke
    replace hf : sX11_workOut_33 (wX11_workOut_33 n) x l3 l4 l5 = some R := hf
    unfold sX11_workOut_33 at hf
    refine T_iload dX11_workOut_33 rfl ?_
    refine T_if_eq dX11_workOut_35 (fun c35_1 => ?_) (fun c35_1 => ?_)
    · replace hf := ite_t c35_1 hf
      exact X_wk (WK.s (WK.n (WK.n (WK.n (WK.s (WK.n (WK.n (WK.n WK.e)))))))) (ke _ (Option.some.inj hf).symm)
    · replace hf := ite_f c35_1 hf
      refine T_aload dX11_workOut_38 rfl ?_
      obtain ⟨q39_2, hc39_2, hf⟩ := bind_t hf
      refine X_Vv (qX11_either Z _ hc39_2) (Nat.le_of_ble_eq_true rfl) dX11_workOut_39 lvX11_190 rfl rfl ob73 (Nat.le_of_ble_eq_true rfl) ?_
      refine T_istore dX11_workOut_42 ?_
      show TX _ _ _ _ _ _ _ _ [_, _, _, _, _, _, _, _] _
      refine T_const dX11_workOut_44 ?_
      refine T_istore dX11_workOut_45 ?_
      show TX _ _ _ _ _ _ _ _ [_, _, _, _, _, _, _, _] _
      refine T_aload dX11_workOut_47 rfl ?_
      refine T_const dX11_workOut_48 ?_
      obtain ⟨q50_3, hc50_3, hf⟩ := bind_t hf
      refine X_Vv (qX11_takes Z _ hc50_3) (Nat.le_of_ble_eq_true rfl) dX11_workOut_50 lvX11_169 rfl rfl ob73 (Nat.le_of_ble_eq_true rfl) ?_
      have J74 : ∀ (x : aH) (l3 : Int32) (l4 : Int32) (l6 : Int32) (l7 : Int32), jX11_workOut_74 (wX11_workOut_33 n) x l3 l4 l6 l7 = some R → TX false Z mX11_workOut 66 y x Q 74 [.ref 73, .null, .null, .int l3, .int l4, .null, .int l6, .int l7] [] := by
        intro x l3 l4 l6 l7 hf
        unfold jX11_workOut_74 at hf
        refine T_aload dX11_workOut_74 rfl ?_
        refine X_getf dX11_workOut_75 lfX11_159 rfl ob73 ?_
        have J96 : ∀ (x : aH) (l3 : Int32) (l4 : Int32), jX11_workOut_96 (wX11_workOut_33 n) x l3 l4 = some R → TX false Z mX11_workOut 66 y x Q 96 [.ref 73, .null, .null, .int l3, .int l4, .null, .null, .null] [] := by
          intro x l3 l4 hf
          unfold jX11_workOut_96 at hf
          refine T_aload dX11_workOut_96 rfl ?_
          refine T_const dX11_workOut_97 ?_
          obtain ⟨q99_4, hc99_4, hf⟩ := bind_t hf
          refine X_Vv (qX11_takes Z _ hc99_4) (Nat.le_of_ble_eq_true rfl) dX11_workOut_99 lvX11_169 rfl rfl ob73 (Nat.le_of_ble_eq_true rfl) ?_
          refine T_istore dX11_workOut_102 ?_
          show TX _ _ _ _ _ _ _ _ [_, _, _, _, _, _, _, _] _
          refine T_goto dX11_workOut_104 ?_
          exact X_wk (WK.s (WK.n (WK.n (WK.s (WK.s (WK.s (WK.n (WK.n WK.e)))))))) (ih _ _ _ _ hf ke)
        refine T_if_ge dX11_workOut_78 (fun c78_5 => ?_) (fun c78_5 => ?_)
        · replace hf := ite_t c78_5 hf
          exact X_wk (WK.s (WK.n (WK.n (WK.s (WK.s (WK.n (WK.n (WK.n WK.e)))))))) (J96 _ _ _ hf)
        · replace hf := ite_f c78_5 hf
          refine T_iload dX11_workOut_81 rfl ?_
          refine T_if_eq dX11_workOut_83 (fun c83_6 => ?_) (fun c83_6 => ?_)
          · replace hf := ite_t c83_6 hf
            exact X_wk (WK.s (WK.n (WK.n (WK.s (WK.s (WK.n (WK.n (WK.n WK.e)))))))) (J96 _ _ _ hf)
          · replace hf := ite_f c83_6 hf
            refine T_iload dX11_workOut_86 rfl ?_
            refine T_if_ne dX11_workOut_87 (fun c87_7 => ?_) (fun c87_7 => ?_)
            · replace hf := ite_f c87_7 hf
              exact X_wk (WK.s (WK.n (WK.n (WK.s (WK.s (WK.n (WK.n (WK.n WK.e)))))))) (J96 _ _ _ hf)
            · replace hf := ite_t c87_7 hf
              refine T_const dX11_workOut_90 ?_
              refine T_istore dX11_workOut_91 ?_
              show TX _ _ _ _ _ _ _ _ [_, _, _, _, _, _, _, _] _
              refine T_iload dX11_workOut_92 rfl ?_
              refine T_istore dX11_workOut_94 ?_
              show TX _ _ _ _ _ _ _ _ [_, _, _, _, _, _, _, _] _
              exact X_wk (WK.s (WK.n (WK.n (WK.s (WK.s (WK.n (WK.n (WK.n WK.e)))))))) (J96 _ _ _ hf)
      refine T_if_eq dX11_workOut_53 (fun c53_8 => ?_) (fun c53_8 => ?_)
      · replace hf := ite_t c53_8 hf
        exact X_wk (WK.s (WK.n (WK.n (WK.s (WK.s (WK.n (WK.s (WK.s WK.e)))))))) (J74 _ _ _ _ _ hf)
      · replace hf := ite_f c53_8 hf
        refine T_iload dX11_workOut_56 rfl ?_
        have J66 : ∀ (x : aH) (l3 : Int32) (l4 : Int32) (s0 : Int32), jX11_workOut_66 (wX11_workOut_33 n) x l3 l4 s0 = some R → TX false Z mX11_workOut 66 y x Q 66 [.ref 73, .null, .null, .int l3, .int l4, .null, .null, .null] [.int s0] := by
          intro x l3 l4 s0 hf
          unfold jX11_workOut_66 at hf
          refine T_istore dX11_workOut_66 ?_
          show TX _ _ _ _ _ _ _ _ [_, _, _, _, _, _, _, _] _
          refine T_aload dX11_workOut_68 rfl ?_
          obtain ⟨q69_9, hc69_9, hf⟩ := bind_t hf
          refine X_Vv (qX11_either Z _ hc69_9) (Nat.le_of_ble_eq_true rfl) dX11_workOut_69 lvX11_190 rfl rfl ob73 (Nat.le_of_ble_eq_true rfl) ?_
          refine T_istore dX11_workOut_72 ?_
          show TX _ _ _ _ _ _ _ _ [_, _, _, _, _, _, _, _] _
          exact X_wk (WK.s (WK.n (WK.n (WK.s (WK.s (WK.n (WK.s (WK.s WK.e)))))))) (J74 _ _ _ _ _ hf)
        refine T_if_eq dX11_workOut_58 (fun c58_10 => ?_) (fun c58_10 => ?_)
        · replace hf := ite_t c58_10 hf
          refine T_const dX11_workOut_65 ?_
          exact X_wk (WK.s (WK.n (WK.n (WK.s (WK.s (WK.n (WK.n (WK.n WK.e)))))))) (J66 _ _ _ _ hf)
        · replace hf := ite_f c58_10 hf
          refine T_const dX11_workOut_61 ?_
          refine T_goto dX11_workOut_62 ?_
          exact X_wk (WK.s (WK.n (WK.n (WK.s (WK.s (WK.n (WK.n (WK.n WK.e)))))))) (J66 _ _ _ _ hf)
theorem qX11_workOut (Z : aZ) (y : aH) {x : aH} {p1 : Int32} {p2 : Int32} {q : (Int32 × aH)} (hf : fX11_workOut x p1 p2 = some q) : CX false Z mX11_workOut 66 [.ref 73, .int p1, .int p2] y x (RV (.int q.1) q.2) := by
  refine CX.of mokX11_workOut (Nat.le_of_ble_eq_true rfl) ?_
  show TX _ _ _ _ _ _ _ _ [_, _, _, _, _, _, _, _] _
  unfold fX11_workOut at hf
  refine T_aload dX11_workOut_0 rfl ?_
  refine T_iload dX11_workOut_1 rfl ?_
  refine X_putf dX11_workOut_2 lfX11_156 rfl rfl ob73 ⟨rfl, rfl⟩ ?_
  refine T_aload dX11_workOut_5 rfl ?_
  refine T_const dX11_workOut_6 ?_
  refine X_putf dX11_workOut_7 lfX11_150 rfl rfl ob73 ⟨rfl, rfl⟩ ?_
  refine T_aload dX11_workOut_10 rfl ?_
  refine T_iload dX11_workOut_11 rfl ?_
  refine X_putf dX11_workOut_12 lfX11_153 rfl rfl ob73 ⟨rfl, rfl⟩ ?_
  refine T_aload dX11_workOut_15 rfl ?_
  refine T_const dX11_workOut_16 ?_
  refine X_putf dX11_workOut_17 lfX11_159 rfl rfl ob73 ⟨rfl, rfl⟩ ?_
  refine T_aload dX11_workOut_20 rfl ?_
  refine T_const dX11_workOut_21 ?_
  refine X_putf dX11_workOut_22 lfX11_184 rfl rfl ob73 ⟨rfl, rfl⟩ ?_
  refine T_const dX11_workOut_25 ?_
  refine T_istore dX11_workOut_26 ?_
  show TX _ _ _ _ _ _ _ _ [_, _, _, _, _, _, _, _] _
  refine T_const dX11_workOut_27 ?_
  refine T_istore dX11_workOut_28 ?_
  show TX _ _ _ _ _ _ _ _ [_, _, _, _, _, _, _, _] _
  refine T_const dX11_workOut_30 ?_
  refine T_istore dX11_workOut_31 ?_
  show TX _ _ _ _ _ _ _ _ [_, _, _, _, _, _, _, _] _
  obtain ⟨q33_11, hc33_11, hf⟩ := bind_t hf
  refine X_wk (WK.s (WK.n (WK.n (WK.s (WK.s (WK.s (WK.n (WK.n WK.e)))))))) (lX11_workOut_33 Z _ 2000 _ _ _ _ hc33_11 ?_)
  intro q33_11z hr
  subst hr
  refine T_aload dX11_workOut_107 rfl ?_
  refine X_getf dX11_workOut_108 lfX11_159 rfl ob73 ?_
  refine T_if_ge dX11_workOut_111 (fun c111_12 => ?_) (fun c111_12 => ?_)
  · replace hf := ite_t c111_12 hf
    refine T_iload dX11_workOut_130 rfl ?_
    obtain rfl := Option.some.inj hf
    exact X_ri dX11_workOut_132 ⟨rfl, rfl⟩
  · replace hf := ite_f c111_12 hf
    refine T_aload dX11_workOut_114 rfl ?_
    refine X_getf dX11_workOut_115 lfX11_150 rfl ob73 ?_
    refine T_aload dX11_workOut_118 rfl ?_
    refine X_getf dX11_workOut_119 lfX11_153 rfl ob73 ?_
    refine T_icmp_ge dX11_workOut_122 (fun c122_13 => ?_) (fun c122_13 => ?_)
    · replace hf := ite_t c122_13 hf
      refine T_iload dX11_workOut_130 rfl ?_
      obtain rfl := Option.some.inj hf
      exact X_ri dX11_workOut_132 ⟨rfl, rfl⟩
    · replace hf := ite_f c122_13 hf
      refine T_aload dX11_workOut_125 rfl ?_
      obtain ⟨q126_14, hc126_14, hf⟩ := bind_t hf
      refine X_Vv (qX11_wrong Z _ hc126_14) (Nat.le_of_ble_eq_true rfl) dX11_workOut_126 lvX11_187 rfl rfl ob73 (Nat.le_of_ble_eq_true rfl) ?_
      obtain rfl := Option.some.inj hf
      exact X_ri dX11_workOut_129 ⟨rfl, rfl⟩
def sX11_law_37 (l2 : Int32) (ih : aH → Int32 → Option aH) (x : aH) (l3 : Int32) : Option aH := if l2 ≤ l3 then some x else if (0 : Int32) ≤ l3 ∧ l3 < (120 : Int32) then if (0 : Int32) ≤ l3 ∧ l3 < (120 : Int32) then ih (sri x 79 (ix l3) (ri x 78 (ix l3))) (l3 + (1 : Int32)) else none else none
def wX11_law_37 (l2 : Int32) : Nat → aH → Int32 → Option aH
  | 0 => fun _ _ => none
  | n + 1 => sX11_law_37 l2 (wX11_law_37 l2 n)
def fX11_law (x : aH) : Option (Int32 × aH) := (fX11_workOut x (-1 : Int32) (fi x 73 8)).bind fun q6_1 => if (fi (sfi q6_1.2 73 8 (0 : Int32)) 73 14) < (0 : Int32) then (wX11_law_37 (fi q6_1.2 73 8) 2000 (sfi q6_1.2 73 8 (0 : Int32)) (0 : Int32)).bind fun q37_6 => some ((1 : Int32), (sfi q37_6 73 10 (fi q6_1.2 73 8))) else some (((-100 : Int32) - (fi (sfi q6_1.2 73 8 (0 : Int32)) 73 14)), (sfi q6_1.2 73 8 (0 : Int32)))
theorem lX11_law_37 (Z : aZ) (y : aH) (l2 : Int32) {Q : Option Value → aH → Prop} {R : aH} : ∀ (n : Nat) (x : aH) (l3 : Int32), wX11_law_37 l2 n x l3 = some R → (∀ q, R = q → TX false Z mX11_law 67 y q Q 60 [.ref 73, .null, .int l2, .null] []) → TX false Z mX11_law 67 y x Q 37 [.ref 73, .null, .int l2, .int l3] [] := by
  intro n
  induction n with
  | zero => intro x l3 hf; cases hf
  | succ n ih =>
    intro x l3 hf ke
    replace hf : sX11_law_37 l2 (wX11_law_37 l2 n) x l3 = some R := hf
    unfold sX11_law_37 at hf
    refine T_iload dX11_law_37 rfl ?_
    refine T_iload dX11_law_38 rfl ?_
    refine T_icmp_ge dX11_law_39 (fun c39_3 => ?_) (fun c39_3 => ?_)
    · replace hf := ite_t c39_3 hf
      exact X_wk (WK.s (WK.n (WK.s (WK.n WK.e)))) (ke _ (Option.some.inj hf).symm)
    · replace hf := ite_f c39_3 hf
      refine T_aload dX11_law_42 rfl ?_
      refine X_getr dX11_law_43 lfX11_25 rfl ob73 rfl ?_
      refine T_iload dX11_law_46 rfl ?_
      refine T_aload dX11_law_47 rfl ?_
      refine X_getr dX11_law_48 lfX11_22 rfl ob73 rfl ?_
      refine T_iload dX11_law_51 rfl ?_
      obtain ⟨hb52_4, hf⟩ := opt_t hf
      refine X_iald (N := 120) dX11_law_52 ar78 rfl hb52_4 ?_
      obtain ⟨hb53_5, hf⟩ := opt_t hf
      refine X_iast (N := 120) dX11_law_53 ar79 rfl hb53_5 ?_
      refine T_iinc dX11_law_54 rfl ?_
      show TX _ _ _ _ _ _ _ _ [_, _, _, _] _
      refine T_goto dX11_law_57 ?_
      exact X_wk (WK.s (WK.n (WK.s (WK.s WK.e)))) (ih _ _ hf ke)
theorem qX11_law (Z : aZ) (y : aH) {x : aH} {q : (Int32 × aH)} (hf : fX11_law x = some q) : CX false Z mX11_law 67 [.ref 73] y x (RV (.int q.1) q.2) := by
  refine CX.of mokX11_law (Nat.le_of_ble_eq_true rfl) ?_
  show TX _ _ _ _ _ _ _ _ [_, _, _, _] _
  unfold fX11_law at hf
  refine T_aload dX11_law_0 rfl ?_
  refine T_const dX11_law_1 ?_
  refine T_aload dX11_law_2 rfl ?_
  refine X_getf dX11_law_3 lfX11_147 rfl ob73 ?_
  obtain ⟨q6_1, hc6_1, hf⟩ := bind_t hf
  refine X_Vv (qX11_workOut Z _ hc6_1) (Nat.le_of_ble_eq_true rfl) dX11_law_6 lvX11_197 rfl rfl ob73 (Nat.le_of_ble_eq_true rfl) ?_
  refine T_istore dX11_law_9 ?_
  show TX _ _ _ _ _ _ _ _ [_, _, _, _] _
  refine T_aload dX11_law_10 rfl ?_
  refine X_getf dX11_law_11 lfX11_147 rfl ob73 ?_
  refine T_istore dX11_law_14 ?_
  show TX _ _ _ _ _ _ _ _ [_, _, _, _] _
  refine T_aload dX11_law_15 rfl ?_
  refine T_const dX11_law_16 ?_
  refine X_putf dX11_law_17 lfX11_147 rfl rfl ob73 ⟨rfl, rfl⟩ ?_
  refine T_aload dX11_law_20 rfl ?_
  refine X_getf dX11_law_21 lfX11_159 rfl ob73 ?_
  refine T_if_lt dX11_law_24 (fun c24_2 => ?_) (fun c24_2 => ?_)
  · replace hf := ite_t c24_2 hf
    refine T_const dX11_law_35 ?_
    refine T_istore dX11_law_36 ?_
    show TX _ _ _ _ _ _ _ _ [_, _, _, _] _
    obtain ⟨q37_6, hc37_6, hf⟩ := bind_t hf
    refine X_wk (WK.s (WK.n (WK.s (WK.s WK.e)))) (lX11_law_37 Z _ _ 2000 _ _ hc37_6 ?_)
    intro q37_6z hr
    subst hr
    refine T_aload dX11_law_60 rfl ?_
    refine T_iload dX11_law_61 rfl ?_
    refine X_putf dX11_law_62 lfX11_83 rfl rfl ob73 ⟨rfl, rfl⟩ ?_
    refine T_const dX11_law_65 ?_
    obtain rfl := Option.some.inj hf
    exact X_ri dX11_law_66 ⟨rfl, rfl⟩
  · replace hf := ite_f c24_2 hf
    refine T_const dX11_law_27 ?_
    refine T_aload dX11_law_29 rfl ?_
    refine X_getf dX11_law_30 lfX11_159 rfl ob73 ?_
    refine T_isub dX11_law_33 ?_
    obtain rfl := Option.some.inj hf
    exact X_ri dX11_law_34 ⟨rfl, rfl⟩
def sX11_begins_2 (ih : aH → Int32 → Option aH) (x : aH) (l1 : Int32) : Option aH := if (fi x 73 6) ≤ l1 then some x else if (0 : Int32) ≤ l1 ∧ l1 < (172 : Int32) then if (0 : Int32) ≤ l1 ∧ l1 < (10 : Int32) then if (0 : Int32) ≤ ((30 : Int32) + l1) ∧ ((30 : Int32) + l1) < (172 : Int32) then if (0 : Int32) ≤ l1 ∧ l1 < (10 : Int32) then ih (sri (sri x 81 (ix l1) (ri x 74 (ix l1))) 82 (ix l1) (ri (sri x 81 (ix l1) (ri x 74 (ix l1))) 74 (ix ((30 : Int32) + l1)))) (l1 + (1 : Int32)) else none else none else none else none
def wX11_begins_2 : Nat → aH → Int32 → Option aH
  | 0 => fun _ _ => none
  | n + 1 => sX11_begins_2 (wX11_begins_2 n)
def fX11_begins (x : aH) : Option aH := (wX11_begins_2 2000 x (0 : Int32)).bind fun q2_6 => some (sfi q2_6 73 19 (ri q2_6 74 (ix (169 : Int32))))
theorem lX11_begins_2 (Z : aZ) (y : aH) {Q : Option Value → aH → Prop} {R : aH} : ∀ (n : Nat) (x : aH) (l1 : Int32), wX11_begins_2 n x l1 = some R → (∀ q, R = q → TX false Z mX11_begins 0 y q Q 43 [.ref 73, .null] []) → TX false Z mX11_begins 0 y x Q 2 [.ref 73, .int l1] [] := by
  intro n
  induction n with
  | zero => intro x l1 hf; cases hf
  | succ n ih =>
    intro x l1 hf ke
    replace hf : sX11_begins_2 (wX11_begins_2 n) x l1 = some R := hf
    unfold sX11_begins_2 at hf
    refine T_iload dX11_begins_2 rfl ?_
    refine T_aload dX11_begins_3 rfl ?_
    refine X_getf dX11_begins_4 lfX11_93 rfl ob73 ?_
    refine T_icmp_ge dX11_begins_7 (fun c7_1 => ?_) (fun c7_1 => ?_)
    · replace hf := ite_t c7_1 hf
      exact X_wk (WK.s (WK.n WK.e)) (ke _ (Option.some.inj hf).symm)
    · replace hf := ite_f c7_1 hf
      refine T_aload dX11_begins_10 rfl ?_
      refine X_getr dX11_begins_11 lfX11_31 rfl ob73 rfl ?_
      refine T_iload dX11_begins_14 rfl ?_
      refine T_aload dX11_begins_15 rfl ?_
      refine X_getr dX11_begins_16 lfX11_9 rfl ob73 rfl ?_
      refine T_iload dX11_begins_19 rfl ?_
      obtain ⟨hb20_2, hf⟩ := opt_t hf
      refine X_iald (N := 172) dX11_begins_20 ar74 rfl hb20_2 ?_
      obtain ⟨hb21_3, hf⟩ := opt_t hf
      refine X_iast (N := 10) dX11_begins_21 ar81 rfl hb21_3 ?_
      refine T_aload dX11_begins_22 rfl ?_
      refine X_getr dX11_begins_23 lfX11_34 rfl ob73 rfl ?_
      refine T_iload dX11_begins_26 rfl ?_
      refine T_aload dX11_begins_27 rfl ?_
      refine X_getr dX11_begins_28 lfX11_9 rfl ob73 rfl ?_
      refine T_const dX11_begins_31 ?_
      refine T_iload dX11_begins_33 rfl ?_
      refine T_iadd dX11_begins_34 ?_
      obtain ⟨hb35_4, hf⟩ := opt_t hf
      refine X_iald (N := 172) dX11_begins_35 ar74 rfl hb35_4 ?_
      obtain ⟨hb36_5, hf⟩ := opt_t hf
      refine X_iast (N := 10) dX11_begins_36 ar82 rfl hb36_5 ?_
      refine T_iinc dX11_begins_37 rfl ?_
      show TX _ _ _ _ _ _ _ _ [_, _] _
      refine T_goto dX11_begins_40 ?_
      exact X_wk (WK.s (WK.s WK.e)) (ih _ _ hf ke)
theorem qX11_begins (Z : aZ) (y : aH) {x : aH} {q : aH} (hf : fX11_begins x = some q) : CX false Z mX11_begins 0 [.ref 73] y x (RN q) := by
  refine CX.of mokX11_begins (Nat.le_of_ble_eq_true rfl) ?_
  show TX _ _ _ _ _ _ _ _ [_, _] _
  unfold fX11_begins at hf
  refine T_const dX11_begins_0 ?_
  refine T_istore dX11_begins_1 ?_
  show TX _ _ _ _ _ _ _ _ [_, _] _
  obtain ⟨q2_6, hc2_6, hf⟩ := bind_t hf
  refine X_wk (WK.s (WK.s WK.e)) (lX11_begins_2 Z _ 2000 _ _ hc2_6 ?_)
  intro q2_6z hr
  subst hr
  refine T_aload dX11_begins_43 rfl ?_
  refine T_aload dX11_begins_44 rfl ?_
  refine X_getr dX11_begins_45 lfX11_9 rfl ob73 rfl ?_
  refine T_const dX11_begins_48 ?_
  refine X_iald (N := 172) dX11_begins_51 ar74 rfl (by decide) ?_
  refine X_putf dX11_begins_52 lfX11_200 rfl rfl ob73 ⟨rfl, rfl⟩ ?_
  obtain rfl := Option.some.inj hf
  exact X_rv dX11_begins_55 ⟨rfl, rfl⟩
def fX11_sizeOf (p0 : Int32) : Option Int32 := if (0 : Int32) ≤ p0 then some p0 else some (-p0)
theorem qX11_sizeOf (sd : Bool) (Z : aZ) (y : aH) (x : aH) {p0 : Int32} {q : Int32} (hf : fX11_sizeOf p0 = some q) : CX sd Z mX11_sizeOf 0 [.int p0] y x (RV (.int q) x) := by
  refine CX.of mokX11_sizeOf (Nat.le_of_ble_eq_true rfl) ?_
  show TX _ _ _ _ _ _ _ _ [_] _
  unfold fX11_sizeOf at hf
  refine T_iload dX11_sizeOf_0 rfl ?_
  refine T_if_ge dX11_sizeOf_1 (fun c1_1 => ?_) (fun c1_1 => ?_)
  · replace hf := ite_t c1_1 hf
    refine T_iload dX11_sizeOf_9 rfl ?_
    obtain rfl := Option.some.inj hf
    exact X_ri dX11_sizeOf_10 ⟨rfl, rfl⟩
  · replace hf := ite_f c1_1 hf
    refine T_iload dX11_sizeOf_4 rfl ?_
    refine T_ineg dX11_sizeOf_5 ?_
    refine T_goto dX11_sizeOf_6 ?_
    obtain rfl := Option.some.inj hf
    exact X_ri dX11_sizeOf_10 ⟨rfl, rfl⟩
def fX11_alongX (x : aH) (p1 : Int32) : Option Int32 := some ((p1 - p1 / (8 : Int32) * (8 : Int32)) - ((ri x 74 (ix (168 : Int32))) - (ri x 74 (ix (168 : Int32))) / (8 : Int32) * (8 : Int32)))
theorem qX11_alongX (Z : aZ) (y : aH) {x : aH} {p1 : Int32} {q : Int32} (hf : fX11_alongX x p1 = some q) : CX false Z mX11_alongX 0 [.ref 73, .int p1] y x (RV (.int q) x) := by
  refine CX.of mokX11_alongX (Nat.le_of_ble_eq_true rfl) ?_
  show TX _ _ _ _ _ _ _ _ [_, _] _
  unfold fX11_alongX at hf
  refine T_iload dX11_alongX_0 rfl ?_
  refine T_const dX11_alongX_1 ?_
  refine T_irem dX11_alongX_3 (by decide) ?_
  refine T_aload dX11_alongX_4 rfl ?_
  refine X_getr dX11_alongX_5 lfX11_9 rfl ob73 rfl ?_
  refine T_const dX11_alongX_8 ?_
  refine X_iald (N := 172) dX11_alongX_11 ar74 rfl (by decide) ?_
  refine T_const dX11_alongX_12 ?_
  refine T_irem dX11_alongX_14 (by decide) ?_
  refine T_isub dX11_alongX_15 ?_
  obtain rfl := Option.some.inj hf
  exact X_ri dX11_alongX_16 ⟨rfl, rfl⟩
def fX11_alongY (x : aH) (p1 : Int32) : Option Int32 := some ((p1 / (8 : Int32)) - ((ri x 74 (ix (168 : Int32))) / (8 : Int32)))
theorem qX11_alongY (Z : aZ) (y : aH) {x : aH} {p1 : Int32} {q : Int32} (hf : fX11_alongY x p1 = some q) : CX false Z mX11_alongY 0 [.ref 73, .int p1] y x (RV (.int q) x) := by
  refine CX.of mokX11_alongY (Nat.le_of_ble_eq_true rfl) ?_
  show TX _ _ _ _ _ _ _ _ [_, _] _
  unfold fX11_alongY at hf
  refine T_iload dX11_alongY_0 rfl ?_
  refine T_const dX11_alongY_1 ?_
  refine T_idiv dX11_alongY_3 (by decide) ?_
  refine T_aload dX11_alongY_4 rfl ?_
  refine X_getr dX11_alongY_5 lfX11_9 rfl ob73 rfl ?_
  refine T_const dX11_alongY_8 ?_
  refine X_iald (N := 172) dX11_alongY_11 ar74 rfl (by decide) ?_
  refine T_const dX11_alongY_12 ?_
  refine T_idiv dX11_alongY_14 (by decide) ?_
  refine T_isub dX11_alongY_15 ?_
  obtain rfl := Option.some.inj hf
  exact X_ri dX11_alongY_16 ⟨rfl, rfl⟩
def jX11_isSeen_65 (x : aH) (l3 : Int32) (s0 : Int32) : Option Int32 := (fX11_sizeOf s0).bind fun q65_1 => if l3 < (1 : Int32) then some (0 : Int32) else if l3 < q65_1 then some (0 : Int32) else some (1 : Int32)
def jX11_isSeen_45 (x : aH) (l1 : Int32) (l2 : Int32) (s0 : Int32) : Option Int32 := if (l2 - l2 / (2 : Int32) * (2 : Int32)) = (0 : Int32) then (fX11_alongX x l1).bind fun q54_6 => jX11_isSeen_65 x s0 q54_6 else (fX11_alongY x l1).bind fun q62_5 => jX11_isSeen_65 x s0 q62_5
def fX11_isSeen (x : aH) (p1 : Int32) (p2 : Int32) : Option Int32 := if p2 = (0 : Int32) then (fX11_alongY x p1).bind fun q6_13 => jX11_isSeen_45 x p1 p2 (-q6_13) else if p2 = (1 : Int32) then (fX11_alongX x p1).bind fun q20_12 => jX11_isSeen_45 x p1 p2 q20_12 else if p2 = (2 : Int32) then (fX11_alongY x p1).bind fun q33_11 => jX11_isSeen_45 x p1 p2 q33_11 else (fX11_alongX x p1).bind fun q41_10 => jX11_isSeen_45 x p1 p2 (-q41_10)
theorem qX11_isSeen (Z : aZ) (y : aH) {x : aH} {p1 : Int32} {p2 : Int32} {q : Int32} (hf : fX11_isSeen x p1 p2 = some q) : CX false Z mX11_isSeen 1 [.ref 73, .int p1, .int p2] y x (RV (.int q) x) := by
  refine CX.of mokX11_isSeen (Nat.le_of_ble_eq_true rfl) ?_
  show TX _ _ _ _ _ _ _ _ [_, _, _, _, _] _
  unfold fX11_isSeen at hf
  refine T_iload dX11_isSeen_0 rfl ?_
  have J45 : ∀ (l1 : Int32) (l2 : Int32) (s0 : Int32), jX11_isSeen_45 x l1 l2 s0 = some q → TX false Z mX11_isSeen 1 y x (RV (.int q) x) 45 [.ref 73, .int l1, .int l2, .null, .null] [.int s0] := by
    intro l1 l2 s0 hf
    unfold jX11_isSeen_45 at hf
    refine T_istore dX11_isSeen_45 ?_
    show TX _ _ _ _ _ _ _ _ [_, _, _, _, _] _
    refine T_iload dX11_isSeen_46 rfl ?_
    refine T_const dX11_isSeen_47 ?_
    refine T_irem dX11_isSeen_48 (by decide) ?_
    have J65 : ∀ (l3 : Int32) (s0 : Int32), jX11_isSeen_65 x l3 s0 = some q → TX false Z mX11_isSeen 1 y x (RV (.int q) x) 65 [.null, .null, .null, .int l3, .null] [.int s0] := by
      intro l3 s0 hf
      unfold jX11_isSeen_65 at hf
      obtain ⟨q65_1, hc65_1, hf⟩ := bind_t hf
      refine X_Sv (qX11_sizeOf _ Z _ _ hc65_1) (Nat.le_of_ble_eq_true rfl) dX11_isSeen_65 lsX11_209 rfl rfl (Nat.le_of_ble_eq_true rfl) ?_
      refine T_istore dX11_isSeen_68 ?_
      show TX _ _ _ _ _ _ _ _ [_, _, _, _, _] _
      refine T_iload dX11_isSeen_70 rfl ?_
      refine T_const dX11_isSeen_71 ?_
      refine T_icmp_lt dX11_isSeen_72 (fun c72_2 => ?_) (fun c72_2 => ?_)
      · replace hf := ite_t c72_2 hf
        refine T_const dX11_isSeen_85 ?_
        obtain rfl := Option.some.inj hf
        exact X_rz dX11_isSeen_86 (by first | exact Or.inl rfl | exact Or.inr rfl) ⟨rfl, rfl⟩
      · replace hf := ite_f c72_2 hf
        refine T_iload dX11_isSeen_75 rfl ?_
        refine T_iload dX11_isSeen_77 rfl ?_
        refine T_icmp_gt dX11_isSeen_78 (fun c78_3 => ?_) (fun c78_3 => ?_)
        · replace hf := ite_t c78_3 hf
          refine T_const dX11_isSeen_85 ?_
          obtain rfl := Option.some.inj hf
          exact X_rz dX11_isSeen_86 (by first | exact Or.inl rfl | exact Or.inr rfl) ⟨rfl, rfl⟩
        · replace hf := ite_f c78_3 hf
          refine T_const dX11_isSeen_81 ?_
          refine T_goto dX11_isSeen_82 ?_
          obtain rfl := Option.some.inj hf
          exact X_rz dX11_isSeen_86 (by first | exact Or.inl rfl | exact Or.inr rfl) ⟨rfl, rfl⟩
    refine T_if_ne dX11_isSeen_49 (fun c49_4 => ?_) (fun c49_4 => ?_)
    · replace hf := ite_f c49_4 hf
      refine T_aload dX11_isSeen_60 rfl ?_
      refine T_iload dX11_isSeen_61 rfl ?_
      obtain ⟨q62_5, hc62_5, hf⟩ := bind_t hf
      refine X_Vv (qX11_alongY Z _ hc62_5) (Nat.le_of_ble_eq_true rfl) dX11_isSeen_62 lvX11_203 rfl rfl ob73 (Nat.le_of_ble_eq_true rfl) ?_
      exact X_wk (WK.n (WK.n (WK.n (WK.s (WK.n WK.e))))) (J65 _ _ hf)
    · replace hf := ite_t c49_4 hf
      refine T_aload dX11_isSeen_52 rfl ?_
      refine T_iload dX11_isSeen_53 rfl ?_
      obtain ⟨q54_6, hc54_6, hf⟩ := bind_t hf
      refine X_Vv (qX11_alongX Z _ hc54_6) (Nat.le_of_ble_eq_true rfl) dX11_isSeen_54 lvX11_206 rfl rfl ob73 (Nat.le_of_ble_eq_true rfl) ?_
      refine T_goto dX11_isSeen_57 ?_
      exact X_wk (WK.n (WK.n (WK.n (WK.s (WK.n WK.e))))) (J65 _ _ hf)
  refine T_if_ne dX11_isSeen_1 (fun c1_7 => ?_) (fun c1_7 => ?_)
  · replace hf := ite_f c1_7 hf
    refine T_iload dX11_isSeen_13 rfl ?_
    refine T_const dX11_isSeen_14 ?_
    refine T_icmp_ne dX11_isSeen_15 (fun c15_8 => ?_) (fun c15_8 => ?_)
    · replace hf := ite_f c15_8 hf
      refine T_iload dX11_isSeen_26 rfl ?_
      refine T_const dX11_isSeen_27 ?_
      refine T_icmp_ne dX11_isSeen_28 (fun c28_9 => ?_) (fun c28_9 => ?_)
      · replace hf := ite_f c28_9 hf
        refine T_aload dX11_isSeen_39 rfl ?_
        refine T_iload dX11_isSeen_40 rfl ?_
        obtain ⟨q41_10, hc41_10, hf⟩ := bind_t hf
        refine X_Vv (qX11_alongX Z _ hc41_10) (Nat.le_of_ble_eq_true rfl) dX11_isSeen_41 lvX11_206 rfl rfl ob73 (Nat.le_of_ble_eq_true rfl) ?_
        refine T_ineg dX11_isSeen_44 ?_
        exact X_wk (WK.s (WK.s (WK.s (WK.n (WK.n WK.e))))) (J45 _ _ _ hf)
      · replace hf := ite_t c28_9 hf
        refine T_aload dX11_isSeen_31 rfl ?_
        refine T_iload dX11_isSeen_32 rfl ?_
        obtain ⟨q33_11, hc33_11, hf⟩ := bind_t hf
        refine X_Vv (qX11_alongY Z _ hc33_11) (Nat.le_of_ble_eq_true rfl) dX11_isSeen_33 lvX11_203 rfl rfl ob73 (Nat.le_of_ble_eq_true rfl) ?_
        refine T_goto dX11_isSeen_36 ?_
        exact X_wk (WK.s (WK.s (WK.s (WK.n (WK.n WK.e))))) (J45 _ _ _ hf)
    · replace hf := ite_t c15_8 hf
      refine T_aload dX11_isSeen_18 rfl ?_
      refine T_iload dX11_isSeen_19 rfl ?_
      obtain ⟨q20_12, hc20_12, hf⟩ := bind_t hf
      refine X_Vv (qX11_alongX Z _ hc20_12) (Nat.le_of_ble_eq_true rfl) dX11_isSeen_20 lvX11_206 rfl rfl ob73 (Nat.le_of_ble_eq_true rfl) ?_
      refine T_goto dX11_isSeen_23 ?_
      exact X_wk (WK.s (WK.s (WK.s (WK.n (WK.n WK.e))))) (J45 _ _ _ hf)
  · replace hf := ite_t c1_7 hf
    refine T_aload dX11_isSeen_4 rfl ?_
    refine T_iload dX11_isSeen_5 rfl ?_
    obtain ⟨q6_13, hc6_13, hf⟩ := bind_t hf
    refine X_Vv (qX11_alongY Z _ hc6_13) (Nat.le_of_ble_eq_true rfl) dX11_isSeen_6 lvX11_203 rfl rfl ob73 (Nat.le_of_ble_eq_true rfl) ?_
    refine T_ineg dX11_isSeen_9 ?_
    refine T_goto dX11_isSeen_10 ?_
    exact X_wk (WK.s (WK.s (WK.s (WK.n (WK.n WK.e))))) (J45 _ _ _ hf)
def jX11_drawsOf_243 (x : aH) (l2 : Int32) : Option (Int32 × aH) := if (0 : Int32) ≤ l2 then if l2 ≤ (9 : Int32) then some (l2, x) else some ((9 : Int32), x) else some ((0 : Int32), x)
def jX11_drawsOf_131 (ih : Int32 → Int32 → Int32 → Option (Int32 × Int32)) (x : aH) (l1 : Int32) (l3 : Int32) (l5 : Int32) (s0 : Int32) (s1 : Int32) : Option (Int32 × Int32) := ih l3 (s0 + s1) (l5 + (1 : Int32))
def jX11_drawsOf_94 (ih : Int32 → Int32 → Int32 → Option (Int32 × Int32)) (x : aH) (l1 : Int32) (l4 : Int32) (l5 : Int32) (s0 : Int32) (s1 : Int32) : Option (Int32 × Int32) := if (0 : Int32) ≤ ((10 : Int32) + l5) ∧ ((10 : Int32) + l5) < (172 : Int32) then if (0 : Int32) ≤ ((10 : Int32) + l1) ∧ ((10 : Int32) + l1) < (172 : Int32) then if (ri x 74 (ix ((10 : Int32) + l5))) = (ri x 74 (ix ((10 : Int32) + l1))) then if (0 : Int32) ≤ l5 ∧ l5 < (10 : Int32) then jX11_drawsOf_131 ih x l1 (s0 + s1) l5 l4 (ri x 82 (ix l5)) else none else jX11_drawsOf_131 ih x l1 (s0 + s1) l5 l4 (0 : Int32) else none else none
def jX11_drawsOf_93 (ih : Int32 → Int32 → Int32 → Option (Int32 × Int32)) (x : aH) (l1 : Int32) (l4 : Int32) (l5 : Int32) (s0 : Int32) : Option (Int32 × Int32) := jX11_drawsOf_94 ih x l1 l4 l5 s0 (0 : Int32)
def sX11_drawsOf_47 (x : aH) (l1 : Int32) (ih : Int32 → Int32 → Int32 → Option (Int32 × Int32)) (l3 : Int32) (l4 : Int32) (l5 : Int32) : Option (Int32 × Int32) := if (fi x 73 6) ≤ l5 then some (l3, l4) else if l5 = l1 then jX11_drawsOf_93 ih x l1 l4 l5 l3 else if (0 : Int32) ≤ l5 ∧ l5 < (10 : Int32) then if (ri x 82 (ix l5)) = (0 : Int32) then if (0 : Int32) ≤ l5 ∧ l5 < (10 : Int32) then if (0 : Int32) ≤ l1 ∧ l1 < (10 : Int32) then if (ri x 81 (ix l5)) = (ri x 81 (ix l1)) then jX11_drawsOf_94 ih x l1 l4 l5 l3 (1 : Int32) else jX11_drawsOf_93 ih x l1 l4 l5 l3 else none else none else jX11_drawsOf_93 ih x l1 l4 l5 l3 else none
def wX11_drawsOf_47 (x : aH) (l1 : Int32) : Nat → Int32 → Int32 → Int32 → Option (Int32 × Int32)
  | 0 => fun _ _ _ => none
  | n + 1 => sX11_drawsOf_47 x l1 (wX11_drawsOf_47 x l1 n)
def jX11_drawsOf_208 (x : aH) (l3 : Int32) (l4 : Int32) : Option (Int32 × aH) := (fX11_workOut (sri (sri (sri x 80 (ix (3 : Int32)) l3) 80 (ix (4 : Int32)) l4) 80 (ix (5 : Int32)) (fi (sri (sri x 80 (ix (3 : Int32)) l3) 80 (ix (4 : Int32)) l4) 73 19)) (0 : Int32) (fi (sri (sri (sri x 80 (ix (3 : Int32)) l3) 80 (ix (4 : Int32)) l4) 80 (ix (5 : Int32)) (fi (sri (sri x 80 (ix (3 : Int32)) l3) 80 (ix (4 : Int32)) l4) 73 19)) 73 10)).bind fun q239_28 => jX11_drawsOf_243 q239_28.2 q239_28.1
def fX11_drawsOf (x : aH) (p1 : Int32) : Option (Int32 × aH) := if (0 : Int32) ≤ p1 ∧ p1 < (10 : Int32) then if (0 : Int32) ≤ ((40 : Int32) + (ri x 81 (ix p1))) ∧ ((40 : Int32) + (ri x 81 (ix p1))) < (172 : Int32) then if (0 : Int32) ≤ ((20 : Int32) + p1) ∧ ((20 : Int32) + p1) < (172 : Int32) then if (fi x 73 10) < (0 : Int32) then jX11_drawsOf_243 x (((6 : Int32) - ((ri x 74 (ix ((40 : Int32) + (ri x 81 (ix p1))))) / (2 : Int32))) - ((ri x 74 (ix ((20 : Int32) + p1))) / (3 : Int32))) else (wX11_drawsOf_47 x p1 2000 (0 : Int32) (0 : Int32) (0 : Int32)).bind fun q47_18 => if (0 : Int32) ≤ p1 ∧ p1 < (10 : Int32) then (fX11_alongX x (ri x 81 (ix p1))).bind fun q152_20 => (fX11_sizeOf q152_20).bind fun q155_21 => if (0 : Int32) ≤ p1 ∧ p1 < (10 : Int32) then (fX11_alongY x (ri x 81 (ix p1))).bind fun q165_23 => (fX11_sizeOf q165_23).bind fun q168_24 => if (0 : Int32) ≤ p1 ∧ p1 < (10 : Int32) then if (0 : Int32) ≤ ((40 : Int32) + (ri (sri x 80 (ix (0 : Int32)) (q155_21 + q168_24)) 81 (ix p1))) ∧ ((40 : Int32) + (ri (sri x 80 (ix (0 : Int32)) (q155_21 + q168_24)) 81 (ix p1))) < (172 : Int32) then if (0 : Int32) ≤ ((20 : Int32) + p1) ∧ ((20 : Int32) + p1) < (172 : Int32) then jX11_drawsOf_208 (sri (sri (sri x 80 (ix (0 : Int32)) (q155_21 + q168_24)) 80 (ix (1 : Int32)) (ri (sri x 80 (ix (0 : Int32)) (q155_21 + q168_24)) 74 (ix ((40 : Int32) + (ri (sri x 80 (ix (0 : Int32)) (q155_21 + q168_24)) 81 (ix p1)))))) 80 (ix (2 : Int32)) (ri (sri (sri x 80 (ix (0 : Int32)) (q155_21 + q168_24)) 80 (ix (1 : Int32)) (ri (sri x 80 (ix (0 : Int32)) (q155_21 + q168_24)) 74 (ix ((40 : Int32) + (ri (sri x 80 (ix (0 : Int32)) (q155_21 + q168_24)) 81 (ix p1)))))) 74 (ix ((20 : Int32) + p1)))) q47_18.1 q47_18.2 else none else none else none else none else none else none else none else none
theorem lX11_drawsOf_47 (Z : aZ) (y : aH) (x : aH) (l1 : Int32) {Q : Option Value → aH → Prop} {R : (Int32 × Int32)} : ∀ (n : Nat) (l3 : Int32) (l4 : Int32) (l5 : Int32), wX11_drawsOf_47 x l1 n l3 l4 l5 = some R → (∀ q, R = q → TX false Z mX11_drawsOf 67 y x Q 140 [.ref 73, .int l1, .null, .int (q.1), .int (q.2), .null] []) → TX false Z mX11_drawsOf 67 y x Q 47 [.ref 73, .int l1, .null, .int l3, .int l4, .int l5] [] := by
  intro n
  induction n with
  | zero => intro l3 l4 l5 hf; cases hf
  | succ n ih =>
    intro l3 l4 l5 hf ke
    replace hf : sX11_drawsOf_47 x l1 (wX11_drawsOf_47 x l1 n) l3 l4 l5 = some R := hf
    unfold sX11_drawsOf_47 at hf
    refine T_iload dX11_drawsOf_47 rfl ?_
    refine T_aload dX11_drawsOf_49 rfl ?_
    refine X_getf dX11_drawsOf_50 lfX11_93 rfl ob73 ?_
    refine T_icmp_ge dX11_drawsOf_53 (fun c53_7 => ?_) (fun c53_7 => ?_)
    · replace hf := ite_t c53_7 hf
      exact X_wk (WK.s (WK.s (WK.n (WK.s (WK.s (WK.n WK.e)))))) (ke _ (Option.some.inj hf).symm)
    · replace hf := ite_f c53_7 hf
      refine T_iload dX11_drawsOf_56 rfl ?_
      refine T_iload dX11_drawsOf_57 rfl ?_
      refine T_iload dX11_drawsOf_59 rfl ?_
      have J94 : ∀ (l4 : Int32) (l5 : Int32) (s0 : Int32) (s1 : Int32), jX11_drawsOf_94 (wX11_drawsOf_47 x l1 n) x l1 l4 l5 s0 s1 = some R → TX false Z mX11_drawsOf 67 y x Q 94 [.ref 73, .int l1, .null, .null, .int l4, .int l5] [.int s1, .int s0] := by
        intro l4 l5 s0 s1 hf
        unfold jX11_drawsOf_94 at hf
        refine T_iadd dX11_drawsOf_94 ?_
        refine T_istore dX11_drawsOf_95 ?_
        show TX _ _ _ _ _ _ _ _ [_, _, _, _, _, _] _
        refine T_iload dX11_drawsOf_96 rfl ?_
        refine T_aload dX11_drawsOf_98 rfl ?_
        refine X_getr dX11_drawsOf_99 lfX11_9 rfl ob73 rfl ?_
        refine T_const dX11_drawsOf_102 ?_
        refine T_iload dX11_drawsOf_104 rfl ?_
        refine T_iadd dX11_drawsOf_106 ?_
        obtain ⟨hb107_8, hf⟩ := opt_t hf
        refine X_iald (N := 172) dX11_drawsOf_107 ar74 rfl hb107_8 ?_
        refine T_aload dX11_drawsOf_108 rfl ?_
        refine X_getr dX11_drawsOf_109 lfX11_9 rfl ob73 rfl ?_
        refine T_const dX11_drawsOf_112 ?_
        refine T_iload dX11_drawsOf_114 rfl ?_
        refine T_iadd dX11_drawsOf_115 ?_
        obtain ⟨hb116_9, hf⟩ := opt_t hf
        refine X_iald (N := 172) dX11_drawsOf_116 ar74 rfl hb116_9 ?_
        have J131 : ∀ (l3 : Int32) (l5 : Int32) (s0 : Int32) (s1 : Int32), jX11_drawsOf_131 (wX11_drawsOf_47 x l1 n) x l1 l3 l5 s0 s1 = some R → TX false Z mX11_drawsOf 67 y x Q 131 [.ref 73, .int l1, .null, .int l3, .null, .int l5] [.int s1, .int s0] := by
          intro l3 l5 s0 s1 hf
          unfold jX11_drawsOf_131 at hf
          refine T_iadd dX11_drawsOf_131 ?_
          refine T_istore dX11_drawsOf_132 ?_
          show TX _ _ _ _ _ _ _ _ [_, _, _, _, _, _] _
          refine T_iinc dX11_drawsOf_134 rfl ?_
          show TX _ _ _ _ _ _ _ _ [_, _, _, _, _, _] _
          refine T_goto dX11_drawsOf_137 ?_
          exact X_wk (WK.s (WK.s (WK.n (WK.s (WK.s (WK.s WK.e)))))) (ih _ _ _ hf ke)
        refine T_icmp_ne dX11_drawsOf_117 (fun c117_10 => ?_) (fun c117_10 => ?_)
        · replace hf := ite_f c117_10 hf
          refine T_const dX11_drawsOf_130 ?_
          exact X_wk (WK.s (WK.s (WK.n (WK.s (WK.n (WK.s WK.e)))))) (J131 _ _ _ _ hf)
        · replace hf := ite_t c117_10 hf
          refine T_aload dX11_drawsOf_120 rfl ?_
          refine X_getr dX11_drawsOf_121 lfX11_34 rfl ob73 rfl ?_
          refine T_iload dX11_drawsOf_124 rfl ?_
          obtain ⟨hb126_11, hf⟩ := opt_t hf
          refine X_iald (N := 10) dX11_drawsOf_126 ar82 rfl hb126_11 ?_
          refine T_goto dX11_drawsOf_127 ?_
          exact X_wk (WK.s (WK.s (WK.n (WK.s (WK.n (WK.s WK.e)))))) (J131 _ _ _ _ hf)
      have J93 : ∀ (l4 : Int32) (l5 : Int32) (s0 : Int32), jX11_drawsOf_93 (wX11_drawsOf_47 x l1 n) x l1 l4 l5 s0 = some R → TX false Z mX11_drawsOf 67 y x Q 93 [.ref 73, .int l1, .null, .null, .int l4, .int l5] [.int s0] := by
        intro l4 l5 s0 hf
        unfold jX11_drawsOf_93 at hf
        refine T_const dX11_drawsOf_93 ?_
        exact X_wk (WK.s (WK.s (WK.n (WK.n (WK.s (WK.s WK.e)))))) (J94 _ _ _ _ hf)
      refine T_icmp_eq dX11_drawsOf_60 (fun c60_12 => ?_) (fun c60_12 => ?_)
      · replace hf := ite_t c60_12 hf
        exact X_wk (WK.s (WK.s (WK.n (WK.n (WK.s (WK.s WK.e)))))) (J93 _ _ _ hf)
      · replace hf := ite_f c60_12 hf
        refine T_aload dX11_drawsOf_63 rfl ?_
        refine X_getr dX11_drawsOf_64 lfX11_34 rfl ob73 rfl ?_
        refine T_iload dX11_drawsOf_67 rfl ?_
        obtain ⟨hb69_13, hf⟩ := opt_t hf
        refine X_iald (N := 10) dX11_drawsOf_69 ar82 rfl hb69_13 ?_
        refine T_if_ne dX11_drawsOf_70 (fun c70_14 => ?_) (fun c70_14 => ?_)
        · replace hf := ite_f c70_14 hf
          exact X_wk (WK.s (WK.s (WK.n (WK.n (WK.s (WK.s WK.e)))))) (J93 _ _ _ hf)
        · replace hf := ite_t c70_14 hf
          refine T_aload dX11_drawsOf_73 rfl ?_
          refine X_getr dX11_drawsOf_74 lfX11_31 rfl ob73 rfl ?_
          refine T_iload dX11_drawsOf_77 rfl ?_
          obtain ⟨hb79_15, hf⟩ := opt_t hf
          refine X_iald (N := 10) dX11_drawsOf_79 ar81 rfl hb79_15 ?_
          refine T_aload dX11_drawsOf_80 rfl ?_
          refine X_getr dX11_drawsOf_81 lfX11_31 rfl ob73 rfl ?_
          refine T_iload dX11_drawsOf_84 rfl ?_
          obtain ⟨hb85_16, hf⟩ := opt_t hf
          refine X_iald (N := 10) dX11_drawsOf_85 ar81 rfl hb85_16 ?_
          refine T_icmp_ne dX11_drawsOf_86 (fun c86_17 => ?_) (fun c86_17 => ?_)
          · replace hf := ite_f c86_17 hf
            exact X_wk (WK.s (WK.s (WK.n (WK.n (WK.s (WK.s WK.e)))))) (J93 _ _ _ hf)
          · replace hf := ite_t c86_17 hf
            refine T_const dX11_drawsOf_89 ?_
            refine T_goto dX11_drawsOf_90 ?_
            exact X_wk (WK.s (WK.s (WK.n (WK.n (WK.s (WK.s WK.e)))))) (J94 _ _ _ _ hf)
theorem qX11_drawsOf (Z : aZ) (y : aH) {x : aH} {p1 : Int32} {q : (Int32 × aH)} (hf : fX11_drawsOf x p1 = some q) : CX false Z mX11_drawsOf 67 [.ref 73, .int p1] y x (RV (.int q.1) q.2) := by
  refine CX.of mokX11_drawsOf (Nat.le_of_ble_eq_true rfl) ?_
  show TX _ _ _ _ _ _ _ _ [_, _, _, _, _, _] _
  unfold fX11_drawsOf at hf
  refine T_const dX11_drawsOf_0 ?_
  refine T_aload dX11_drawsOf_2 rfl ?_
  refine X_getr dX11_drawsOf_3 lfX11_9 rfl ob73 rfl ?_
  refine T_const dX11_drawsOf_6 ?_
  refine T_aload dX11_drawsOf_8 rfl ?_
  refine X_getr dX11_drawsOf_9 lfX11_31 rfl ob73 rfl ?_
  refine T_iload dX11_drawsOf_12 rfl ?_
  obtain ⟨hb13_1, hf⟩ := opt_t hf
  refine X_iald (N := 10) dX11_drawsOf_13 ar81 rfl hb13_1 ?_
  refine T_iadd dX11_drawsOf_14 ?_
  obtain ⟨hb15_2, hf⟩ := opt_t hf
  refine X_iald (N := 172) dX11_drawsOf_15 ar74 rfl hb15_2 ?_
  refine T_const dX11_drawsOf_16 ?_
  refine T_idiv dX11_drawsOf_17 (by decide) ?_
  refine T_isub dX11_drawsOf_18 ?_
  refine T_aload dX11_drawsOf_19 rfl ?_
  refine X_getr dX11_drawsOf_20 lfX11_9 rfl ob73 rfl ?_
  refine T_const dX11_drawsOf_23 ?_
  refine T_iload dX11_drawsOf_25 rfl ?_
  refine T_iadd dX11_drawsOf_26 ?_
  obtain ⟨hb27_3, hf⟩ := opt_t hf
  refine X_iald (N := 172) dX11_drawsOf_27 ar74 rfl hb27_3 ?_
  refine T_const dX11_drawsOf_28 ?_
  refine T_idiv dX11_drawsOf_29 (by decide) ?_
  refine T_isub dX11_drawsOf_30 ?_
  refine T_istore dX11_drawsOf_31 ?_
  show TX _ _ _ _ _ _ _ _ [_, _, _, _, _, _] _
  refine T_aload dX11_drawsOf_32 rfl ?_
  refine X_getf dX11_drawsOf_33 lfX11_83 rfl ob73 ?_
  have J243 : ∀ (x : aH) (l2 : Int32), jX11_drawsOf_243 x l2 = some q → TX false Z mX11_drawsOf 67 y x (RV (.int q.1) q.2) 243 [.null, .null, .int l2, .null, .null, .null] [] := by
    intro x l2 hf
    unfold jX11_drawsOf_243 at hf
    refine T_iload dX11_drawsOf_243 rfl ?_
    refine T_if_ge dX11_drawsOf_244 (fun c244_4 => ?_) (fun c244_4 => ?_)
    · replace hf := ite_t c244_4 hf
      refine T_iload dX11_drawsOf_251 rfl ?_
      refine T_const dX11_drawsOf_252 ?_
      refine T_icmp_le dX11_drawsOf_254 (fun c254_5 => ?_) (fun c254_5 => ?_)
      · replace hf := ite_t c254_5 hf
        refine T_iload dX11_drawsOf_262 rfl ?_
        obtain rfl := Option.some.inj hf
        exact X_ri dX11_drawsOf_263 ⟨rfl, rfl⟩
      · replace hf := ite_f c254_5 hf
        refine T_const dX11_drawsOf_257 ?_
        refine T_goto dX11_drawsOf_259 ?_
        obtain rfl := Option.some.inj hf
        exact X_ri dX11_drawsOf_263 ⟨rfl, rfl⟩
    · replace hf := ite_f c244_4 hf
      refine T_const dX11_drawsOf_247 ?_
      refine T_goto dX11_drawsOf_248 ?_
      obtain rfl := Option.some.inj hf
      exact X_ri dX11_drawsOf_263 ⟨rfl, rfl⟩
  refine T_if_lt dX11_drawsOf_36 (fun c36_6 => ?_) (fun c36_6 => ?_)
  · replace hf := ite_t c36_6 hf
    exact X_wk (WK.n (WK.n (WK.s (WK.n (WK.n (WK.n WK.e)))))) (J243 _ _ hf)
  · replace hf := ite_f c36_6 hf
    refine T_const dX11_drawsOf_39 ?_
    refine T_istore dX11_drawsOf_40 ?_
    show TX _ _ _ _ _ _ _ _ [_, _, _, _, _, _] _
    refine T_const dX11_drawsOf_41 ?_
    refine T_istore dX11_drawsOf_42 ?_
    show TX _ _ _ _ _ _ _ _ [_, _, _, _, _, _] _
    refine T_const dX11_drawsOf_44 ?_
    refine T_istore dX11_drawsOf_45 ?_
    show TX _ _ _ _ _ _ _ _ [_, _, _, _, _, _] _
    obtain ⟨q47_18, hc47_18, hf⟩ := bind_t hf
    refine X_wk (WK.s (WK.s (WK.n (WK.s (WK.s (WK.s WK.e)))))) (lX11_drawsOf_47 Z _ _ _ 2000 _ _ _ hc47_18 ?_)
    intro q47_18z hr
    subst hr
    refine T_aload dX11_drawsOf_140 rfl ?_
    refine X_getr dX11_drawsOf_141 lfX11_28 rfl ob73 rfl ?_
    refine T_const dX11_drawsOf_144 ?_
    refine T_aload dX11_drawsOf_145 rfl ?_
    refine T_aload dX11_drawsOf_146 rfl ?_
    refine X_getr dX11_drawsOf_147 lfX11_31 rfl ob73 rfl ?_
    refine T_iload dX11_drawsOf_150 rfl ?_
    obtain ⟨hb151_19, hf⟩ := opt_t hf
    refine X_iald (N := 10) dX11_drawsOf_151 ar81 rfl hb151_19 ?_
    obtain ⟨q152_20, hc152_20, hf⟩ := bind_t hf
    refine X_Vv (qX11_alongX Z _ hc152_20) (Nat.le_of_ble_eq_true rfl) dX11_drawsOf_152 lvX11_206 rfl rfl ob73 (Nat.le_of_ble_eq_true rfl) ?_
    obtain ⟨q155_21, hc155_21, hf⟩ := bind_t hf
    refine X_Sv (qX11_sizeOf _ Z _ _ hc155_21) (Nat.le_of_ble_eq_true rfl) dX11_drawsOf_155 lsX11_209 rfl rfl (Nat.le_of_ble_eq_true rfl) ?_
    refine T_aload dX11_drawsOf_158 rfl ?_
    refine T_aload dX11_drawsOf_159 rfl ?_
    refine X_getr dX11_drawsOf_160 lfX11_31 rfl ob73 rfl ?_
    refine T_iload dX11_drawsOf_163 rfl ?_
    obtain ⟨hb164_22, hf⟩ := opt_t hf
    refine X_iald (N := 10) dX11_drawsOf_164 ar81 rfl hb164_22 ?_
    obtain ⟨q165_23, hc165_23, hf⟩ := bind_t hf
    refine X_Vv (qX11_alongY Z _ hc165_23) (Nat.le_of_ble_eq_true rfl) dX11_drawsOf_165 lvX11_203 rfl rfl ob73 (Nat.le_of_ble_eq_true rfl) ?_
    obtain ⟨q168_24, hc168_24, hf⟩ := bind_t hf
    refine X_Sv (qX11_sizeOf _ Z _ _ hc168_24) (Nat.le_of_ble_eq_true rfl) dX11_drawsOf_168 lsX11_209 rfl rfl (Nat.le_of_ble_eq_true rfl) ?_
    refine T_iadd dX11_drawsOf_171 ?_
    refine X_iast (N := 6) dX11_drawsOf_172 ar80 rfl (by decide) ?_
    refine T_aload dX11_drawsOf_173 rfl ?_
    refine X_getr dX11_drawsOf_174 lfX11_28 rfl ob73 rfl ?_
    refine T_const dX11_drawsOf_177 ?_
    refine T_aload dX11_drawsOf_178 rfl ?_
    refine X_getr dX11_drawsOf_179 lfX11_9 rfl ob73 rfl ?_
    refine T_const dX11_drawsOf_182 ?_
    refine T_aload dX11_drawsOf_184 rfl ?_
    refine X_getr dX11_drawsOf_185 lfX11_31 rfl ob73 rfl ?_
    refine T_iload dX11_drawsOf_188 rfl ?_
    obtain ⟨hb189_25, hf⟩ := opt_t hf
    refine X_iald (N := 10) dX11_drawsOf_189 ar81 rfl hb189_25 ?_
    refine T_iadd dX11_drawsOf_190 ?_
    obtain ⟨hb191_26, hf⟩ := opt_t hf
    refine X_iald (N := 172) dX11_drawsOf_191 ar74 rfl hb191_26 ?_
    refine X_iast (N := 6) dX11_drawsOf_192 ar80 rfl (by decide) ?_
    refine T_aload dX11_drawsOf_193 rfl ?_
    refine X_getr dX11_drawsOf_194 lfX11_28 rfl ob73 rfl ?_
    refine T_const dX11_drawsOf_197 ?_
    refine T_aload dX11_drawsOf_198 rfl ?_
    refine X_getr dX11_drawsOf_199 lfX11_9 rfl ob73 rfl ?_
    refine T_const dX11_drawsOf_202 ?_
    refine T_iload dX11_drawsOf_204 rfl ?_
    refine T_iadd dX11_drawsOf_205 ?_
    obtain ⟨hb206_27, hf⟩ := opt_t hf
    refine X_iald (N := 172) dX11_drawsOf_206 ar74 rfl hb206_27 ?_
    refine X_iast (N := 6) dX11_drawsOf_207 ar80 rfl (by decide) ?_
    have J208 : ∀ (x : aH) (l3 : Int32) (l4 : Int32), jX11_drawsOf_208 x l3 l4 = some q → TX false Z mX11_drawsOf 67 y x (RV (.int q.1) q.2) 208 [.ref 73, .null, .null, .int l3, .int l4, .null] [] := by
      intro x l3 l4 hf
      unfold jX11_drawsOf_208 at hf
      refine T_aload dX11_drawsOf_208 rfl ?_
      refine X_getr dX11_drawsOf_209 lfX11_28 rfl ob73 rfl ?_
      refine T_const dX11_drawsOf_212 ?_
      refine T_iload dX11_drawsOf_213 rfl ?_
      refine X_iast (N := 6) dX11_drawsOf_214 ar80 rfl (by decide) ?_
      refine T_aload dX11_drawsOf_215 rfl ?_
      refine X_getr dX11_drawsOf_216 lfX11_28 rfl ob73 rfl ?_
      refine T_const dX11_drawsOf_219 ?_
      refine T_iload dX11_drawsOf_220 rfl ?_
      refine X_iast (N := 6) dX11_drawsOf_222 ar80 rfl (by decide) ?_
      refine T_aload dX11_drawsOf_223 rfl ?_
      refine X_getr dX11_drawsOf_224 lfX11_28 rfl ob73 rfl ?_
      refine T_const dX11_drawsOf_227 ?_
      refine T_aload dX11_drawsOf_228 rfl ?_
      refine X_getf dX11_drawsOf_229 lfX11_200 rfl ob73 ?_
      refine X_iast (N := 6) dX11_drawsOf_232 ar80 rfl (by decide) ?_
      refine T_aload dX11_drawsOf_233 rfl ?_
      refine T_const dX11_drawsOf_234 ?_
      refine T_aload dX11_drawsOf_235 rfl ?_
      refine X_getf dX11_drawsOf_236 lfX11_83 rfl ob73 ?_
      obtain ⟨q239_28, hc239_28, hf⟩ := bind_t hf
      refine X_Vv (qX11_workOut Z _ hc239_28) (Nat.le_of_ble_eq_true rfl) dX11_drawsOf_239 lvX11_197 rfl rfl ob73 (Nat.le_of_ble_eq_true rfl) ?_
      refine T_istore dX11_drawsOf_242 ?_
      show TX _ _ _ _ _ _ _ _ [_, _, _, _, _, _] _
      exact X_wk (WK.n (WK.n (WK.s (WK.n (WK.n (WK.n WK.e)))))) (J243 _ _ hf)
    exact X_wk (WK.s (WK.n (WK.n (WK.s (WK.s (WK.n WK.e)))))) (J208 _ _ _ hf)
def jX11_driftsTo_57 (x : aH) (l1 : Int32) (l3 : Int32) (s0 : Int32) (s1 : Int32) : Option Int32 := (fX11_within (Int32.toInt64 l3) (0 : Int64) (7 : Int64)).bind fun q66_2 => if q66_2 = (0 : Int32) then some l1 else (fX11_within (Int32.toInt64 (s0 + s1)) (0 : Int64) (7 : Int64)).bind fun q79_4 => if q79_4 = (0 : Int32) then some l1 else some (((8 : Int32) * (s0 + s1)) + l3)
def jX11_driftsTo_33 (x : aH) (l1 : Int32) (l2 : Int32) (s0 : Int32) (s1 : Int32) : Option Int32 := if l2 = (0 : Int32) then jX11_driftsTo_57 x l1 (s0 + s1) (l1 / (8 : Int32)) (-1 : Int32) else if l2 = (2 : Int32) then jX11_driftsTo_57 x l1 (s0 + s1) (l1 / (8 : Int32)) (1 : Int32) else jX11_driftsTo_57 x l1 (s0 + s1) (l1 / (8 : Int32)) (0 : Int32)
def fX11_driftsTo (x : aH) (p1 : Int32) : Option Int32 := if (0 : Int32) ≤ ((104 : Int32) + p1) ∧ ((104 : Int32) + p1) < (172 : Int32) then if (ri x 74 (ix ((104 : Int32) + p1))) = (1 : Int32) then jX11_driftsTo_33 x p1 (ri x 74 (ix ((104 : Int32) + p1))) (p1 - p1 / (8 : Int32) * (8 : Int32)) (1 : Int32) else if (ri x 74 (ix ((104 : Int32) + p1))) = (3 : Int32) then jX11_driftsTo_33 x p1 (ri x 74 (ix ((104 : Int32) + p1))) (p1 - p1 / (8 : Int32) * (8 : Int32)) (-1 : Int32) else jX11_driftsTo_33 x p1 (ri x 74 (ix ((104 : Int32) + p1))) (p1 - p1 / (8 : Int32) * (8 : Int32)) (0 : Int32) else none
theorem qX11_driftsTo (Z : aZ) (y : aH) {x : aH} {p1 : Int32} {q : Int32} (hf : fX11_driftsTo x p1 = some q) : CX false Z mX11_driftsTo 1 [.ref 73, .int p1] y x (RV (.int q) x) := by
  refine CX.of mokX11_driftsTo (Nat.le_of_ble_eq_true rfl) ?_
  show TX _ _ _ _ _ _ _ _ [_, _, _, _, _] _
  unfold fX11_driftsTo at hf
  refine T_aload dX11_driftsTo_0 rfl ?_
  refine X_getr dX11_driftsTo_1 lfX11_9 rfl ob73 rfl ?_
  refine T_const dX11_driftsTo_4 ?_
  refine T_iload dX11_driftsTo_6 rfl ?_
  refine T_iadd dX11_driftsTo_7 ?_
  obtain ⟨hb8_1, hf⟩ := opt_t hf
  refine X_iald (N := 172) dX11_driftsTo_8 ar74 rfl hb8_1 ?_
  refine T_istore dX11_driftsTo_9 ?_
  show TX _ _ _ _ _ _ _ _ [_, _, _, _, _] _
  refine T_iload dX11_driftsTo_10 rfl ?_
  refine T_const dX11_driftsTo_11 ?_
  refine T_irem dX11_driftsTo_13 (by decide) ?_
  refine T_iload dX11_driftsTo_14 rfl ?_
  refine T_const dX11_driftsTo_15 ?_
  have J33 : ∀ (l1 : Int32) (l2 : Int32) (s0 : Int32) (s1 : Int32), jX11_driftsTo_33 x l1 l2 s0 s1 = some q → TX false Z mX11_driftsTo 1 y x (RV (.int q) x) 33 [.null, .int l1, .int l2, .null, .null] [.int s1, .int s0] := by
    intro l1 l2 s0 s1 hf
    unfold jX11_driftsTo_33 at hf
    refine T_iadd dX11_driftsTo_33 ?_
    refine T_istore dX11_driftsTo_34 ?_
    show TX _ _ _ _ _ _ _ _ [_, _, _, _, _] _
    refine T_iload dX11_driftsTo_35 rfl ?_
    refine T_const dX11_driftsTo_36 ?_
    refine T_idiv dX11_driftsTo_38 (by decide) ?_
    refine T_iload dX11_driftsTo_39 rfl ?_
    have J57 : ∀ (l1 : Int32) (l3 : Int32) (s0 : Int32) (s1 : Int32), jX11_driftsTo_57 x l1 l3 s0 s1 = some q → TX false Z mX11_driftsTo 1 y x (RV (.int q) x) 57 [.null, .int l1, .null, .int l3, .null] [.int s1, .int s0] := by
      intro l1 l3 s0 s1 hf
      unfold jX11_driftsTo_57 at hf
      refine T_iadd dX11_driftsTo_57 ?_
      refine T_istore dX11_driftsTo_58 ?_
      show TX _ _ _ _ _ _ _ _ [_, _, _, _, _] _
      refine T_iload dX11_driftsTo_60 rfl ?_
      refine T_i2l dX11_driftsTo_61 ?_
      refine T_constL dX11_driftsTo_62 ?_
      refine T_constL dX11_driftsTo_63 ?_
      obtain ⟨q66_2, hc66_2, hf⟩ := bind_t hf
      refine X_Sv (qX11_within _ Z _ _ hc66_2) (Nat.le_of_ble_eq_true rfl) dX11_driftsTo_66 lsX11_96 rfl rfl (Nat.le_of_ble_eq_true rfl) ?_
      refine T_if_eq dX11_driftsTo_69 (fun c69_3 => ?_) (fun c69_3 => ?_)
      · replace hf := ite_t c69_3 hf
        refine T_iload dX11_driftsTo_95 rfl ?_
        obtain rfl := Option.some.inj hf
        exact X_ri dX11_driftsTo_96 ⟨rfl, rfl⟩
      · replace hf := ite_f c69_3 hf
        refine T_iload dX11_driftsTo_72 rfl ?_
        refine T_i2l dX11_driftsTo_74 ?_
        refine T_constL dX11_driftsTo_75 ?_
        refine T_constL dX11_driftsTo_76 ?_
        obtain ⟨q79_4, hc79_4, hf⟩ := bind_t hf
        refine X_Sv (qX11_within _ Z _ _ hc79_4) (Nat.le_of_ble_eq_true rfl) dX11_driftsTo_79 lsX11_96 rfl rfl (Nat.le_of_ble_eq_true rfl) ?_
        refine T_if_eq dX11_driftsTo_82 (fun c82_5 => ?_) (fun c82_5 => ?_)
        · replace hf := ite_t c82_5 hf
          refine T_iload dX11_driftsTo_95 rfl ?_
          obtain rfl := Option.some.inj hf
          exact X_ri dX11_driftsTo_96 ⟨rfl, rfl⟩
        · replace hf := ite_f c82_5 hf
          refine T_const dX11_driftsTo_85 ?_
          refine T_iload dX11_driftsTo_87 rfl ?_
          refine T_imul dX11_driftsTo_89 ?_
          refine T_iload dX11_driftsTo_90 rfl ?_
          refine T_iadd dX11_driftsTo_91 ?_
          refine T_goto dX11_driftsTo_92 ?_
          obtain rfl := Option.some.inj hf
          exact X_ri dX11_driftsTo_96 ⟨rfl, rfl⟩
    refine T_if_ne dX11_driftsTo_40 (fun c40_6 => ?_) (fun c40_6 => ?_)
    · replace hf := ite_f c40_6 hf
      refine T_iload dX11_driftsTo_47 rfl ?_
      refine T_const dX11_driftsTo_48 ?_
      refine T_icmp_ne dX11_driftsTo_49 (fun c49_7 => ?_) (fun c49_7 => ?_)
      · replace hf := ite_f c49_7 hf
        refine T_const dX11_driftsTo_56 ?_
        exact X_wk (WK.n (WK.s (WK.n (WK.s (WK.n WK.e))))) (J57 _ _ _ _ hf)
      · replace hf := ite_t c49_7 hf
        refine T_const dX11_driftsTo_52 ?_
        refine T_goto dX11_driftsTo_53 ?_
        exact X_wk (WK.n (WK.s (WK.n (WK.s (WK.n WK.e))))) (J57 _ _ _ _ hf)
    · replace hf := ite_t c40_6 hf
      refine T_const dX11_driftsTo_43 ?_
      refine T_goto dX11_driftsTo_44 ?_
      exact X_wk (WK.n (WK.s (WK.n (WK.s (WK.n WK.e))))) (J57 _ _ _ _ hf)
  refine T_icmp_ne dX11_driftsTo_16 (fun c16_8 => ?_) (fun c16_8 => ?_)
  · replace hf := ite_f c16_8 hf
    refine T_iload dX11_driftsTo_23 rfl ?_
    refine T_const dX11_driftsTo_24 ?_
    refine T_icmp_ne dX11_driftsTo_25 (fun c25_9 => ?_) (fun c25_9 => ?_)
    · replace hf := ite_f c25_9 hf
      refine T_const dX11_driftsTo_32 ?_
      exact X_wk (WK.n (WK.s (WK.s (WK.n (WK.n WK.e))))) (J33 _ _ _ _ hf)
    · replace hf := ite_t c25_9 hf
      refine T_const dX11_driftsTo_28 ?_
      refine T_goto dX11_driftsTo_29 ?_
      exact X_wk (WK.n (WK.s (WK.s (WK.n (WK.n WK.e))))) (J33 _ _ _ _ hf)
  · replace hf := ite_t c16_8 hf
    refine T_const dX11_driftsTo_19 ?_
    refine T_goto dX11_driftsTo_20 ?_
    exact X_wk (WK.n (WK.s (WK.s (WK.n (WK.n WK.e))))) (J33 _ _ _ _ hf)
def fX11_walksTo (x : aH) (p1 : Int32) : Option Int32 := (fX11_alongX x p1).bind fun q2_1 => (fX11_alongY x p1).bind fun q8_2 => (fX11_sizeOf q2_1).bind fun q13_3 => (fX11_sizeOf q8_2).bind fun q17_4 => if q13_3 < q17_4 then if q8_2 ≤ (0 : Int32) then some (p1 + (8 : Int32)) else some (p1 - (8 : Int32)) else if q2_1 ≤ (0 : Int32) then some (p1 + (1 : Int32)) else some (p1 - (1 : Int32))
theorem qX11_walksTo (Z : aZ) (y : aH) {x : aH} {p1 : Int32} {q : Int32} (hf : fX11_walksTo x p1 = some q) : CX false Z mX11_walksTo 1 [.ref 73, .int p1] y x (RV (.int q) x) := by
  refine CX.of mokX11_walksTo (Nat.le_of_ble_eq_true rfl) ?_
  show TX _ _ _ _ _ _ _ _ [_, _, _, _] _
  unfold fX11_walksTo at hf
  refine T_aload dX11_walksTo_0 rfl ?_
  refine T_iload dX11_walksTo_1 rfl ?_
  obtain ⟨q2_1, hc2_1, hf⟩ := bind_t hf
  refine X_Vv (qX11_alongX Z _ hc2_1) (Nat.le_of_ble_eq_true rfl) dX11_walksTo_2 lvX11_206 rfl rfl ob73 (Nat.le_of_ble_eq_true rfl) ?_
  refine T_istore dX11_walksTo_5 ?_
  show TX _ _ _ _ _ _ _ _ [_, _, _, _] _
  refine T_aload dX11_walksTo_6 rfl ?_
  refine T_iload dX11_walksTo_7 rfl ?_
  obtain ⟨q8_2, hc8_2, hf⟩ := bind_t hf
  refine X_Vv (qX11_alongY Z _ hc8_2) (Nat.le_of_ble_eq_true rfl) dX11_walksTo_8 lvX11_203 rfl rfl ob73 (Nat.le_of_ble_eq_true rfl) ?_
  refine T_istore dX11_walksTo_11 ?_
  show TX _ _ _ _ _ _ _ _ [_, _, _, _] _
  refine T_iload dX11_walksTo_12 rfl ?_
  obtain ⟨q13_3, hc13_3, hf⟩ := bind_t hf
  refine X_Sv (qX11_sizeOf _ Z _ _ hc13_3) (Nat.le_of_ble_eq_true rfl) dX11_walksTo_13 lsX11_209 rfl rfl (Nat.le_of_ble_eq_true rfl) ?_
  refine T_iload dX11_walksTo_16 rfl ?_
  obtain ⟨q17_4, hc17_4, hf⟩ := bind_t hf
  refine X_Sv (qX11_sizeOf _ Z _ _ hc17_4) (Nat.le_of_ble_eq_true rfl) dX11_walksTo_17 lsX11_209 rfl rfl (Nat.le_of_ble_eq_true rfl) ?_
  refine T_icmp_lt dX11_walksTo_20 (fun c20_5 => ?_) (fun c20_5 => ?_)
  · replace hf := ite_t c20_5 hf
    refine T_iload dX11_walksTo_39 rfl ?_
    refine T_if_le dX11_walksTo_40 (fun c40_6 => ?_) (fun c40_6 => ?_)
    · replace hf := ite_t c40_6 hf
      refine T_iload dX11_walksTo_50 rfl ?_
      refine T_const dX11_walksTo_51 ?_
      refine T_iadd dX11_walksTo_53 ?_
      obtain rfl := Option.some.inj hf
      exact X_ri dX11_walksTo_54 ⟨rfl, rfl⟩
    · replace hf := ite_f c40_6 hf
      refine T_iload dX11_walksTo_43 rfl ?_
      refine T_const dX11_walksTo_44 ?_
      refine T_isub dX11_walksTo_46 ?_
      refine T_goto dX11_walksTo_47 ?_
      obtain rfl := Option.some.inj hf
      exact X_ri dX11_walksTo_54 ⟨rfl, rfl⟩
  · replace hf := ite_f c20_5 hf
    refine T_iload dX11_walksTo_23 rfl ?_
    refine T_if_le dX11_walksTo_24 (fun c24_7 => ?_) (fun c24_7 => ?_)
    · replace hf := ite_t c24_7 hf
      refine T_iload dX11_walksTo_33 rfl ?_
      refine T_const dX11_walksTo_34 ?_
      refine T_iadd dX11_walksTo_35 ?_
      refine T_goto dX11_walksTo_36 ?_
      obtain rfl := Option.some.inj hf
      exact X_ri dX11_walksTo_54 ⟨rfl, rfl⟩
    · replace hf := ite_f c24_7 hf
      refine T_iload dX11_walksTo_27 rfl ?_
      refine T_const dX11_walksTo_28 ?_
      refine T_isub dX11_walksTo_29 ?_
      refine T_goto dX11_walksTo_30 ?_
      obtain rfl := Option.some.inj hf
      exact X_ri dX11_walksTo_54 ⟨rfl, rfl⟩
def jX11_goesNight_164 (ih : aH → Int32 → Option aH) (x : aH) (l1 : Int32) (l2 : Int32) : Option aH := ih x (l2 + (1 : Int32))
def jX11_goesNight_160 (ih : aH → Int32 → Option aH) (x : aH) (l1 : Int32) (l2 : Int32) (s1 : Int32) (s2 : Int32) : Option aH := jX11_goesNight_164 ih (sfi x 73 21 (s1 + s2)) l1 l2
def jX11_goesNight_145 (ih : aH → Int32 → Option aH) (x : aH) (l1 : Int32) (l2 : Int32) (l3 : Int32) (s1 : Int32) (s2 : Int32) : Option aH := if (0 : Int32) ≤ s1 ∧ s1 < (10 : Int32) then if l3 = (0 : Int32) then jX11_goesNight_160 ih (sri x 83 (ix s1) s2) l1 l2 (fi (sri x 83 (ix s1) s2) 73 21) (0 : Int32) else jX11_goesNight_160 ih (sri x 83 (ix s1) s2) l1 l2 (fi (sri x 83 (ix s1) s2) 73 21) (1 : Int32) else none
def jX11_goesNight_112 (ih : aH → Int32 → Option aH) (x : aH) (l1 : Int32) (l2 : Int32) (s0 : Int32) : Option aH := if s0 = (0 : Int32) then if (0 : Int32) ≤ l2 ∧ l2 < (10 : Int32) then (fX11_driftsTo x (ri x 81 (ix l2))).bind fun q142_10 => jX11_goesNight_145 ih x l1 l2 s0 l2 q142_10 else none else if (0 : Int32) ≤ l2 ∧ l2 < (10 : Int32) then (fX11_walksTo x (ri x 81 (ix l2))).bind fun q129_12 => jX11_goesNight_145 ih x l1 l2 s0 l2 q129_12 else none
def jX11_goesNight_111 (ih : aH → Int32 → Option aH) (x : aH) (l1 : Int32) (l2 : Int32) : Option aH := jX11_goesNight_112 ih x l1 l2 (0 : Int32)
def sX11_goesNight_41 (l1 : Int32) (ih : aH → Int32 → Option aH) (x : aH) (l2 : Int32) : Option aH := if (fi x 73 6) ≤ l2 then some x else if (0 : Int32) ≤ l2 ∧ l2 < (10 : Int32) then if (0 : Int32) ≤ l2 ∧ l2 < (10 : Int32) then if (0 : Int32) ≤ l2 ∧ l2 < (10 : Int32) then if (ri (sri x 83 (ix l2) (ri x 81 (ix l2))) 82 (ix l2)) = (0 : Int32) then if (fi (sri x 83 (ix l2) (ri x 81 (ix l2))) 73 20) = (0 : Int32) then jX11_goesNight_111 ih (sri x 83 (ix l2) (ri x 81 (ix l2))) l1 l2 else if (0 : Int32) ≤ l2 ∧ l2 < (10 : Int32) then (fX11_isSeen (sri x 83 (ix l2) (ri x 81 (ix l2))) (ri (sri x 83 (ix l2) (ri x 81 (ix l2))) 81 (ix l2)) l1).bind fun q85_15 => if q85_15 = (0 : Int32) then jX11_goesNight_111 ih (sri x 83 (ix l2) (ri x 81 (ix l2))) l1 l2 else (fX11_drawsOf (sri x 83 (ix l2) (ri x 81 (ix l2))) l2).bind fun q93_17 => if q93_17.1 < (ri q93_17.2 74 (ix (171 : Int32))) then jX11_goesNight_111 ih q93_17.2 l1 l2 else jX11_goesNight_112 ih q93_17.2 l1 l2 (1 : Int32) else none else jX11_goesNight_164 ih (sri x 83 (ix l2) (ri x 81 (ix l2))) l1 l2 else none else none else none
def wX11_goesNight_41 (l1 : Int32) : Nat → aH → Int32 → Option aH
  | 0 => fun _ _ => none
  | n + 1 => sX11_goesNight_41 l1 (wX11_goesNight_41 l1 n)
def jX11_goesNight_235 (ih : aH → Int32 → Option aH) (x : aH) (l2 : Int32) : Option aH := ih x (l2 + (1 : Int32))
def sX11_goesNight_172 (ih : aH → Int32 → Option aH) (x : aH) (l2 : Int32) : Option aH := if (fi x 73 6) ≤ l2 then some x else if (0 : Int32) ≤ l2 ∧ l2 < (10 : Int32) then if (0 : Int32) ≤ l2 ∧ l2 < (10 : Int32) then if (0 : Int32) ≤ l2 ∧ l2 < (10 : Int32) then if (ri (sri x 81 (ix l2) (ri x 83 (ix l2))) 82 (ix l2)) = (0 : Int32) then if (0 : Int32) ≤ l2 ∧ l2 < (10 : Int32) then if (ri (sri x 81 (ix l2) (ri x 83 (ix l2))) 81 (ix l2)) = (ri (sri x 81 (ix l2) (ri x 83 (ix l2))) 74 (ix (168 : Int32))) then if (0 : Int32) ≤ l2 ∧ l2 < (10 : Int32) then jX11_goesNight_235 ih (sfi (sri (sri x 81 (ix l2) (ri x 83 (ix l2))) 82 (ix l2) (1 : Int32)) 73 22 ((fi (sri (sri x 81 (ix l2) (ri x 83 (ix l2))) 82 (ix l2) (1 : Int32)) 73 22) + (1 : Int32))) l2 else none else jX11_goesNight_235 ih (sri x 81 (ix l2) (ri x 83 (ix l2))) l2 else none else jX11_goesNight_235 ih (sri x 81 (ix l2) (ri x 83 (ix l2))) l2 else none else none else none
def wX11_goesNight_172 : Nat → aH → Int32 → Option aH
  | 0 => fun _ _ => none
  | n + 1 => sX11_goesNight_172 (wX11_goesNight_172 n)
def jX11_goesNight_26 (x : aH) (l1 : Int32) (s1 : Int32) : Option aH := if s1 = (0 : Int32) ∨ s1 = (1 : Int32) then (wX11_goesNight_41 l1 2000 (sfi (sfi (sfi x 73 20 s1) 73 21 (0 : Int32)) 73 22 (0 : Int32)) (0 : Int32)).bind fun q41_19 => (wX11_goesNight_172 2000 q41_19 (0 : Int32)).bind fun q172_28 => if (fi q172_28 73 20) = (0 : Int32) then some (sfi q172_28 73 19 ((fi q172_28 73 19) - (0 : Int32))) else some (sfi q172_28 73 19 ((fi q172_28 73 19) - (ri q172_28 74 (ix (170 : Int32))))) else none
def jX11_goesNight_25 (x : aH) (l1 : Int32) : Option aH := jX11_goesNight_26 x l1 (0 : Int32)
def fX11_goesNight (x : aH) (p1 : Int32) : Option aH := if p1 = (4 : Int32) then jX11_goesNight_25 x p1 else if (fi x 73 19) < (ri x 74 (ix (170 : Int32))) then jX11_goesNight_25 x p1 else jX11_goesNight_26 x p1 (1 : Int32)
theorem lX11_goesNight_41 (Z : aZ) (y : aH) (l1 : Int32) {Q : Option Value → aH → Prop} {R : aH} : ∀ (n : Nat) (x : aH) (l2 : Int32), wX11_goesNight_41 l1 n x l2 = some R → (∀ q, R = q → TX false Z mX11_goesNight 68 y q Q 170 [.ref 73, .null, .null, .null] []) → TX false Z mX11_goesNight 68 y x Q 41 [.ref 73, .int l1, .int l2, .null] [] := by
  intro n
  induction n with
  | zero => intro x l2 hf; cases hf
  | succ n ih =>
    intro x l2 hf ke
    replace hf : sX11_goesNight_41 l1 (wX11_goesNight_41 l1 n) x l2 = some R := hf
    unfold sX11_goesNight_41 at hf
    refine T_iload dX11_goesNight_41 rfl ?_
    refine T_aload dX11_goesNight_42 rfl ?_
    refine X_getf dX11_goesNight_43 lfX11_93 rfl ob73 ?_
    refine T_icmp_ge dX11_goesNight_46 (fun c46_1 => ?_) (fun c46_1 => ?_)
    · replace hf := ite_t c46_1 hf
      exact X_wk (WK.s (WK.n (WK.n (WK.n WK.e)))) (ke _ (Option.some.inj hf).symm)
    · replace hf := ite_f c46_1 hf
      refine T_aload dX11_goesNight_49 rfl ?_
      refine X_getr dX11_goesNight_50 lfX11_37 rfl ob73 rfl ?_
      refine T_iload dX11_goesNight_53 rfl ?_
      refine T_aload dX11_goesNight_54 rfl ?_
      refine X_getr dX11_goesNight_55 lfX11_31 rfl ob73 rfl ?_
      refine T_iload dX11_goesNight_58 rfl ?_
      obtain ⟨hb59_2, hf⟩ := opt_t hf
      refine X_iald (N := 10) dX11_goesNight_59 ar81 rfl hb59_2 ?_
      obtain ⟨hb60_3, hf⟩ := opt_t hf
      refine X_iast (N := 10) dX11_goesNight_60 ar83 rfl hb60_3 ?_
      refine T_aload dX11_goesNight_61 rfl ?_
      refine X_getr dX11_goesNight_62 lfX11_34 rfl ob73 rfl ?_
      refine T_iload dX11_goesNight_65 rfl ?_
      obtain ⟨hb66_4, hf⟩ := opt_t hf
      refine X_iald (N := 10) dX11_goesNight_66 ar82 rfl hb66_4 ?_
      have J164 : ∀ (x : aH) (l2 : Int32), jX11_goesNight_164 (wX11_goesNight_41 l1 n) x l1 l2 = some R → TX false Z mX11_goesNight 68 y x Q 164 [.ref 73, .int l1, .int l2, .null] [] := by
        intro x l2 hf
        unfold jX11_goesNight_164 at hf
        refine T_iinc dX11_goesNight_164 rfl ?_
        show TX _ _ _ _ _ _ _ _ [_, _, _, _] _
        refine T_goto dX11_goesNight_167 ?_
        exact X_wk (WK.s (WK.s (WK.s (WK.n WK.e)))) (ih _ _ hf ke)
      refine T_if_ne dX11_goesNight_67 (fun c67_5 => ?_) (fun c67_5 => ?_)
      · replace hf := ite_f c67_5 hf
        exact X_wk (WK.s (WK.s (WK.s (WK.n WK.e)))) (J164 _ _ hf)
      · replace hf := ite_t c67_5 hf
        refine T_aload dX11_goesNight_70 rfl ?_
        refine X_getf dX11_goesNight_71 lfX11_214 rfl ob73 ?_
        have J112 : ∀ (x : aH) (l2 : Int32) (s0 : Int32), jX11_goesNight_112 (wX11_goesNight_41 l1 n) x l1 l2 s0 = some R → TX false Z mX11_goesNight 68 y x Q 112 [.ref 73, .int l1, .int l2, .null] [.int s0] := by
          intro x l2 s0 hf
          unfold jX11_goesNight_112 at hf
          refine T_istore dX11_goesNight_112 ?_
          show TX _ _ _ _ _ _ _ _ [_, _, _, _] _
          refine T_aload dX11_goesNight_113 rfl ?_
          refine X_getr dX11_goesNight_114 lfX11_37 rfl ob73 rfl ?_
          refine T_iload dX11_goesNight_117 rfl ?_
          refine T_iload dX11_goesNight_118 rfl ?_
          have J145 : ∀ (x : aH) (l2 : Int32) (l3 : Int32) (s1 : Int32) (s2 : Int32), jX11_goesNight_145 (wX11_goesNight_41 l1 n) x l1 l2 l3 s1 s2 = some R → TX false Z mX11_goesNight 68 y x Q 145 [.ref 73, .int l1, .int l2, .int l3] [.int s2, .int s1, .ref 83] := by
            intro x l2 l3 s1 s2 hf
            unfold jX11_goesNight_145 at hf
            obtain ⟨hb145_6, hf⟩ := opt_t hf
            refine X_iast (N := 10) dX11_goesNight_145 ar83 rfl hb145_6 ?_
            refine T_aload dX11_goesNight_146 rfl ?_
            refine T_dup dX11_goesNight_147 rfl ?_
            refine X_getf dX11_goesNight_148 lfX11_218 rfl ob73 ?_
            refine T_iload dX11_goesNight_151 rfl ?_
            have J160 : ∀ (x : aH) (l2 : Int32) (s1 : Int32) (s2 : Int32), jX11_goesNight_160 (wX11_goesNight_41 l1 n) x l1 l2 s1 s2 = some R → TX false Z mX11_goesNight 68 y x Q 160 [.ref 73, .int l1, .int l2, .null] [.int s2, .int s1, .ref 73] := by
              intro x l2 s1 s2 hf
              unfold jX11_goesNight_160 at hf
              refine T_iadd dX11_goesNight_160 ?_
              refine X_putf dX11_goesNight_161 lfX11_218 rfl rfl ob73 ⟨rfl, rfl⟩ ?_
              exact X_wk (WK.s (WK.s (WK.s (WK.n WK.e)))) (J164 _ _ hf)
            refine T_if_eq dX11_goesNight_152 (fun c152_7 => ?_) (fun c152_7 => ?_)
            · replace hf := ite_t c152_7 hf
              refine T_const dX11_goesNight_159 ?_
              exact X_wk (WK.s (WK.s (WK.s (WK.n WK.e)))) (J160 _ _ _ _ hf)
            · replace hf := ite_f c152_7 hf
              refine T_const dX11_goesNight_155 ?_
              refine T_goto dX11_goesNight_156 ?_
              exact X_wk (WK.s (WK.s (WK.s (WK.n WK.e)))) (J160 _ _ _ _ hf)
          refine T_if_eq dX11_goesNight_119 (fun c119_8 => ?_) (fun c119_8 => ?_)
          · replace hf := ite_t c119_8 hf
            refine T_aload dX11_goesNight_135 rfl ?_
            refine T_aload dX11_goesNight_136 rfl ?_
            refine X_getr dX11_goesNight_137 lfX11_31 rfl ob73 rfl ?_
            refine T_iload dX11_goesNight_140 rfl ?_
            obtain ⟨hb141_9, hf⟩ := opt_t hf
            refine X_iald (N := 10) dX11_goesNight_141 ar81 rfl hb141_9 ?_
            obtain ⟨q142_10, hc142_10, hf⟩ := bind_t hf
            refine X_Vv (qX11_driftsTo Z _ hc142_10) (Nat.le_of_ble_eq_true rfl) dX11_goesNight_142 lvX11_233 rfl rfl ob73 (Nat.le_of_ble_eq_true rfl) ?_
            exact X_wk (WK.s (WK.s (WK.s (WK.s WK.e)))) (J145 _ _ _ _ _ hf)
          · replace hf := ite_f c119_8 hf
            refine T_aload dX11_goesNight_122 rfl ?_
            refine T_aload dX11_goesNight_123 rfl ?_
            refine X_getr dX11_goesNight_124 lfX11_31 rfl ob73 rfl ?_
            refine T_iload dX11_goesNight_127 rfl ?_
            obtain ⟨hb128_11, hf⟩ := opt_t hf
            refine X_iald (N := 10) dX11_goesNight_128 ar81 rfl hb128_11 ?_
            obtain ⟨q129_12, hc129_12, hf⟩ := bind_t hf
            refine X_Vv (qX11_walksTo Z _ hc129_12) (Nat.le_of_ble_eq_true rfl) dX11_goesNight_129 lvX11_230 rfl rfl ob73 (Nat.le_of_ble_eq_true rfl) ?_
            refine T_goto dX11_goesNight_132 ?_
            exact X_wk (WK.s (WK.s (WK.s (WK.s WK.e)))) (J145 _ _ _ _ _ hf)
        have J111 : ∀ (x : aH) (l2 : Int32), jX11_goesNight_111 (wX11_goesNight_41 l1 n) x l1 l2 = some R → TX false Z mX11_goesNight 68 y x Q 111 [.ref 73, .int l1, .int l2, .null] [] := by
          intro x l2 hf
          unfold jX11_goesNight_111 at hf
          refine T_const dX11_goesNight_111 ?_
          exact X_wk (WK.s (WK.s (WK.s (WK.n WK.e)))) (J112 _ _ _ hf)
        refine T_if_eq dX11_goesNight_74 (fun c74_13 => ?_) (fun c74_13 => ?_)
        · replace hf := ite_t c74_13 hf
          exact X_wk (WK.s (WK.s (WK.s (WK.n WK.e)))) (J111 _ _ hf)
        · replace hf := ite_f c74_13 hf
          refine T_aload dX11_goesNight_77 rfl ?_
          refine T_aload dX11_goesNight_78 rfl ?_
          refine X_getr dX11_goesNight_79 lfX11_31 rfl ob73 rfl ?_
          refine T_iload dX11_goesNight_82 rfl ?_
          obtain ⟨hb83_14, hf⟩ := opt_t hf
          refine X_iald (N := 10) dX11_goesNight_83 ar81 rfl hb83_14 ?_
          refine T_iload dX11_goesNight_84 rfl ?_
          obtain ⟨q85_15, hc85_15, hf⟩ := bind_t hf
          refine X_Vv (qX11_isSeen Z _ hc85_15) (Nat.le_of_ble_eq_true rfl) dX11_goesNight_85 lvX11_224 rfl rfl ob73 (Nat.le_of_ble_eq_true rfl) ?_
          refine T_if_eq dX11_goesNight_88 (fun c88_16 => ?_) (fun c88_16 => ?_)
          · replace hf := ite_t c88_16 hf
            exact X_wk (WK.s (WK.s (WK.s (WK.n WK.e)))) (J111 _ _ hf)
          · replace hf := ite_f c88_16 hf
            refine T_aload dX11_goesNight_91 rfl ?_
            refine T_iload dX11_goesNight_92 rfl ?_
            obtain ⟨q93_17, hc93_17, hf⟩ := bind_t hf
            refine X_Vv (qX11_drawsOf Z _ hc93_17) (Nat.le_of_ble_eq_true rfl) dX11_goesNight_93 lvX11_227 rfl rfl ob73 (Nat.le_of_ble_eq_true rfl) ?_
            refine T_aload dX11_goesNight_96 rfl ?_
            refine X_getr dX11_goesNight_97 lfX11_9 rfl ob73 rfl ?_
            refine T_const dX11_goesNight_100 ?_
            refine X_iald (N := 172) dX11_goesNight_103 ar74 rfl (by decide) ?_
            refine T_icmp_lt dX11_goesNight_104 (fun c104_18 => ?_) (fun c104_18 => ?_)
            · replace hf := ite_t c104_18 hf
              exact X_wk (WK.s (WK.s (WK.s (WK.n WK.e)))) (J111 _ _ hf)
            · replace hf := ite_f c104_18 hf
              refine T_const dX11_goesNight_107 ?_
              refine T_goto dX11_goesNight_108 ?_
              exact X_wk (WK.s (WK.s (WK.s (WK.n WK.e)))) (J112 _ _ _ hf)
theorem lX11_goesNight_172 (Z : aZ) (y : aH) {Q : Option Value → aH → Prop} {R : aH} : ∀ (n : Nat) (x : aH) (l2 : Int32), wX11_goesNight_172 n x l2 = some R → (∀ q, R = q → TX false Z mX11_goesNight 68 y q Q 241 [.ref 73, .null, .null, .null] []) → TX false Z mX11_goesNight 68 y x Q 172 [.ref 73, .null, .int l2, .null] [] := by
  intro n
  induction n with
  | zero => intro x l2 hf; cases hf
  | succ n ih =>
    intro x l2 hf ke
    replace hf : sX11_goesNight_172 (wX11_goesNight_172 n) x l2 = some R := hf
    unfold sX11_goesNight_172 at hf
    refine T_iload dX11_goesNight_172 rfl ?_
    refine T_aload dX11_goesNight_173 rfl ?_
    refine X_getf dX11_goesNight_174 lfX11_93 rfl ob73 ?_
    refine T_icmp_ge dX11_goesNight_177 (fun c177_20 => ?_) (fun c177_20 => ?_)
    · replace hf := ite_t c177_20 hf
      exact X_wk (WK.s (WK.n (WK.n (WK.n WK.e)))) (ke _ (Option.some.inj hf).symm)
    · replace hf := ite_f c177_20 hf
      refine T_aload dX11_goesNight_180 rfl ?_
      refine X_getr dX11_goesNight_181 lfX11_31 rfl ob73 rfl ?_
      refine T_iload dX11_goesNight_184 rfl ?_
      refine T_aload dX11_goesNight_185 rfl ?_
      refine X_getr dX11_goesNight_186 lfX11_37 rfl ob73 rfl ?_
      refine T_iload dX11_goesNight_189 rfl ?_
      obtain ⟨hb190_21, hf⟩ := opt_t hf
      refine X_iald (N := 10) dX11_goesNight_190 ar83 rfl hb190_21 ?_
      obtain ⟨hb191_22, hf⟩ := opt_t hf
      refine X_iast (N := 10) dX11_goesNight_191 ar81 rfl hb191_22 ?_
      refine T_aload dX11_goesNight_192 rfl ?_
      refine X_getr dX11_goesNight_193 lfX11_34 rfl ob73 rfl ?_
      refine T_iload dX11_goesNight_196 rfl ?_
      obtain ⟨hb197_23, hf⟩ := opt_t hf
      refine X_iald (N := 10) dX11_goesNight_197 ar82 rfl hb197_23 ?_
      have J235 : ∀ (x : aH) (l2 : Int32), jX11_goesNight_235 (wX11_goesNight_172 n) x l2 = some R → TX false Z mX11_goesNight 68 y x Q 235 [.ref 73, .null, .int l2, .null] [] := by
        intro x l2 hf
        unfold jX11_goesNight_235 at hf
        refine T_iinc dX11_goesNight_235 rfl ?_
        show TX _ _ _ _ _ _ _ _ [_, _, _, _] _
        refine T_goto dX11_goesNight_238 ?_
        exact X_wk (WK.s (WK.n (WK.s (WK.n WK.e)))) (ih _ _ hf ke)
      refine T_if_ne dX11_goesNight_198 (fun c198_24 => ?_) (fun c198_24 => ?_)
      · replace hf := ite_f c198_24 hf
        exact X_wk (WK.s (WK.n (WK.s (WK.n WK.e)))) (J235 _ _ hf)
      · replace hf := ite_t c198_24 hf
        refine T_aload dX11_goesNight_201 rfl ?_
        refine X_getr dX11_goesNight_202 lfX11_31 rfl ob73 rfl ?_
        refine T_iload dX11_goesNight_205 rfl ?_
        obtain ⟨hb206_25, hf⟩ := opt_t hf
        refine X_iald (N := 10) dX11_goesNight_206 ar81 rfl hb206_25 ?_
        refine T_aload dX11_goesNight_207 rfl ?_
        refine X_getr dX11_goesNight_208 lfX11_9 rfl ob73 rfl ?_
        refine T_const dX11_goesNight_211 ?_
        refine X_iald (N := 172) dX11_goesNight_214 ar74 rfl (by decide) ?_
        refine T_icmp_ne dX11_goesNight_215 (fun c215_26 => ?_) (fun c215_26 => ?_)
        · replace hf := ite_f c215_26 hf
          exact X_wk (WK.s (WK.n (WK.s (WK.n WK.e)))) (J235 _ _ hf)
        · replace hf := ite_t c215_26 hf
          refine T_aload dX11_goesNight_218 rfl ?_
          refine X_getr dX11_goesNight_219 lfX11_34 rfl ob73 rfl ?_
          refine T_iload dX11_goesNight_222 rfl ?_
          refine T_const dX11_goesNight_223 ?_
          obtain ⟨hb224_27, hf⟩ := opt_t hf
          refine X_iast (N := 10) dX11_goesNight_224 ar82 rfl hb224_27 ?_
          refine T_aload dX11_goesNight_225 rfl ?_
          refine T_dup dX11_goesNight_226 rfl ?_
          refine X_getf dX11_goesNight_227 lfX11_221 rfl ob73 ?_
          refine T_const dX11_goesNight_230 ?_
          refine T_iadd dX11_goesNight_231 ?_
          refine X_putf dX11_goesNight_232 lfX11_221 rfl rfl ob73 ⟨rfl, rfl⟩ ?_
          exact X_wk (WK.s (WK.n (WK.s (WK.n WK.e)))) (J235 _ _ hf)
theorem qX11_goesNight (Z : aZ) (y : aH) {x : aH} {p1 : Int32} {q : aH} (hf : fX11_goesNight x p1 = some q) : CX false Z mX11_goesNight 68 [.ref 73, .int p1] y x (RN q) := by
  refine CX.of mokX11_goesNight (Nat.le_of_ble_eq_true rfl) ?_
  show TX _ _ _ _ _ _ _ _ [_, _, _, _] _
  unfold fX11_goesNight at hf
  refine T_aload dX11_goesNight_0 rfl ?_
  refine T_iload dX11_goesNight_1 rfl ?_
  refine T_const dX11_goesNight_2 ?_
  have J26 : ∀ (x : aH) (l1 : Int32) (s1 : Int32), jX11_goesNight_26 x l1 s1 = some q → TX false Z mX11_goesNight 68 y x (RN q) 26 [.ref 73, .int l1, .null, .null] [.int s1, .ref 73] := by
    intro x l1 s1 hf
    unfold jX11_goesNight_26 at hf
    obtain ⟨h01, hf⟩ := opt_t hf
    refine X_putf dX11_goesNight_26 lfX11_214 rfl rfl ob73 (by rcases h01 with h01 | h01 <;> rw [h01] <;> exact ⟨rfl, rfl⟩) ?_
    refine T_aload dX11_goesNight_29 rfl ?_
    refine T_const dX11_goesNight_30 ?_
    refine X_putf dX11_goesNight_31 lfX11_218 rfl rfl ob73 ⟨rfl, rfl⟩ ?_
    refine T_aload dX11_goesNight_34 rfl ?_
    refine T_const dX11_goesNight_35 ?_
    refine X_putf dX11_goesNight_36 lfX11_221 rfl rfl ob73 ⟨rfl, rfl⟩ ?_
    refine T_const dX11_goesNight_39 ?_
    refine T_istore dX11_goesNight_40 ?_
    show TX _ _ _ _ _ _ _ _ [_, _, _, _] _
    obtain ⟨q41_19, hc41_19, hf⟩ := bind_t hf
    refine X_wk (WK.s (WK.s (WK.s (WK.n WK.e)))) (lX11_goesNight_41 Z _ _ 2000 _ _ hc41_19 ?_)
    intro q41_19z hr
    subst hr
    refine T_const dX11_goesNight_170 ?_
    refine T_istore dX11_goesNight_171 ?_
    show TX _ _ _ _ _ _ _ _ [_, _, _, _] _
    obtain ⟨q172_28, hc172_28, hf⟩ := bind_t hf
    refine X_wk (WK.s (WK.n (WK.s (WK.n WK.e)))) (lX11_goesNight_172 Z _ 2000 _ _ hc172_28 ?_)
    intro q172_28z hr
    subst hr
    refine T_aload dX11_goesNight_241 rfl ?_
    refine T_dup dX11_goesNight_242 rfl ?_
    refine X_getf dX11_goesNight_243 lfX11_200 rfl ob73 ?_
    refine T_aload dX11_goesNight_246 rfl ?_
    refine X_getf dX11_goesNight_247 lfX11_214 rfl ob73 ?_
    refine T_if_eq dX11_goesNight_250 (fun c250_29 => ?_) (fun c250_29 => ?_)
    · replace hf := ite_t c250_29 hf
      refine T_const dX11_goesNight_264 ?_
      refine T_isub dX11_goesNight_265 ?_
      refine X_putf dX11_goesNight_266 lfX11_200 rfl rfl ob73 ⟨rfl, rfl⟩ ?_
      obtain rfl := Option.some.inj hf
      exact X_rv dX11_goesNight_269 ⟨rfl, rfl⟩
    · replace hf := ite_f c250_29 hf
      refine T_aload dX11_goesNight_253 rfl ?_
      refine X_getr dX11_goesNight_254 lfX11_9 rfl ob73 rfl ?_
      refine T_const dX11_goesNight_257 ?_
      refine X_iald (N := 172) dX11_goesNight_260 ar74 rfl (by decide) ?_
      refine T_goto dX11_goesNight_261 ?_
      refine T_isub dX11_goesNight_265 ?_
      refine X_putf dX11_goesNight_266 lfX11_200 rfl rfl ob73 ⟨rfl, rfl⟩ ?_
      obtain rfl := Option.some.inj hf
      exact X_rv dX11_goesNight_269 ⟨rfl, rfl⟩
  have J25 : ∀ (x : aH) (l1 : Int32), jX11_goesNight_25 x l1 = some q → TX false Z mX11_goesNight 68 y x (RN q) 25 [.ref 73, .int l1, .null, .null] [.ref 73] := by
    intro x l1 hf
    unfold jX11_goesNight_25 at hf
    refine T_const dX11_goesNight_25 ?_
    exact X_wk (WK.s (WK.s (WK.n (WK.n WK.e)))) (J26 _ _ _ hf)
  refine T_icmp_eq dX11_goesNight_3 (fun c3_30 => ?_) (fun c3_30 => ?_)
  · replace hf := ite_t c3_30 hf
    exact X_wk (WK.s (WK.s (WK.n (WK.n WK.e)))) (J25 _ _ hf)
  · replace hf := ite_f c3_30 hf
    refine T_aload dX11_goesNight_6 rfl ?_
    refine X_getf dX11_goesNight_7 lfX11_200 rfl ob73 ?_
    refine T_aload dX11_goesNight_10 rfl ?_
    refine X_getr dX11_goesNight_11 lfX11_9 rfl ob73 rfl ?_
    refine T_const dX11_goesNight_14 ?_
    refine X_iald (N := 172) dX11_goesNight_17 ar74 rfl (by decide) ?_
    refine T_icmp_lt dX11_goesNight_18 (fun c18_31 => ?_) (fun c18_31 => ?_)
    · replace hf := ite_t c18_31 hf
      exact X_wk (WK.s (WK.s (WK.n (WK.n WK.e)))) (J25 _ _ hf)
    · replace hf := ite_f c18_31 hf
      refine T_const dX11_goesNight_21 ?_
      refine T_goto dX11_goesNight_22 ?_
      exact X_wk (WK.s (WK.s (WK.n (WK.n WK.e)))) (J26 _ _ _ hf)
def fX11_draws (x : aH) (p1 : Int32) : Option (Int32 × aH) := (fX11_isLost x (Int32.toInt64 p1)).bind fun q3_1 => if q3_1 = (0 : Int32) then some ((-1 : Int32), x) else (fX11_begins x).bind fun q12_3 => (fX11_drawsOf q12_3 p1).bind fun q17_4 => some (q17_4.1, q17_4.2)
theorem qX11_draws (Z : aZ) (y : aH) {x : aH} {p1 : Int32} {q : (Int32 × aH)} (hf : fX11_draws x p1 = some q) : CX false Z mX11_draws 68 [.ref 73, .int p1] y x (RV (.int q.1) q.2) := by
  refine CX.of mokX11_draws (Nat.le_of_ble_eq_true rfl) ?_
  show TX _ _ _ _ _ _ _ _ [_, _] _
  unfold fX11_draws at hf
  refine T_aload dX11_draws_0 rfl ?_
  refine T_iload dX11_draws_1 rfl ?_
  refine T_i2l dX11_draws_2 ?_
  obtain ⟨q3_1, hc3_1, hf⟩ := bind_t hf
  refine X_Vv (qX11_isLost Z _ hc3_1) (Nat.le_of_ble_eq_true rfl) dX11_draws_3 lvX11_123 rfl rfl ob73 (Nat.le_of_ble_eq_true rfl) ?_
  refine T_if_ne dX11_draws_6 (fun c6_2 => ?_) (fun c6_2 => ?_)
  · replace hf := ite_f c6_2 hf
    refine T_aload dX11_draws_11 rfl ?_
    obtain ⟨q12_3, hc12_3, hf⟩ := bind_t hf
    refine X_Vn (qX11_begins Z _ hc12_3) (Nat.le_of_ble_eq_true rfl) dX11_draws_12 lvX11_236 rfl rfl ob73 (Nat.le_of_ble_eq_true rfl) ?_
    refine T_aload dX11_draws_15 rfl ?_
    refine T_iload dX11_draws_16 rfl ?_
    obtain ⟨q17_4, hc17_4, hf⟩ := bind_t hf
    refine X_Vv (qX11_drawsOf Z _ hc17_4) (Nat.le_of_ble_eq_true rfl) dX11_draws_17 lvX11_227 rfl rfl ob73 (Nat.le_of_ble_eq_true rfl) ?_
    obtain rfl := Option.some.inj hf
    exact X_ri dX11_draws_20 ⟨rfl, rfl⟩
  · replace hf := ite_t c6_2 hf
    refine T_const dX11_draws_9 ?_
    obtain rfl := Option.some.inj hf
    exact X_ri dX11_draws_10 ⟨rfl, rfl⟩
def jX11_seen_47 (ih : Int64 → Int32 → Option Int64) (x : aH) (l1 : Int32) (l4 : Int32) (s0 : Int64) (s1 : Int64) : Option Int64 := ih (s0 ||| s1) (l4 + (1 : Int32))
def sX11_seen_21 (x : aH) (l1 : Int32) (ih : Int64 → Int32 → Option Int64) (l2 : Int64) (l4 : Int32) : Option Int64 := if (64 : Int32) ≤ l4 then some l2 else (fX11_isSeen x l4 l1).bind fun q33_4 => if q33_4 = (0 : Int32) then jX11_seen_47 ih x l1 l4 l2 (0 : Int64) else jX11_seen_47 ih x l1 l4 l2 ((1 : Int64) <<< (Int32.toInt64 l4 &&& 63))
def wX11_seen_21 (x : aH) (l1 : Int32) : Nat → Int64 → Int32 → Option Int64
  | 0 => fun _ _ => none
  | n + 1 => sX11_seen_21 x l1 (wX11_seen_21 x l1 n)
def fX11_seen (x : aH) (p1 : Int32) : Option Int64 := (fX11_within (Int32.toInt64 p1) (0 : Int64) (3 : Int64)).bind fun q6_1 => if q6_1 = (0 : Int32) then some (-9223372036854775808 : Int64) else (wX11_seen_21 x p1 2000 (0 : Int64) (0 : Int32)).bind fun q21_6 => some q21_6
theorem lX11_seen_21 (Z : aZ) (y : aH) (x : aH) (l1 : Int32) {Q : Option Value → aH → Prop} {R : Int64} : ∀ (n : Nat) (l2 : Int64) (l4 : Int32), wX11_seen_21 x l1 n l2 l4 = some R → (∀ q, R = q → TX false Z mX11_seen 2 y x Q 55 [.null, .null, .long q, .null, .null] []) → TX false Z mX11_seen 2 y x Q 21 [.ref 73, .int l1, .long l2, .null, .int l4] [] := by
  intro n
  induction n with
  | zero => intro l2 l4 hf; cases hf
  | succ n ih =>
    intro l2 l4 hf ke
    replace hf : sX11_seen_21 x l1 (wX11_seen_21 x l1 n) l2 l4 = some R := hf
    unfold sX11_seen_21 at hf
    refine T_iload dX11_seen_21 rfl ?_
    refine T_const dX11_seen_23 ?_
    refine T_icmp_ge dX11_seen_25 (fun c25_3 => ?_) (fun c25_3 => ?_)
    · replace hf := ite_t c25_3 hf
      exact X_wk (WK.n (WK.n (WK.s (WK.n (WK.n WK.e))))) (ke _ (Option.some.inj hf).symm)
    · replace hf := ite_f c25_3 hf
      refine T_lload dX11_seen_28 rfl ?_
      refine T_aload dX11_seen_29 rfl ?_
      refine T_iload dX11_seen_30 rfl ?_
      refine T_iload dX11_seen_32 rfl ?_
      obtain ⟨q33_4, hc33_4, hf⟩ := bind_t hf
      refine X_Vv (qX11_isSeen Z _ hc33_4) (Nat.le_of_ble_eq_true rfl) dX11_seen_33 lvX11_224 rfl rfl ob73 (Nat.le_of_ble_eq_true rfl) ?_
      have J47 : ∀ (l4 : Int32) (s0 : Int64) (s1 : Int64), jX11_seen_47 (wX11_seen_21 x l1 n) x l1 l4 s0 s1 = some R → TX false Z mX11_seen 2 y x Q 47 [.ref 73, .int l1, .null, .null, .int l4] [.long s1, .long s0] := by
        intro l4 s0 s1 hf
        unfold jX11_seen_47 at hf
        refine T_lor dX11_seen_47 ?_
        refine T_lstore dX11_seen_48 ?_
        show TX _ _ _ _ _ _ _ _ [_, _, _, _, _] _
        refine T_iinc dX11_seen_49 rfl ?_
        show TX _ _ _ _ _ _ _ _ [_, _, _, _, _] _
        refine T_goto dX11_seen_52 ?_
        exact X_wk (WK.s (WK.s (WK.s (WK.n (WK.s WK.e))))) (ih _ _ hf ke)
      refine T_if_eq dX11_seen_36 (fun c36_5 => ?_) (fun c36_5 => ?_)
      · replace hf := ite_t c36_5 hf
        refine T_constL dX11_seen_46 ?_
        exact X_wk (WK.s (WK.s (WK.n (WK.n (WK.s WK.e))))) (J47 _ _ _ hf)
      · replace hf := ite_f c36_5 hf
        refine T_constL dX11_seen_39 ?_
        refine T_iload dX11_seen_40 rfl ?_
        refine T_lshl dX11_seen_42 ?_
        refine T_goto dX11_seen_43 ?_
        exact X_wk (WK.s (WK.s (WK.n (WK.n (WK.s WK.e))))) (J47 _ _ _ hf)
theorem qX11_seen (Z : aZ) (y : aH) {x : aH} {p1 : Int32} {q : Int64} (hf : fX11_seen x p1 = some q) : CX false Z mX11_seen 2 [.ref 73, .int p1] y x (RV (.long q) x) := by
  refine CX.of mokX11_seen (Nat.le_of_ble_eq_true rfl) ?_
  show TX _ _ _ _ _ _ _ _ [_, _, _, _, _] _
  unfold fX11_seen at hf
  refine T_iload dX11_seen_0 rfl ?_
  refine T_i2l dX11_seen_1 ?_
  refine T_constL dX11_seen_2 ?_
  refine T_constL dX11_seen_3 ?_
  obtain ⟨q6_1, hc6_1, hf⟩ := bind_t hf
  refine X_Sv (qX11_within _ Z _ _ hc6_1) (Nat.le_of_ble_eq_true rfl) dX11_seen_6 lsX11_96 rfl rfl (Nat.le_of_ble_eq_true rfl) ?_
  refine T_if_ne dX11_seen_9 (fun c9_2 => ?_) (fun c9_2 => ?_)
  · replace hf := ite_f c9_2 hf
    refine T_constL dX11_seen_16 ?_
    refine T_lstore dX11_seen_17 ?_
    show TX _ _ _ _ _ _ _ _ [_, _, _, _, _] _
    refine T_const dX11_seen_18 ?_
    refine T_istore dX11_seen_19 ?_
    show TX _ _ _ _ _ _ _ _ [_, _, _, _, _] _
    obtain ⟨q21_6, hc21_6, hf⟩ := bind_t hf
    refine X_wk (WK.s (WK.s (WK.s (WK.n (WK.s WK.e))))) (lX11_seen_21 Z _ _ _ 2000 _ _ hc21_6 ?_)
    intro q21_6z hr
    subst hr
    refine T_lload dX11_seen_55 rfl ?_
    obtain rfl := Option.some.inj hf
    exact X_rl dX11_seen_56 ⟨rfl, rfl⟩
  · replace hf := ite_t c9_2 hf
    refine T_constL dX11_seen_12 ?_
    obtain rfl := Option.some.inj hf
    exact X_rl dX11_seen_15 ⟨rfl, rfl⟩
def fX11_bytesIs (x : aH) (p1 : Int32) : Option Int32 := (fX11_isShelf p1).bind fun q1_1 => if q1_1 = (0 : Int32) then some (-1 : Int32) else if (0 : Int32) ≤ p1 ∧ p1 < (6 : Int32) then if (0 : Int32) ≤ (ri x 94 (ix p1)) then if (0 : Int32) ≤ p1 ∧ p1 < (6 : Int32) then if (ri x 94 (ix p1)) = (50 : Int32) then some (1 : Int32) else some (-12 : Int32) else none else some (-11 : Int32) else none
theorem qX11_bytesIs (Z : aZ) (y : aH) {x : aH} {p1 : Int32} {q : Int32} (hf : fX11_bytesIs x p1 = some q) : CX false Z mX11_bytesIs 2 [.ref 73, .int p1] y x (RV (.int q) x) := by
  refine CX.of mokX11_bytesIs (Nat.le_of_ble_eq_true rfl) ?_
  show TX _ _ _ _ _ _ _ _ [_, _] _
  unfold fX11_bytesIs at hf
  refine T_iload dX11_bytesIs_0 rfl ?_
  obtain ⟨q1_1, hc1_1, hf⟩ := bind_t hf
  refine X_Sv (qX11_isShelf _ Z _ _ hc1_1) (Nat.le_of_ble_eq_true rfl) dX11_bytesIs_1 lsX11_117 rfl rfl (Nat.le_of_ble_eq_true rfl) ?_
  refine T_if_ne dX11_bytesIs_4 (fun c4_2 => ?_) (fun c4_2 => ?_)
  · replace hf := ite_f c4_2 hf
    refine T_aload dX11_bytesIs_11 rfl ?_
    refine X_getr dX11_bytesIs_12 lfX11_70 rfl ob73 rfl ?_
    refine T_iload dX11_bytesIs_15 rfl ?_
    obtain ⟨hb16_3, hf⟩ := opt_t hf
    refine X_iald (N := 6) dX11_bytesIs_16 ar94 rfl hb16_3 ?_
    refine T_if_ge dX11_bytesIs_17 (fun c17_4 => ?_) (fun c17_4 => ?_)
    · replace hf := ite_t c17_4 hf
      refine T_aload dX11_bytesIs_25 rfl ?_
      refine X_getr dX11_bytesIs_26 lfX11_70 rfl ob73 rfl ?_
      refine T_iload dX11_bytesIs_29 rfl ?_
      obtain ⟨hb30_5, hf⟩ := opt_t hf
      refine X_iald (N := 6) dX11_bytesIs_30 ar94 rfl hb30_5 ?_
      refine T_const dX11_bytesIs_31 ?_
      refine T_icmp_ne dX11_bytesIs_33 (fun c33_6 => ?_) (fun c33_6 => ?_)
      · replace hf := ite_f c33_6 hf
        refine T_const dX11_bytesIs_40 ?_
        obtain rfl := Option.some.inj hf
        exact X_ri dX11_bytesIs_42 ⟨rfl, rfl⟩
      · replace hf := ite_t c33_6 hf
        refine T_const dX11_bytesIs_36 ?_
        refine T_goto dX11_bytesIs_37 ?_
        obtain rfl := Option.some.inj hf
        exact X_ri dX11_bytesIs_42 ⟨rfl, rfl⟩
    · replace hf := ite_f c17_4 hf
      refine T_const dX11_bytesIs_20 ?_
      refine T_goto dX11_bytesIs_22 ?_
      obtain rfl := Option.some.inj hf
      exact X_ri dX11_bytesIs_42 ⟨rfl, rfl⟩
  · replace hf := ite_t c4_2 hf
    refine T_const dX11_bytesIs_7 ?_
    refine T_goto dX11_bytesIs_8 ?_
    obtain rfl := Option.some.inj hf
    exact X_ri dX11_bytesIs_42 ⟨rfl, rfl⟩
def sX11_nightMany_2 (x : aH) (l1 : Int32) (ih : Int32 → Option Int32) (l2 : Int32) : Option Int32 := if (40 : Int32) ≤ l2 then some l2 else if (0 : Int32) ≤ l1 ∧ l1 < (6 : Int32) then if (ri x 95 (ix l1)) ≤ l2 then some l2 else if (0 : Int32) ≤ (((60 : Int32) * l1) + l2) ∧ (((60 : Int32) * l1) + l2) < (360 : Int32) then (fX11_within (rj x 96 (ix (((60 : Int32) * l1) + l2))) (0 : Int64) (4 : Int64)).bind fun q33_5 => if q33_5 = (0 : Int32) then some l2 else ih (l2 + (1 : Int32)) else none else none
def wX11_nightMany_2 (x : aH) (l1 : Int32) : Nat → Int32 → Option Int32
  | 0 => fun _ => none
  | n + 1 => sX11_nightMany_2 x l1 (wX11_nightMany_2 x l1 n)
def fX11_nightMany (x : aH) (p1 : Int32) : Option Int32 := (wX11_nightMany_2 x p1 2000 (0 : Int32)).bind fun q2_7 => some q2_7
theorem lX11_nightMany_2 (Z : aZ) (y : aH) (x : aH) (l1 : Int32) {Q : Option Value → aH → Prop} {R : Int32} : ∀ (n : Nat) (l2 : Int32), wX11_nightMany_2 x l1 n l2 = some R → (∀ q, R = q → TX false Z mX11_nightMany 1 y x Q 45 [.null, .null, .int q] []) → TX false Z mX11_nightMany 1 y x Q 2 [.ref 73, .int l1, .int l2] [] := by
  intro n
  induction n with
  | zero => intro l2 hf; cases hf
  | succ n ih =>
    intro l2 hf ke
    replace hf : sX11_nightMany_2 x l1 (wX11_nightMany_2 x l1 n) l2 = some R := hf
    unfold sX11_nightMany_2 at hf
    refine T_iload dX11_nightMany_2 rfl ?_
    refine T_const dX11_nightMany_3 ?_
    refine T_icmp_ge dX11_nightMany_5 (fun c5_1 => ?_) (fun c5_1 => ?_)
    · replace hf := ite_t c5_1 hf
      exact X_wk (WK.n (WK.n (WK.s WK.e))) (ke _ (Option.some.inj hf).symm)
    · replace hf := ite_f c5_1 hf
      refine T_iload dX11_nightMany_8 rfl ?_
      refine T_aload dX11_nightMany_9 rfl ?_
      refine X_getr dX11_nightMany_10 lfX11_73 rfl ob73 rfl ?_
      refine T_iload dX11_nightMany_13 rfl ?_
      obtain ⟨hb14_2, hf⟩ := opt_t hf
      refine X_iald (N := 6) dX11_nightMany_14 ar95 rfl hb14_2 ?_
      refine T_icmp_ge dX11_nightMany_15 (fun c15_3 => ?_) (fun c15_3 => ?_)
      · replace hf := ite_t c15_3 hf
        exact X_wk (WK.n (WK.n (WK.s WK.e))) (ke _ (Option.some.inj hf).symm)
      · replace hf := ite_f c15_3 hf
        refine T_aload dX11_nightMany_18 rfl ?_
        refine X_getr dX11_nightMany_19 lfX11_76 rfl ob73 rfl ?_
        refine T_const dX11_nightMany_22 ?_
        refine T_iload dX11_nightMany_24 rfl ?_
        refine T_imul dX11_nightMany_25 ?_
        refine T_iload dX11_nightMany_26 rfl ?_
        refine T_iadd dX11_nightMany_27 ?_
        obtain ⟨hb28_4, hf⟩ := opt_t hf
        refine X_lald (N := 360) dX11_nightMany_28 ar96 rfl hb28_4 ?_
        refine T_constL dX11_nightMany_29 ?_
        refine T_constL dX11_nightMany_30 ?_
        obtain ⟨q33_5, hc33_5, hf⟩ := bind_t hf
        refine X_Sv (qX11_within _ Z _ _ hc33_5) (Nat.le_of_ble_eq_true rfl) dX11_nightMany_33 lsX11_96 rfl rfl (Nat.le_of_ble_eq_true rfl) ?_
        refine T_if_eq dX11_nightMany_36 (fun c36_6 => ?_) (fun c36_6 => ?_)
        · replace hf := ite_t c36_6 hf
          exact X_wk (WK.n (WK.n (WK.s WK.e))) (ke _ (Option.some.inj hf).symm)
        · replace hf := ite_f c36_6 hf
          refine T_iinc dX11_nightMany_39 rfl ?_
          show TX _ _ _ _ _ _ _ _ [_, _, _] _
          refine T_goto dX11_nightMany_42 ?_
          exact X_wk (WK.s (WK.s (WK.s WK.e))) (ih _ hf ke)
theorem qX11_nightMany (Z : aZ) (y : aH) {x : aH} {p1 : Int32} {q : Int32} (hf : fX11_nightMany x p1 = some q) : CX false Z mX11_nightMany 1 [.ref 73, .int p1] y x (RV (.int q) x) := by
  refine CX.of mokX11_nightMany (Nat.le_of_ble_eq_true rfl) ?_
  show TX _ _ _ _ _ _ _ _ [_, _, _] _
  unfold fX11_nightMany at hf
  refine T_const dX11_nightMany_0 ?_
  refine T_istore dX11_nightMany_1 ?_
  show TX _ _ _ _ _ _ _ _ [_, _, _] _
  obtain ⟨q2_7, hc2_7, hf⟩ := bind_t hf
  refine X_wk (WK.s (WK.s (WK.s WK.e))) (lX11_nightMany_2 Z _ _ _ 2000 _ hc2_7 ?_)
  intro q2_7z hr
  subst hr
  refine T_iload dX11_nightMany_45 rfl ?_
  obtain rfl := Option.some.inj hf
  exact X_ri dX11_nightMany_46 ⟨rfl, rfl⟩
def sX11_goesNights_13 (l1 : Int32) (l2 : Int32) (l3 : Int32) (ih : aH → Int32 → Option aH) (x : aH) (l4 : Int32) : Option aH := if l2 ≤ l4 then some x else if l3 ≤ l4 then some x else if (0 : Int32) ≤ (((60 : Int32) * l1) + l4) ∧ (((60 : Int32) * l1) + l4) < (360 : Int32) then (fX11_goesNight x (Int64.toInt32 (rj x 96 (ix (((60 : Int32) * l1) + l4))))).bind fun q39_6 => ih q39_6 (l4 + (1 : Int32)) else none
def wX11_goesNights_13 (l1 : Int32) (l2 : Int32) (l3 : Int32) : Nat → aH → Int32 → Option aH
  | 0 => fun _ _ => none
  | n + 1 => sX11_goesNights_13 l1 l2 l3 (wX11_goesNights_13 l1 l2 l3 n)
def fX11_goesNights (x : aH) (p1 : Int32) (p2 : Int32) : Option aH := (fX11_begins x).bind fun q1_1 => (fX11_nightMany q1_1 p1).bind fun q6_2 => (wX11_goesNights_13 p1 p2 q6_2 2000 q1_1 (0 : Int32)).bind fun q13_7 => some q13_7
theorem lX11_goesNights_13 (Z : aZ) (y : aH) (l1 : Int32) (l2 : Int32) (l3 : Int32) {Q : Option Value → aH → Prop} {R : aH} : ∀ (n : Nat) (x : aH) (l4 : Int32), wX11_goesNights_13 l1 l2 l3 n x l4 = some R → (∀ q, R = q → TX false Z mX11_goesNights 69 y q Q 48 [.null, .null, .null, .null, .null] []) → TX false Z mX11_goesNights 69 y x Q 13 [.ref 73, .int l1, .int l2, .int l3, .int l4] [] := by
  intro n
  induction n with
  | zero => intro x l4 hf; cases hf
  | succ n ih =>
    intro x l4 hf ke
    replace hf : sX11_goesNights_13 l1 l2 l3 (wX11_goesNights_13 l1 l2 l3 n) x l4 = some R := hf
    unfold sX11_goesNights_13 at hf
    refine T_iload dX11_goesNights_13 rfl ?_
    refine T_iload dX11_goesNights_15 rfl ?_
    refine T_icmp_ge dX11_goesNights_16 (fun c16_3 => ?_) (fun c16_3 => ?_)
    · replace hf := ite_t c16_3 hf
      exact X_wk (WK.n (WK.n (WK.n (WK.n (WK.n WK.e))))) (ke _ (Option.some.inj hf).symm)
    · replace hf := ite_f c16_3 hf
      refine T_iload dX11_goesNights_19 rfl ?_
      refine T_iload dX11_goesNights_21 rfl ?_
      refine T_icmp_ge dX11_goesNights_22 (fun c22_4 => ?_) (fun c22_4 => ?_)
      · replace hf := ite_t c22_4 hf
        exact X_wk (WK.n (WK.n (WK.n (WK.n (WK.n WK.e))))) (ke _ (Option.some.inj hf).symm)
      · replace hf := ite_f c22_4 hf
        refine T_aload dX11_goesNights_25 rfl ?_
        refine T_aload dX11_goesNights_26 rfl ?_
        refine X_getr dX11_goesNights_27 lfX11_76 rfl ob73 rfl ?_
        refine T_const dX11_goesNights_30 ?_
        refine T_iload dX11_goesNights_32 rfl ?_
        refine T_imul dX11_goesNights_33 ?_
        refine T_iload dX11_goesNights_34 rfl ?_
        refine T_iadd dX11_goesNights_36 ?_
        obtain ⟨hb37_5, hf⟩ := opt_t hf
        refine X_lald (N := 360) dX11_goesNights_37 ar96 rfl hb37_5 ?_
        refine T_l2i dX11_goesNights_38 ?_
        obtain ⟨q39_6, hc39_6, hf⟩ := bind_t hf
        refine X_Vn (qX11_goesNight Z _ hc39_6) (Nat.le_of_ble_eq_true rfl) dX11_goesNights_39 lvX11_246 rfl rfl ob73 (Nat.le_of_ble_eq_true rfl) ?_
        refine T_iinc dX11_goesNights_42 rfl ?_
        show TX _ _ _ _ _ _ _ _ [_, _, _, _, _] _
        refine T_goto dX11_goesNights_45 ?_
        exact X_wk (WK.s (WK.s (WK.s (WK.s (WK.s WK.e))))) (ih _ _ hf ke)
theorem qX11_goesNights (Z : aZ) (y : aH) {x : aH} {p1 : Int32} {p2 : Int32} {q : aH} (hf : fX11_goesNights x p1 p2 = some q) : CX false Z mX11_goesNights 69 [.ref 73, .int p1, .int p2] y x (RN q) := by
  refine CX.of mokX11_goesNights (Nat.le_of_ble_eq_true rfl) ?_
  show TX _ _ _ _ _ _ _ _ [_, _, _, _, _] _
  unfold fX11_goesNights at hf
  refine T_aload dX11_goesNights_0 rfl ?_
  obtain ⟨q1_1, hc1_1, hf⟩ := bind_t hf
  refine X_Vn (qX11_begins Z _ hc1_1) (Nat.le_of_ble_eq_true rfl) dX11_goesNights_1 lvX11_236 rfl rfl ob73 (Nat.le_of_ble_eq_true rfl) ?_
  refine T_aload dX11_goesNights_4 rfl ?_
  refine T_iload dX11_goesNights_5 rfl ?_
  obtain ⟨q6_2, hc6_2, hf⟩ := bind_t hf
  refine X_Vv (qX11_nightMany Z _ hc6_2) (Nat.le_of_ble_eq_true rfl) dX11_goesNights_6 lvX11_243 rfl rfl ob73 (Nat.le_of_ble_eq_true rfl) ?_
  refine T_istore dX11_goesNights_9 ?_
  show TX _ _ _ _ _ _ _ _ [_, _, _, _, _] _
  refine T_const dX11_goesNights_10 ?_
  refine T_istore dX11_goesNights_11 ?_
  show TX _ _ _ _ _ _ _ _ [_, _, _, _, _] _
  obtain ⟨q13_7, hc13_7, hf⟩ := bind_t hf
  refine X_wk (WK.s (WK.s (WK.s (WK.s (WK.s WK.e))))) (lX11_goesNights_13 Z _ _ _ _ 2000 _ _ hc13_7 ?_)
  intro q13_7z hr
  subst hr
  obtain rfl := Option.some.inj hf
  exact X_rv dX11_goesNights_48 ⟨rfl, rfl⟩
def sX11_homeSet_4 (x : aH) (ih : Int32 → Int32 → Option Int32) (l1 : Int32) (l2 : Int32) : Option Int32 := if (fi x 73 6) ≤ l2 then some l1 else if (0 : Int32) ≤ l2 ∧ l2 < (10 : Int32) then ih (l1 ||| ((ri x 82 (ix l2)) <<< (l2 &&& 31))) (l2 + (1 : Int32)) else none
def wX11_homeSet_4 (x : aH) : Nat → Int32 → Int32 → Option Int32
  | 0 => fun _ _ => none
  | n + 1 => sX11_homeSet_4 x (wX11_homeSet_4 x n)
def fX11_homeSet (x : aH) : Option Int32 := (wX11_homeSet_4 x 2000 (0 : Int32) (0 : Int32)).bind fun q4_3 => some q4_3
theorem lX11_homeSet_4 (Z : aZ) (y : aH) (x : aH) {Q : Option Value → aH → Prop} {R : Int32} : ∀ (n : Nat) (l1 : Int32) (l2 : Int32), wX11_homeSet_4 x n l1 l2 = some R → (∀ q, R = q → TX false Z mX11_homeSet 0 y x Q 29 [.null, .int q, .null] []) → TX false Z mX11_homeSet 0 y x Q 4 [.ref 73, .int l1, .int l2] [] := by
  intro n
  induction n with
  | zero => intro l1 l2 hf; cases hf
  | succ n ih =>
    intro l1 l2 hf ke
    replace hf : sX11_homeSet_4 x (wX11_homeSet_4 x n) l1 l2 = some R := hf
    unfold sX11_homeSet_4 at hf
    refine T_iload dX11_homeSet_4 rfl ?_
    refine T_aload dX11_homeSet_5 rfl ?_
    refine X_getf dX11_homeSet_6 lfX11_93 rfl ob73 ?_
    refine T_icmp_ge dX11_homeSet_9 (fun c9_1 => ?_) (fun c9_1 => ?_)
    · replace hf := ite_t c9_1 hf
      exact X_wk (WK.n (WK.s (WK.n WK.e))) (ke _ (Option.some.inj hf).symm)
    · replace hf := ite_f c9_1 hf
      refine T_iload dX11_homeSet_12 rfl ?_
      refine T_aload dX11_homeSet_13 rfl ?_
      refine X_getr dX11_homeSet_14 lfX11_34 rfl ob73 rfl ?_
      refine T_iload dX11_homeSet_17 rfl ?_
      obtain ⟨hb18_2, hf⟩ := opt_t hf
      refine X_iald (N := 10) dX11_homeSet_18 ar82 rfl hb18_2 ?_
      refine T_iload dX11_homeSet_19 rfl ?_
      refine T_ishl dX11_homeSet_20 ?_
      refine T_ior dX11_homeSet_21 ?_
      refine T_istore dX11_homeSet_22 ?_
      show TX _ _ _ _ _ _ _ _ [_, _, _] _
      refine T_iinc dX11_homeSet_23 rfl ?_
      show TX _ _ _ _ _ _ _ _ [_, _, _] _
      refine T_goto dX11_homeSet_26 ?_
      exact X_wk (WK.s (WK.s (WK.s WK.e))) (ih _ _ hf ke)
theorem qX11_homeSet (Z : aZ) (y : aH) {x : aH} {q : Int32} (hf : fX11_homeSet x = some q) : CX false Z mX11_homeSet 0 [.ref 73] y x (RV (.int q) x) := by
  refine CX.of mokX11_homeSet (Nat.le_of_ble_eq_true rfl) ?_
  show TX _ _ _ _ _ _ _ _ [_, _, _] _
  unfold fX11_homeSet at hf
  refine T_const dX11_homeSet_0 ?_
  refine T_istore dX11_homeSet_1 ?_
  show TX _ _ _ _ _ _ _ _ [_, _, _] _
  refine T_const dX11_homeSet_2 ?_
  refine T_istore dX11_homeSet_3 ?_
  show TX _ _ _ _ _ _ _ _ [_, _, _] _
  obtain ⟨q4_3, hc4_3, hf⟩ := bind_t hf
  refine X_wk (WK.s (WK.s (WK.s WK.e))) (lX11_homeSet_4 Z _ _ 2000 _ _ hc4_3 ?_)
  intro q4_3z hr
  subst hr
  refine T_iload dX11_homeSet_29 rfl ?_
  obtain rfl := Option.some.inj hf
  exact X_ri dX11_homeSet_30 ⟨rfl, rfl⟩
def sX11_homeMany_4 (x : aH) (ih : Int32 → Int32 → Option Int32) (l1 : Int32) (l2 : Int32) : Option Int32 := if (fi x 73 6) ≤ l2 then some l1 else if (0 : Int32) ≤ l2 ∧ l2 < (10 : Int32) then ih (l1 + (ri x 82 (ix l2))) (l2 + (1 : Int32)) else none
def wX11_homeMany_4 (x : aH) : Nat → Int32 → Int32 → Option Int32
  | 0 => fun _ _ => none
  | n + 1 => sX11_homeMany_4 x (wX11_homeMany_4 x n)
def fX11_homeMany (x : aH) : Option Int32 := (wX11_homeMany_4 x 2000 (0 : Int32) (0 : Int32)).bind fun q4_3 => some q4_3
theorem lX11_homeMany_4 (Z : aZ) (y : aH) (x : aH) {Q : Option Value → aH → Prop} {R : Int32} : ∀ (n : Nat) (l1 : Int32) (l2 : Int32), wX11_homeMany_4 x n l1 l2 = some R → (∀ q, R = q → TX false Z mX11_homeMany 0 y x Q 27 [.null, .int q, .null] []) → TX false Z mX11_homeMany 0 y x Q 4 [.ref 73, .int l1, .int l2] [] := by
  intro n
  induction n with
  | zero => intro l1 l2 hf; cases hf
  | succ n ih =>
    intro l1 l2 hf ke
    replace hf : sX11_homeMany_4 x (wX11_homeMany_4 x n) l1 l2 = some R := hf
    unfold sX11_homeMany_4 at hf
    refine T_iload dX11_homeMany_4 rfl ?_
    refine T_aload dX11_homeMany_5 rfl ?_
    refine X_getf dX11_homeMany_6 lfX11_93 rfl ob73 ?_
    refine T_icmp_ge dX11_homeMany_9 (fun c9_1 => ?_) (fun c9_1 => ?_)
    · replace hf := ite_t c9_1 hf
      exact X_wk (WK.n (WK.s (WK.n WK.e))) (ke _ (Option.some.inj hf).symm)
    · replace hf := ite_f c9_1 hf
      refine T_iload dX11_homeMany_12 rfl ?_
      refine T_aload dX11_homeMany_13 rfl ?_
      refine X_getr dX11_homeMany_14 lfX11_34 rfl ob73 rfl ?_
      refine T_iload dX11_homeMany_17 rfl ?_
      obtain ⟨hb18_2, hf⟩ := opt_t hf
      refine X_iald (N := 10) dX11_homeMany_18 ar82 rfl hb18_2 ?_
      refine T_iadd dX11_homeMany_19 ?_
      refine T_istore dX11_homeMany_20 ?_
      show TX _ _ _ _ _ _ _ _ [_, _, _] _
      refine T_iinc dX11_homeMany_21 rfl ?_
      show TX _ _ _ _ _ _ _ _ [_, _, _] _
      refine T_goto dX11_homeMany_24 ?_
      exact X_wk (WK.s (WK.s (WK.s WK.e))) (ih _ _ hf ke)
theorem qX11_homeMany (Z : aZ) (y : aH) {x : aH} {q : Int32} (hf : fX11_homeMany x = some q) : CX false Z mX11_homeMany 0 [.ref 73] y x (RV (.int q) x) := by
  refine CX.of mokX11_homeMany (Nat.le_of_ble_eq_true rfl) ?_
  show TX _ _ _ _ _ _ _ _ [_, _, _] _
  unfold fX11_homeMany at hf
  refine T_const dX11_homeMany_0 ?_
  refine T_istore dX11_homeMany_1 ?_
  show TX _ _ _ _ _ _ _ _ [_, _, _] _
  refine T_const dX11_homeMany_2 ?_
  refine T_istore dX11_homeMany_3 ?_
  show TX _ _ _ _ _ _ _ _ [_, _, _] _
  obtain ⟨q4_3, hc4_3, hf⟩ := bind_t hf
  refine X_wk (WK.s (WK.s (WK.s WK.e))) (lX11_homeMany_4 Z _ _ 2000 _ _ hc4_3 ?_)
  intro q4_3z hr
  subst hr
  refine T_iload dX11_homeMany_27 rfl ?_
  obtain rfl := Option.some.inj hf
  exact X_ri dX11_homeMany_28 ⟨rfl, rfl⟩
def fX11_later (x : aH) (p1 : Int32) (p2 : Int32) (p3 : Int32) (p4 : Int32) : Option (Int32 × aH) := (fX11_bytesIs x p1).bind fun q2_1 => if q2_1 = (-1 : Int32) then some ((-1 : Int32), x) else (fX11_within (Int32.toInt64 p2) (0 : Int64) (40 : Int64)).bind fun q15_3 => if q15_3 = (0 : Int32) then some ((-1 : Int32), x) else (fX11_isLost x (Int32.toInt64 p3)).bind fun q24_5 => if q24_5 = (0 : Int32) then some ((-1 : Int32), x) else (fX11_within (Int32.toInt64 p4) (0 : Int64) (1 : Int64)).bind fun q35_7 => if q35_7 = (0 : Int32) then some ((-1 : Int32), x) else (fX11_bytesIs x p1).bind fun q45_9 => if (0 : Int32) ≤ q45_9 then (fX11_goesNights x p1 p2).bind fun q60_11 => if p4 = (0 : Int32) then if (0 : Int32) ≤ p3 ∧ p3 < (10 : Int32) then some ((ri q60_11 81 (ix p3)), q60_11) else none else if (0 : Int32) ≤ p3 ∧ p3 < (10 : Int32) then some ((ri q60_11 82 (ix p3)), q60_11) else none else (fX11_bytesIs x p1).bind fun q53_15 => some (q53_15, x)
theorem qX11_later (Z : aZ) (y : aH) {x : aH} {p1 : Int32} {p2 : Int32} {p3 : Int32} {p4 : Int32} {q : (Int32 × aH)} (hf : fX11_later x p1 p2 p3 p4 = some q) : CX false Z mX11_later 70 [.ref 73, .int p1, .int p2, .int p3, .int p4] y x (RV (.int q.1) q.2) := by
  refine CX.of mokX11_later (Nat.le_of_ble_eq_true rfl) ?_
  show TX _ _ _ _ _ _ _ _ [_, _, _, _, _] _
  unfold fX11_later at hf
  refine T_aload dX11_later_0 rfl ?_
  refine T_iload dX11_later_1 rfl ?_
  obtain ⟨q2_1, hc2_1, hf⟩ := bind_t hf
  refine X_Vv (qX11_bytesIs Z _ hc2_1) (Nat.le_of_ble_eq_true rfl) dX11_later_2 lvX11_250 rfl rfl ob73 (Nat.le_of_ble_eq_true rfl) ?_
  refine T_const dX11_later_5 ?_
  refine T_icmp_eq dX11_later_6 (fun c6_2 => ?_) (fun c6_2 => ?_)
  · replace hf := ite_t c6_2 hf
    refine T_const dX11_later_41 ?_
    obtain rfl := Option.some.inj hf
    exact X_ri dX11_later_42 ⟨rfl, rfl⟩
  · replace hf := ite_f c6_2 hf
    refine T_iload dX11_later_9 rfl ?_
    refine T_i2l dX11_later_10 ?_
    refine T_constL dX11_later_11 ?_
    refine T_constL dX11_later_12 ?_
    obtain ⟨q15_3, hc15_3, hf⟩ := bind_t hf
    refine X_Sv (qX11_within _ Z _ _ hc15_3) (Nat.le_of_ble_eq_true rfl) dX11_later_15 lsX11_96 rfl rfl (Nat.le_of_ble_eq_true rfl) ?_
    refine T_if_eq dX11_later_18 (fun c18_4 => ?_) (fun c18_4 => ?_)
    · replace hf := ite_t c18_4 hf
      refine T_const dX11_later_41 ?_
      obtain rfl := Option.some.inj hf
      exact X_ri dX11_later_42 ⟨rfl, rfl⟩
    · replace hf := ite_f c18_4 hf
      refine T_aload dX11_later_21 rfl ?_
      refine T_iload dX11_later_22 rfl ?_
      refine T_i2l dX11_later_23 ?_
      obtain ⟨q24_5, hc24_5, hf⟩ := bind_t hf
      refine X_Vv (qX11_isLost Z _ hc24_5) (Nat.le_of_ble_eq_true rfl) dX11_later_24 lvX11_123 rfl rfl ob73 (Nat.le_of_ble_eq_true rfl) ?_
      refine T_if_eq dX11_later_27 (fun c27_6 => ?_) (fun c27_6 => ?_)
      · replace hf := ite_t c27_6 hf
        refine T_const dX11_later_41 ?_
        obtain rfl := Option.some.inj hf
        exact X_ri dX11_later_42 ⟨rfl, rfl⟩
      · replace hf := ite_f c27_6 hf
        refine T_iload dX11_later_30 rfl ?_
        refine T_i2l dX11_later_32 ?_
        refine T_constL dX11_later_33 ?_
        refine T_constL dX11_later_34 ?_
        obtain ⟨q35_7, hc35_7, hf⟩ := bind_t hf
        refine X_Sv (qX11_within _ Z _ _ hc35_7) (Nat.le_of_ble_eq_true rfl) dX11_later_35 lsX11_96 rfl rfl (Nat.le_of_ble_eq_true rfl) ?_
        refine T_if_ne dX11_later_38 (fun c38_8 => ?_) (fun c38_8 => ?_)
        · replace hf := ite_f c38_8 hf
          refine T_aload dX11_later_43 rfl ?_
          refine T_iload dX11_later_44 rfl ?_
          obtain ⟨q45_9, hc45_9, hf⟩ := bind_t hf
          refine X_Vv (qX11_bytesIs Z _ hc45_9) (Nat.le_of_ble_eq_true rfl) dX11_later_45 lvX11_250 rfl rfl ob73 (Nat.le_of_ble_eq_true rfl) ?_
          refine T_if_ge dX11_later_48 (fun c48_10 => ?_) (fun c48_10 => ?_)
          · replace hf := ite_t c48_10 hf
            refine T_aload dX11_later_57 rfl ?_
            refine T_iload dX11_later_58 rfl ?_
            refine T_iload dX11_later_59 rfl ?_
            obtain ⟨q60_11, hc60_11, hf⟩ := bind_t hf
            refine X_Vn (qX11_goesNights Z _ hc60_11) (Nat.le_of_ble_eq_true rfl) dX11_later_60 lvX11_255 rfl rfl ob73 (Nat.le_of_ble_eq_true rfl) ?_
            refine T_iload dX11_later_63 rfl ?_
            refine T_if_ne dX11_later_65 (fun c65_12 => ?_) (fun c65_12 => ?_)
            · replace hf := ite_f c65_12 hf
              refine T_aload dX11_later_77 rfl ?_
              refine X_getr dX11_later_78 lfX11_34 rfl ob73 rfl ?_
              refine T_iload dX11_later_81 rfl ?_
              obtain ⟨hb82_13, hf⟩ := opt_t hf
              refine X_iald (N := 10) dX11_later_82 ar82 rfl hb82_13 ?_
              obtain rfl := Option.some.inj hf
              exact X_ri dX11_later_83 ⟨rfl, rfl⟩
            · replace hf := ite_t c65_12 hf
              refine T_aload dX11_later_68 rfl ?_
              refine X_getr dX11_later_69 lfX11_31 rfl ob73 rfl ?_
              refine T_iload dX11_later_72 rfl ?_
              obtain ⟨hb73_14, hf⟩ := opt_t hf
              refine X_iald (N := 10) dX11_later_73 ar81 rfl hb73_14 ?_
              refine T_goto dX11_later_74 ?_
              obtain rfl := Option.some.inj hf
              exact X_ri dX11_later_83 ⟨rfl, rfl⟩
          · replace hf := ite_f c48_10 hf
            refine T_aload dX11_later_51 rfl ?_
            refine T_iload dX11_later_52 rfl ?_
            obtain ⟨q53_15, hc53_15, hf⟩ := bind_t hf
            refine X_Vv (qX11_bytesIs Z _ hc53_15) (Nat.le_of_ble_eq_true rfl) dX11_later_53 lvX11_250 rfl rfl ob73 (Nat.le_of_ble_eq_true rfl) ?_
            obtain rfl := Option.some.inj hf
            exact X_ri dX11_later_56 ⟨rfl, rfl⟩
        · replace hf := ite_t c38_8 hf
          refine T_const dX11_later_41 ?_
          obtain rfl := Option.some.inj hf
          exact X_ri dX11_later_42 ⟨rfl, rfl⟩
def fX11_home (x : aH) (p1 : Int32) (p2 : Int32) (p3 : Int32) : Option (Int32 × aH) := (fX11_bytesIs x p1).bind fun q2_1 => if q2_1 = (-1 : Int32) then some ((-1 : Int32), x) else (fX11_within (Int32.toInt64 p2) (0 : Int64) (40 : Int64)).bind fun q15_3 => if q15_3 = (0 : Int32) then some ((-1 : Int32), x) else (fX11_within (Int32.toInt64 p3) (0 : Int64) (1 : Int64)).bind fun q25_5 => if q25_5 = (0 : Int32) then some ((-1 : Int32), x) else (fX11_bytesIs x p1).bind fun q35_7 => if (0 : Int32) ≤ q35_7 then (fX11_goesNights x p1 p2).bind fun q50_9 => if p3 = (0 : Int32) then (fX11_homeSet q50_9).bind fun q58_11 => some (q58_11, q50_9) else some ((fi q50_9 73 19), q50_9) else (fX11_bytesIs x p1).bind fun q43_12 => some (q43_12, x)
theorem qX11_home (Z : aZ) (y : aH) {x : aH} {p1 : Int32} {p2 : Int32} {p3 : Int32} {q : (Int32 × aH)} (hf : fX11_home x p1 p2 p3 = some q) : CX false Z mX11_home 70 [.ref 73, .int p1, .int p2, .int p3] y x (RV (.int q.1) q.2) := by
  refine CX.of mokX11_home (Nat.le_of_ble_eq_true rfl) ?_
  show TX _ _ _ _ _ _ _ _ [_, _, _, _] _
  unfold fX11_home at hf
  refine T_aload dX11_home_0 rfl ?_
  refine T_iload dX11_home_1 rfl ?_
  obtain ⟨q2_1, hc2_1, hf⟩ := bind_t hf
  refine X_Vv (qX11_bytesIs Z _ hc2_1) (Nat.le_of_ble_eq_true rfl) dX11_home_2 lvX11_250 rfl rfl ob73 (Nat.le_of_ble_eq_true rfl) ?_
  refine T_const dX11_home_5 ?_
  refine T_icmp_eq dX11_home_6 (fun c6_2 => ?_) (fun c6_2 => ?_)
  · replace hf := ite_t c6_2 hf
    refine T_const dX11_home_31 ?_
    obtain rfl := Option.some.inj hf
    exact X_ri dX11_home_32 ⟨rfl, rfl⟩
  · replace hf := ite_f c6_2 hf
    refine T_iload dX11_home_9 rfl ?_
    refine T_i2l dX11_home_10 ?_
    refine T_constL dX11_home_11 ?_
    refine T_constL dX11_home_12 ?_
    obtain ⟨q15_3, hc15_3, hf⟩ := bind_t hf
    refine X_Sv (qX11_within _ Z _ _ hc15_3) (Nat.le_of_ble_eq_true rfl) dX11_home_15 lsX11_96 rfl rfl (Nat.le_of_ble_eq_true rfl) ?_
    refine T_if_eq dX11_home_18 (fun c18_4 => ?_) (fun c18_4 => ?_)
    · replace hf := ite_t c18_4 hf
      refine T_const dX11_home_31 ?_
      obtain rfl := Option.some.inj hf
      exact X_ri dX11_home_32 ⟨rfl, rfl⟩
    · replace hf := ite_f c18_4 hf
      refine T_iload dX11_home_21 rfl ?_
      refine T_i2l dX11_home_22 ?_
      refine T_constL dX11_home_23 ?_
      refine T_constL dX11_home_24 ?_
      obtain ⟨q25_5, hc25_5, hf⟩ := bind_t hf
      refine X_Sv (qX11_within _ Z _ _ hc25_5) (Nat.le_of_ble_eq_true rfl) dX11_home_25 lsX11_96 rfl rfl (Nat.le_of_ble_eq_true rfl) ?_
      refine T_if_ne dX11_home_28 (fun c28_6 => ?_) (fun c28_6 => ?_)
      · replace hf := ite_f c28_6 hf
        refine T_aload dX11_home_33 rfl ?_
        refine T_iload dX11_home_34 rfl ?_
        obtain ⟨q35_7, hc35_7, hf⟩ := bind_t hf
        refine X_Vv (qX11_bytesIs Z _ hc35_7) (Nat.le_of_ble_eq_true rfl) dX11_home_35 lvX11_250 rfl rfl ob73 (Nat.le_of_ble_eq_true rfl) ?_
        refine T_if_ge dX11_home_38 (fun c38_8 => ?_) (fun c38_8 => ?_)
        · replace hf := ite_t c38_8 hf
          refine T_aload dX11_home_47 rfl ?_
          refine T_iload dX11_home_48 rfl ?_
          refine T_iload dX11_home_49 rfl ?_
          obtain ⟨q50_9, hc50_9, hf⟩ := bind_t hf
          refine X_Vn (qX11_goesNights Z _ hc50_9) (Nat.le_of_ble_eq_true rfl) dX11_home_50 lvX11_255 rfl rfl ob73 (Nat.le_of_ble_eq_true rfl) ?_
          refine T_iload dX11_home_53 rfl ?_
          refine T_if_ne dX11_home_54 (fun c54_10 => ?_) (fun c54_10 => ?_)
          · replace hf := ite_f c54_10 hf
            refine T_aload dX11_home_64 rfl ?_
            refine X_getf dX11_home_65 lfX11_200 rfl ob73 ?_
            obtain rfl := Option.some.inj hf
            exact X_ri dX11_home_68 ⟨rfl, rfl⟩
          · replace hf := ite_t c54_10 hf
            refine T_aload dX11_home_57 rfl ?_
            obtain ⟨q58_11, hc58_11, hf⟩ := bind_t hf
            refine X_Vv (qX11_homeSet Z _ hc58_11) (Nat.le_of_ble_eq_true rfl) dX11_home_58 lvX11_259 rfl rfl ob73 (Nat.le_of_ble_eq_true rfl) ?_
            refine T_goto dX11_home_61 ?_
            obtain rfl := Option.some.inj hf
            exact X_ri dX11_home_68 ⟨rfl, rfl⟩
        · replace hf := ite_f c38_8 hf
          refine T_aload dX11_home_41 rfl ?_
          refine T_iload dX11_home_42 rfl ?_
          obtain ⟨q43_12, hc43_12, hf⟩ := bind_t hf
          refine X_Vv (qX11_bytesIs Z _ hc43_12) (Nat.le_of_ble_eq_true rfl) dX11_home_43 lvX11_250 rfl rfl ob73 (Nat.le_of_ble_eq_true rfl) ?_
          obtain rfl := Option.some.inj hf
          exact X_ri dX11_home_46 ⟨rfl, rfl⟩
      · replace hf := ite_t c28_6 hf
        refine T_const dX11_home_31 ?_
        obtain rfl := Option.some.inj hf
        exact X_ri dX11_home_32 ⟨rfl, rfl⟩
def sX11_since_43 (l1 : Int32) (l2 : Int32) (l3 : Int32) (ih : aH → Int32 → Option (Sum (Int32 × aH) aH)) (x : aH) (l4 : Int32) : Option (Sum (Int32 × aH) aH) := if l3 < l4 then some (.inr x) else (fX11_goesNights x l1 l4).bind fun q53_9 => if (0 : Int32) ≤ l2 ∧ l2 < (10 : Int32) then if (ri q53_9 82 (ix l2)) = (1 : Int32) then some (.inl (l4, q53_9)) else ih q53_9 (l4 + (1 : Int32)) else none
def wX11_since_43 (l1 : Int32) (l2 : Int32) (l3 : Int32) : Nat → aH → Int32 → Option (Sum (Int32 × aH) aH)
  | 0 => fun _ _ => none
  | n + 1 => sX11_since_43 l1 l2 l3 (wX11_since_43 l1 l2 l3 n)
def fX11_since (x : aH) (p1 : Int32) (p2 : Int32) : Option (Int32 × aH) := (fX11_bytesIs x p1).bind fun q2_1 => if q2_1 = (-1 : Int32) then some ((-1 : Int32), x) else (fX11_isLost x (Int32.toInt64 p2)).bind fun q12_3 => if q12_3 = (0 : Int32) then some ((-1 : Int32), x) else (fX11_bytesIs x p1).bind fun q22_5 => if (0 : Int32) ≤ q22_5 then (fX11_nightMany x p1).bind fun q36_7 => (wX11_since_43 p1 p2 q36_7 2000 x (0 : Int32)).bind fun q43_12 => elS q43_12 (fun r => some r) (fun eq43_12 => some ((-2 : Int32), eq43_12)) else (fX11_bytesIs x p1).bind fun q30_13 => some (q30_13, x)
theorem lX11_since_43 (Z : aZ) (y : aH) (l1 : Int32) (l2 : Int32) (l3 : Int32) {Q : Option Value → aH → Prop} {R : (Sum (Int32 × aH) aH)} : ∀ (n : Nat) (x : aH) (l4 : Int32), wX11_since_43 l1 l2 l3 n x l4 = some R → (∀ r, R = .inl r → Q (some (.int r.1)) r.2) → (∀ q, R = .inr q → TX false Z mX11_since 70 y q Q 75 [.null, .null, .null, .null, .null] []) → TX false Z mX11_since 70 y x Q 43 [.ref 73, .int l1, .int l2, .int l3, .int l4] [] := by
  intro n
  induction n with
  | zero => intro x l4 hf; cases hf
  | succ n ih =>
    intro x l4 hf kr ke
    replace hf : sX11_since_43 l1 l2 l3 (wX11_since_43 l1 l2 l3 n) x l4 = some R := hf
    unfold sX11_since_43 at hf
    refine T_iload dX11_since_43 rfl ?_
    refine T_iload dX11_since_45 rfl ?_
    refine T_icmp_gt dX11_since_46 (fun c46_8 => ?_) (fun c46_8 => ?_)
    · replace hf := ite_t c46_8 hf
      exact X_wk (WK.n (WK.n (WK.n (WK.n (WK.n WK.e))))) (ke _ (Option.some.inj hf).symm)
    · replace hf := ite_f c46_8 hf
      refine T_aload dX11_since_49 rfl ?_
      refine T_iload dX11_since_50 rfl ?_
      refine T_iload dX11_since_51 rfl ?_
      obtain ⟨q53_9, hc53_9, hf⟩ := bind_t hf
      refine X_Vn (qX11_goesNights Z _ hc53_9) (Nat.le_of_ble_eq_true rfl) dX11_since_53 lvX11_255 rfl rfl ob73 (Nat.le_of_ble_eq_true rfl) ?_
      refine T_aload dX11_since_56 rfl ?_
      refine X_getr dX11_since_57 lfX11_34 rfl ob73 rfl ?_
      refine T_iload dX11_since_60 rfl ?_
      obtain ⟨hb61_10, hf⟩ := opt_t hf
      refine X_iald (N := 10) dX11_since_61 ar82 rfl hb61_10 ?_
      refine T_const dX11_since_62 ?_
      refine T_icmp_ne dX11_since_63 (fun c63_11 => ?_) (fun c63_11 => ?_)
      · replace hf := ite_f c63_11 hf
        refine T_iinc dX11_since_69 rfl ?_
        show TX _ _ _ _ _ _ _ _ [_, _, _, _, _] _
        refine T_goto dX11_since_72 ?_
        exact X_wk (WK.s (WK.s (WK.s (WK.s (WK.s WK.e))))) (ih _ _ hf kr ke)
      · replace hf := ite_t c63_11 hf
        refine T_iload dX11_since_66 rfl ?_
        exact X_ri dX11_since_68 (kr _ (Option.some.inj hf).symm)
theorem qX11_since (Z : aZ) (y : aH) {x : aH} {p1 : Int32} {p2 : Int32} {q : (Int32 × aH)} (hf : fX11_since x p1 p2 = some q) : CX false Z mX11_since 70 [.ref 73, .int p1, .int p2] y x (RV (.int q.1) q.2) := by
  refine CX.of mokX11_since (Nat.le_of_ble_eq_true rfl) ?_
  show TX _ _ _ _ _ _ _ _ [_, _, _, _, _] _
  unfold fX11_since at hf
  refine T_aload dX11_since_0 rfl ?_
  refine T_iload dX11_since_1 rfl ?_
  obtain ⟨q2_1, hc2_1, hf⟩ := bind_t hf
  refine X_Vv (qX11_bytesIs Z _ hc2_1) (Nat.le_of_ble_eq_true rfl) dX11_since_2 lvX11_250 rfl rfl ob73 (Nat.le_of_ble_eq_true rfl) ?_
  refine T_const dX11_since_5 ?_
  refine T_icmp_eq dX11_since_6 (fun c6_2 => ?_) (fun c6_2 => ?_)
  · replace hf := ite_t c6_2 hf
    refine T_const dX11_since_18 ?_
    obtain rfl := Option.some.inj hf
    exact X_ri dX11_since_19 ⟨rfl, rfl⟩
  · replace hf := ite_f c6_2 hf
    refine T_aload dX11_since_9 rfl ?_
    refine T_iload dX11_since_10 rfl ?_
    refine T_i2l dX11_since_11 ?_
    obtain ⟨q12_3, hc12_3, hf⟩ := bind_t hf
    refine X_Vv (qX11_isLost Z _ hc12_3) (Nat.le_of_ble_eq_true rfl) dX11_since_12 lvX11_123 rfl rfl ob73 (Nat.le_of_ble_eq_true rfl) ?_
    refine T_if_ne dX11_since_15 (fun c15_4 => ?_) (fun c15_4 => ?_)
    · replace hf := ite_f c15_4 hf
      refine T_aload dX11_since_20 rfl ?_
      refine T_iload dX11_since_21 rfl ?_
      obtain ⟨q22_5, hc22_5, hf⟩ := bind_t hf
      refine X_Vv (qX11_bytesIs Z _ hc22_5) (Nat.le_of_ble_eq_true rfl) dX11_since_22 lvX11_250 rfl rfl ob73 (Nat.le_of_ble_eq_true rfl) ?_
      refine T_if_ge dX11_since_25 (fun c25_6 => ?_) (fun c25_6 => ?_)
      · replace hf := ite_t c25_6 hf
        refine T_aload dX11_since_34 rfl ?_
        refine T_iload dX11_since_35 rfl ?_
        obtain ⟨q36_7, hc36_7, hf⟩ := bind_t hf
        refine X_Vv (qX11_nightMany Z _ hc36_7) (Nat.le_of_ble_eq_true rfl) dX11_since_36 lvX11_243 rfl rfl ob73 (Nat.le_of_ble_eq_true rfl) ?_
        refine T_istore dX11_since_39 ?_
        show TX _ _ _ _ _ _ _ _ [_, _, _, _, _] _
        refine T_const dX11_since_40 ?_
        refine T_istore dX11_since_41 ?_
        show TX _ _ _ _ _ _ _ _ [_, _, _, _, _] _
        obtain ⟨q43_12, hc43_12, hf⟩ := bind_t hf
        refine X_wk (WK.s (WK.s (WK.s (WK.s (WK.s WK.e))))) (lX11_since_43 Z _ _ _ _ 2000 _ _ hc43_12 ?_ ?_)
        · intro r hr
          subst hr
          replace hf := elS_l hf
          obtain rfl := Option.some.inj hf
          exact ⟨rfl, rfl⟩
        · intro eq43_12 hr
          subst hr
          replace hf := elS_r hf
          refine T_const dX11_since_75 ?_
          obtain rfl := Option.some.inj hf
          exact X_ri dX11_since_77 ⟨rfl, rfl⟩
      · replace hf := ite_f c25_6 hf
        refine T_aload dX11_since_28 rfl ?_
        refine T_iload dX11_since_29 rfl ?_
        obtain ⟨q30_13, hc30_13, hf⟩ := bind_t hf
        refine X_Vv (qX11_bytesIs Z _ hc30_13) (Nat.le_of_ble_eq_true rfl) dX11_since_30 lvX11_250 rfl rfl ob73 (Nat.le_of_ble_eq_true rfl) ?_
        obtain rfl := Option.some.inj hf
        exact X_ri dX11_since_33 ⟨rfl, rfl⟩
    · replace hf := ite_t c15_4 hf
      refine T_const dX11_since_18 ?_
      obtain rfl := Option.some.inj hf
      exact X_ri dX11_since_19 ⟨rfl, rfl⟩
def sX11_triesWays_109 (g_X11_triesWays : aH → Int32 → Int32 → Option aH) (l1 : Int32) (l2 : Int32) (ih : aH → Int32 → Option aH) (x : aH) (l3 : Int32) : Option aH := if (4 : Int32) < l3 then some x else if (0 : Int32) ≤ l1 ∧ l1 < (4 : Int32) then (g_X11_triesWays (sri x 84 (ix l1) l3) (l1 + (1 : Int32)) l2).bind fun q126_4 => ih q126_4 (l3 + (1 : Int32)) else none
def wX11_triesWays_109 (g_X11_triesWays : aH → Int32 → Int32 → Option aH) (l1 : Int32) (l2 : Int32) : Nat → aH → Int32 → Option aH
  | 0 => fun _ _ => none
  | n + 1 => sX11_triesWays_109 g_X11_triesWays l1 l2 (wX11_triesWays_109 g_X11_triesWays l1 l2 n)
def sX11_triesWays_11 (g_X11_triesWays : aH → Int32 → Int32 → Option aH) (l2 : Int32) (ih : aH → Int32 → Option aH) (x : aH) (l3 : Int32) : Option aH := if l2 ≤ l3 then some x else if (0 : Int32) ≤ l3 ∧ l3 < (4 : Int32) then (fX11_goesNight x (ri x 84 (ix l3))).bind fun q23_9 => ih q23_9 (l3 + (1 : Int32)) else none
def wX11_triesWays_11 (g_X11_triesWays : aH → Int32 → Int32 → Option aH) (l2 : Int32) : Nat → aH → Int32 → Option aH
  | 0 => fun _ _ => none
  | n + 1 => sX11_triesWays_11 g_X11_triesWays l2 (wX11_triesWays_11 g_X11_triesWays l2 n)
def sX11_triesWays_83 (g_X11_triesWays : aH → Int32 → Int32 → Option aH) (l2 : Int32) (ih : aH → Int32 → Option aH) (x : aH) (l3 : Int32) : Option aH := if l2 ≤ l3 then some x else if (0 : Int32) ≤ l3 ∧ l3 < (4 : Int32) then if (0 : Int32) ≤ l3 ∧ l3 < (4 : Int32) then ih (sri x 85 (ix l3) (ri x 84 (ix l3))) (l3 + (1 : Int32)) else none else none
def wX11_triesWays_83 (g_X11_triesWays : aH → Int32 → Int32 → Option aH) (l2 : Int32) : Nat → aH → Int32 → Option aH
  | 0 => fun _ _ => none
  | n + 1 => sX11_triesWays_83 g_X11_triesWays l2 (wX11_triesWays_83 g_X11_triesWays l2 n)
def jX11_triesWays_65 (g_X11_triesWays : aH → Int32 → Int32 → Option aH) (x : aH) (l2 : Int32) : Option aH := (fX11_homeMany x).bind fun q67_12 => (wX11_triesWays_83 g_X11_triesWays l2 2000 (sfi (sfi x 73 26 q67_12) 73 27 (fi (sfi x 73 26 q67_12) 73 19)) (0 : Int32)).bind fun q83_16 => some q83_16
def uX11_triesWays (g_X11_triesWays : aH → Int32 → Int32 → Option aH) (x : aH) (p1 : Int32) (p2 : Int32) : Option aH := if p1 = p2 then (fX11_begins x).bind fun q6_6 => (wX11_triesWays_11 g_X11_triesWays p2 2000 q6_6 (0 : Int32)).bind fun q11_10 => (fX11_homeMany q11_10).bind fun q33_11 => if (fi q11_10 73 26) < q33_11 then jX11_triesWays_65 g_X11_triesWays q11_10 p2 else (fX11_homeMany q11_10).bind fun q44_18 => if q44_18 = (fi q11_10 73 26) then if (fi q11_10 73 19) ≤ (fi q11_10 73 27) then some q11_10 else jX11_triesWays_65 g_X11_triesWays q11_10 p2 else some q11_10 else (wX11_triesWays_109 g_X11_triesWays p1 p2 2000 x (0 : Int32)).bind fun q109_5 => some q109_5
theorem lX11_triesWays_109 (Z : aZ) (y : aH) {D : Nat} (hK : 68 ≤ D) {g_X11_triesWays : aH → Int32 → Int32 → Option aH} (H_X11_triesWays : ∀ (x : aH) (p1 : Int32) (p2 : Int32) {q : aH}, g_X11_triesWays x p1 p2 = some q → CX false Z mX11_triesWays D [.ref 73, .int p1, .int p2] y x (RN q)) (l1 : Int32) (l2 : Int32) {Q : Option Value → aH → Prop} {R : aH} : ∀ (n : Nat) (x : aH) (l3 : Int32), wX11_triesWays_109 g_X11_triesWays l1 l2 n x l3 = some R → (∀ q, R = q → TX false Z mX11_triesWays (D + 1) y q Q 135 [.null, .null, .null, .null] []) → TX false Z mX11_triesWays (D + 1) y x Q 109 [.ref 73, .int l1, .int l2, .int l3] [] := by
  intro n
  induction n with
  | zero => intro x l3 hf; cases hf
  | succ n ih =>
    intro x l3 hf ke
    replace hf : sX11_triesWays_109 g_X11_triesWays l1 l2 (wX11_triesWays_109 g_X11_triesWays l1 l2 n) x l3 = some R := hf
    unfold sX11_triesWays_109 at hf
    refine T_iload dX11_triesWays_109 rfl ?_
    refine T_const dX11_triesWays_110 ?_
    refine T_icmp_gt dX11_triesWays_111 (fun c111_2 => ?_) (fun c111_2 => ?_)
    · replace hf := ite_t c111_2 hf
      exact X_wk (WK.n (WK.n (WK.n (WK.n WK.e)))) (ke _ (Option.some.inj hf).symm)
    · replace hf := ite_f c111_2 hf
      refine T_aload dX11_triesWays_114 rfl ?_
      refine X_getr dX11_triesWays_115 lfX11_40 rfl ob73 rfl ?_
      refine T_iload dX11_triesWays_118 rfl ?_
      refine T_iload dX11_triesWays_119 rfl ?_
      obtain ⟨hb120_3, hf⟩ := opt_t hf
      refine X_iast (N := 4) dX11_triesWays_120 ar84 rfl hb120_3 ?_
      refine T_aload dX11_triesWays_121 rfl ?_
      refine T_iload dX11_triesWays_122 rfl ?_
      refine T_const dX11_triesWays_123 ?_
      refine T_iadd dX11_triesWays_124 ?_
      refine T_iload dX11_triesWays_125 rfl ?_
      obtain ⟨q126_4, hc126_4, hf⟩ := bind_t hf
      refine X_Vn (H_X11_triesWays _ _ _ hc126_4) (Nat.le_refl _) dX11_triesWays_126 lvX11_271 rfl rfl ob73 (Nat.le_of_ble_eq_true rfl) ?_
      refine T_iinc dX11_triesWays_129 rfl ?_
      show TX _ _ _ _ _ _ _ _ [_, _, _, _] _
      refine T_goto dX11_triesWays_132 ?_
      exact X_wk (WK.s (WK.s (WK.s (WK.s WK.e)))) (ih _ _ hf ke)
theorem lX11_triesWays_11 (Z : aZ) (y : aH) {D : Nat} (hK : 68 ≤ D) {g_X11_triesWays : aH → Int32 → Int32 → Option aH} (H_X11_triesWays : ∀ (x : aH) (p1 : Int32) (p2 : Int32) {q : aH}, g_X11_triesWays x p1 p2 = some q → CX false Z mX11_triesWays D [.ref 73, .int p1, .int p2] y x (RN q)) (l2 : Int32) {Q : Option Value → aH → Prop} {R : aH} : ∀ (n : Nat) (x : aH) (l3 : Int32), wX11_triesWays_11 g_X11_triesWays l2 n x l3 = some R → (∀ q, R = q → TX false Z mX11_triesWays (D + 1) y q Q 32 [.ref 73, .null, .int l2, .null] []) → TX false Z mX11_triesWays (D + 1) y x Q 11 [.ref 73, .null, .int l2, .int l3] [] := by
  intro n
  induction n with
  | zero => intro x l3 hf; cases hf
  | succ n ih =>
    intro x l3 hf ke
    replace hf : sX11_triesWays_11 g_X11_triesWays l2 (wX11_triesWays_11 g_X11_triesWays l2 n) x l3 = some R := hf
    unfold sX11_triesWays_11 at hf
    refine T_iload dX11_triesWays_11 rfl ?_
    refine T_iload dX11_triesWays_12 rfl ?_
    refine T_icmp_ge dX11_triesWays_13 (fun c13_7 => ?_) (fun c13_7 => ?_)
    · replace hf := ite_t c13_7 hf
      exact X_wk (WK.s (WK.n (WK.s (WK.n WK.e)))) (ke _ (Option.some.inj hf).symm)
    · replace hf := ite_f c13_7 hf
      refine T_aload dX11_triesWays_16 rfl ?_
      refine T_aload dX11_triesWays_17 rfl ?_
      refine X_getr dX11_triesWays_18 lfX11_40 rfl ob73 rfl ?_
      refine T_iload dX11_triesWays_21 rfl ?_
      obtain ⟨hb22_8, hf⟩ := opt_t hf
      refine X_iald (N := 4) dX11_triesWays_22 ar84 rfl hb22_8 ?_
      obtain ⟨q23_9, hc23_9, hf⟩ := bind_t hf
      refine X_Vn (qX11_goesNight Z _ hc23_9) (Nat.le_trans (Nat.le_of_ble_eq_true rfl) hK) dX11_triesWays_23 lvX11_246 rfl rfl ob73 (Nat.le_of_ble_eq_true rfl) ?_
      refine T_iinc dX11_triesWays_26 rfl ?_
      show TX _ _ _ _ _ _ _ _ [_, _, _, _] _
      refine T_goto dX11_triesWays_29 ?_
      exact X_wk (WK.s (WK.n (WK.s (WK.s WK.e)))) (ih _ _ hf ke)
theorem lX11_triesWays_83 (Z : aZ) (y : aH) {D : Nat} (hK : 68 ≤ D) {g_X11_triesWays : aH → Int32 → Int32 → Option aH} (H_X11_triesWays : ∀ (x : aH) (p1 : Int32) (p2 : Int32) {q : aH}, g_X11_triesWays x p1 p2 = some q → CX false Z mX11_triesWays D [.ref 73, .int p1, .int p2] y x (RN q)) (l2 : Int32) {Q : Option Value → aH → Prop} {R : aH} : ∀ (n : Nat) (x : aH) (l3 : Int32), wX11_triesWays_83 g_X11_triesWays l2 n x l3 = some R → (∀ q, R = q → TX false Z mX11_triesWays (D + 1) y q Q 106 [.null, .null, .null, .null] []) → TX false Z mX11_triesWays (D + 1) y x Q 83 [.ref 73, .null, .int l2, .int l3] [] := by
  intro n
  induction n with
  | zero => intro x l3 hf; cases hf
  | succ n ih =>
    intro x l3 hf ke
    replace hf : sX11_triesWays_83 g_X11_triesWays l2 (wX11_triesWays_83 g_X11_triesWays l2 n) x l3 = some R := hf
    unfold sX11_triesWays_83 at hf
    refine T_iload dX11_triesWays_83 rfl ?_
    refine T_iload dX11_triesWays_84 rfl ?_
    refine T_icmp_ge dX11_triesWays_85 (fun c85_13 => ?_) (fun c85_13 => ?_)
    · replace hf := ite_t c85_13 hf
      exact X_wk (WK.n (WK.n (WK.n (WK.n WK.e)))) (ke _ (Option.some.inj hf).symm)
    · replace hf := ite_f c85_13 hf
      refine T_aload dX11_triesWays_88 rfl ?_
      refine X_getr dX11_triesWays_89 lfX11_43 rfl ob73 rfl ?_
      refine T_iload dX11_triesWays_92 rfl ?_
      refine T_aload dX11_triesWays_93 rfl ?_
      refine X_getr dX11_triesWays_94 lfX11_40 rfl ob73 rfl ?_
      refine T_iload dX11_triesWays_97 rfl ?_
      obtain ⟨hb98_14, hf⟩ := opt_t hf
      refine X_iald (N := 4) dX11_triesWays_98 ar84 rfl hb98_14 ?_
      obtain ⟨hb99_15, hf⟩ := opt_t hf
      refine X_iast (N := 4) dX11_triesWays_99 ar85 rfl hb99_15 ?_
      refine T_iinc dX11_triesWays_100 rfl ?_
      show TX _ _ _ _ _ _ _ _ [_, _, _, _] _
      refine T_goto dX11_triesWays_103 ?_
      exact X_wk (WK.s (WK.n (WK.s (WK.s WK.e)))) (ih _ _ hf ke)
theorem pX11_triesWays (Z : aZ) (y : aH) {D : Nat} (hK : 68 ≤ D) {g_X11_triesWays : aH → Int32 → Int32 → Option aH} (H_X11_triesWays : ∀ (x : aH) (p1 : Int32) (p2 : Int32) {q : aH}, g_X11_triesWays x p1 p2 = some q → CX false Z mX11_triesWays D [.ref 73, .int p1, .int p2] y x (RN q)) {x : aH} {p1 : Int32} {p2 : Int32} {q : aH} (hf : uX11_triesWays g_X11_triesWays x p1 p2 = some q) : CX false Z mX11_triesWays (D + 1) [.ref 73, .int p1, .int p2] y x (RN q) := by
  refine CX.of mokX11_triesWays (Nat.le_of_ble_eq_true rfl) ?_
  show TX _ _ _ _ _ _ _ _ [_, _, _, _] _
  unfold uX11_triesWays at hf
  refine T_iload dX11_triesWays_0 rfl ?_
  refine T_iload dX11_triesWays_1 rfl ?_
  refine T_icmp_ne dX11_triesWays_2 (fun c2_1 => ?_) (fun c2_1 => ?_)
  · replace hf := ite_f c2_1 hf
    refine T_const dX11_triesWays_107 ?_
    refine T_istore dX11_triesWays_108 ?_
    show TX _ _ _ _ _ _ _ _ [_, _, _, _] _
    obtain ⟨q109_5, hc109_5, hf⟩ := bind_t hf
    refine X_wk (WK.s (WK.s (WK.s (WK.s WK.e)))) (lX11_triesWays_109 Z _ hK H_X11_triesWays _ _ 2000 _ _ hc109_5 ?_)
    intro q109_5z hr
    subst hr
    obtain rfl := Option.some.inj hf
    exact X_rv dX11_triesWays_135 ⟨rfl, rfl⟩
  · replace hf := ite_t c2_1 hf
    refine T_aload dX11_triesWays_5 rfl ?_
    obtain ⟨q6_6, hc6_6, hf⟩ := bind_t hf
    refine X_Vn (qX11_begins Z _ hc6_6) (Nat.le_trans (Nat.le_of_ble_eq_true rfl) hK) dX11_triesWays_6 lvX11_236 rfl rfl ob73 (Nat.le_of_ble_eq_true rfl) ?_
    refine T_const dX11_triesWays_9 ?_
    refine T_istore dX11_triesWays_10 ?_
    show TX _ _ _ _ _ _ _ _ [_, _, _, _] _
    obtain ⟨q11_10, hc11_10, hf⟩ := bind_t hf
    refine X_wk (WK.s (WK.n (WK.s (WK.s WK.e)))) (lX11_triesWays_11 Z _ hK H_X11_triesWays _ 2000 _ _ hc11_10 ?_)
    intro q11_10z hr
    subst hr
    refine T_aload dX11_triesWays_32 rfl ?_
    obtain ⟨q33_11, hc33_11, hf⟩ := bind_t hf
    refine X_Vv (qX11_homeMany Z _ hc33_11) (Nat.le_trans (Nat.le_of_ble_eq_true rfl) hK) dX11_triesWays_33 lvX11_262 rfl rfl ob73 (Nat.le_of_ble_eq_true rfl) ?_
    refine T_aload dX11_triesWays_36 rfl ?_
    refine X_getf dX11_triesWays_37 lfX11_265 rfl ob73 ?_
    have J65 : ∀ (x : aH) (l2 : Int32), jX11_triesWays_65 g_X11_triesWays x l2 = some q → TX false Z mX11_triesWays (D + 1) y x (RN q) 65 [.ref 73, .null, .int l2, .null] [] := by
      intro x l2 hf
      unfold jX11_triesWays_65 at hf
      refine T_aload dX11_triesWays_65 rfl ?_
      refine T_aload dX11_triesWays_66 rfl ?_
      obtain ⟨q67_12, hc67_12, hf⟩ := bind_t hf
      refine X_Vv (qX11_homeMany Z _ hc67_12) (Nat.le_trans (Nat.le_of_ble_eq_true rfl) hK) dX11_triesWays_67 lvX11_262 rfl rfl ob73 (Nat.le_of_ble_eq_true rfl) ?_
      refine X_putf dX11_triesWays_70 lfX11_265 rfl rfl ob73 ⟨rfl, rfl⟩ ?_
      refine T_aload dX11_triesWays_73 rfl ?_
      refine T_aload dX11_triesWays_74 rfl ?_
      refine X_getf dX11_triesWays_75 lfX11_200 rfl ob73 ?_
      refine X_putf dX11_triesWays_78 lfX11_268 rfl rfl ob73 ⟨rfl, rfl⟩ ?_
      refine T_const dX11_triesWays_81 ?_
      refine T_istore dX11_triesWays_82 ?_
      show TX _ _ _ _ _ _ _ _ [_, _, _, _] _
      obtain ⟨q83_16, hc83_16, hf⟩ := bind_t hf
      refine X_wk (WK.s (WK.n (WK.s (WK.s WK.e)))) (lX11_triesWays_83 Z _ hK H_X11_triesWays _ 2000 _ _ hc83_16 ?_)
      intro q83_16z hr
      subst hr
      obtain rfl := Option.some.inj hf
      exact X_rv dX11_triesWays_106 ⟨rfl, rfl⟩
    refine T_icmp_gt dX11_triesWays_40 (fun c40_17 => ?_) (fun c40_17 => ?_)
    · replace hf := ite_t c40_17 hf
      exact X_wk (WK.s (WK.n (WK.s (WK.n WK.e)))) (J65 _ _ hf)
    · replace hf := ite_f c40_17 hf
      refine T_aload dX11_triesWays_43 rfl ?_
      obtain ⟨q44_18, hc44_18, hf⟩ := bind_t hf
      refine X_Vv (qX11_homeMany Z _ hc44_18) (Nat.le_trans (Nat.le_of_ble_eq_true rfl) hK) dX11_triesWays_44 lvX11_262 rfl rfl ob73 (Nat.le_of_ble_eq_true rfl) ?_
      refine T_aload dX11_triesWays_47 rfl ?_
      refine X_getf dX11_triesWays_48 lfX11_265 rfl ob73 ?_
      refine T_icmp_ne dX11_triesWays_51 (fun c51_19 => ?_) (fun c51_19 => ?_)
      · replace hf := ite_f c51_19 hf
        obtain rfl := Option.some.inj hf
        exact X_rv dX11_triesWays_106 ⟨rfl, rfl⟩
      · replace hf := ite_t c51_19 hf
        refine T_aload dX11_triesWays_54 rfl ?_
        refine X_getf dX11_triesWays_55 lfX11_200 rfl ob73 ?_
        refine T_aload dX11_triesWays_58 rfl ?_
        refine X_getf dX11_triesWays_59 lfX11_268 rfl ob73 ?_
        refine T_icmp_le dX11_triesWays_62 (fun c62_20 => ?_) (fun c62_20 => ?_)
        · replace hf := ite_t c62_20 hf
          obtain rfl := Option.some.inj hf
          exact X_rv dX11_triesWays_106 ⟨rfl, rfl⟩
        · replace hf := ite_f c62_20 hf
          exact X_wk (WK.s (WK.n (WK.s (WK.n WK.e)))) (J65 _ _ hf)
def GX11_triesWays : Nat → (aH → Int32 → Int32 → Option aH)
  | 0 => (fun _ _ _ => none)
  | n + 1 => (uX11_triesWays ((GX11_triesWays n)))
def fX11_triesWays (n : Nat) : aH → Int32 → Int32 → Option aH := (GX11_triesWays n)
theorem fX11_triesWays_S (n : Nat) : fX11_triesWays (n + 1) = uX11_triesWays (fX11_triesWays n) := rfl
theorem qGX11_triesWays (Z : aZ) (y : aH) : ∀ n, (∀ (x : aH) (p1 : Int32) (p2 : Int32) {q : aH}, fX11_triesWays n x p1 p2 = some q → CX false Z mX11_triesWays (n + 68) [.ref 73, .int p1, .int p2] y x (RN q)) := by
  intro n
  induction n with
  | zero => exact (by intro _ _ _ q hf; cases hf)
  | succ n ih =>
    have ih_X11_triesWays := ih
    exact (by intro _ _ _ q hf; exact (pX11_triesWays Z y (D := n + 68) (Nat.le_add_left _ _) ih_X11_triesWays hf).le (by omega))
theorem qX11_triesWays (Z : aZ) (y : aH) {x : aH} {p1 : Int32} {p2 : Int32} {q : aH} (hf : fX11_triesWays 64 x p1 p2 = some q) : CX false Z mX11_triesWays 132 [.ref 73, .int p1, .int p2] y x (RN q) := (qGX11_triesWays Z y 64) _ _ _ hf
def fX11_best (x : aH) (p1 : Int32) (p2 : Int32) : Option (Int32 × aH) := (fX11_within (Int32.toInt64 p1) (0 : Int64) (4 : Int64)).bind fun q6_1 => if q6_1 = (0 : Int32) then some ((-1 : Int32), x) else (fX11_within (Int32.toInt64 p2) (-2 : Int64) (Int32.toInt64 (p1 - (1 : Int32)))).bind fun q21_3 => if q21_3 = (0 : Int32) then some ((-1 : Int32), x) else (fX11_triesWays 64 (sfi (sfi x 73 26 (-1 : Int32)) 73 27 (-1 : Int32)) (0 : Int32) p1).bind fun q42_5 => if p2 = (-1 : Int32) then some ((fi q42_5 73 26), q42_5) else if p2 = (-2 : Int32) then some ((fi q42_5 73 27), q42_5) else if (0 : Int32) ≤ p2 ∧ p2 < (4 : Int32) then some ((ri q42_5 85 (ix p2)), q42_5) else none
theorem qX11_best (Z : aZ) (y : aH) {x : aH} {p1 : Int32} {p2 : Int32} {q : (Int32 × aH)} (hf : fX11_best x p1 p2 = some q) : CX false Z mX11_best 133 [.ref 73, .int p1, .int p2] y x (RV (.int q.1) q.2) := by
  refine CX.of mokX11_best (Nat.le_of_ble_eq_true rfl) ?_
  show TX _ _ _ _ _ _ _ _ [_, _, _] _
  unfold fX11_best at hf
  refine T_iload dX11_best_0 rfl ?_
  refine T_i2l dX11_best_1 ?_
  refine T_constL dX11_best_2 ?_
  refine T_constL dX11_best_3 ?_
  obtain ⟨q6_1, hc6_1, hf⟩ := bind_t hf
  refine X_Sv (qX11_within _ Z _ _ hc6_1) (Nat.le_of_ble_eq_true rfl) dX11_best_6 lsX11_96 rfl rfl (Nat.le_of_ble_eq_true rfl) ?_
  refine T_if_eq dX11_best_9 (fun c9_2 => ?_) (fun c9_2 => ?_)
  · replace hf := ite_t c9_2 hf
    refine T_const dX11_best_27 ?_
    obtain rfl := Option.some.inj hf
    exact X_ri dX11_best_28 ⟨rfl, rfl⟩
  · replace hf := ite_f c9_2 hf
    refine T_iload dX11_best_12 rfl ?_
    refine T_i2l dX11_best_13 ?_
    refine T_constL dX11_best_14 ?_
    refine T_iload dX11_best_17 rfl ?_
    refine T_const dX11_best_18 ?_
    refine T_isub dX11_best_19 ?_
    refine T_i2l dX11_best_20 ?_
    obtain ⟨q21_3, hc21_3, hf⟩ := bind_t hf
    refine X_Sv (qX11_within _ Z _ _ hc21_3) (Nat.le_of_ble_eq_true rfl) dX11_best_21 lsX11_96 rfl rfl (Nat.le_of_ble_eq_true rfl) ?_
    refine T_if_ne dX11_best_24 (fun c24_4 => ?_) (fun c24_4 => ?_)
    · replace hf := ite_f c24_4 hf
      refine T_aload dX11_best_29 rfl ?_
      refine T_const dX11_best_30 ?_
      refine X_putf dX11_best_31 lfX11_265 rfl rfl ob73 ⟨rfl, rfl⟩ ?_
      refine T_aload dX11_best_34 rfl ?_
      refine T_const dX11_best_35 ?_
      refine X_putf dX11_best_36 lfX11_268 rfl rfl ob73 ⟨rfl, rfl⟩ ?_
      refine T_aload dX11_best_39 rfl ?_
      refine T_const dX11_best_40 ?_
      refine T_iload dX11_best_41 rfl ?_
      obtain ⟨q42_5, hc42_5, hf⟩ := bind_t hf
      refine X_Vn (qX11_triesWays Z _ hc42_5) (Nat.le_of_ble_eq_true rfl) dX11_best_42 lvX11_271 rfl rfl ob73 (Nat.le_of_ble_eq_true rfl) ?_
      refine T_iload dX11_best_45 rfl ?_
      refine T_const dX11_best_46 ?_
      refine T_icmp_ne dX11_best_47 (fun c47_6 => ?_) (fun c47_6 => ?_)
      · replace hf := ite_f c47_6 hf
        refine T_iload dX11_best_57 rfl ?_
        refine T_const dX11_best_58 ?_
        refine T_icmp_ne dX11_best_60 (fun c60_7 => ?_) (fun c60_7 => ?_)
        · replace hf := ite_f c60_7 hf
          refine T_aload dX11_best_70 rfl ?_
          refine X_getr dX11_best_71 lfX11_43 rfl ob73 rfl ?_
          refine T_iload dX11_best_74 rfl ?_
          obtain ⟨hb75_8, hf⟩ := opt_t hf
          refine X_iald (N := 4) dX11_best_75 ar85 rfl hb75_8 ?_
          obtain rfl := Option.some.inj hf
          exact X_ri dX11_best_76 ⟨rfl, rfl⟩
        · replace hf := ite_t c60_7 hf
          refine T_aload dX11_best_63 rfl ?_
          refine X_getf dX11_best_64 lfX11_268 rfl ob73 ?_
          refine T_goto dX11_best_67 ?_
          obtain rfl := Option.some.inj hf
          exact X_ri dX11_best_76 ⟨rfl, rfl⟩
      · replace hf := ite_t c47_6 hf
        refine T_aload dX11_best_50 rfl ?_
        refine X_getf dX11_best_51 lfX11_265 rfl ob73 ?_
        refine T_goto dX11_best_54 ?_
        obtain rfl := Option.some.inj hf
        exact X_ri dX11_best_76 ⟨rfl, rfl⟩
    · replace hf := ite_t c24_4 hf
      refine T_const dX11_best_27 ?_
      obtain rfl := Option.some.inj hf
      exact X_ri dX11_best_28 ⟨rfl, rfl⟩
def sX11_fetches_54 (g_X11_fetches : aH → Int32 → Int32 → Int32 → Option (Int32 × aH)) (l1 : Int32) (l2 : Int32) (l3 : Int32) (ih : aH → Int32 → Option (Sum (Int32 × aH) aH)) (x : aH) (l4 : Int32) : Option (Sum (Int32 × aH) aH) := if (4 : Int32) < l4 then some (.inr x) else if (0 : Int32) ≤ l2 ∧ l2 < (4 : Int32) then (g_X11_fetches (sri x 84 (ix l2) l4) l1 (l2 + (1 : Int32)) l3).bind fun q74_4 => if q74_4.1 = (0 : Int32) then ih q74_4.2 (l4 + (1 : Int32)) else some (.inl ((1 : Int32), q74_4.2)) else none
def wX11_fetches_54 (g_X11_fetches : aH → Int32 → Int32 → Int32 → Option (Int32 × aH)) (l1 : Int32) (l2 : Int32) (l3 : Int32) : Nat → aH → Int32 → Option (Sum (Int32 × aH) aH)
  | 0 => fun _ _ => none
  | n + 1 => sX11_fetches_54 g_X11_fetches l1 l2 l3 (wX11_fetches_54 g_X11_fetches l1 l2 l3 n)
def sX11_fetches_12 (g_X11_fetches : aH → Int32 → Int32 → Int32 → Option (Int32 × aH)) (l1 : Int32) (l3 : Int32) (ih : aH → Int32 → Option aH) (x : aH) (l4 : Int32) : Option aH := if l3 ≤ l4 then some x else if (0 : Int32) ≤ l4 ∧ l4 < (4 : Int32) then (fX11_goesNight x (ri x 84 (ix l4))).bind fun q26_10 => ih q26_10 (l4 + (1 : Int32)) else none
def wX11_fetches_12 (g_X11_fetches : aH → Int32 → Int32 → Int32 → Option (Int32 × aH)) (l1 : Int32) (l3 : Int32) : Nat → aH → Int32 → Option aH
  | 0 => fun _ _ => none
  | n + 1 => sX11_fetches_12 g_X11_fetches l1 l3 (wX11_fetches_12 g_X11_fetches l1 l3 n)
def uX11_fetches (g_X11_fetches : aH → Int32 → Int32 → Int32 → Option (Int32 × aH)) (x : aH) (p1 : Int32) (p2 : Int32) (p3 : Int32) : Option (Int32 × aH) := if p2 = p3 then (fX11_begins x).bind fun q6_7 => (wX11_fetches_12 g_X11_fetches p1 p3 2000 q6_7 (0 : Int32)).bind fun q12_11 => if (0 : Int32) ≤ p1 ∧ p1 < (10 : Int32) then if (ri q12_11 82 (ix p1)) = (1 : Int32) then some ((1 : Int32), q12_11) else some ((0 : Int32), q12_11) else none else (wX11_fetches_54 g_X11_fetches p1 p2 p3 2000 x (0 : Int32)).bind fun q54_6 => elS q54_6 (fun r => some r) (fun eq54_6 => some ((0 : Int32), eq54_6))
theorem lX11_fetches_54 (Z : aZ) (y : aH) {D : Nat} (hK : 68 ≤ D) {g_X11_fetches : aH → Int32 → Int32 → Int32 → Option (Int32 × aH)} (H_X11_fetches : ∀ (x : aH) (p1 : Int32) (p2 : Int32) (p3 : Int32) {q : (Int32 × aH)}, g_X11_fetches x p1 p2 p3 = some q → CX false Z mX11_fetches D [.ref 73, .int p1, .int p2, .int p3] y x (RV (.int q.1) q.2)) (l1 : Int32) (l2 : Int32) (l3 : Int32) {Q : Option Value → aH → Prop} {R : (Sum (Int32 × aH) aH)} : ∀ (n : Nat) (x : aH) (l4 : Int32), wX11_fetches_54 g_X11_fetches l1 l2 l3 n x l4 = some R → (∀ r, R = .inl r → Q (some (.int r.1)) r.2) → (∀ q, R = .inr q → TX false Z mX11_fetches (D + 1) y q Q 88 [.null, .null, .null, .null, .null] []) → TX false Z mX11_fetches (D + 1) y x Q 54 [.ref 73, .int l1, .int l2, .int l3, .int l4] [] := by
  intro n
  induction n with
  | zero => intro x l4 hf; cases hf
  | succ n ih =>
    intro x l4 hf kr ke
    replace hf : sX11_fetches_54 g_X11_fetches l1 l2 l3 (wX11_fetches_54 g_X11_fetches l1 l2 l3 n) x l4 = some R := hf
    unfold sX11_fetches_54 at hf
    refine T_iload dX11_fetches_54 rfl ?_
    refine T_const dX11_fetches_56 ?_
    refine T_icmp_gt dX11_fetches_57 (fun c57_2 => ?_) (fun c57_2 => ?_)
    · replace hf := ite_t c57_2 hf
      exact X_wk (WK.n (WK.n (WK.n (WK.n (WK.n WK.e))))) (ke _ (Option.some.inj hf).symm)
    · replace hf := ite_f c57_2 hf
      refine T_aload dX11_fetches_60 rfl ?_
      refine X_getr dX11_fetches_61 lfX11_40 rfl ob73 rfl ?_
      refine T_iload dX11_fetches_64 rfl ?_
      refine T_iload dX11_fetches_65 rfl ?_
      obtain ⟨hb67_3, hf⟩ := opt_t hf
      refine X_iast (N := 4) dX11_fetches_67 ar84 rfl hb67_3 ?_
      refine T_aload dX11_fetches_68 rfl ?_
      refine T_iload dX11_fetches_69 rfl ?_
      refine T_iload dX11_fetches_70 rfl ?_
      refine T_const dX11_fetches_71 ?_
      refine T_iadd dX11_fetches_72 ?_
      refine T_iload dX11_fetches_73 rfl ?_
      obtain ⟨q74_4, hc74_4, hf⟩ := bind_t hf
      refine X_Vv (H_X11_fetches _ _ _ _ hc74_4) (Nat.le_refl _) dX11_fetches_74 lvX11_276 rfl rfl ob73 (Nat.le_of_ble_eq_true rfl) ?_
      refine T_if_eq dX11_fetches_77 (fun c77_5 => ?_) (fun c77_5 => ?_)
      · replace hf := ite_t c77_5 hf
        refine T_iinc dX11_fetches_82 rfl ?_
        show TX _ _ _ _ _ _ _ _ [_, _, _, _, _] _
        refine T_goto dX11_fetches_85 ?_
        exact X_wk (WK.s (WK.s (WK.s (WK.s (WK.s WK.e))))) (ih _ _ hf kr ke)
      · replace hf := ite_f c77_5 hf
        refine T_const dX11_fetches_80 ?_
        exact X_rz dX11_fetches_81 (by first | exact Or.inl rfl | exact Or.inr rfl) (kr _ (Option.some.inj hf).symm)
theorem lX11_fetches_12 (Z : aZ) (y : aH) {D : Nat} (hK : 68 ≤ D) {g_X11_fetches : aH → Int32 → Int32 → Int32 → Option (Int32 × aH)} (H_X11_fetches : ∀ (x : aH) (p1 : Int32) (p2 : Int32) (p3 : Int32) {q : (Int32 × aH)}, g_X11_fetches x p1 p2 p3 = some q → CX false Z mX11_fetches D [.ref 73, .int p1, .int p2, .int p3] y x (RV (.int q.1) q.2)) (l1 : Int32) (l3 : Int32) {Q : Option Value → aH → Prop} {R : aH} : ∀ (n : Nat) (x : aH) (l4 : Int32), wX11_fetches_12 g_X11_fetches l1 l3 n x l4 = some R → (∀ q, R = q → TX false Z mX11_fetches (D + 1) y q Q 35 [.ref 73, .int l1, .null, .null, .null] []) → TX false Z mX11_fetches (D + 1) y x Q 12 [.ref 73, .int l1, .null, .int l3, .int l4] [] := by
  intro n
  induction n with
  | zero => intro x l4 hf; cases hf
  | succ n ih =>
    intro x l4 hf ke
    replace hf : sX11_fetches_12 g_X11_fetches l1 l3 (wX11_fetches_12 g_X11_fetches l1 l3 n) x l4 = some R := hf
    unfold sX11_fetches_12 at hf
    refine T_iload dX11_fetches_12 rfl ?_
    refine T_iload dX11_fetches_14 rfl ?_
    refine T_icmp_ge dX11_fetches_15 (fun c15_8 => ?_) (fun c15_8 => ?_)
    · replace hf := ite_t c15_8 hf
      exact X_wk (WK.s (WK.s (WK.n (WK.n (WK.n WK.e))))) (ke _ (Option.some.inj hf).symm)
    · replace hf := ite_f c15_8 hf
      refine T_aload dX11_fetches_18 rfl ?_
      refine T_aload dX11_fetches_19 rfl ?_
      refine X_getr dX11_fetches_20 lfX11_40 rfl ob73 rfl ?_
      refine T_iload dX11_fetches_23 rfl ?_
      obtain ⟨hb25_9, hf⟩ := opt_t hf
      refine X_iald (N := 4) dX11_fetches_25 ar84 rfl hb25_9 ?_
      obtain ⟨q26_10, hc26_10, hf⟩ := bind_t hf
      refine X_Vn (qX11_goesNight Z _ hc26_10) (Nat.le_trans (Nat.le_of_ble_eq_true rfl) hK) dX11_fetches_26 lvX11_246 rfl rfl ob73 (Nat.le_of_ble_eq_true rfl) ?_
      refine T_iinc dX11_fetches_29 rfl ?_
      show TX _ _ _ _ _ _ _ _ [_, _, _, _, _] _
      refine T_goto dX11_fetches_32 ?_
      exact X_wk (WK.s (WK.s (WK.n (WK.s (WK.s WK.e))))) (ih _ _ hf ke)
theorem pX11_fetches (Z : aZ) (y : aH) {D : Nat} (hK : 68 ≤ D) {g_X11_fetches : aH → Int32 → Int32 → Int32 → Option (Int32 × aH)} (H_X11_fetches : ∀ (x : aH) (p1 : Int32) (p2 : Int32) (p3 : Int32) {q : (Int32 × aH)}, g_X11_fetches x p1 p2 p3 = some q → CX false Z mX11_fetches D [.ref 73, .int p1, .int p2, .int p3] y x (RV (.int q.1) q.2)) {x : aH} {p1 : Int32} {p2 : Int32} {p3 : Int32} {q : (Int32 × aH)} (hf : uX11_fetches g_X11_fetches x p1 p2 p3 = some q) : CX false Z mX11_fetches (D + 1) [.ref 73, .int p1, .int p2, .int p3] y x (RV (.int q.1) q.2) := by
  refine CX.of mokX11_fetches (Nat.le_of_ble_eq_true rfl) ?_
  show TX _ _ _ _ _ _ _ _ [_, _, _, _, _] _
  unfold uX11_fetches at hf
  refine T_iload dX11_fetches_0 rfl ?_
  refine T_iload dX11_fetches_1 rfl ?_
  refine T_icmp_ne dX11_fetches_2 (fun c2_1 => ?_) (fun c2_1 => ?_)
  · replace hf := ite_f c2_1 hf
    refine T_const dX11_fetches_51 ?_
    refine T_istore dX11_fetches_52 ?_
    show TX _ _ _ _ _ _ _ _ [_, _, _, _, _] _
    obtain ⟨q54_6, hc54_6, hf⟩ := bind_t hf
    refine X_wk (WK.s (WK.s (WK.s (WK.s (WK.s WK.e))))) (lX11_fetches_54 Z _ hK H_X11_fetches _ _ _ 2000 _ _ hc54_6 ?_ ?_)
    · intro r hr
      subst hr
      replace hf := elS_l hf
      obtain rfl := Option.some.inj hf
      exact ⟨rfl, rfl⟩
    · intro eq54_6 hr
      subst hr
      replace hf := elS_r hf
      refine T_const dX11_fetches_88 ?_
      obtain rfl := Option.some.inj hf
      exact X_rz dX11_fetches_89 (by first | exact Or.inl rfl | exact Or.inr rfl) ⟨rfl, rfl⟩
  · replace hf := ite_t c2_1 hf
    refine T_aload dX11_fetches_5 rfl ?_
    obtain ⟨q6_7, hc6_7, hf⟩ := bind_t hf
    refine X_Vn (qX11_begins Z _ hc6_7) (Nat.le_trans (Nat.le_of_ble_eq_true rfl) hK) dX11_fetches_6 lvX11_236 rfl rfl ob73 (Nat.le_of_ble_eq_true rfl) ?_
    refine T_const dX11_fetches_9 ?_
    refine T_istore dX11_fetches_10 ?_
    show TX _ _ _ _ _ _ _ _ [_, _, _, _, _] _
    obtain ⟨q12_11, hc12_11, hf⟩ := bind_t hf
    refine X_wk (WK.s (WK.s (WK.n (WK.s (WK.s WK.e))))) (lX11_fetches_12 Z _ hK H_X11_fetches _ _ 2000 _ _ hc12_11 ?_)
    intro q12_11z hr
    subst hr
    refine T_aload dX11_fetches_35 rfl ?_
    refine X_getr dX11_fetches_36 lfX11_34 rfl ob73 rfl ?_
    refine T_iload dX11_fetches_39 rfl ?_
    obtain ⟨hb40_12, hf⟩ := opt_t hf
    refine X_iald (N := 10) dX11_fetches_40 ar82 rfl hb40_12 ?_
    refine T_const dX11_fetches_41 ?_
    refine T_icmp_ne dX11_fetches_42 (fun c42_13 => ?_) (fun c42_13 => ?_)
    · replace hf := ite_f c42_13 hf
      refine T_const dX11_fetches_49 ?_
      obtain rfl := Option.some.inj hf
      exact X_rz dX11_fetches_50 (by first | exact Or.inl rfl | exact Or.inr rfl) ⟨rfl, rfl⟩
    · replace hf := ite_t c42_13 hf
      refine T_const dX11_fetches_45 ?_
      refine T_goto dX11_fetches_46 ?_
      obtain rfl := Option.some.inj hf
      exact X_rz dX11_fetches_50 (by first | exact Or.inl rfl | exact Or.inr rfl) ⟨rfl, rfl⟩
def GX11_fetches : Nat → (aH → Int32 → Int32 → Int32 → Option (Int32 × aH))
  | 0 => (fun _ _ _ _ => none)
  | n + 1 => (uX11_fetches ((GX11_fetches n)))
def fX11_fetches (n : Nat) : aH → Int32 → Int32 → Int32 → Option (Int32 × aH) := (GX11_fetches n)
theorem fX11_fetches_S (n : Nat) : fX11_fetches (n + 1) = uX11_fetches (fX11_fetches n) := rfl
theorem qGX11_fetches (Z : aZ) (y : aH) : ∀ n, (∀ (x : aH) (p1 : Int32) (p2 : Int32) (p3 : Int32) {q : (Int32 × aH)}, fX11_fetches n x p1 p2 p3 = some q → CX false Z mX11_fetches (n + 68) [.ref 73, .int p1, .int p2, .int p3] y x (RV (.int q.1) q.2)) := by
  intro n
  induction n with
  | zero => exact (by intro _ _ _ _ q hf; cases hf)
  | succ n ih =>
    have ih_X11_fetches := ih
    exact (by intro _ _ _ _ q hf; exact (pX11_fetches Z y (D := n + 68) (Nat.le_add_left _ _) ih_X11_fetches hf).le (by omega))
theorem qX11_fetches (Z : aZ) (y : aH) {x : aH} {p1 : Int32} {p2 : Int32} {p3 : Int32} {q : (Int32 × aH)} (hf : fX11_fetches 64 x p1 p2 p3 = some q) : CX false Z mX11_fetches 132 [.ref 73, .int p1, .int p2, .int p3] y x (RV (.int q.1) q.2) := (qGX11_fetches Z y 64) _ _ _ _ hf
def sX11_fetch_18 (l1 : Int32) (l2 : Int32) (ih : aH → Int32 → Option (Sum (Int32 × aH) aH)) (x : aH) (l3 : Int32) : Option (Sum (Int32 × aH) aH) := if (4 : Int32) < l3 then some (.inr x) else (fX11_fetches 64 x l1 (0 : Int32) l3).bind fun q27_5 => if q27_5.1 = (0 : Int32) then ih q27_5.2 (l3 + (1 : Int32)) else if (0 : Int32) ≤ l2 then if l3 ≤ l2 then some (.inl ((-2 : Int32), q27_5.2)) else if (0 : Int32) ≤ l2 ∧ l2 < (4 : Int32) then some (.inl ((ri q27_5.2 84 (ix l2)), q27_5.2)) else none else some (.inl (l3, q27_5.2))
def wX11_fetch_18 (l1 : Int32) (l2 : Int32) : Nat → aH → Int32 → Option (Sum (Int32 × aH) aH)
  | 0 => fun _ _ => none
  | n + 1 => sX11_fetch_18 l1 l2 (wX11_fetch_18 l1 l2 n)
def fX11_fetch (x : aH) (p1 : Int32) (p2 : Int32) : Option (Int32 × aH) := (fX11_isLost x (Int32.toInt64 p1)).bind fun q3_1 => if q3_1 = (0 : Int32) then some ((-1 : Int32), x) else if (-1 : Int32) ≤ p2 then (wX11_fetch_18 p1 p2 2000 x (0 : Int32)).bind fun q18_10 => elS q18_10 (fun r => some r) (fun eq18_10 => some ((-2 : Int32), eq18_10)) else some ((-1 : Int32), x)
theorem lX11_fetch_18 (Z : aZ) (y : aH) (l1 : Int32) (l2 : Int32) {Q : Option Value → aH → Prop} {R : (Sum (Int32 × aH) aH)} : ∀ (n : Nat) (x : aH) (l3 : Int32), wX11_fetch_18 l1 l2 n x l3 = some R → (∀ r, R = .inl r → Q (some (.int r.1)) r.2) → (∀ q, R = .inr q → TX false Z mX11_fetch 133 y q Q 64 [.null, .null, .null, .null] []) → TX false Z mX11_fetch 133 y x Q 18 [.ref 73, .int l1, .int l2, .int l3] [] := by
  intro n
  induction n with
  | zero => intro x l3 hf; cases hf
  | succ n ih =>
    intro x l3 hf kr ke
    replace hf : sX11_fetch_18 l1 l2 (wX11_fetch_18 l1 l2 n) x l3 = some R := hf
    unfold sX11_fetch_18 at hf
    refine T_iload dX11_fetch_18 rfl ?_
    refine T_const dX11_fetch_19 ?_
    refine T_icmp_gt dX11_fetch_20 (fun c20_4 => ?_) (fun c20_4 => ?_)
    · replace hf := ite_t c20_4 hf
      exact X_wk (WK.n (WK.n (WK.n (WK.n WK.e)))) (ke _ (Option.some.inj hf).symm)
    · replace hf := ite_f c20_4 hf
      refine T_aload dX11_fetch_23 rfl ?_
      refine T_iload dX11_fetch_24 rfl ?_
      refine T_const dX11_fetch_25 ?_
      refine T_iload dX11_fetch_26 rfl ?_
      obtain ⟨q27_5, hc27_5, hf⟩ := bind_t hf
      refine X_Vv (qX11_fetches Z _ hc27_5) (Nat.le_of_ble_eq_true rfl) dX11_fetch_27 lvX11_276 rfl rfl ob73 (Nat.le_of_ble_eq_true rfl) ?_
      refine T_if_eq dX11_fetch_30 (fun c30_6 => ?_) (fun c30_6 => ?_)
      · replace hf := ite_t c30_6 hf
        refine T_iinc dX11_fetch_58 rfl ?_
        show TX _ _ _ _ _ _ _ _ [_, _, _, _] _
        refine T_goto dX11_fetch_61 ?_
        exact X_wk (WK.s (WK.s (WK.s (WK.s WK.e)))) (ih _ _ hf kr ke)
      · replace hf := ite_f c30_6 hf
        refine T_iload dX11_fetch_33 rfl ?_
        refine T_if_ge dX11_fetch_34 (fun c34_7 => ?_) (fun c34_7 => ?_)
        · replace hf := ite_t c34_7 hf
          refine T_iload dX11_fetch_41 rfl ?_
          refine T_iload dX11_fetch_42 rfl ?_
          refine T_icmp_ge dX11_fetch_43 (fun c43_8 => ?_) (fun c43_8 => ?_)
          · replace hf := ite_t c43_8 hf
            refine T_const dX11_fetch_55 ?_
            exact X_ri dX11_fetch_57 (kr _ (Option.some.inj hf).symm)
          · replace hf := ite_f c43_8 hf
            refine T_aload dX11_fetch_46 rfl ?_
            refine X_getr dX11_fetch_47 lfX11_40 rfl ob73 rfl ?_
            refine T_iload dX11_fetch_50 rfl ?_
            obtain ⟨hb51_9, hf⟩ := opt_t hf
            refine X_iald (N := 4) dX11_fetch_51 ar84 rfl hb51_9 ?_
            refine T_goto dX11_fetch_52 ?_
            exact X_ri dX11_fetch_57 (kr _ (Option.some.inj hf).symm)
        · replace hf := ite_f c34_7 hf
          refine T_iload dX11_fetch_37 rfl ?_
          refine T_goto dX11_fetch_38 ?_
          exact X_ri dX11_fetch_57 (kr _ (Option.some.inj hf).symm)
theorem qX11_fetch (Z : aZ) (y : aH) {x : aH} {p1 : Int32} {p2 : Int32} {q : (Int32 × aH)} (hf : fX11_fetch x p1 p2 = some q) : CX false Z mX11_fetch 133 [.ref 73, .int p1, .int p2] y x (RV (.int q.1) q.2) := by
  refine CX.of mokX11_fetch (Nat.le_of_ble_eq_true rfl) ?_
  show TX _ _ _ _ _ _ _ _ [_, _, _, _] _
  unfold fX11_fetch at hf
  refine T_aload dX11_fetch_0 rfl ?_
  refine T_iload dX11_fetch_1 rfl ?_
  refine T_i2l dX11_fetch_2 ?_
  obtain ⟨q3_1, hc3_1, hf⟩ := bind_t hf
  refine X_Vv (qX11_isLost Z _ hc3_1) (Nat.le_of_ble_eq_true rfl) dX11_fetch_3 lvX11_123 rfl rfl ob73 (Nat.le_of_ble_eq_true rfl) ?_
  refine T_if_eq dX11_fetch_6 (fun c6_2 => ?_) (fun c6_2 => ?_)
  · replace hf := ite_t c6_2 hf
    refine T_const dX11_fetch_14 ?_
    obtain rfl := Option.some.inj hf
    exact X_ri dX11_fetch_15 ⟨rfl, rfl⟩
  · replace hf := ite_f c6_2 hf
    refine T_iload dX11_fetch_9 rfl ?_
    refine T_const dX11_fetch_10 ?_
    refine T_icmp_ge dX11_fetch_11 (fun c11_3 => ?_) (fun c11_3 => ?_)
    · replace hf := ite_t c11_3 hf
      refine T_const dX11_fetch_16 ?_
      refine T_istore dX11_fetch_17 ?_
      show TX _ _ _ _ _ _ _ _ [_, _, _, _] _
      obtain ⟨q18_10, hc18_10, hf⟩ := bind_t hf
      refine X_wk (WK.s (WK.s (WK.s (WK.s WK.e)))) (lX11_fetch_18 Z _ _ _ 2000 _ _ hc18_10 ?_ ?_)
      · intro r hr
        subst hr
        replace hf := elS_l hf
        obtain rfl := Option.some.inj hf
        exact ⟨rfl, rfl⟩
      · intro eq18_10 hr
        subst hr
        replace hf := elS_r hf
        refine T_const dX11_fetch_64 ?_
        obtain rfl := Option.some.inj hf
        exact X_ri dX11_fetch_66 ⟨rfl, rfl⟩
    · replace hf := ite_f c11_3 hf
      refine T_const dX11_fetch_14 ?_
      obtain rfl := Option.some.inj hf
      exact X_ri dX11_fetch_15 ⟨rfl, rfl⟩
def sX11_drifted_43 (x : aH) (l2 : Int32) (l3 : Int64) (l5 : Int32) (ih : Int64 → Int32 → Option Int64) (l6 : Int64) (l8 : Int32) : Option Int64 := if (64 : Int32) ≤ l8 then some l6 else (fX11_driftsTo x l8).bind fun q56_7 => ih (l6 ||| (((l3 >>> (Int32.toInt64 q56_7 &&& 63)) &&& (1 : Int64)) <<< (Int32.toInt64 l8 &&& 63))) (l8 + (1 : Int32))
def wX11_drifted_43 (x : aH) (l2 : Int32) (l3 : Int64) (l5 : Int32) : Nat → Int64 → Int32 → Option Int64
  | 0 => fun _ _ => none
  | n + 1 => sX11_drifted_43 x l2 l3 l5 (wX11_drifted_43 x l2 l3 l5 n)
def sX11_drifted_31 (x : aH) (l2 : Int32) (ih : Int64 → Int32 → Option Int64) (l3 : Int64) (l5 : Int32) : Option Int64 := if l2 ≤ l5 then some l3 else (wX11_drifted_43 x l2 l3 l5 2000 (0 : Int64) (0 : Int32)).bind fun q43_8 => ih q43_8 (l5 + (1 : Int32))
def wX11_drifted_31 (x : aH) (l2 : Int32) : Nat → Int64 → Int32 → Option Int64
  | 0 => fun _ _ => none
  | n + 1 => sX11_drifted_31 x l2 (wX11_drifted_31 x l2 n)
def fX11_drifted (x : aH) (p1 : Int32) (p2 : Int32) : Option Int64 := (fX11_isCell (Int32.toInt64 p1)).bind fun q2_1 => if q2_1 = (0 : Int32) then some (-9223372036854775808 : Int64) else (fX11_within (Int32.toInt64 p2) (0 : Int64) (20 : Int64)).bind fun q14_3 => if q14_3 = (0 : Int32) then some (-9223372036854775808 : Int64) else (wX11_drifted_31 x p2 2000 ((1 : Int64) <<< (Int32.toInt64 p1 &&& 63)) (0 : Int32)).bind fun q31_9 => some q31_9
theorem lX11_drifted_43 (Z : aZ) (y : aH) (x : aH) (l2 : Int32) (l3 : Int64) (l5 : Int32) {Q : Option Value → aH → Prop} {R : Int64} : ∀ (n : Nat) (l6 : Int64) (l8 : Int32), wX11_drifted_43 x l2 l3 l5 n l6 l8 = some R → (∀ q, R = q → TX false Z mX11_drifted 2 y x Q 74 [.ref 73, .null, .int l2, .null, .null, .int l5, .long q, .null, .null] []) → TX false Z mX11_drifted 2 y x Q 43 [.ref 73, .null, .int l2, .long l3, .null, .int l5, .long l6, .null, .int l8] [] := by
  intro n
  induction n with
  | zero => intro l6 l8 hf; cases hf
  | succ n ih =>
    intro l6 l8 hf ke
    replace hf : sX11_drifted_43 x l2 l3 l5 (wX11_drifted_43 x l2 l3 l5 n) l6 l8 = some R := hf
    unfold sX11_drifted_43 at hf
    refine T_iload dX11_drifted_43 rfl ?_
    refine T_const dX11_drifted_45 ?_
    refine T_icmp_ge dX11_drifted_47 (fun c47_6 => ?_) (fun c47_6 => ?_)
    · replace hf := ite_t c47_6 hf
      exact X_wk (WK.s (WK.n (WK.s (WK.n (WK.n (WK.s (WK.s (WK.n (WK.n WK.e))))))))) (ke _ (Option.some.inj hf).symm)
    · replace hf := ite_f c47_6 hf
      refine T_lload dX11_drifted_50 rfl ?_
      refine T_lload dX11_drifted_52 rfl ?_
      refine T_aload dX11_drifted_53 rfl ?_
      refine T_iload dX11_drifted_54 rfl ?_
      obtain ⟨q56_7, hc56_7, hf⟩ := bind_t hf
      refine X_Vv (qX11_driftsTo Z _ hc56_7) (Nat.le_of_ble_eq_true rfl) dX11_drifted_56 lvX11_233 rfl rfl ob73 (Nat.le_of_ble_eq_true rfl) ?_
      refine T_lshr dX11_drifted_59 ?_
      refine T_constL dX11_drifted_60 ?_
      refine T_land dX11_drifted_61 ?_
      refine T_iload dX11_drifted_62 rfl ?_
      refine T_lshl dX11_drifted_64 ?_
      refine T_lor dX11_drifted_65 ?_
      refine T_lstore dX11_drifted_66 ?_
      show TX _ _ _ _ _ _ _ _ [_, _, _, _, _, _, _, _, _] _
      refine T_iinc dX11_drifted_68 rfl ?_
      show TX _ _ _ _ _ _ _ _ [_, _, _, _, _, _, _, _, _] _
      refine T_goto dX11_drifted_71 ?_
      exact X_wk (WK.s (WK.n (WK.s (WK.s (WK.n (WK.s (WK.s (WK.n (WK.s WK.e))))))))) (ih _ _ hf ke)
theorem lX11_drifted_31 (Z : aZ) (y : aH) (x : aH) (l2 : Int32) {Q : Option Value → aH → Prop} {R : Int64} : ∀ (n : Nat) (l3 : Int64) (l5 : Int32), wX11_drifted_31 x l2 n l3 l5 = some R → (∀ q, R = q → TX false Z mX11_drifted 2 y x Q 83 [.null, .null, .null, .long q, .null, .null, .null, .null, .null] []) → TX false Z mX11_drifted 2 y x Q 31 [.ref 73, .null, .int l2, .long l3, .null, .int l5, .null, .null, .null] [] := by
  intro n
  induction n with
  | zero => intro l3 l5 hf; cases hf
  | succ n ih =>
    intro l3 l5 hf ke
    replace hf : sX11_drifted_31 x l2 (wX11_drifted_31 x l2 n) l3 l5 = some R := hf
    unfold sX11_drifted_31 at hf
    refine T_iload dX11_drifted_31 rfl ?_
    refine T_iload dX11_drifted_33 rfl ?_
    refine T_icmp_ge dX11_drifted_34 (fun c34_5 => ?_) (fun c34_5 => ?_)
    · replace hf := ite_t c34_5 hf
      exact X_wk (WK.n (WK.n (WK.n (WK.s (WK.n (WK.n (WK.n (WK.n (WK.n WK.e))))))))) (ke _ (Option.some.inj hf).symm)
    · replace hf := ite_f c34_5 hf
      refine T_constL dX11_drifted_37 ?_
      refine T_lstore dX11_drifted_38 ?_
      show TX _ _ _ _ _ _ _ _ [_, _, _, _, _, _, _, _, _] _
      refine T_const dX11_drifted_40 ?_
      refine T_istore dX11_drifted_41 ?_
      show TX _ _ _ _ _ _ _ _ [_, _, _, _, _, _, _, _, _] _
      obtain ⟨q43_8, hc43_8, hf⟩ := bind_t hf
      refine X_wk (WK.s (WK.n (WK.s (WK.s (WK.n (WK.s (WK.s (WK.n (WK.s WK.e))))))))) (lX11_drifted_43 Z _ _ _ _ _ 2000 _ _ hc43_8 ?_)
      intro q43_8z hr
      subst hr
      refine T_lload dX11_drifted_74 rfl ?_
      refine T_lstore dX11_drifted_76 ?_
      show TX _ _ _ _ _ _ _ _ [_, _, _, _, _, _, _, _, _] _
      refine T_iinc dX11_drifted_77 rfl ?_
      show TX _ _ _ _ _ _ _ _ [_, _, _, _, _, _, _, _, _] _
      refine T_goto dX11_drifted_80 ?_
      exact X_wk (WK.s (WK.n (WK.s (WK.s (WK.n (WK.s (WK.n (WK.n (WK.n WK.e))))))))) (ih _ _ hf ke)
theorem qX11_drifted (Z : aZ) (y : aH) {x : aH} {p1 : Int32} {p2 : Int32} {q : Int64} (hf : fX11_drifted x p1 p2 = some q) : CX false Z mX11_drifted 2 [.ref 73, .int p1, .int p2] y x (RV (.long q) x) := by
  refine CX.of mokX11_drifted (Nat.le_of_ble_eq_true rfl) ?_
  show TX _ _ _ _ _ _ _ _ [_, _, _, _, _, _, _, _, _] _
  unfold fX11_drifted at hf
  refine T_iload dX11_drifted_0 rfl ?_
  refine T_i2l dX11_drifted_1 ?_
  obtain ⟨q2_1, hc2_1, hf⟩ := bind_t hf
  refine X_Sv (qX11_isCell _ Z _ _ hc2_1) (Nat.le_of_ble_eq_true rfl) dX11_drifted_2 lsX11_102 rfl rfl (Nat.le_of_ble_eq_true rfl) ?_
  refine T_if_eq dX11_drifted_5 (fun c5_2 => ?_) (fun c5_2 => ?_)
  · replace hf := ite_t c5_2 hf
    refine T_constL dX11_drifted_20 ?_
    obtain rfl := Option.some.inj hf
    exact X_rl dX11_drifted_23 ⟨rfl, rfl⟩
  · replace hf := ite_f c5_2 hf
    refine T_iload dX11_drifted_8 rfl ?_
    refine T_i2l dX11_drifted_9 ?_
    refine T_constL dX11_drifted_10 ?_
    refine T_constL dX11_drifted_11 ?_
    obtain ⟨q14_3, hc14_3, hf⟩ := bind_t hf
    refine X_Sv (qX11_within _ Z _ _ hc14_3) (Nat.le_of_ble_eq_true rfl) dX11_drifted_14 lsX11_96 rfl rfl (Nat.le_of_ble_eq_true rfl) ?_
    refine T_if_ne dX11_drifted_17 (fun c17_4 => ?_) (fun c17_4 => ?_)
    · replace hf := ite_f c17_4 hf
      refine T_constL dX11_drifted_24 ?_
      refine T_iload dX11_drifted_25 rfl ?_
      refine T_lshl dX11_drifted_26 ?_
      refine T_lstore dX11_drifted_27 ?_
      show TX _ _ _ _ _ _ _ _ [_, _, _, _, _, _, _, _, _] _
      refine T_const dX11_drifted_28 ?_
      refine T_istore dX11_drifted_29 ?_
      show TX _ _ _ _ _ _ _ _ [_, _, _, _, _, _, _, _, _] _
      obtain ⟨q31_9, hc31_9, hf⟩ := bind_t hf
      refine X_wk (WK.s (WK.n (WK.s (WK.s (WK.n (WK.s (WK.n (WK.n (WK.n WK.e))))))))) (lX11_drifted_31 Z _ _ _ 2000 _ _ hc31_9 ?_)
      intro q31_9z hr
      subst hr
      refine T_lload dX11_drifted_83 rfl ?_
      obtain rfl := Option.some.inj hf
      exact X_rl dX11_drifted_84 ⟨rfl, rfl⟩
    · replace hf := ite_t c17_4 hf
      refine T_constL dX11_drifted_20 ?_
      obtain rfl := Option.some.inj hf
      exact X_rl dX11_drifted_23 ⟨rfl, rfl⟩
def jX11_firstFalse_103 (ih : Int32 → Int32 → Int32 → Option (Sum Int32 Unit)) (x : aH) (l1 : Int32) (l4 : Int32) (l5 : Int32) (l6 : Int32) : Option (Sum Int32 Unit) := ih l4 l5 (l6 + (1 : Int32))
def jX11_firstFalse_101 (ih : Int32 → Int32 → Int32 → Option (Sum Int32 Unit)) (x : aH) (l1 : Int32) (l4 : Int32) (l6 : Int32) (s0 : Int32) : Option (Sum Int32 Unit) := jX11_firstFalse_103 ih x l1 l4 s0 l6
def jX11_firstFalse_70 (ih : Int32 → Int32 → Int32 → Option (Sum Int32 Unit)) (x : aH) (l1 : Int32) (l4 : Int32) (l5 : Int32) (l6 : Int32) : Option (Sum Int32 Unit) := if l5 = (0 : Int32) then (fX11_driftsTo x l4).bind fun q78_7 => if q78_7 = (ri x 74 (ix (168 : Int32))) then jX11_firstFalse_101 ih x l1 q78_7 l6 (1 : Int32) else jX11_firstFalse_101 ih x l1 q78_7 l6 (0 : Int32) else jX11_firstFalse_103 ih x l1 l4 l5 l6
def sX11_firstFalse_17 (x : aH) (l1 : Int32) (ih : Int32 → Int32 → Int32 → Option (Sum Int32 Unit)) (l4 : Int32) (l5 : Int32) (l6 : Int32) : Option (Sum Int32 Unit) := if (49 : Int32) ≤ l6 then some (.inr ()) else if (0 : Int32) ≤ l1 ∧ l1 < (6 : Int32) then if (ri x 95 (ix l1)) ≤ l6 then some (.inr ()) else if (0 : Int32) ≤ (((60 : Int32) * l1) + l6) ∧ (((60 : Int32) * l1) + l6) < (360 : Int32) then if (lg_cmp (rj x 96 (ix (((60 : Int32) * l1) + l6))) (64 : Int64)) = (0 : Int32) then jX11_firstFalse_70 ih x l1 l4 l5 l6 else if (lg_cmp (rj x 96 (ix (((60 : Int32) * l1) + l6))) (Int32.toInt64 l4)) = (0 : Int32) then jX11_firstFalse_70 ih x l1 l4 l5 l6 else some (.inl l6) else none else none
def wX11_firstFalse_17 (x : aH) (l1 : Int32) : Nat → Int32 → Int32 → Int32 → Option (Sum Int32 Unit)
  | 0 => fun _ _ _ => none
  | n + 1 => sX11_firstFalse_17 x l1 (wX11_firstFalse_17 x l1 n)
def fX11_firstFalse (x : aH) (p1 : Int32) (p2 : Int32) (p3 : Int32) : Option Int32 := if (0 : Int32) ≤ ((30 : Int32) + p2) ∧ ((30 : Int32) + p2) < (172 : Int32) then (wX11_firstFalse_17 x p1 2000 p3 (ri x 74 (ix ((30 : Int32) + p2))) (0 : Int32)).bind fun q17_11 => elS q17_11 (fun r => some r) (fun eq17_11 => some (-2 : Int32)) else none
theorem lX11_firstFalse_17 (Z : aZ) (y : aH) (x : aH) (l1 : Int32) {Q : Option Value → aH → Prop} {R : (Sum Int32 Unit)} : ∀ (n : Nat) (l4 : Int32) (l5 : Int32) (l6 : Int32), wX11_firstFalse_17 x l1 n l4 l5 l6 = some R → (∀ r, R = .inl r → Q (some (.int r)) x) → (∀ q, R = .inr q → TX false Z mX11_firstFalse 2 y x Q 109 [.null, .null, .null, .null, .null, .null, .null, .null, .null] []) → TX false Z mX11_firstFalse 2 y x Q 17 [.ref 73, .int l1, .null, .null, .int l4, .int l5, .int l6, .null, .null] [] := by
  intro n
  induction n with
  | zero => intro l4 l5 l6 hf; cases hf
  | succ n ih =>
    intro l4 l5 l6 hf kr ke
    replace hf : sX11_firstFalse_17 x l1 (wX11_firstFalse_17 x l1 n) l4 l5 l6 = some R := hf
    unfold sX11_firstFalse_17 at hf
    refine T_iload dX11_firstFalse_17 rfl ?_
    refine T_const dX11_firstFalse_19 ?_
    refine T_icmp_ge dX11_firstFalse_21 (fun c21_2 => ?_) (fun c21_2 => ?_)
    · replace hf := ite_t c21_2 hf
      exact X_wk (WK.n (WK.n (WK.n (WK.n (WK.n (WK.n (WK.n (WK.n (WK.n WK.e))))))))) (ke _ (Option.some.inj hf).symm)
    · replace hf := ite_f c21_2 hf
      refine T_iload dX11_firstFalse_24 rfl ?_
      refine T_aload dX11_firstFalse_26 rfl ?_
      refine X_getr dX11_firstFalse_27 lfX11_73 rfl ob73 rfl ?_
      refine T_iload dX11_firstFalse_30 rfl ?_
      obtain ⟨hb31_3, hf⟩ := opt_t hf
      refine X_iald (N := 6) dX11_firstFalse_31 ar95 rfl hb31_3 ?_
      refine T_icmp_ge dX11_firstFalse_32 (fun c32_4 => ?_) (fun c32_4 => ?_)
      · replace hf := ite_t c32_4 hf
        exact X_wk (WK.n (WK.n (WK.n (WK.n (WK.n (WK.n (WK.n (WK.n (WK.n WK.e))))))))) (ke _ (Option.some.inj hf).symm)
      · replace hf := ite_f c32_4 hf
        refine T_aload dX11_firstFalse_35 rfl ?_
        refine X_getr dX11_firstFalse_36 lfX11_76 rfl ob73 rfl ?_
        refine T_const dX11_firstFalse_39 ?_
        refine T_iload dX11_firstFalse_41 rfl ?_
        refine T_imul dX11_firstFalse_42 ?_
        refine T_iload dX11_firstFalse_43 rfl ?_
        refine T_iadd dX11_firstFalse_45 ?_
        obtain ⟨hb46_5, hf⟩ := opt_t hf
        refine X_lald (N := 360) dX11_firstFalse_46 ar96 rfl hb46_5 ?_
        refine T_lstore dX11_firstFalse_47 ?_
        show TX _ _ _ _ _ _ _ _ [_, _, _, _, _, _, _, _, _] _
        refine T_lload dX11_firstFalse_49 rfl ?_
        refine T_constL dX11_firstFalse_51 ?_
        refine T_lcmp dX11_firstFalse_54 ?_
        have J70 : ∀ (l4 : Int32) (l5 : Int32) (l6 : Int32), jX11_firstFalse_70 (wX11_firstFalse_17 x l1 n) x l1 l4 l5 l6 = some R → TX false Z mX11_firstFalse 2 y x Q 70 [.ref 73, .int l1, .null, .null, .int l4, .int l5, .int l6, .null, .null] [] := by
          intro l4 l5 l6 hf
          unfold jX11_firstFalse_70 at hf
          refine T_iload dX11_firstFalse_70 rfl ?_
          have J103 : ∀ (l4 : Int32) (l5 : Int32) (l6 : Int32), jX11_firstFalse_103 (wX11_firstFalse_17 x l1 n) x l1 l4 l5 l6 = some R → TX false Z mX11_firstFalse 2 y x Q 103 [.ref 73, .int l1, .null, .null, .int l4, .int l5, .int l6, .null, .null] [] := by
            intro l4 l5 l6 hf
            unfold jX11_firstFalse_103 at hf
            refine T_iinc dX11_firstFalse_103 rfl ?_
            show TX _ _ _ _ _ _ _ _ [_, _, _, _, _, _, _, _, _] _
            refine T_goto dX11_firstFalse_106 ?_
            exact X_wk (WK.s (WK.s (WK.n (WK.n (WK.s (WK.s (WK.s (WK.n (WK.n WK.e))))))))) (ih _ _ _ hf kr ke)
          refine T_if_ne dX11_firstFalse_72 (fun c72_6 => ?_) (fun c72_6 => ?_)
          · replace hf := ite_f c72_6 hf
            exact X_wk (WK.s (WK.s (WK.n (WK.n (WK.s (WK.s (WK.s (WK.n (WK.n WK.e))))))))) (J103 _ _ _ hf)
          · replace hf := ite_t c72_6 hf
            refine T_aload dX11_firstFalse_75 rfl ?_
            refine T_iload dX11_firstFalse_76 rfl ?_
            obtain ⟨q78_7, hc78_7, hf⟩ := bind_t hf
            refine X_Vv (qX11_driftsTo Z _ hc78_7) (Nat.le_of_ble_eq_true rfl) dX11_firstFalse_78 lvX11_233 rfl rfl ob73 (Nat.le_of_ble_eq_true rfl) ?_
            refine T_istore dX11_firstFalse_81 ?_
            show TX _ _ _ _ _ _ _ _ [_, _, _, _, _, _, _, _, _] _
            refine T_iload dX11_firstFalse_83 rfl ?_
            refine T_aload dX11_firstFalse_85 rfl ?_
            refine X_getr dX11_firstFalse_86 lfX11_9 rfl ob73 rfl ?_
            refine T_const dX11_firstFalse_89 ?_
            refine X_iald (N := 172) dX11_firstFalse_92 ar74 rfl (by decide) ?_
            have J101 : ∀ (l4 : Int32) (l6 : Int32) (s0 : Int32), jX11_firstFalse_101 (wX11_firstFalse_17 x l1 n) x l1 l4 l6 s0 = some R → TX false Z mX11_firstFalse 2 y x Q 101 [.ref 73, .int l1, .null, .null, .int l4, .null, .int l6, .null, .null] [.int s0] := by
              intro l4 l6 s0 hf
              unfold jX11_firstFalse_101 at hf
              refine T_istore dX11_firstFalse_101 ?_
              show TX _ _ _ _ _ _ _ _ [_, _, _, _, _, _, _, _, _] _
              exact X_wk (WK.s (WK.s (WK.n (WK.n (WK.s (WK.s (WK.s (WK.n (WK.n WK.e))))))))) (J103 _ _ _ hf)
            refine T_icmp_ne dX11_firstFalse_93 (fun c93_8 => ?_) (fun c93_8 => ?_)
            · replace hf := ite_f c93_8 hf
              refine T_const dX11_firstFalse_100 ?_
              exact X_wk (WK.s (WK.s (WK.n (WK.n (WK.s (WK.n (WK.s (WK.n (WK.n WK.e))))))))) (J101 _ _ _ hf)
            · replace hf := ite_t c93_8 hf
              refine T_const dX11_firstFalse_96 ?_
              refine T_goto dX11_firstFalse_97 ?_
              exact X_wk (WK.s (WK.s (WK.n (WK.n (WK.s (WK.n (WK.s (WK.n (WK.n WK.e))))))))) (J101 _ _ _ hf)
        refine T_if_eq dX11_firstFalse_55 (fun c55_9 => ?_) (fun c55_9 => ?_)
        · replace hf := ite_t c55_9 hf
          exact X_wk (WK.s (WK.s (WK.n (WK.n (WK.s (WK.s (WK.s (WK.n (WK.n WK.e))))))))) (J70 _ _ _ hf)
        · replace hf := ite_f c55_9 hf
          refine T_lload dX11_firstFalse_58 rfl ?_
          refine T_iload dX11_firstFalse_60 rfl ?_
          refine T_i2l dX11_firstFalse_62 ?_
          refine T_lcmp dX11_firstFalse_63 ?_
          refine T_if_eq dX11_firstFalse_64 (fun c64_10 => ?_) (fun c64_10 => ?_)
          · replace hf := ite_t c64_10 hf
            exact X_wk (WK.s (WK.s (WK.n (WK.n (WK.s (WK.s (WK.s (WK.n (WK.n WK.e))))))))) (J70 _ _ _ hf)
          · replace hf := ite_f c64_10 hf
            refine T_iload dX11_firstFalse_67 rfl ?_
            exact X_ri dX11_firstFalse_69 (kr _ (Option.some.inj hf).symm)
theorem qX11_firstFalse (Z : aZ) (y : aH) {x : aH} {p1 : Int32} {p2 : Int32} {p3 : Int32} {q : Int32} (hf : fX11_firstFalse x p1 p2 p3 = some q) : CX false Z mX11_firstFalse 2 [.ref 73, .int p1, .int p2, .int p3] y x (RV (.int q) x) := by
  refine CX.of mokX11_firstFalse (Nat.le_of_ble_eq_true rfl) ?_
  show TX _ _ _ _ _ _ _ _ [_, _, _, _, _, _, _, _, _] _
  unfold fX11_firstFalse at hf
  refine T_iload dX11_firstFalse_0 rfl ?_
  refine T_istore dX11_firstFalse_1 ?_
  show TX _ _ _ _ _ _ _ _ [_, _, _, _, _, _, _, _, _] _
  refine T_aload dX11_firstFalse_3 rfl ?_
  refine X_getr dX11_firstFalse_4 lfX11_9 rfl ob73 rfl ?_
  refine T_const dX11_firstFalse_7 ?_
  refine T_iload dX11_firstFalse_9 rfl ?_
  refine T_iadd dX11_firstFalse_10 ?_
  obtain ⟨hb11_1, hf⟩ := opt_t hf
  refine X_iald (N := 172) dX11_firstFalse_11 ar74 rfl hb11_1 ?_
  refine T_istore dX11_firstFalse_12 ?_
  show TX _ _ _ _ _ _ _ _ [_, _, _, _, _, _, _, _, _] _
  refine T_const dX11_firstFalse_14 ?_
  refine T_istore dX11_firstFalse_15 ?_
  show TX _ _ _ _ _ _ _ _ [_, _, _, _, _, _, _, _, _] _
  obtain ⟨q17_11, hc17_11, hf⟩ := bind_t hf
  refine X_wk (WK.s (WK.s (WK.n (WK.n (WK.s (WK.s (WK.s (WK.n (WK.n WK.e))))))))) (lX11_firstFalse_17 Z _ _ _ 2000 _ _ _ hc17_11 ?_ ?_)
  · intro r hr
    subst hr
    replace hf := elS_l hf
    obtain rfl := Option.some.inj hf
    exact ⟨rfl, rfl⟩
  · intro eq17_11 hr
    subst hr
    replace hf := elS_r hf
    refine T_const dX11_firstFalse_109 ?_
    obtain rfl := Option.some.inj hf
    exact X_ri dX11_firstFalse_111 ⟨rfl, rfl⟩
def jX11_ashore_110 (ih : Int32 → Int32 → Int32 → Option (Int32 × Int32)) (x : aH) (l1 : Int32) (l2 : Int32) (l3 : Int32) (l4 : Int32) (l5 : Int32) (l6 : Int32) : Option (Int32 × Int32) := ih l4 l5 (l6 + (1 : Int32))
def jX11_ashore_105 (ih : Int32 → Int32 → Int32 → Option (Int32 × Int32)) (x : aH) (l1 : Int32) (l2 : Int32) (l3 : Int32) (l4 : Int32) (l6 : Int32) (s0 : Int32) : Option (Int32 × Int32) := jX11_ashore_110 ih x l1 l2 l3 (l4 + (1 : Int32)) s0 l6
def sX11_ashore_73 (x : aH) (l1 : Int32) (l2 : Int32) (l3 : Int32) (ih : Int32 → Int32 → Int32 → Option (Int32 × Int32)) (l4 : Int32) (l5 : Int32) (l6 : Int32) : Option (Int32 × Int32) := if (64 : Int32) ≤ l6 then some (l4, l5) else (fX11_firstFalse x l1 l2 l6).bind fun q85_11 => if q85_11 = (-2 : Int32) then if l4 = (0 : Int32) then jX11_ashore_105 ih x l1 l2 l3 l4 l6 l6 else jX11_ashore_105 ih x l1 l2 l3 l4 l6 l5 else jX11_ashore_110 ih x l1 l2 l3 l4 l5 l6
def wX11_ashore_73 (x : aH) (l1 : Int32) (l2 : Int32) (l3 : Int32) : Nat → Int32 → Int32 → Int32 → Option (Int32 × Int32)
  | 0 => fun _ _ _ => none
  | n + 1 => sX11_ashore_73 x l1 l2 l3 (wX11_ashore_73 x l1 l2 l3 n)
def fX11_ashore (x : aH) (p1 : Int32) (p2 : Int32) (p3 : Int32) : Option Int32 := (fX11_bytesIs x p1).bind fun q2_1 => if q2_1 = (-1 : Int32) then some (-1 : Int32) else (fX11_isLost x (Int32.toInt64 p2)).bind fun q12_3 => if q12_3 = (0 : Int32) then some (-1 : Int32) else (fX11_within (Int32.toInt64 p3) (0 : Int64) (2 : Int64)).bind fun q24_5 => if q24_5 = (0 : Int32) then some (-1 : Int32) else (fX11_bytesIs x p1).bind fun q34_7 => if (0 : Int32) ≤ q34_7 then if p3 = (0 : Int32) then if (0 : Int32) ≤ p2 ∧ p2 < (172 : Int32) then (fX11_firstFalse x p1 p2 (ri x 74 (ix p2))).bind fun q59_17 => some q59_17 else none else (wX11_ashore_73 x p1 p2 p3 2000 (0 : Int32) (-2 : Int32) (0 : Int32)).bind fun q73_14 => if p3 = (1 : Int32) then some q73_14.1 else some q73_14.2 else (fX11_bytesIs x p1).bind fun q42_18 => some q42_18
theorem lX11_ashore_73 (Z : aZ) (y : aH) (x : aH) (l1 : Int32) (l2 : Int32) (l3 : Int32) {Q : Option Value → aH → Prop} {R : (Int32 × Int32)} : ∀ (n : Nat) (l4 : Int32) (l5 : Int32) (l6 : Int32), wX11_ashore_73 x l1 l2 l3 n l4 l5 l6 = some R → (∀ q, R = q → TX false Z mX11_ashore 3 y x Q 116 [.null, .null, .null, .int l3, .int (q.1), .int (q.2), .null] []) → TX false Z mX11_ashore 3 y x Q 73 [.ref 73, .int l1, .int l2, .int l3, .int l4, .int l5, .int l6] [] := by
  intro n
  induction n with
  | zero => intro l4 l5 l6 hf; cases hf
  | succ n ih =>
    intro l4 l5 l6 hf ke
    replace hf : sX11_ashore_73 x l1 l2 l3 (wX11_ashore_73 x l1 l2 l3 n) l4 l5 l6 = some R := hf
    unfold sX11_ashore_73 at hf
    refine T_iload dX11_ashore_73 rfl ?_
    refine T_const dX11_ashore_75 ?_
    refine T_icmp_ge dX11_ashore_77 (fun c77_10 => ?_) (fun c77_10 => ?_)
    · replace hf := ite_t c77_10 hf
      exact X_wk (WK.n (WK.n (WK.n (WK.s (WK.s (WK.s (WK.n WK.e))))))) (ke _ (Option.some.inj hf).symm)
    · replace hf := ite_f c77_10 hf
      refine T_aload dX11_ashore_80 rfl ?_
      refine T_iload dX11_ashore_81 rfl ?_
      refine T_iload dX11_ashore_82 rfl ?_
      refine T_iload dX11_ashore_83 rfl ?_
      obtain ⟨q85_11, hc85_11, hf⟩ := bind_t hf
      refine X_Vv (qX11_firstFalse Z _ hc85_11) (Nat.le_of_ble_eq_true rfl) dX11_ashore_85 lvX11_286 rfl rfl ob73 (Nat.le_of_ble_eq_true rfl) ?_
      refine T_const dX11_ashore_88 ?_
      have J110 : ∀ (l4 : Int32) (l5 : Int32) (l6 : Int32), jX11_ashore_110 (wX11_ashore_73 x l1 l2 l3 n) x l1 l2 l3 l4 l5 l6 = some R → TX false Z mX11_ashore 3 y x Q 110 [.ref 73, .int l1, .int l2, .int l3, .int l4, .int l5, .int l6] [] := by
        intro l4 l5 l6 hf
        unfold jX11_ashore_110 at hf
        refine T_iinc dX11_ashore_110 rfl ?_
        show TX _ _ _ _ _ _ _ _ [_, _, _, _, _, _, _] _
        refine T_goto dX11_ashore_113 ?_
        exact X_wk (WK.s (WK.s (WK.s (WK.s (WK.s (WK.s (WK.s WK.e))))))) (ih _ _ _ hf ke)
      refine T_icmp_ne dX11_ashore_90 (fun c90_12 => ?_) (fun c90_12 => ?_)
      · replace hf := ite_f c90_12 hf
        exact X_wk (WK.s (WK.s (WK.s (WK.s (WK.s (WK.s (WK.s WK.e))))))) (J110 _ _ _ hf)
      · replace hf := ite_t c90_12 hf
        refine T_iload dX11_ashore_93 rfl ?_
        have J105 : ∀ (l4 : Int32) (l6 : Int32) (s0 : Int32), jX11_ashore_105 (wX11_ashore_73 x l1 l2 l3 n) x l1 l2 l3 l4 l6 s0 = some R → TX false Z mX11_ashore 3 y x Q 105 [.ref 73, .int l1, .int l2, .int l3, .int l4, .null, .int l6] [.int s0] := by
          intro l4 l6 s0 hf
          unfold jX11_ashore_105 at hf
          refine T_istore dX11_ashore_105 ?_
          show TX _ _ _ _ _ _ _ _ [_, _, _, _, _, _, _] _
          refine T_iinc dX11_ashore_107 rfl ?_
          show TX _ _ _ _ _ _ _ _ [_, _, _, _, _, _, _] _
          exact X_wk (WK.s (WK.s (WK.s (WK.s (WK.s (WK.s (WK.s WK.e))))))) (J110 _ _ _ hf)
        refine T_if_ne dX11_ashore_95 (fun c95_13 => ?_) (fun c95_13 => ?_)
        · replace hf := ite_f c95_13 hf
          refine T_iload dX11_ashore_103 rfl ?_
          exact X_wk (WK.s (WK.s (WK.s (WK.s (WK.s (WK.n (WK.s WK.e))))))) (J105 _ _ _ hf)
        · replace hf := ite_t c95_13 hf
          refine T_iload dX11_ashore_98 rfl ?_
          refine T_goto dX11_ashore_100 ?_
          exact X_wk (WK.s (WK.s (WK.s (WK.s (WK.s (WK.n (WK.s WK.e))))))) (J105 _ _ _ hf)
theorem qX11_ashore (Z : aZ) (y : aH) {x : aH} {p1 : Int32} {p2 : Int32} {p3 : Int32} {q : Int32} (hf : fX11_ashore x p1 p2 p3 = some q) : CX false Z mX11_ashore 3 [.ref 73, .int p1, .int p2, .int p3] y x (RV (.int q) x) := by
  refine CX.of mokX11_ashore (Nat.le_of_ble_eq_true rfl) ?_
  show TX _ _ _ _ _ _ _ _ [_, _, _, _, _, _, _] _
  unfold fX11_ashore at hf
  refine T_aload dX11_ashore_0 rfl ?_
  refine T_iload dX11_ashore_1 rfl ?_
  obtain ⟨q2_1, hc2_1, hf⟩ := bind_t hf
  refine X_Vv (qX11_bytesIs Z _ hc2_1) (Nat.le_of_ble_eq_true rfl) dX11_ashore_2 lvX11_250 rfl rfl ob73 (Nat.le_of_ble_eq_true rfl) ?_
  refine T_const dX11_ashore_5 ?_
  refine T_icmp_eq dX11_ashore_6 (fun c6_2 => ?_) (fun c6_2 => ?_)
  · replace hf := ite_t c6_2 hf
    refine T_const dX11_ashore_30 ?_
    obtain rfl := Option.some.inj hf
    exact X_ri dX11_ashore_31 ⟨rfl, rfl⟩
  · replace hf := ite_f c6_2 hf
    refine T_aload dX11_ashore_9 rfl ?_
    refine T_iload dX11_ashore_10 rfl ?_
    refine T_i2l dX11_ashore_11 ?_
    obtain ⟨q12_3, hc12_3, hf⟩ := bind_t hf
    refine X_Vv (qX11_isLost Z _ hc12_3) (Nat.le_of_ble_eq_true rfl) dX11_ashore_12 lvX11_123 rfl rfl ob73 (Nat.le_of_ble_eq_true rfl) ?_
    refine T_if_eq dX11_ashore_15 (fun c15_4 => ?_) (fun c15_4 => ?_)
    · replace hf := ite_t c15_4 hf
      refine T_const dX11_ashore_30 ?_
      obtain rfl := Option.some.inj hf
      exact X_ri dX11_ashore_31 ⟨rfl, rfl⟩
    · replace hf := ite_f c15_4 hf
      refine T_iload dX11_ashore_18 rfl ?_
      refine T_i2l dX11_ashore_19 ?_
      refine T_constL dX11_ashore_20 ?_
      refine T_constL dX11_ashore_21 ?_
      obtain ⟨q24_5, hc24_5, hf⟩ := bind_t hf
      refine X_Sv (qX11_within _ Z _ _ hc24_5) (Nat.le_of_ble_eq_true rfl) dX11_ashore_24 lsX11_96 rfl rfl (Nat.le_of_ble_eq_true rfl) ?_
      refine T_if_ne dX11_ashore_27 (fun c27_6 => ?_) (fun c27_6 => ?_)
      · replace hf := ite_f c27_6 hf
        refine T_aload dX11_ashore_32 rfl ?_
        refine T_iload dX11_ashore_33 rfl ?_
        obtain ⟨q34_7, hc34_7, hf⟩ := bind_t hf
        refine X_Vv (qX11_bytesIs Z _ hc34_7) (Nat.le_of_ble_eq_true rfl) dX11_ashore_34 lvX11_250 rfl rfl ob73 (Nat.le_of_ble_eq_true rfl) ?_
        refine T_if_ge dX11_ashore_37 (fun c37_8 => ?_) (fun c37_8 => ?_)
        · replace hf := ite_t c37_8 hf
          refine T_iload dX11_ashore_46 rfl ?_
          refine T_if_ne dX11_ashore_47 (fun c47_9 => ?_) (fun c47_9 => ?_)
          · replace hf := ite_f c47_9 hf
            refine T_const dX11_ashore_63 ?_
            refine T_istore dX11_ashore_64 ?_
            show TX _ _ _ _ _ _ _ _ [_, _, _, _, _, _, _] _
            refine T_const dX11_ashore_66 ?_
            refine T_istore dX11_ashore_68 ?_
            show TX _ _ _ _ _ _ _ _ [_, _, _, _, _, _, _] _
            refine T_const dX11_ashore_70 ?_
            refine T_istore dX11_ashore_71 ?_
            show TX _ _ _ _ _ _ _ _ [_, _, _, _, _, _, _] _
            obtain ⟨q73_14, hc73_14, hf⟩ := bind_t hf
            refine X_wk (WK.s (WK.s (WK.s (WK.s (WK.s (WK.s (WK.s WK.e))))))) (lX11_ashore_73 Z _ _ _ _ _ 2000 _ _ _ hc73_14 ?_)
            intro q73_14z hr
            subst hr
            refine T_iload dX11_ashore_116 rfl ?_
            refine T_const dX11_ashore_117 ?_
            refine T_icmp_ne dX11_ashore_118 (fun c118_15 => ?_) (fun c118_15 => ?_)
            · replace hf := ite_f c118_15 hf
              refine T_iload dX11_ashore_126 rfl ?_
              obtain rfl := Option.some.inj hf
              exact X_ri dX11_ashore_128 ⟨rfl, rfl⟩
            · replace hf := ite_t c118_15 hf
              refine T_iload dX11_ashore_121 rfl ?_
              refine T_goto dX11_ashore_123 ?_
              obtain rfl := Option.some.inj hf
              exact X_ri dX11_ashore_128 ⟨rfl, rfl⟩
          · replace hf := ite_t c47_9 hf
            refine T_aload dX11_ashore_50 rfl ?_
            refine T_iload dX11_ashore_51 rfl ?_
            refine T_iload dX11_ashore_52 rfl ?_
            refine T_aload dX11_ashore_53 rfl ?_
            refine X_getr dX11_ashore_54 lfX11_9 rfl ob73 rfl ?_
            refine T_iload dX11_ashore_57 rfl ?_
            obtain ⟨hb58_16, hf⟩ := opt_t hf
            refine X_iald (N := 172) dX11_ashore_58 ar74 rfl hb58_16 ?_
            obtain ⟨q59_17, hc59_17, hf⟩ := bind_t hf
            refine X_Vv (qX11_firstFalse Z _ hc59_17) (Nat.le_of_ble_eq_true rfl) dX11_ashore_59 lvX11_286 rfl rfl ob73 (Nat.le_of_ble_eq_true rfl) ?_
            obtain rfl := Option.some.inj hf
            exact X_ri dX11_ashore_62 ⟨rfl, rfl⟩
        · replace hf := ite_f c37_8 hf
          refine T_aload dX11_ashore_40 rfl ?_
          refine T_iload dX11_ashore_41 rfl ?_
          obtain ⟨q42_18, hc42_18, hf⟩ := bind_t hf
          refine X_Vv (qX11_bytesIs Z _ hc42_18) (Nat.le_of_ble_eq_true rfl) dX11_ashore_42 lvX11_250 rfl rfl ob73 (Nat.le_of_ble_eq_true rfl) ?_
          obtain rfl := Option.some.inj hf
          exact X_ri dX11_ashore_45 ⟨rfl, rfl⟩
      · replace hf := ite_t c27_6 hf
        refine T_const dX11_ashore_30 ?_
        obtain rfl := Option.some.inj hf
        exact X_ri dX11_ashore_31 ⟨rfl, rfl⟩
def sX11_takesRules_2 (l1 : Int32) (ih : aH → Int32 → Option aH) (x : aH) (l2 : Int32) : Option aH := if (100 : Int32) ≤ l2 then some x else if (0 : Int32) ≤ l2 ∧ l2 < (100 : Int32) then ih (sri x 86 (ix l2) (0 : Int32)) (l2 + (1 : Int32)) else none
def wX11_takesRules_2 (l1 : Int32) : Nat → aH → Int32 → Option aH
  | 0 => fun _ _ => none
  | n + 1 => sX11_takesRules_2 l1 (wX11_takesRules_2 l1 n)
def jX11_takesRules_116 (ih : aH → Int32 → Option aH) (x : aH) (l1 : Int32) (l2 : Int32) : Option aH := ih x (l2 + (1 : Int32))
def sX11_takesRules_23 (l1 : Int32) (ih : aH → Int32 → Option aH) (x : aH) (l2 : Int32) : Option aH := if (20 : Int32) ≤ l2 then some x else if (0 : Int32) ≤ l1 ∧ l1 < (6 : Int32) then if (ri x 95 (ix l1)) ≤ (((2 : Int32) * l2) + (1 : Int32)) then some x else if (0 : Int32) ≤ (((60 : Int32) * l1) + ((2 : Int32) * l2)) ∧ (((60 : Int32) * l1) + ((2 : Int32) * l2)) < (360 : Int32) then if (0 : Int32) ≤ ((((60 : Int32) * l1) + ((2 : Int32) * l2)) + (1 : Int32)) ∧ ((((60 : Int32) * l1) + ((2 : Int32) * l2)) + (1 : Int32)) < (360 : Int32) then (fX11_isLost x (rj x 96 (ix (((60 : Int32) * l1) + ((2 : Int32) * l2))))).bind fun q76_9 => if q76_9 = (0 : Int32) then jX11_takesRules_116 ih x l1 l2 else (fX11_isLost x (rj x 96 (ix ((((60 : Int32) * l1) + ((2 : Int32) * l2)) + (1 : Int32))))).bind fun q85_11 => if q85_11 = (0 : Int32) then jX11_takesRules_116 ih x l1 l2 else if (lg_cmp (rj x 96 (ix (((60 : Int32) * l1) + ((2 : Int32) * l2)))) (rj x 96 (ix ((((60 : Int32) * l1) + ((2 : Int32) * l2)) + (1 : Int32))))) = (0 : Int32) then jX11_takesRules_116 ih x l1 l2 else if (0 : Int32) ≤ (((10 : Int32) * (Int64.toInt32 (rj x 96 (ix (((60 : Int32) * l1) + ((2 : Int32) * l2)))))) + (Int64.toInt32 (rj x 96 (ix ((((60 : Int32) * l1) + ((2 : Int32) * l2)) + (1 : Int32)))))) ∧ (((10 : Int32) * (Int64.toInt32 (rj x 96 (ix (((60 : Int32) * l1) + ((2 : Int32) * l2)))))) + (Int64.toInt32 (rj x 96 (ix ((((60 : Int32) * l1) + ((2 : Int32) * l2)) + (1 : Int32)))))) < (100 : Int32) then if (0 : Int32) ≤ (((10 : Int32) * (Int64.toInt32 (rj x 96 (ix (((60 : Int32) * l1) + ((2 : Int32) * l2)))))) + (Int64.toInt32 (rj x 96 (ix ((((60 : Int32) * l1) + ((2 : Int32) * l2)) + (1 : Int32)))))) ∧ (((10 : Int32) * (Int64.toInt32 (rj x 96 (ix (((60 : Int32) * l1) + ((2 : Int32) * l2)))))) + (Int64.toInt32 (rj x 96 (ix ((((60 : Int32) * l1) + ((2 : Int32) * l2)) + (1 : Int32)))))) < (100 : Int32) then jX11_takesRules_116 ih (sri x 86 (ix (((10 : Int32) * (Int64.toInt32 (rj x 96 (ix (((60 : Int32) * l1) + ((2 : Int32) * l2)))))) + (Int64.toInt32 (rj x 96 (ix ((((60 : Int32) * l1) + ((2 : Int32) * l2)) + (1 : Int32))))))) ((ri x 86 (ix (((10 : Int32) * (Int64.toInt32 (rj x 96 (ix (((60 : Int32) * l1) + ((2 : Int32) * l2)))))) + (Int64.toInt32 (rj x 96 (ix ((((60 : Int32) * l1) + ((2 : Int32) * l2)) + (1 : Int32)))))))) + (1 : Int32))) l1 l2 else none else none else none else none else none
def wX11_takesRules_23 (l1 : Int32) : Nat → aH → Int32 → Option aH
  | 0 => fun _ _ => none
  | n + 1 => sX11_takesRules_23 l1 (wX11_takesRules_23 l1 n)
def fX11_takesRules (x : aH) (p1 : Int32) : Option aH := (wX11_takesRules_2 p1 2000 x (0 : Int32)).bind fun q2_3 => (wX11_takesRules_23 p1 2000 q2_3 (0 : Int32)).bind fun q23_16 => some q23_16
theorem lX11_takesRules_2 (Z : aZ) (y : aH) (l1 : Int32) {Q : Option Value → aH → Prop} {R : aH} : ∀ (n : Nat) (x : aH) (l2 : Int32), wX11_takesRules_2 l1 n x l2 = some R → (∀ q, R = q → TX false Z mX11_takesRules 2 y q Q 21 [.ref 73, .int l1, .null, .null, .null, .null, .null] []) → TX false Z mX11_takesRules 2 y x Q 2 [.ref 73, .int l1, .int l2, .null, .null, .null, .null] [] := by
  intro n
  induction n with
  | zero => intro x l2 hf; cases hf
  | succ n ih =>
    intro x l2 hf ke
    replace hf : sX11_takesRules_2 l1 (wX11_takesRules_2 l1 n) x l2 = some R := hf
    unfold sX11_takesRules_2 at hf
    refine T_iload dX11_takesRules_2 rfl ?_
    refine T_const dX11_takesRules_3 ?_
    refine T_icmp_ge dX11_takesRules_5 (fun c5_1 => ?_) (fun c5_1 => ?_)
    · replace hf := ite_t c5_1 hf
      exact X_wk (WK.s (WK.s (WK.n (WK.n (WK.n (WK.n (WK.n WK.e))))))) (ke _ (Option.some.inj hf).symm)
    · replace hf := ite_f c5_1 hf
      refine T_aload dX11_takesRules_8 rfl ?_
      refine X_getr dX11_takesRules_9 lfX11_46 rfl ob73 rfl ?_
      refine T_iload dX11_takesRules_12 rfl ?_
      refine T_const dX11_takesRules_13 ?_
      obtain ⟨hb14_2, hf⟩ := opt_t hf
      refine X_iast (N := 100) dX11_takesRules_14 ar86 rfl hb14_2 ?_
      refine T_iinc dX11_takesRules_15 rfl ?_
      show TX _ _ _ _ _ _ _ _ [_, _, _, _, _, _, _] _
      refine T_goto dX11_takesRules_18 ?_
      exact X_wk (WK.s (WK.s (WK.s (WK.n (WK.n (WK.n (WK.n WK.e))))))) (ih _ _ hf ke)
theorem lX11_takesRules_23 (Z : aZ) (y : aH) (l1 : Int32) {Q : Option Value → aH → Prop} {R : aH} : ∀ (n : Nat) (x : aH) (l2 : Int32), wX11_takesRules_23 l1 n x l2 = some R → (∀ q, R = q → TX false Z mX11_takesRules 2 y q Q 122 [.null, .null, .null, .null, .null, .null, .null] []) → TX false Z mX11_takesRules 2 y x Q 23 [.ref 73, .int l1, .int l2, .null, .null, .null, .null] [] := by
  intro n
  induction n with
  | zero => intro x l2 hf; cases hf
  | succ n ih =>
    intro x l2 hf ke
    replace hf : sX11_takesRules_23 l1 (wX11_takesRules_23 l1 n) x l2 = some R := hf
    unfold sX11_takesRules_23 at hf
    refine T_iload dX11_takesRules_23 rfl ?_
    refine T_const dX11_takesRules_24 ?_
    refine T_icmp_ge dX11_takesRules_26 (fun c26_4 => ?_) (fun c26_4 => ?_)
    · replace hf := ite_t c26_4 hf
      exact X_wk (WK.n (WK.n (WK.n (WK.n (WK.n (WK.n (WK.n WK.e))))))) (ke _ (Option.some.inj hf).symm)
    · replace hf := ite_f c26_4 hf
      refine T_const dX11_takesRules_29 ?_
      refine T_iload dX11_takesRules_30 rfl ?_
      refine T_imul dX11_takesRules_31 ?_
      refine T_const dX11_takesRules_32 ?_
      refine T_iadd dX11_takesRules_33 ?_
      refine T_aload dX11_takesRules_34 rfl ?_
      refine X_getr dX11_takesRules_35 lfX11_73 rfl ob73 rfl ?_
      refine T_iload dX11_takesRules_38 rfl ?_
      obtain ⟨hb39_5, hf⟩ := opt_t hf
      refine X_iald (N := 6) dX11_takesRules_39 ar95 rfl hb39_5 ?_
      refine T_icmp_ge dX11_takesRules_40 (fun c40_6 => ?_) (fun c40_6 => ?_)
      · replace hf := ite_t c40_6 hf
        exact X_wk (WK.n (WK.n (WK.n (WK.n (WK.n (WK.n (WK.n WK.e))))))) (ke _ (Option.some.inj hf).symm)
      · replace hf := ite_f c40_6 hf
        refine T_aload dX11_takesRules_43 rfl ?_
        refine X_getr dX11_takesRules_44 lfX11_76 rfl ob73 rfl ?_
        refine T_const dX11_takesRules_47 ?_
        refine T_iload dX11_takesRules_49 rfl ?_
        refine T_imul dX11_takesRules_50 ?_
        refine T_const dX11_takesRules_51 ?_
        refine T_iload dX11_takesRules_52 rfl ?_
        refine T_imul dX11_takesRules_53 ?_
        refine T_iadd dX11_takesRules_54 ?_
        obtain ⟨hb55_7, hf⟩ := opt_t hf
        refine X_lald (N := 360) dX11_takesRules_55 ar96 rfl hb55_7 ?_
        refine T_lstore dX11_takesRules_56 ?_
        show TX _ _ _ _ _ _ _ _ [_, _, _, _, _, _, _] _
        refine T_aload dX11_takesRules_57 rfl ?_
        refine X_getr dX11_takesRules_58 lfX11_76 rfl ob73 rfl ?_
        refine T_const dX11_takesRules_61 ?_
        refine T_iload dX11_takesRules_63 rfl ?_
        refine T_imul dX11_takesRules_64 ?_
        refine T_const dX11_takesRules_65 ?_
        refine T_iload dX11_takesRules_66 rfl ?_
        refine T_imul dX11_takesRules_67 ?_
        refine T_iadd dX11_takesRules_68 ?_
        refine T_const dX11_takesRules_69 ?_
        refine T_iadd dX11_takesRules_70 ?_
        obtain ⟨hb71_8, hf⟩ := opt_t hf
        refine X_lald (N := 360) dX11_takesRules_71 ar96 rfl hb71_8 ?_
        refine T_lstore dX11_takesRules_72 ?_
        show TX _ _ _ _ _ _ _ _ [_, _, _, _, _, _, _] _
        refine T_aload dX11_takesRules_74 rfl ?_
        refine T_lload dX11_takesRules_75 rfl ?_
        obtain ⟨q76_9, hc76_9, hf⟩ := bind_t hf
        refine X_Vv (qX11_isLost Z _ hc76_9) (Nat.le_of_ble_eq_true rfl) dX11_takesRules_76 lvX11_123 rfl rfl ob73 (Nat.le_of_ble_eq_true rfl) ?_
        have J116 : ∀ (x : aH) (l2 : Int32), jX11_takesRules_116 (wX11_takesRules_23 l1 n) x l1 l2 = some R → TX false Z mX11_takesRules 2 y x Q 116 [.ref 73, .int l1, .int l2, .null, .null, .null, .null] [] := by
          intro x l2 hf
          unfold jX11_takesRules_116 at hf
          refine T_iinc dX11_takesRules_116 rfl ?_
          show TX _ _ _ _ _ _ _ _ [_, _, _, _, _, _, _] _
          refine T_goto dX11_takesRules_119 ?_
          exact X_wk (WK.s (WK.s (WK.s (WK.n (WK.n (WK.n (WK.n WK.e))))))) (ih _ _ hf ke)
        refine T_if_eq dX11_takesRules_79 (fun c79_10 => ?_) (fun c79_10 => ?_)
        · replace hf := ite_t c79_10 hf
          exact X_wk (WK.s (WK.s (WK.s (WK.n (WK.n (WK.n (WK.n WK.e))))))) (J116 _ _ hf)
        · replace hf := ite_f c79_10 hf
          refine T_aload dX11_takesRules_82 rfl ?_
          refine T_lload dX11_takesRules_83 rfl ?_
          obtain ⟨q85_11, hc85_11, hf⟩ := bind_t hf
          refine X_Vv (qX11_isLost Z _ hc85_11) (Nat.le_of_ble_eq_true rfl) dX11_takesRules_85 lvX11_123 rfl rfl ob73 (Nat.le_of_ble_eq_true rfl) ?_
          refine T_if_eq dX11_takesRules_88 (fun c88_12 => ?_) (fun c88_12 => ?_)
          · replace hf := ite_t c88_12 hf
            exact X_wk (WK.s (WK.s (WK.s (WK.n (WK.n (WK.n (WK.n WK.e))))))) (J116 _ _ hf)
          · replace hf := ite_f c88_12 hf
            refine T_lload dX11_takesRules_91 rfl ?_
            refine T_lload dX11_takesRules_92 rfl ?_
            refine T_lcmp dX11_takesRules_94 ?_
            refine T_if_eq dX11_takesRules_95 (fun c95_13 => ?_) (fun c95_13 => ?_)
            · replace hf := ite_t c95_13 hf
              exact X_wk (WK.s (WK.s (WK.s (WK.n (WK.n (WK.n (WK.n WK.e))))))) (J116 _ _ hf)
            · replace hf := ite_f c95_13 hf
              refine T_aload dX11_takesRules_98 rfl ?_
              refine X_getr dX11_takesRules_99 lfX11_46 rfl ob73 rfl ?_
              refine T_const dX11_takesRules_102 ?_
              refine T_lload dX11_takesRules_104 rfl ?_
              refine T_l2i dX11_takesRules_105 ?_
              refine T_imul dX11_takesRules_106 ?_
              refine T_lload dX11_takesRules_107 rfl ?_
              refine T_l2i dX11_takesRules_109 ?_
              refine T_iadd dX11_takesRules_110 ?_
              refine T_dup2 dX11_takesRules_111 rfl rfl ?_
              obtain ⟨hb112_14, hf⟩ := opt_t hf
              refine X_iald (N := 100) dX11_takesRules_112 ar86 rfl hb112_14 ?_
              refine T_const dX11_takesRules_113 ?_
              refine T_iadd dX11_takesRules_114 ?_
              obtain ⟨hb115_15, hf⟩ := opt_t hf
              refine X_iast (N := 100) dX11_takesRules_115 ar86 rfl hb115_15 ?_
              exact X_wk (WK.s (WK.s (WK.s (WK.n (WK.n (WK.n (WK.n WK.e))))))) (J116 _ _ hf)
theorem qX11_takesRules (Z : aZ) (y : aH) {x : aH} {p1 : Int32} {q : aH} (hf : fX11_takesRules x p1 = some q) : CX false Z mX11_takesRules 2 [.ref 73, .int p1] y x (RN q) := by
  refine CX.of mokX11_takesRules (Nat.le_of_ble_eq_true rfl) ?_
  show TX _ _ _ _ _ _ _ _ [_, _, _, _, _, _, _] _
  unfold fX11_takesRules at hf
  refine T_const dX11_takesRules_0 ?_
  refine T_istore dX11_takesRules_1 ?_
  show TX _ _ _ _ _ _ _ _ [_, _, _, _, _, _, _] _
  obtain ⟨q2_3, hc2_3, hf⟩ := bind_t hf
  refine X_wk (WK.s (WK.s (WK.s (WK.n (WK.n (WK.n (WK.n WK.e))))))) (lX11_takesRules_2 Z _ _ 2000 _ _ hc2_3 ?_)
  intro q2_3z hr
  subst hr
  refine T_const dX11_takesRules_21 ?_
  refine T_istore dX11_takesRules_22 ?_
  show TX _ _ _ _ _ _ _ _ [_, _, _, _, _, _, _] _
  obtain ⟨q23_16, hc23_16, hf⟩ := bind_t hf
  refine X_wk (WK.s (WK.s (WK.s (WK.n (WK.n (WK.n (WK.n WK.e))))))) (lX11_takesRules_23 Z _ _ 2000 _ _ hc23_16 ?_)
  intro q23_16z hr
  subst hr
  obtain rfl := Option.some.inj hf
  exact X_rv dX11_takesRules_122 ⟨rfl, rfl⟩
def jX11_mayNow_34 (ih : Int32 → Option (Sum Int32 Unit)) (x : aH) (l1 : Int32) (l2 : Int32) (l3 : Int32) : Option (Sum Int32 Unit) := ih (l3 + (1 : Int32))
def sX11_mayNow_2 (x : aH) (l1 : Int32) (l2 : Int32) (ih : Int32 → Option (Sum Int32 Unit)) (l3 : Int32) : Option (Sum Int32 Unit) := if (fi x 73 6) ≤ l3 then some (.inr ()) else if (0 : Int32) ≤ (((10 : Int32) * l3) + l1) ∧ (((10 : Int32) * l3) + l1) < (100 : Int32) then if (ri x 86 (ix (((10 : Int32) * l3) + l1))) ≤ (0 : Int32) then jX11_mayNow_34 ih x l1 l2 l3 else (fX11_isIn l2 l3).bind fun q26_4 => if q26_4 = (0 : Int32) then some (.inl (0 : Int32)) else jX11_mayNow_34 ih x l1 l2 l3 else none
def wX11_mayNow_2 (x : aH) (l1 : Int32) (l2 : Int32) : Nat → Int32 → Option (Sum Int32 Unit)
  | 0 => fun _ => none
  | n + 1 => sX11_mayNow_2 x l1 l2 (wX11_mayNow_2 x l1 l2 n)
def fX11_mayNow (x : aH) (p1 : Int32) (p2 : Int32) : Option Int32 := (wX11_mayNow_2 x p1 p2 2000 (0 : Int32)).bind fun q2_6 => elS q2_6 (fun r => some r) (fun eq2_6 => (fX11_isIn p2 p1).bind fun q42_7 => if q42_7 = (0 : Int32) then some (1 : Int32) else some (0 : Int32))
theorem lX11_mayNow_2 (Z : aZ) (y : aH) (x : aH) (l1 : Int32) (l2 : Int32) {Q : Option Value → aH → Prop} {R : (Sum Int32 Unit)} : ∀ (n : Nat) (l3 : Int32), wX11_mayNow_2 x l1 l2 n l3 = some R → (∀ r, R = .inl r → Q (some (.int r)) x) → (∀ q, R = .inr q → TX false Z mX11_mayNow 1 y x Q 40 [.null, .int l1, .int l2, .null] []) → TX false Z mX11_mayNow 1 y x Q 2 [.ref 73, .int l1, .int l2, .int l3] [] := by
  intro n
  induction n with
  | zero => intro l3 hf; cases hf
  | succ n ih =>
    intro l3 hf kr ke
    replace hf : sX11_mayNow_2 x l1 l2 (wX11_mayNow_2 x l1 l2 n) l3 = some R := hf
    unfold sX11_mayNow_2 at hf
    refine T_iload dX11_mayNow_2 rfl ?_
    refine T_aload dX11_mayNow_3 rfl ?_
    refine X_getf dX11_mayNow_4 lfX11_93 rfl ob73 ?_
    refine T_icmp_ge dX11_mayNow_7 (fun c7_1 => ?_) (fun c7_1 => ?_)
    · replace hf := ite_t c7_1 hf
      exact X_wk (WK.n (WK.s (WK.s (WK.n WK.e)))) (ke _ (Option.some.inj hf).symm)
    · replace hf := ite_f c7_1 hf
      refine T_aload dX11_mayNow_10 rfl ?_
      refine X_getr dX11_mayNow_11 lfX11_46 rfl ob73 rfl ?_
      refine T_const dX11_mayNow_14 ?_
      refine T_iload dX11_mayNow_16 rfl ?_
      refine T_imul dX11_mayNow_17 ?_
      refine T_iload dX11_mayNow_18 rfl ?_
      refine T_iadd dX11_mayNow_19 ?_
      obtain ⟨hb20_2, hf⟩ := opt_t hf
      refine X_iald (N := 100) dX11_mayNow_20 ar86 rfl hb20_2 ?_
      have J34 : ∀ (l3 : Int32), jX11_mayNow_34 (wX11_mayNow_2 x l1 l2 n) x l1 l2 l3 = some R → TX false Z mX11_mayNow 1 y x Q 34 [.ref 73, .int l1, .int l2, .int l3] [] := by
        intro l3 hf
        unfold jX11_mayNow_34 at hf
        refine T_iinc dX11_mayNow_34 rfl ?_
        show TX _ _ _ _ _ _ _ _ [_, _, _, _] _
        refine T_goto dX11_mayNow_37 ?_
        exact X_wk (WK.s (WK.s (WK.s (WK.s WK.e)))) (ih _ hf kr ke)
      refine T_if_le dX11_mayNow_21 (fun c21_3 => ?_) (fun c21_3 => ?_)
      · replace hf := ite_t c21_3 hf
        exact X_wk (WK.s (WK.s (WK.s (WK.s WK.e)))) (J34 _ hf)
      · replace hf := ite_f c21_3 hf
        refine T_iload dX11_mayNow_24 rfl ?_
        refine T_iload dX11_mayNow_25 rfl ?_
        obtain ⟨q26_4, hc26_4, hf⟩ := bind_t hf
        refine X_Sv (qX11_isIn _ Z _ _ hc26_4) (Nat.le_of_ble_eq_true rfl) dX11_mayNow_26 lsX11_290 rfl rfl (Nat.le_of_ble_eq_true rfl) ?_
        refine T_if_ne dX11_mayNow_29 (fun c29_5 => ?_) (fun c29_5 => ?_)
        · replace hf := ite_f c29_5 hf
          exact X_wk (WK.s (WK.s (WK.s (WK.s WK.e)))) (J34 _ hf)
        · replace hf := ite_t c29_5 hf
          refine T_const dX11_mayNow_32 ?_
          exact X_rz dX11_mayNow_33 (by first | exact Or.inl rfl | exact Or.inr rfl) (kr _ (Option.some.inj hf).symm)
theorem qX11_mayNow (Z : aZ) (y : aH) {x : aH} {p1 : Int32} {p2 : Int32} {q : Int32} (hf : fX11_mayNow x p1 p2 = some q) : CX false Z mX11_mayNow 1 [.ref 73, .int p1, .int p2] y x (RV (.int q) x) := by
  refine CX.of mokX11_mayNow (Nat.le_of_ble_eq_true rfl) ?_
  show TX _ _ _ _ _ _ _ _ [_, _, _, _] _
  unfold fX11_mayNow at hf
  refine T_const dX11_mayNow_0 ?_
  refine T_istore dX11_mayNow_1 ?_
  show TX _ _ _ _ _ _ _ _ [_, _, _, _] _
  obtain ⟨q2_6, hc2_6, hf⟩ := bind_t hf
  refine X_wk (WK.s (WK.s (WK.s (WK.s WK.e)))) (lX11_mayNow_2 Z _ _ _ _ 2000 _ hc2_6 ?_ ?_)
  · intro r hr
    subst hr
    replace hf := elS_l hf
    obtain rfl := Option.some.inj hf
    exact ⟨rfl, rfl⟩
  · intro eq2_6 hr
    subst hr
    replace hf := elS_r hf
    refine T_iload dX11_mayNow_40 rfl ?_
    refine T_iload dX11_mayNow_41 rfl ?_
    obtain ⟨q42_7, hc42_7, hf⟩ := bind_t hf
    refine X_Sv (qX11_isIn _ Z _ _ hc42_7) (Nat.le_of_ble_eq_true rfl) dX11_mayNow_42 lsX11_290 rfl rfl (Nat.le_of_ble_eq_true rfl) ?_
    refine T_if_ne dX11_mayNow_45 (fun c45_8 => ?_) (fun c45_8 => ?_)
    · replace hf := ite_f c45_8 hf
      refine T_const dX11_mayNow_52 ?_
      obtain rfl := Option.some.inj hf
      exact X_rz dX11_mayNow_53 (by first | exact Or.inl rfl | exact Or.inr rfl) ⟨rfl, rfl⟩
    · replace hf := ite_t c45_8 hf
      refine T_const dX11_mayNow_48 ?_
      refine T_goto dX11_mayNow_49 ?_
      obtain rfl := Option.some.inj hf
      exact X_rz dX11_mayNow_53 (by first | exact Or.inl rfl | exact Or.inr rfl) ⟨rfl, rfl⟩
def jX11_order_85 (ih : Int32 → Int32 → Option Int32) (x : aH) (l2 : Int32) (l3 : Int32) (l4 : Int32) (l5 : Int32) (l7 : Int32) (s0 : Int32) : Option Int32 := ih s0 (l7 + (-1 : Int32))
def sX11_order_63 (x : aH) (l2 : Int32) (l3 : Int32) (l4 : Int32) (l5 : Int32) (ih : Int32 → Int32 → Option Int32) (l6 : Int32) (l7 : Int32) : Option Int32 := if l7 < (0 : Int32) then some l6 else (fX11_mayNow x l7 l3).bind fun q72_9 => if q72_9 = (0 : Int32) then jX11_order_85 ih x l2 l3 l4 l5 l7 l6 else jX11_order_85 ih x l2 l3 l4 l5 l7 l7
def wX11_order_63 (x : aH) (l2 : Int32) (l3 : Int32) (l4 : Int32) (l5 : Int32) : Nat → Int32 → Int32 → Option Int32
  | 0 => fun _ _ => none
  | n + 1 => sX11_order_63 x l2 l3 l4 l5 (wX11_order_63 x l2 l3 l4 l5 n)
def jX11_order_121 (ih : Int32 → Int32 → Int32 → Option (Sum (Int32 × aH) Int32)) (x : aH) (l2 : Int32) (l3 : Int32) (l5 : Int32) (s0 : Int32) : Option (Sum (Int32 × aH) Int32) := ih l3 s0 (l5 + (1 : Int32))
def sX11_order_43 (x : aH) (l2 : Int32) (ih : Int32 → Int32 → Int32 → Option (Sum (Int32 × aH) Int32)) (l3 : Int32) (l4 : Int32) (l5 : Int32) : Option (Sum (Int32 × aH) Int32) := if (fi x 73 6) ≤ l5 then some (.inr l4) else (wX11_order_63 x l2 l3 l4 l5 2000 (-1 : Int32) ((fi x 73 6) - (1 : Int32))).bind fun q63_11 => if (0 : Int32) ≤ q63_11 then if l5 = l2 then jX11_order_121 ih x l2 (l3 ||| ((1 : Int32) <<< (q63_11 &&& 31))) l5 q63_11 else jX11_order_121 ih x l2 (l3 ||| ((1 : Int32) <<< (q63_11 &&& 31))) l5 l4 else some (.inl ((-2 : Int32), x))
def wX11_order_43 (x : aH) (l2 : Int32) : Nat → Int32 → Int32 → Int32 → Option (Sum (Int32 × aH) Int32)
  | 0 => fun _ _ _ => none
  | n + 1 => sX11_order_43 x l2 (wX11_order_43 x l2 n)
def fX11_order (x : aH) (p1 : Int32) (p2 : Int32) : Option (Int32 × aH) := (fX11_bytesIs x p1).bind fun q2_1 => if q2_1 = (-1 : Int32) then some ((-1 : Int32), x) else if (0 : Int32) ≤ p2 then (fX11_bytesIs x p1).bind fun q17_4 => if (0 : Int32) ≤ q17_4 then (fX11_takesRules x p1).bind fun q31_6 => (wX11_order_43 q31_6 p2 2000 (0 : Int32) (-2 : Int32) (0 : Int32)).bind fun q43_14 => elS q43_14 (fun r => some r) (fun eq43_14 => some (eq43_14, q31_6)) else (fX11_bytesIs x p1).bind fun q25_15 => some (q25_15, x) else some ((-1 : Int32), x)
theorem lX11_order_63 (Z : aZ) (y : aH) (x : aH) (l2 : Int32) (l3 : Int32) (l4 : Int32) (l5 : Int32) {Q : Option Value → aH → Prop} {R : Int32} : ∀ (n : Nat) (l6 : Int32) (l7 : Int32), wX11_order_63 x l2 l3 l4 l5 n l6 l7 = some R → (∀ q, R = q → TX false Z mX11_order 3 y x Q 93 [.ref 73, .null, .int l2, .int l3, .int l4, .int l5, .int q, .null] []) → TX false Z mX11_order 3 y x Q 63 [.ref 73, .null, .int l2, .int l3, .int l4, .int l5, .int l6, .int l7] [] := by
  intro n
  induction n with
  | zero => intro l6 l7 hf; cases hf
  | succ n ih =>
    intro l6 l7 hf ke
    replace hf : sX11_order_63 x l2 l3 l4 l5 (wX11_order_63 x l2 l3 l4 l5 n) l6 l7 = some R := hf
    unfold sX11_order_63 at hf
    refine T_iload dX11_order_63 rfl ?_
    refine T_if_lt dX11_order_65 (fun c65_8 => ?_) (fun c65_8 => ?_)
    · replace hf := ite_t c65_8 hf
      exact X_wk (WK.s (WK.n (WK.s (WK.s (WK.s (WK.s (WK.s (WK.n WK.e)))))))) (ke _ (Option.some.inj hf).symm)
    · replace hf := ite_f c65_8 hf
      refine T_aload dX11_order_68 rfl ?_
      refine T_iload dX11_order_69 rfl ?_
      refine T_iload dX11_order_71 rfl ?_
      obtain ⟨q72_9, hc72_9, hf⟩ := bind_t hf
      refine X_Vv (qX11_mayNow Z _ hc72_9) (Nat.le_of_ble_eq_true rfl) dX11_order_72 lvX11_296 rfl rfl ob73 (Nat.le_of_ble_eq_true rfl) ?_
      have J85 : ∀ (l7 : Int32) (s0 : Int32), jX11_order_85 (wX11_order_63 x l2 l3 l4 l5 n) x l2 l3 l4 l5 l7 s0 = some R → TX false Z mX11_order 3 y x Q 85 [.ref 73, .null, .int l2, .int l3, .int l4, .int l5, .null, .int l7] [.int s0] := by
        intro l7 s0 hf
        unfold jX11_order_85 at hf
        refine T_istore dX11_order_85 ?_
        show TX _ _ _ _ _ _ _ _ [_, _, _, _, _, _, _, _] _
        refine T_iinc dX11_order_87 rfl ?_
        show TX _ _ _ _ _ _ _ _ [_, _, _, _, _, _, _, _] _
        refine T_goto dX11_order_90 ?_
        exact X_wk (WK.s (WK.n (WK.s (WK.s (WK.s (WK.s (WK.s (WK.s WK.e)))))))) (ih _ _ hf ke)
      refine T_if_eq dX11_order_75 (fun c75_10 => ?_) (fun c75_10 => ?_)
      · replace hf := ite_t c75_10 hf
        refine T_iload dX11_order_83 rfl ?_
        exact X_wk (WK.s (WK.n (WK.s (WK.s (WK.s (WK.s (WK.n (WK.s WK.e)))))))) (J85 _ _ hf)
      · replace hf := ite_f c75_10 hf
        refine T_iload dX11_order_78 rfl ?_
        refine T_goto dX11_order_80 ?_
        exact X_wk (WK.s (WK.n (WK.s (WK.s (WK.s (WK.s (WK.n (WK.s WK.e)))))))) (J85 _ _ hf)
theorem lX11_order_43 (Z : aZ) (y : aH) (x : aH) (l2 : Int32) {Q : Option Value → aH → Prop} {R : (Sum (Int32 × aH) Int32)} : ∀ (n : Nat) (l3 : Int32) (l4 : Int32) (l5 : Int32), wX11_order_43 x l2 n l3 l4 l5 = some R → (∀ r, R = .inl r → Q (some (.int r.1)) r.2) → (∀ q, R = .inr q → TX false Z mX11_order 3 y x Q 129 [.null, .null, .null, .null, .int q, .null, .null, .null] []) → TX false Z mX11_order 3 y x Q 43 [.ref 73, .null, .int l2, .int l3, .int l4, .int l5, .null, .null] [] := by
  intro n
  induction n with
  | zero => intro l3 l4 l5 hf; cases hf
  | succ n ih =>
    intro l3 l4 l5 hf kr ke
    replace hf : sX11_order_43 x l2 (wX11_order_43 x l2 n) l3 l4 l5 = some R := hf
    unfold sX11_order_43 at hf
    refine T_iload dX11_order_43 rfl ?_
    refine T_aload dX11_order_45 rfl ?_
    refine X_getf dX11_order_46 lfX11_93 rfl ob73 ?_
    refine T_icmp_ge dX11_order_49 (fun c49_7 => ?_) (fun c49_7 => ?_)
    · replace hf := ite_t c49_7 hf
      exact X_wk (WK.n (WK.n (WK.n (WK.n (WK.s (WK.n (WK.n (WK.n WK.e)))))))) (ke _ (Option.some.inj hf).symm)
    · replace hf := ite_f c49_7 hf
      refine T_const dX11_order_52 ?_
      refine T_istore dX11_order_53 ?_
      show TX _ _ _ _ _ _ _ _ [_, _, _, _, _, _, _, _] _
      refine T_aload dX11_order_55 rfl ?_
      refine X_getf dX11_order_56 lfX11_93 rfl ob73 ?_
      refine T_const dX11_order_59 ?_
      refine T_isub dX11_order_60 ?_
      refine T_istore dX11_order_61 ?_
      show TX _ _ _ _ _ _ _ _ [_, _, _, _, _, _, _, _] _
      obtain ⟨q63_11, hc63_11, hf⟩ := bind_t hf
      refine X_wk (WK.s (WK.n (WK.s (WK.s (WK.s (WK.s (WK.s (WK.s WK.e)))))))) (lX11_order_63 Z _ _ _ _ _ _ 2000 _ _ hc63_11 ?_)
      intro q63_11z hr
      subst hr
      refine T_iload dX11_order_93 rfl ?_
      refine T_if_ge dX11_order_95 (fun c95_12 => ?_) (fun c95_12 => ?_)
      · replace hf := ite_t c95_12 hf
        refine T_iload dX11_order_101 rfl ?_
        refine T_const dX11_order_102 ?_
        refine T_iload dX11_order_103 rfl ?_
        refine T_ishl dX11_order_105 ?_
        refine T_ior dX11_order_106 ?_
        refine T_istore dX11_order_107 ?_
        show TX _ _ _ _ _ _ _ _ [_, _, _, _, _, _, _, _] _
        refine T_iload dX11_order_108 rfl ?_
        refine T_iload dX11_order_110 rfl ?_
        have J121 : ∀ (l3 : Int32) (l5 : Int32) (s0 : Int32), jX11_order_121 (wX11_order_43 x l2 n) x l2 l3 l5 s0 = some R → TX false Z mX11_order 3 y x Q 121 [.ref 73, .null, .int l2, .int l3, .null, .int l5, .null, .null] [.int s0] := by
          intro l3 l5 s0 hf
          unfold jX11_order_121 at hf
          refine T_istore dX11_order_121 ?_
          show TX _ _ _ _ _ _ _ _ [_, _, _, _, _, _, _, _] _
          refine T_iinc dX11_order_123 rfl ?_
          show TX _ _ _ _ _ _ _ _ [_, _, _, _, _, _, _, _] _
          refine T_goto dX11_order_126 ?_
          exact X_wk (WK.s (WK.n (WK.s (WK.s (WK.s (WK.s (WK.n (WK.n WK.e)))))))) (ih _ _ _ hf kr ke)
        refine T_icmp_ne dX11_order_111 (fun c111_13 => ?_) (fun c111_13 => ?_)
        · replace hf := ite_f c111_13 hf
          refine T_iload dX11_order_119 rfl ?_
          exact X_wk (WK.s (WK.n (WK.s (WK.s (WK.n (WK.s (WK.n (WK.n WK.e)))))))) (J121 _ _ _ hf)
        · replace hf := ite_t c111_13 hf
          refine T_iload dX11_order_114 rfl ?_
          refine T_goto dX11_order_116 ?_
          exact X_wk (WK.s (WK.n (WK.s (WK.s (WK.n (WK.s (WK.n (WK.n WK.e)))))))) (J121 _ _ _ hf)
      · replace hf := ite_f c95_12 hf
        refine T_const dX11_order_98 ?_
        exact X_ri dX11_order_100 (kr _ (Option.some.inj hf).symm)
theorem qX11_order (Z : aZ) (y : aH) {x : aH} {p1 : Int32} {p2 : Int32} {q : (Int32 × aH)} (hf : fX11_order x p1 p2 = some q) : CX false Z mX11_order 3 [.ref 73, .int p1, .int p2] y x (RV (.int q.1) q.2) := by
  refine CX.of mokX11_order (Nat.le_of_ble_eq_true rfl) ?_
  show TX _ _ _ _ _ _ _ _ [_, _, _, _, _, _, _, _] _
  unfold fX11_order at hf
  refine T_aload dX11_order_0 rfl ?_
  refine T_iload dX11_order_1 rfl ?_
  obtain ⟨q2_1, hc2_1, hf⟩ := bind_t hf
  refine X_Vv (qX11_bytesIs Z _ hc2_1) (Nat.le_of_ble_eq_true rfl) dX11_order_2 lvX11_250 rfl rfl ob73 (Nat.le_of_ble_eq_true rfl) ?_
  refine T_const dX11_order_5 ?_
  refine T_icmp_eq dX11_order_6 (fun c6_2 => ?_) (fun c6_2 => ?_)
  · replace hf := ite_t c6_2 hf
    refine T_const dX11_order_13 ?_
    obtain rfl := Option.some.inj hf
    exact X_ri dX11_order_14 ⟨rfl, rfl⟩
  · replace hf := ite_f c6_2 hf
    refine T_iload dX11_order_9 rfl ?_
    refine T_if_ge dX11_order_10 (fun c10_3 => ?_) (fun c10_3 => ?_)
    · replace hf := ite_t c10_3 hf
      refine T_aload dX11_order_15 rfl ?_
      refine T_iload dX11_order_16 rfl ?_
      obtain ⟨q17_4, hc17_4, hf⟩ := bind_t hf
      refine X_Vv (qX11_bytesIs Z _ hc17_4) (Nat.le_of_ble_eq_true rfl) dX11_order_17 lvX11_250 rfl rfl ob73 (Nat.le_of_ble_eq_true rfl) ?_
      refine T_if_ge dX11_order_20 (fun c20_5 => ?_) (fun c20_5 => ?_)
      · replace hf := ite_t c20_5 hf
        refine T_aload dX11_order_29 rfl ?_
        refine T_iload dX11_order_30 rfl ?_
        obtain ⟨q31_6, hc31_6, hf⟩ := bind_t hf
        refine X_Vn (qX11_takesRules Z _ hc31_6) (Nat.le_of_ble_eq_true rfl) dX11_order_31 lvX11_293 rfl rfl ob73 (Nat.le_of_ble_eq_true rfl) ?_
        refine T_const dX11_order_34 ?_
        refine T_istore dX11_order_35 ?_
        show TX _ _ _ _ _ _ _ _ [_, _, _, _, _, _, _, _] _
        refine T_const dX11_order_36 ?_
        refine T_istore dX11_order_38 ?_
        show TX _ _ _ _ _ _ _ _ [_, _, _, _, _, _, _, _] _
        refine T_const dX11_order_40 ?_
        refine T_istore dX11_order_41 ?_
        show TX _ _ _ _ _ _ _ _ [_, _, _, _, _, _, _, _] _
        obtain ⟨q43_14, hc43_14, hf⟩ := bind_t hf
        refine X_wk (WK.s (WK.n (WK.s (WK.s (WK.s (WK.s (WK.n (WK.n WK.e)))))))) (lX11_order_43 Z _ _ _ 2000 _ _ _ hc43_14 ?_ ?_)
        · intro r hr
          subst hr
          replace hf := elS_l hf
          obtain rfl := Option.some.inj hf
          exact ⟨rfl, rfl⟩
        · intro eq43_14 hr
          subst hr
          replace hf := elS_r hf
          refine T_iload dX11_order_129 rfl ?_
          obtain rfl := Option.some.inj hf
          exact X_ri dX11_order_131 ⟨rfl, rfl⟩
      · replace hf := ite_f c20_5 hf
        refine T_aload dX11_order_23 rfl ?_
        refine T_iload dX11_order_24 rfl ?_
        obtain ⟨q25_15, hc25_15, hf⟩ := bind_t hf
        refine X_Vv (qX11_bytesIs Z _ hc25_15) (Nat.le_of_ble_eq_true rfl) dX11_order_25 lvX11_250 rfl rfl ob73 (Nat.le_of_ble_eq_true rfl) ?_
        obtain rfl := Option.some.inj hf
        exact X_ri dX11_order_28 ⟨rfl, rfl⟩
    · replace hf := ite_f c10_3 hf
      refine T_const dX11_order_13 ?_
      obtain rfl := Option.some.inj hf
      exact X_ri dX11_order_14 ⟨rfl, rfl⟩
def jX11_ring_33 (ih : aH → Int32 → Option aH) (x : aH) (l1 : Int32) (l2 : Int32) (s1 : Int32) (s2 : Int32) : Option aH := if (0 : Int32) ≤ s1 ∧ s1 < (100 : Int32) then ih (sri x 87 (ix s1) s2) (l2 + (1 : Int32)) else none
def sX11_ring_6 (l1 : Int32) (ih : aH → Int32 → Option aH) (x : aH) (l2 : Int32) : Option aH := if (100 : Int32) ≤ l2 then some x else if (0 : Int32) ≤ l2 ∧ l2 < (100 : Int32) then if (ri x 86 (ix l2)) ≤ (0 : Int32) then jX11_ring_33 ih x l1 l2 l2 (1000000 : Int32) else jX11_ring_33 ih x l1 l2 l2 (1 : Int32) else none
def wX11_ring_6 (l1 : Int32) : Nat → aH → Int32 → Option aH
  | 0 => fun _ _ => none
  | n + 1 => sX11_ring_6 l1 (wX11_ring_6 l1 n)
def jX11_ring_143 (ih : aH → Int32 → Option aH) (x : aH) (l1 : Int32) (l2 : Int32) (l3 : Int32) (l4 : Int32) (s1 : Int32) (s2 : Int32) : Option aH := if (0 : Int32) ≤ s1 ∧ s1 < (100 : Int32) then ih (sri x 87 (ix s1) s2) (l4 + (1 : Int32)) else none
def sX11_ring_63 (l1 : Int32) (l2 : Int32) (l3 : Int32) (ih : aH → Int32 → Option aH) (x : aH) (l4 : Int32) : Option aH := if (fi x 73 6) ≤ l4 then some x else if (0 : Int32) ≤ (((10 : Int32) * l3) + l2) ∧ (((10 : Int32) * l3) + l2) < (100 : Int32) then if (0 : Int32) ≤ (((10 : Int32) * l2) + l4) ∧ (((10 : Int32) * l2) + l4) < (100 : Int32) then if (0 : Int32) ≤ (((10 : Int32) * l3) + l4) ∧ (((10 : Int32) * l3) + l4) < (100 : Int32) then if (ri x 87 (ix (((10 : Int32) * l3) + l4))) ≤ ((ri x 87 (ix (((10 : Int32) * l3) + l2))) + (ri x 87 (ix (((10 : Int32) * l2) + l4)))) then if (0 : Int32) ≤ (((10 : Int32) * l3) + l4) ∧ (((10 : Int32) * l3) + l4) < (100 : Int32) then jX11_ring_143 ih x l1 l2 l3 l4 (((10 : Int32) * l3) + l4) (ri x 87 (ix (((10 : Int32) * l3) + l4))) else none else jX11_ring_143 ih x l1 l2 l3 l4 (((10 : Int32) * l3) + l4) ((ri x 87 (ix (((10 : Int32) * l3) + l2))) + (ri x 87 (ix (((10 : Int32) * l2) + l4)))) else none else none else none
def wX11_ring_63 (l1 : Int32) (l2 : Int32) (l3 : Int32) : Nat → aH → Int32 → Option aH
  | 0 => fun _ _ => none
  | n + 1 => sX11_ring_63 l1 l2 l3 (wX11_ring_63 l1 l2 l3 n)
def sX11_ring_52 (l1 : Int32) (l2 : Int32) (ih : aH → Int32 → Option aH) (x : aH) (l3 : Int32) : Option aH := if (fi x 73 6) ≤ l3 then some x else (wX11_ring_63 l1 l2 l3 2000 x (0 : Int32)).bind fun q63_15 => ih q63_15 (l3 + (1 : Int32))
def wX11_ring_52 (l1 : Int32) (l2 : Int32) : Nat → aH → Int32 → Option aH
  | 0 => fun _ _ => none
  | n + 1 => sX11_ring_52 l1 l2 (wX11_ring_52 l1 l2 n)
def sX11_ring_42 (l1 : Int32) (ih : aH → Int32 → Option aH) (x : aH) (l2 : Int32) : Option aH := if (fi x 73 6) ≤ l2 then some x else (wX11_ring_52 l1 l2 2000 x (0 : Int32)).bind fun q52_16 => ih q52_16 (l2 + (1 : Int32))
def wX11_ring_42 (l1 : Int32) : Nat → aH → Int32 → Option aH
  | 0 => fun _ _ => none
  | n + 1 => sX11_ring_42 l1 (wX11_ring_42 l1 n)
def jX11_ring_194 (ih : Int32 → Int32 → Option Int32) (x : aH) (l2 : Int32) (s0 : Int32) : Option Int32 := ih s0 (l2 + (1 : Int32))
def sX11_ring_164 (x : aH) (ih : Int32 → Int32 → Option Int32) (l1 : Int32) (l2 : Int32) : Option Int32 := if (fi x 73 6) ≤ l2 then some l1 else if (0 : Int32) ≤ (((10 : Int32) * l2) + l2) ∧ (((10 : Int32) * l2) + l2) < (100 : Int32) then if l1 ≤ (ri x 87 (ix (((10 : Int32) * l2) + l2))) then jX11_ring_194 ih x l2 l1 else jX11_ring_194 ih x l2 (ri x 87 (ix (((10 : Int32) * l2) + l2))) else none
def wX11_ring_164 (x : aH) : Nat → Int32 → Int32 → Option Int32
  | 0 => fun _ _ => none
  | n + 1 => sX11_ring_164 x (wX11_ring_164 x n)
def fX11_ring (x : aH) : Option (Int32 × aH) := (wX11_ring_6 (1000000 : Int32) 2000 x (0 : Int32)).bind fun q6_5 => (wX11_ring_42 (1000000 : Int32) 2000 q6_5 (0 : Int32)).bind fun q42_17 => (wX11_ring_164 q42_17 2000 (1000000 : Int32) (0 : Int32)).bind fun q164_21 => if q164_21 < (1000000 : Int32) then some (q164_21, q42_17) else some ((-2 : Int32), q42_17)
theorem lX11_ring_6 (Z : aZ) (y : aH) (l1 : Int32) {Q : Option Value → aH → Prop} {R : aH} : ∀ (n : Nat) (x : aH) (l2 : Int32), wX11_ring_6 l1 n x l2 = some R → (∀ q, R = q → TX false Z mX11_ring 0 y q Q 40 [.ref 73, .int l1, .null, .null, .null, .null] []) → TX false Z mX11_ring 0 y x Q 6 [.ref 73, .int l1, .int l2, .null, .null, .null] [] := by
  intro n
  induction n with
  | zero => intro x l2 hf; cases hf
  | succ n ih =>
    intro x l2 hf ke
    replace hf : sX11_ring_6 l1 (wX11_ring_6 l1 n) x l2 = some R := hf
    unfold sX11_ring_6 at hf
    refine T_iload dX11_ring_6 rfl ?_
    refine T_const dX11_ring_7 ?_
    refine T_icmp_ge dX11_ring_9 (fun c9_1 => ?_) (fun c9_1 => ?_)
    · replace hf := ite_t c9_1 hf
      exact X_wk (WK.s (WK.s (WK.n (WK.n (WK.n (WK.n WK.e)))))) (ke _ (Option.some.inj hf).symm)
    · replace hf := ite_f c9_1 hf
      refine T_aload dX11_ring_12 rfl ?_
      refine X_getr dX11_ring_13 lfX11_49 rfl ob73 rfl ?_
      refine T_iload dX11_ring_16 rfl ?_
      refine T_aload dX11_ring_17 rfl ?_
      refine X_getr dX11_ring_18 lfX11_46 rfl ob73 rfl ?_
      refine T_iload dX11_ring_21 rfl ?_
      obtain ⟨hb22_2, hf⟩ := opt_t hf
      refine X_iald (N := 100) dX11_ring_22 ar86 rfl hb22_2 ?_
      have J33 : ∀ (x : aH) (l2 : Int32) (s1 : Int32) (s2 : Int32), jX11_ring_33 (wX11_ring_6 l1 n) x l1 l2 s1 s2 = some R → TX false Z mX11_ring 0 y x Q 33 [.ref 73, .int l1, .int l2, .null, .null, .null] [.int s2, .int s1, .ref 87] := by
        intro x l2 s1 s2 hf
        unfold jX11_ring_33 at hf
        obtain ⟨hb33_3, hf⟩ := opt_t hf
        refine X_iast (N := 100) dX11_ring_33 ar87 rfl hb33_3 ?_
        refine T_iinc dX11_ring_34 rfl ?_
        show TX _ _ _ _ _ _ _ _ [_, _, _, _, _, _] _
        refine T_goto dX11_ring_37 ?_
        exact X_wk (WK.s (WK.s (WK.s (WK.n (WK.n (WK.n WK.e)))))) (ih _ _ hf ke)
      refine T_if_le dX11_ring_23 (fun c23_4 => ?_) (fun c23_4 => ?_)
      · replace hf := ite_t c23_4 hf
        refine T_const dX11_ring_30 ?_
        exact X_wk (WK.s (WK.s (WK.s (WK.n (WK.n (WK.n WK.e)))))) (J33 _ _ _ _ hf)
      · replace hf := ite_f c23_4 hf
        refine T_const dX11_ring_26 ?_
        refine T_goto dX11_ring_27 ?_
        exact X_wk (WK.s (WK.s (WK.s (WK.n (WK.n (WK.n WK.e)))))) (J33 _ _ _ _ hf)
theorem lX11_ring_63 (Z : aZ) (y : aH) (l1 : Int32) (l2 : Int32) (l3 : Int32) {Q : Option Value → aH → Prop} {R : aH} : ∀ (n : Nat) (x : aH) (l4 : Int32), wX11_ring_63 l1 l2 l3 n x l4 = some R → (∀ q, R = q → TX false Z mX11_ring 0 y q Q 150 [.ref 73, .int l1, .int l2, .int l3, .null, .null] []) → TX false Z mX11_ring 0 y x Q 63 [.ref 73, .int l1, .int l2, .int l3, .int l4, .null] [] := by
  intro n
  induction n with
  | zero => intro x l4 hf; cases hf
  | succ n ih =>
    intro x l4 hf ke
    replace hf : sX11_ring_63 l1 l2 l3 (wX11_ring_63 l1 l2 l3 n) x l4 = some R := hf
    unfold sX11_ring_63 at hf
    refine T_iload dX11_ring_63 rfl ?_
    refine T_aload dX11_ring_65 rfl ?_
    refine X_getf dX11_ring_66 lfX11_93 rfl ob73 ?_
    refine T_icmp_ge dX11_ring_69 (fun c69_8 => ?_) (fun c69_8 => ?_)
    · replace hf := ite_t c69_8 hf
      exact X_wk (WK.s (WK.s (WK.s (WK.s (WK.n (WK.n WK.e)))))) (ke _ (Option.some.inj hf).symm)
    · replace hf := ite_f c69_8 hf
      refine T_aload dX11_ring_72 rfl ?_
      refine X_getr dX11_ring_73 lfX11_49 rfl ob73 rfl ?_
      refine T_const dX11_ring_76 ?_
      refine T_iload dX11_ring_78 rfl ?_
      refine T_imul dX11_ring_79 ?_
      refine T_iload dX11_ring_80 rfl ?_
      refine T_iadd dX11_ring_81 ?_
      obtain ⟨hb82_9, hf⟩ := opt_t hf
      refine X_iald (N := 100) dX11_ring_82 ar87 rfl hb82_9 ?_
      refine T_aload dX11_ring_83 rfl ?_
      refine X_getr dX11_ring_84 lfX11_49 rfl ob73 rfl ?_
      refine T_const dX11_ring_87 ?_
      refine T_iload dX11_ring_89 rfl ?_
      refine T_imul dX11_ring_90 ?_
      refine T_iload dX11_ring_91 rfl ?_
      refine T_iadd dX11_ring_93 ?_
      obtain ⟨hb94_10, hf⟩ := opt_t hf
      refine X_iald (N := 100) dX11_ring_94 ar87 rfl hb94_10 ?_
      refine T_iadd dX11_ring_95 ?_
      refine T_istore dX11_ring_96 ?_
      show TX _ _ _ _ _ _ _ _ [_, _, _, _, _, _] _
      refine T_aload dX11_ring_98 rfl ?_
      refine X_getr dX11_ring_99 lfX11_49 rfl ob73 rfl ?_
      refine T_const dX11_ring_102 ?_
      refine T_iload dX11_ring_104 rfl ?_
      refine T_imul dX11_ring_105 ?_
      refine T_iload dX11_ring_106 rfl ?_
      refine T_iadd dX11_ring_108 ?_
      refine T_iload dX11_ring_109 rfl ?_
      refine T_aload dX11_ring_111 rfl ?_
      refine X_getr dX11_ring_112 lfX11_49 rfl ob73 rfl ?_
      refine T_const dX11_ring_115 ?_
      refine T_iload dX11_ring_117 rfl ?_
      refine T_imul dX11_ring_118 ?_
      refine T_iload dX11_ring_119 rfl ?_
      refine T_iadd dX11_ring_121 ?_
      obtain ⟨hb122_11, hf⟩ := opt_t hf
      refine X_iald (N := 100) dX11_ring_122 ar87 rfl hb122_11 ?_
      have J143 : ∀ (x : aH) (l4 : Int32) (s1 : Int32) (s2 : Int32), jX11_ring_143 (wX11_ring_63 l1 l2 l3 n) x l1 l2 l3 l4 s1 s2 = some R → TX false Z mX11_ring 0 y x Q 143 [.ref 73, .int l1, .int l2, .int l3, .int l4, .null] [.int s2, .int s1, .ref 87] := by
        intro x l4 s1 s2 hf
        unfold jX11_ring_143 at hf
        obtain ⟨hb143_12, hf⟩ := opt_t hf
        refine X_iast (N := 100) dX11_ring_143 ar87 rfl hb143_12 ?_
        refine T_iinc dX11_ring_144 rfl ?_
        show TX _ _ _ _ _ _ _ _ [_, _, _, _, _, _] _
        refine T_goto dX11_ring_147 ?_
        exact X_wk (WK.s (WK.s (WK.s (WK.s (WK.s (WK.n WK.e)))))) (ih _ _ hf ke)
      refine T_icmp_ge dX11_ring_123 (fun c123_13 => ?_) (fun c123_13 => ?_)
      · replace hf := ite_t c123_13 hf
        refine T_aload dX11_ring_131 rfl ?_
        refine X_getr dX11_ring_132 lfX11_49 rfl ob73 rfl ?_
        refine T_const dX11_ring_135 ?_
        refine T_iload dX11_ring_137 rfl ?_
        refine T_imul dX11_ring_138 ?_
        refine T_iload dX11_ring_139 rfl ?_
        refine T_iadd dX11_ring_141 ?_
        obtain ⟨hb142_14, hf⟩ := opt_t hf
        refine X_iald (N := 100) dX11_ring_142 ar87 rfl hb142_14 ?_
        exact X_wk (WK.s (WK.s (WK.s (WK.s (WK.s (WK.n WK.e)))))) (J143 _ _ _ _ hf)
      · replace hf := ite_f c123_13 hf
        refine T_iload dX11_ring_126 rfl ?_
        refine T_goto dX11_ring_128 ?_
        exact X_wk (WK.s (WK.s (WK.s (WK.s (WK.s (WK.n WK.e)))))) (J143 _ _ _ _ hf)
theorem lX11_ring_52 (Z : aZ) (y : aH) (l1 : Int32) (l2 : Int32) {Q : Option Value → aH → Prop} {R : aH} : ∀ (n : Nat) (x : aH) (l3 : Int32), wX11_ring_52 l1 l2 n x l3 = some R → (∀ q, R = q → TX false Z mX11_ring 0 y q Q 156 [.ref 73, .int l1, .int l2, .null, .null, .null] []) → TX false Z mX11_ring 0 y x Q 52 [.ref 73, .int l1, .int l2, .int l3, .null, .null] [] := by
  intro n
  induction n with
  | zero => intro x l3 hf; cases hf
  | succ n ih =>
    intro x l3 hf ke
    replace hf : sX11_ring_52 l1 l2 (wX11_ring_52 l1 l2 n) x l3 = some R := hf
    unfold sX11_ring_52 at hf
    refine T_iload dX11_ring_52 rfl ?_
    refine T_aload dX11_ring_53 rfl ?_
    refine X_getf dX11_ring_54 lfX11_93 rfl ob73 ?_
    refine T_icmp_ge dX11_ring_57 (fun c57_7 => ?_) (fun c57_7 => ?_)
    · replace hf := ite_t c57_7 hf
      exact X_wk (WK.s (WK.s (WK.s (WK.n (WK.n (WK.n WK.e)))))) (ke _ (Option.some.inj hf).symm)
    · replace hf := ite_f c57_7 hf
      refine T_const dX11_ring_60 ?_
      refine T_istore dX11_ring_61 ?_
      show TX _ _ _ _ _ _ _ _ [_, _, _, _, _, _] _
      obtain ⟨q63_15, hc63_15, hf⟩ := bind_t hf
      refine X_wk (WK.s (WK.s (WK.s (WK.s (WK.s (WK.n WK.e)))))) (lX11_ring_63 Z _ _ _ _ 2000 _ _ hc63_15 ?_)
      intro q63_15z hr
      subst hr
      refine T_iinc dX11_ring_150 rfl ?_
      show TX _ _ _ _ _ _ _ _ [_, _, _, _, _, _] _
      refine T_goto dX11_ring_153 ?_
      exact X_wk (WK.s (WK.s (WK.s (WK.s (WK.n (WK.n WK.e)))))) (ih _ _ hf ke)
theorem lX11_ring_42 (Z : aZ) (y : aH) (l1 : Int32) {Q : Option Value → aH → Prop} {R : aH} : ∀ (n : Nat) (x : aH) (l2 : Int32), wX11_ring_42 l1 n x l2 = some R → (∀ q, R = q → TX false Z mX11_ring 0 y q Q 162 [.ref 73, .int l1, .null, .null, .null, .null] []) → TX false Z mX11_ring 0 y x Q 42 [.ref 73, .int l1, .int l2, .null, .null, .null] [] := by
  intro n
  induction n with
  | zero => intro x l2 hf; cases hf
  | succ n ih =>
    intro x l2 hf ke
    replace hf : sX11_ring_42 l1 (wX11_ring_42 l1 n) x l2 = some R := hf
    unfold sX11_ring_42 at hf
    refine T_iload dX11_ring_42 rfl ?_
    refine T_aload dX11_ring_43 rfl ?_
    refine X_getf dX11_ring_44 lfX11_93 rfl ob73 ?_
    refine T_icmp_ge dX11_ring_47 (fun c47_6 => ?_) (fun c47_6 => ?_)
    · replace hf := ite_t c47_6 hf
      exact X_wk (WK.s (WK.s (WK.n (WK.n (WK.n (WK.n WK.e)))))) (ke _ (Option.some.inj hf).symm)
    · replace hf := ite_f c47_6 hf
      refine T_const dX11_ring_50 ?_
      refine T_istore dX11_ring_51 ?_
      show TX _ _ _ _ _ _ _ _ [_, _, _, _, _, _] _
      obtain ⟨q52_16, hc52_16, hf⟩ := bind_t hf
      refine X_wk (WK.s (WK.s (WK.s (WK.s (WK.n (WK.n WK.e)))))) (lX11_ring_52 Z _ _ _ 2000 _ _ hc52_16 ?_)
      intro q52_16z hr
      subst hr
      refine T_iinc dX11_ring_156 rfl ?_
      show TX _ _ _ _ _ _ _ _ [_, _, _, _, _, _] _
      refine T_goto dX11_ring_159 ?_
      exact X_wk (WK.s (WK.s (WK.s (WK.n (WK.n (WK.n WK.e)))))) (ih _ _ hf ke)
theorem lX11_ring_164 (Z : aZ) (y : aH) (x : aH) {Q : Option Value → aH → Prop} {R : Int32} : ∀ (n : Nat) (l1 : Int32) (l2 : Int32), wX11_ring_164 x n l1 l2 = some R → (∀ q, R = q → TX false Z mX11_ring 0 y x Q 201 [.null, .int q, .null, .null, .null, .null] []) → TX false Z mX11_ring 0 y x Q 164 [.ref 73, .int l1, .int l2, .null, .null, .null] [] := by
  intro n
  induction n with
  | zero => intro l1 l2 hf; cases hf
  | succ n ih =>
    intro l1 l2 hf ke
    replace hf : sX11_ring_164 x (wX11_ring_164 x n) l1 l2 = some R := hf
    unfold sX11_ring_164 at hf
    refine T_iload dX11_ring_164 rfl ?_
    refine T_aload dX11_ring_165 rfl ?_
    refine X_getf dX11_ring_166 lfX11_93 rfl ob73 ?_
    refine T_icmp_ge dX11_ring_169 (fun c169_18 => ?_) (fun c169_18 => ?_)
    · replace hf := ite_t c169_18 hf
      exact X_wk (WK.n (WK.s (WK.n (WK.n (WK.n (WK.n WK.e)))))) (ke _ (Option.some.inj hf).symm)
    · replace hf := ite_f c169_18 hf
      refine T_aload dX11_ring_172 rfl ?_
      refine X_getr dX11_ring_173 lfX11_49 rfl ob73 rfl ?_
      refine T_const dX11_ring_176 ?_
      refine T_iload dX11_ring_178 rfl ?_
      refine T_imul dX11_ring_179 ?_
      refine T_iload dX11_ring_180 rfl ?_
      refine T_iadd dX11_ring_181 ?_
      obtain ⟨hb182_19, hf⟩ := opt_t hf
      refine X_iald (N := 100) dX11_ring_182 ar87 rfl hb182_19 ?_
      refine T_istore dX11_ring_183 ?_
      show TX _ _ _ _ _ _ _ _ [_, _, _, _, _, _] _
      refine T_iload dX11_ring_184 rfl ?_
      refine T_iload dX11_ring_185 rfl ?_
      have J194 : ∀ (l2 : Int32) (s0 : Int32), jX11_ring_194 (wX11_ring_164 x n) x l2 s0 = some R → TX false Z mX11_ring 0 y x Q 194 [.ref 73, .null, .int l2, .null, .null, .null] [.int s0] := by
        intro l2 s0 hf
        unfold jX11_ring_194 at hf
        refine T_istore dX11_ring_194 ?_
        show TX _ _ _ _ _ _ _ _ [_, _, _, _, _, _] _
        refine T_iinc dX11_ring_195 rfl ?_
        show TX _ _ _ _ _ _ _ _ [_, _, _, _, _, _] _
        refine T_goto dX11_ring_198 ?_
        exact X_wk (WK.s (WK.s (WK.s (WK.n (WK.n (WK.n WK.e)))))) (ih _ _ hf ke)
      refine T_icmp_ge dX11_ring_186 (fun c186_20 => ?_) (fun c186_20 => ?_)
      · replace hf := ite_t c186_20 hf
        refine T_iload dX11_ring_193 rfl ?_
        exact X_wk (WK.s (WK.n (WK.s (WK.n (WK.n (WK.n WK.e)))))) (J194 _ _ hf)
      · replace hf := ite_f c186_20 hf
        refine T_iload dX11_ring_189 rfl ?_
        refine T_goto dX11_ring_190 ?_
        exact X_wk (WK.s (WK.n (WK.s (WK.n (WK.n (WK.n WK.e)))))) (J194 _ _ hf)
theorem qX11_ring (Z : aZ) (y : aH) {x : aH} {q : (Int32 × aH)} (hf : fX11_ring x = some q) : CX false Z mX11_ring 0 [.ref 73] y x (RV (.int q.1) q.2) := by
  refine CX.of mokX11_ring (Nat.le_of_ble_eq_true rfl) ?_
  show TX _ _ _ _ _ _ _ _ [_, _, _, _, _, _] _
  unfold fX11_ring at hf
  refine T_const dX11_ring_0 ?_
  refine T_istore dX11_ring_3 ?_
  show TX _ _ _ _ _ _ _ _ [_, _, _, _, _, _] _
  refine T_const dX11_ring_4 ?_
  refine T_istore dX11_ring_5 ?_
  show TX _ _ _ _ _ _ _ _ [_, _, _, _, _, _] _
  obtain ⟨q6_5, hc6_5, hf⟩ := bind_t hf
  refine X_wk (WK.s (WK.s (WK.s (WK.n (WK.n (WK.n WK.e)))))) (lX11_ring_6 Z _ _ 2000 _ _ hc6_5 ?_)
  intro q6_5z hr
  subst hr
  refine T_const dX11_ring_40 ?_
  refine T_istore dX11_ring_41 ?_
  show TX _ _ _ _ _ _ _ _ [_, _, _, _, _, _] _
  obtain ⟨q42_17, hc42_17, hf⟩ := bind_t hf
  refine X_wk (WK.s (WK.s (WK.s (WK.n (WK.n (WK.n WK.e)))))) (lX11_ring_42 Z _ _ 2000 _ _ hc42_17 ?_)
  intro q42_17z hr
  subst hr
  refine T_const dX11_ring_162 ?_
  refine T_istore dX11_ring_163 ?_
  show TX _ _ _ _ _ _ _ _ [_, _, _, _, _, _] _
  obtain ⟨q164_21, hc164_21, hf⟩ := bind_t hf
  refine X_wk (WK.s (WK.s (WK.s (WK.n (WK.n (WK.n WK.e)))))) (lX11_ring_164 Z _ _ 2000 _ _ hc164_21 ?_)
  intro q164_21z hr
  subst hr
  refine T_iload dX11_ring_201 rfl ?_
  refine T_const dX11_ring_202 ?_
  refine T_icmp_lt dX11_ring_205 (fun c205_22 => ?_) (fun c205_22 => ?_)
  · replace hf := ite_t c205_22 hf
    refine T_iload dX11_ring_213 rfl ?_
    obtain rfl := Option.some.inj hf
    exact X_ri dX11_ring_214 ⟨rfl, rfl⟩
  · replace hf := ite_f c205_22 hf
    refine T_const dX11_ring_208 ?_
    refine T_goto dX11_ring_210 ?_
    obtain rfl := Option.some.inj hf
    exact X_ri dX11_ring_214 ⟨rfl, rfl⟩
def jX11_drops_130 (ih : aH → Int32 → Option aH) (x : aH) (l1 : Int32) (l2 : Int32) : Option aH := ih x (l2 + (1 : Int32))
def jX11_drops_96 (ih : Int32 → Int32 → Option Int32) (x : aH) (l1 : Int32) (l2 : Int32) (l4 : Int32) (s0 : Int32) (s1 : Int32) : Option Int32 := ih (s0 + s1) (l4 + (1 : Int32))
def jX11_drops_95 (ih : Int32 → Int32 → Option Int32) (x : aH) (l1 : Int32) (l2 : Int32) (l4 : Int32) (s0 : Int32) : Option Int32 := jX11_drops_96 ih x l1 l2 l4 s0 (0 : Int32)
def sX11_drops_55 (x : aH) (l1 : Int32) (l2 : Int32) (ih : Int32 → Int32 → Option Int32) (l3 : Int32) (l4 : Int32) : Option Int32 := if (fi x 73 6) ≤ l4 then some l3 else if l4 = l2 then jX11_drops_95 ih x l1 l2 l4 l3 else (fX11_isIn l1 l4).bind fun q74_9 => if q74_9 = (0 : Int32) then jX11_drops_95 ih x l1 l2 l4 l3 else if (0 : Int32) ≤ (((10 : Int32) * l2) + l4) ∧ (((10 : Int32) * l2) + l4) < (100 : Int32) then jX11_drops_96 ih x l1 l2 l4 l3 (ri x 86 (ix (((10 : Int32) * l2) + l4))) else none
def wX11_drops_55 (x : aH) (l1 : Int32) (l2 : Int32) : Nat → Int32 → Int32 → Option Int32
  | 0 => fun _ _ => none
  | n + 1 => sX11_drops_55 x l1 l2 (wX11_drops_55 x l1 l2 n)
def jX11_drops_129 (ih : aH → Int32 → Option aH) (x : aH) (l1 : Int32) (l2 : Int32) (s1 : Int32) (s2 : Int32) : Option aH := if (0 : Int32) ≤ s1 ∧ s1 < (1024 : Int32) then jX11_drops_130 ih (sri x 88 (ix s1) s2) l1 l2 else none
def sX11_drops_23 (l1 : Int32) (ih : aH → Int32 → Option aH) (x : aH) (l2 : Int32) : Option aH := if (fi x 73 6) ≤ l2 then some x else (fX11_isIn l1 l2).bind fun q33_4 => if q33_4 = (0 : Int32) then jX11_drops_130 ih x l1 l2 else if (0 : Int32) ≤ (l1 &&& (((1 : Int32) <<< (l2 &&& 31)) ^^^ (-1 : Int32))) ∧ (l1 &&& (((1 : Int32) <<< (l2 &&& 31)) ^^^ (-1 : Int32))) < (1024 : Int32) then (wX11_drops_55 x l1 l2 2000 (ri x 88 (ix (l1 &&& (((1 : Int32) <<< (l2 &&& 31)) ^^^ (-1 : Int32))))) (0 : Int32)).bind fun q55_12 => if (0 : Int32) ≤ l1 ∧ l1 < (1024 : Int32) then if (ri x 88 (ix l1)) ≤ q55_12 then if (0 : Int32) ≤ l1 ∧ l1 < (1024 : Int32) then jX11_drops_129 ih x l1 l2 l1 (ri x 88 (ix l1)) else none else jX11_drops_129 ih x l1 l2 l1 q55_12 else none else none
def wX11_drops_23 (l1 : Int32) : Nat → aH → Int32 → Option aH
  | 0 => fun _ _ => none
  | n + 1 => sX11_drops_23 l1 (wX11_drops_23 l1 n)
def sX11_drops_2 (ih : aH → Int32 → Option aH) (x : aH) (l1 : Int32) : Option aH := if ((1 : Int32) <<< ((fi x 73 6) &&& 31)) ≤ l1 then some x else if (0 : Int32) ≤ l1 ∧ l1 < (1024 : Int32) then (wX11_drops_23 l1 2000 (sri x 88 (ix l1) (1000000 : Int32)) (0 : Int32)).bind fun q23_17 => ih q23_17 (l1 + (1 : Int32)) else none
def wX11_drops_2 : Nat → aH → Int32 → Option aH
  | 0 => fun _ _ => none
  | n + 1 => sX11_drops_2 (wX11_drops_2 n)
def fX11_drops (x : aH) : Option (Int32 × aH) := (wX11_drops_2 2000 x (1 : Int32)).bind fun q2_18 => if (0 : Int32) ≤ (((1 : Int32) <<< ((fi q2_18 73 6) &&& 31)) - (1 : Int32)) ∧ (((1 : Int32) <<< ((fi q2_18 73 6) &&& 31)) - (1 : Int32)) < (1024 : Int32) then some ((ri q2_18 88 (ix (((1 : Int32) <<< ((fi q2_18 73 6) &&& 31)) - (1 : Int32)))), q2_18) else none
theorem lX11_drops_55 (Z : aZ) (y : aH) (x : aH) (l1 : Int32) (l2 : Int32) {Q : Option Value → aH → Prop} {R : Int32} : ∀ (n : Nat) (l3 : Int32) (l4 : Int32), wX11_drops_55 x l1 l2 n l3 l4 = some R → (∀ q, R = q → TX false Z mX11_drops 1 y x Q 104 [.ref 73, .int l1, .int l2, .int q, .null] []) → TX false Z mX11_drops 1 y x Q 55 [.ref 73, .int l1, .int l2, .int l3, .int l4] [] := by
  intro n
  induction n with
  | zero => intro l3 l4 hf; cases hf
  | succ n ih =>
    intro l3 l4 hf ke
    replace hf : sX11_drops_55 x l1 l2 (wX11_drops_55 x l1 l2 n) l3 l4 = some R := hf
    unfold sX11_drops_55 at hf
    refine T_iload dX11_drops_55 rfl ?_
    refine T_aload dX11_drops_57 rfl ?_
    refine X_getf dX11_drops_58 lfX11_93 rfl ob73 ?_
    refine T_icmp_ge dX11_drops_61 (fun c61_7 => ?_) (fun c61_7 => ?_)
    · replace hf := ite_t c61_7 hf
      exact X_wk (WK.s (WK.s (WK.s (WK.s (WK.n WK.e))))) (ke _ (Option.some.inj hf).symm)
    · replace hf := ite_f c61_7 hf
      refine T_iload dX11_drops_64 rfl ?_
      refine T_iload dX11_drops_65 rfl ?_
      refine T_iload dX11_drops_67 rfl ?_
      have J96 : ∀ (l4 : Int32) (s0 : Int32) (s1 : Int32), jX11_drops_96 (wX11_drops_55 x l1 l2 n) x l1 l2 l4 s0 s1 = some R → TX false Z mX11_drops 1 y x Q 96 [.ref 73, .int l1, .int l2, .null, .int l4] [.int s1, .int s0] := by
        intro l4 s0 s1 hf
        unfold jX11_drops_96 at hf
        refine T_iadd dX11_drops_96 ?_
        refine T_istore dX11_drops_97 ?_
        show TX _ _ _ _ _ _ _ _ [_, _, _, _, _] _
        refine T_iinc dX11_drops_98 rfl ?_
        show TX _ _ _ _ _ _ _ _ [_, _, _, _, _] _
        refine T_goto dX11_drops_101 ?_
        exact X_wk (WK.s (WK.s (WK.s (WK.s (WK.s WK.e))))) (ih _ _ hf ke)
      have J95 : ∀ (l4 : Int32) (s0 : Int32), jX11_drops_95 (wX11_drops_55 x l1 l2 n) x l1 l2 l4 s0 = some R → TX false Z mX11_drops 1 y x Q 95 [.ref 73, .int l1, .int l2, .null, .int l4] [.int s0] := by
        intro l4 s0 hf
        unfold jX11_drops_95 at hf
        refine T_const dX11_drops_95 ?_
        exact X_wk (WK.s (WK.s (WK.s (WK.n (WK.s WK.e))))) (J96 _ _ _ hf)
      refine T_icmp_eq dX11_drops_68 (fun c68_8 => ?_) (fun c68_8 => ?_)
      · replace hf := ite_t c68_8 hf
        exact X_wk (WK.s (WK.s (WK.s (WK.n (WK.s WK.e))))) (J95 _ _ hf)
      · replace hf := ite_f c68_8 hf
        refine T_iload dX11_drops_71 rfl ?_
        refine T_iload dX11_drops_72 rfl ?_
        obtain ⟨q74_9, hc74_9, hf⟩ := bind_t hf
        refine X_Sv (qX11_isIn _ Z _ _ hc74_9) (Nat.le_of_ble_eq_true rfl) dX11_drops_74 lsX11_290 rfl rfl (Nat.le_of_ble_eq_true rfl) ?_
        refine T_if_eq dX11_drops_77 (fun c77_10 => ?_) (fun c77_10 => ?_)
        · replace hf := ite_t c77_10 hf
          exact X_wk (WK.s (WK.s (WK.s (WK.n (WK.s WK.e))))) (J95 _ _ hf)
        · replace hf := ite_f c77_10 hf
          refine T_aload dX11_drops_80 rfl ?_
          refine X_getr dX11_drops_81 lfX11_46 rfl ob73 rfl ?_
          refine T_const dX11_drops_84 ?_
          refine T_iload dX11_drops_86 rfl ?_
          refine T_imul dX11_drops_87 ?_
          refine T_iload dX11_drops_88 rfl ?_
          refine T_iadd dX11_drops_90 ?_
          obtain ⟨hb91_11, hf⟩ := opt_t hf
          refine X_iald (N := 100) dX11_drops_91 ar86 rfl hb91_11 ?_
          refine T_goto dX11_drops_92 ?_
          exact X_wk (WK.s (WK.s (WK.s (WK.n (WK.s WK.e))))) (J96 _ _ _ hf)
theorem lX11_drops_23 (Z : aZ) (y : aH) (l1 : Int32) {Q : Option Value → aH → Prop} {R : aH} : ∀ (n : Nat) (x : aH) (l2 : Int32), wX11_drops_23 l1 n x l2 = some R → (∀ q, R = q → TX false Z mX11_drops 1 y q Q 136 [.ref 73, .int l1, .null, .null, .null] []) → TX false Z mX11_drops 1 y x Q 23 [.ref 73, .int l1, .int l2, .null, .null] [] := by
  intro n
  induction n with
  | zero => intro x l2 hf; cases hf
  | succ n ih =>
    intro x l2 hf ke
    replace hf : sX11_drops_23 l1 (wX11_drops_23 l1 n) x l2 = some R := hf
    unfold sX11_drops_23 at hf
    refine T_iload dX11_drops_23 rfl ?_
    refine T_aload dX11_drops_24 rfl ?_
    refine X_getf dX11_drops_25 lfX11_93 rfl ob73 ?_
    refine T_icmp_ge dX11_drops_28 (fun c28_3 => ?_) (fun c28_3 => ?_)
    · replace hf := ite_t c28_3 hf
      exact X_wk (WK.s (WK.s (WK.n (WK.n (WK.n WK.e))))) (ke _ (Option.some.inj hf).symm)
    · replace hf := ite_f c28_3 hf
      refine T_iload dX11_drops_31 rfl ?_
      refine T_iload dX11_drops_32 rfl ?_
      obtain ⟨q33_4, hc33_4, hf⟩ := bind_t hf
      refine X_Sv (qX11_isIn _ Z _ _ hc33_4) (Nat.le_of_ble_eq_true rfl) dX11_drops_33 lsX11_290 rfl rfl (Nat.le_of_ble_eq_true rfl) ?_
      have J130 : ∀ (x : aH) (l2 : Int32), jX11_drops_130 (wX11_drops_23 l1 n) x l1 l2 = some R → TX false Z mX11_drops 1 y x Q 130 [.ref 73, .int l1, .int l2, .null, .null] [] := by
        intro x l2 hf
        unfold jX11_drops_130 at hf
        refine T_iinc dX11_drops_130 rfl ?_
        show TX _ _ _ _ _ _ _ _ [_, _, _, _, _] _
        refine T_goto dX11_drops_133 ?_
        exact X_wk (WK.s (WK.s (WK.s (WK.n (WK.n WK.e))))) (ih _ _ hf ke)
      refine T_if_eq dX11_drops_36 (fun c36_5 => ?_) (fun c36_5 => ?_)
      · replace hf := ite_t c36_5 hf
        exact X_wk (WK.s (WK.s (WK.s (WK.n (WK.n WK.e))))) (J130 _ _ hf)
      · replace hf := ite_f c36_5 hf
        refine T_aload dX11_drops_39 rfl ?_
        refine X_getr dX11_drops_40 lfX11_52 rfl ob73 rfl ?_
        refine T_iload dX11_drops_43 rfl ?_
        refine T_const dX11_drops_44 ?_
        refine T_iload dX11_drops_45 rfl ?_
        refine T_ishl dX11_drops_46 ?_
        refine T_const dX11_drops_47 ?_
        refine T_ixor dX11_drops_48 ?_
        refine T_iand dX11_drops_49 ?_
        obtain ⟨hb50_6, hf⟩ := opt_t hf
        refine X_iald (N := 1024) dX11_drops_50 ar88 rfl hb50_6 ?_
        refine T_istore dX11_drops_51 ?_
        show TX _ _ _ _ _ _ _ _ [_, _, _, _, _] _
        refine T_const dX11_drops_52 ?_
        refine T_istore dX11_drops_53 ?_
        show TX _ _ _ _ _ _ _ _ [_, _, _, _, _] _
        obtain ⟨q55_12, hc55_12, hf⟩ := bind_t hf
        refine X_wk (WK.s (WK.s (WK.s (WK.s (WK.s WK.e))))) (lX11_drops_55 Z _ _ _ _ 2000 _ _ hc55_12 ?_)
        intro q55_12z hr
        subst hr
        refine T_aload dX11_drops_104 rfl ?_
        refine X_getr dX11_drops_105 lfX11_52 rfl ob73 rfl ?_
        refine T_iload dX11_drops_108 rfl ?_
        refine T_iload dX11_drops_109 rfl ?_
        refine T_aload dX11_drops_110 rfl ?_
        refine X_getr dX11_drops_111 lfX11_52 rfl ob73 rfl ?_
        refine T_iload dX11_drops_114 rfl ?_
        obtain ⟨hb115_13, hf⟩ := opt_t hf
        refine X_iald (N := 1024) dX11_drops_115 ar88 rfl hb115_13 ?_
        have J129 : ∀ (x : aH) (l2 : Int32) (s1 : Int32) (s2 : Int32), jX11_drops_129 (wX11_drops_23 l1 n) x l1 l2 s1 s2 = some R → TX false Z mX11_drops 1 y x Q 129 [.ref 73, .int l1, .int l2, .null, .null] [.int s2, .int s1, .ref 88] := by
          intro x l2 s1 s2 hf
          unfold jX11_drops_129 at hf
          obtain ⟨hb129_14, hf⟩ := opt_t hf
          refine X_iast (N := 1024) dX11_drops_129 ar88 rfl hb129_14 ?_
          exact X_wk (WK.s (WK.s (WK.s (WK.n (WK.n WK.e))))) (J130 _ _ hf)
        refine T_icmp_ge dX11_drops_116 (fun c116_15 => ?_) (fun c116_15 => ?_)
        · replace hf := ite_t c116_15 hf
          refine T_aload dX11_drops_123 rfl ?_
          refine X_getr dX11_drops_124 lfX11_52 rfl ob73 rfl ?_
          refine T_iload dX11_drops_127 rfl ?_
          obtain ⟨hb128_16, hf⟩ := opt_t hf
          refine X_iald (N := 1024) dX11_drops_128 ar88 rfl hb128_16 ?_
          exact X_wk (WK.s (WK.s (WK.s (WK.n (WK.n WK.e))))) (J129 _ _ _ _ hf)
        · replace hf := ite_f c116_15 hf
          refine T_iload dX11_drops_119 rfl ?_
          refine T_goto dX11_drops_120 ?_
          exact X_wk (WK.s (WK.s (WK.s (WK.n (WK.n WK.e))))) (J129 _ _ _ _ hf)
theorem lX11_drops_2 (Z : aZ) (y : aH) {Q : Option Value → aH → Prop} {R : aH} : ∀ (n : Nat) (x : aH) (l1 : Int32), wX11_drops_2 n x l1 = some R → (∀ q, R = q → TX false Z mX11_drops 1 y q Q 142 [.ref 73, .null, .null, .null, .null] []) → TX false Z mX11_drops 1 y x Q 2 [.ref 73, .int l1, .null, .null, .null] [] := by
  intro n
  induction n with
  | zero => intro x l1 hf; cases hf
  | succ n ih =>
    intro x l1 hf ke
    replace hf : sX11_drops_2 (wX11_drops_2 n) x l1 = some R := hf
    unfold sX11_drops_2 at hf
    refine T_iload dX11_drops_2 rfl ?_
    refine T_const dX11_drops_3 ?_
    refine T_aload dX11_drops_4 rfl ?_
    refine X_getf dX11_drops_5 lfX11_93 rfl ob73 ?_
    refine T_ishl dX11_drops_8 ?_
    refine T_icmp_ge dX11_drops_9 (fun c9_1 => ?_) (fun c9_1 => ?_)
    · replace hf := ite_t c9_1 hf
      exact X_wk (WK.s (WK.n (WK.n (WK.n (WK.n WK.e))))) (ke _ (Option.some.inj hf).symm)
    · replace hf := ite_f c9_1 hf
      refine T_aload dX11_drops_12 rfl ?_
      refine X_getr dX11_drops_13 lfX11_52 rfl ob73 rfl ?_
      refine T_iload dX11_drops_16 rfl ?_
      refine T_const dX11_drops_17 ?_
      obtain ⟨hb20_2, hf⟩ := opt_t hf
      refine X_iast (N := 1024) dX11_drops_20 ar88 rfl hb20_2 ?_
      refine T_const dX11_drops_21 ?_
      refine T_istore dX11_drops_22 ?_
      show TX _ _ _ _ _ _ _ _ [_, _, _, _, _] _
      obtain ⟨q23_17, hc23_17, hf⟩ := bind_t hf
      refine X_wk (WK.s (WK.s (WK.s (WK.n (WK.n WK.e))))) (lX11_drops_23 Z _ _ 2000 _ _ hc23_17 ?_)
      intro q23_17z hr
      subst hr
      refine T_iinc dX11_drops_136 rfl ?_
      show TX _ _ _ _ _ _ _ _ [_, _, _, _, _] _
      refine T_goto dX11_drops_139 ?_
      exact X_wk (WK.s (WK.s (WK.n (WK.n (WK.n WK.e))))) (ih _ _ hf ke)
theorem qX11_drops (Z : aZ) (y : aH) {x : aH} {q : (Int32 × aH)} (hf : fX11_drops x = some q) : CX false Z mX11_drops 1 [.ref 73] y x (RV (.int q.1) q.2) := by
  refine CX.of mokX11_drops (Nat.le_of_ble_eq_true rfl) ?_
  show TX _ _ _ _ _ _ _ _ [_, _, _, _, _] _
  unfold fX11_drops at hf
  refine T_const dX11_drops_0 ?_
  refine T_istore dX11_drops_1 ?_
  show TX _ _ _ _ _ _ _ _ [_, _, _, _, _] _
  obtain ⟨q2_18, hc2_18, hf⟩ := bind_t hf
  refine X_wk (WK.s (WK.s (WK.n (WK.n (WK.n WK.e))))) (lX11_drops_2 Z _ 2000 _ _ hc2_18 ?_)
  intro q2_18z hr
  subst hr
  refine T_aload dX11_drops_142 rfl ?_
  refine X_getr dX11_drops_143 lfX11_52 rfl ob73 rfl ?_
  refine T_const dX11_drops_146 ?_
  refine T_aload dX11_drops_147 rfl ?_
  refine X_getf dX11_drops_148 lfX11_93 rfl ob73 ?_
  refine T_ishl dX11_drops_151 ?_
  refine T_const dX11_drops_152 ?_
  refine T_isub dX11_drops_153 ?_
  obtain ⟨hb154_19, hf⟩ := opt_t hf
  refine X_iald (N := 1024) dX11_drops_154 ar88 rfl hb154_19 ?_
  obtain rfl := Option.some.inj hf
  exact X_ri dX11_drops_155 ⟨rfl, rfl⟩
def fX11_clash (x : aH) (p1 : Int32) (p2 : Int32) : Option (Int32 × aH) := (fX11_bytesIs x p1).bind fun q2_1 => if q2_1 = (-1 : Int32) then some ((-1 : Int32), x) else (fX11_within (Int32.toInt64 p2) (0 : Int64) (1 : Int64)).bind fun q13_3 => if q13_3 = (0 : Int32) then some ((-1 : Int32), x) else (fX11_bytesIs x p1).bind fun q23_5 => if (0 : Int32) ≤ q23_5 then (fX11_takesRules x p1).bind fun q37_7 => if p2 = (0 : Int32) then (fX11_ring q37_7).bind fun q45_10 => some (q45_10.1, q45_10.2) else (fX11_drops q37_7).bind fun q52_9 => some (q52_9.1, q52_9.2) else (fX11_bytesIs x p1).bind fun q31_11 => some (q31_11, x)
theorem qX11_clash (Z : aZ) (y : aH) {x : aH} {p1 : Int32} {p2 : Int32} {q : (Int32 × aH)} (hf : fX11_clash x p1 p2 = some q) : CX false Z mX11_clash 3 [.ref 73, .int p1, .int p2] y x (RV (.int q.1) q.2) := by
  refine CX.of mokX11_clash (Nat.le_of_ble_eq_true rfl) ?_
  show TX _ _ _ _ _ _ _ _ [_, _, _] _
  unfold fX11_clash at hf
  refine T_aload dX11_clash_0 rfl ?_
  refine T_iload dX11_clash_1 rfl ?_
  obtain ⟨q2_1, hc2_1, hf⟩ := bind_t hf
  refine X_Vv (qX11_bytesIs Z _ hc2_1) (Nat.le_of_ble_eq_true rfl) dX11_clash_2 lvX11_250 rfl rfl ob73 (Nat.le_of_ble_eq_true rfl) ?_
  refine T_const dX11_clash_5 ?_
  refine T_icmp_eq dX11_clash_6 (fun c6_2 => ?_) (fun c6_2 => ?_)
  · replace hf := ite_t c6_2 hf
    refine T_const dX11_clash_19 ?_
    obtain rfl := Option.some.inj hf
    exact X_ri dX11_clash_20 ⟨rfl, rfl⟩
  · replace hf := ite_f c6_2 hf
    refine T_iload dX11_clash_9 rfl ?_
    refine T_i2l dX11_clash_10 ?_
    refine T_constL dX11_clash_11 ?_
    refine T_constL dX11_clash_12 ?_
    obtain ⟨q13_3, hc13_3, hf⟩ := bind_t hf
    refine X_Sv (qX11_within _ Z _ _ hc13_3) (Nat.le_of_ble_eq_true rfl) dX11_clash_13 lsX11_96 rfl rfl (Nat.le_of_ble_eq_true rfl) ?_
    refine T_if_ne dX11_clash_16 (fun c16_4 => ?_) (fun c16_4 => ?_)
    · replace hf := ite_f c16_4 hf
      refine T_aload dX11_clash_21 rfl ?_
      refine T_iload dX11_clash_22 rfl ?_
      obtain ⟨q23_5, hc23_5, hf⟩ := bind_t hf
      refine X_Vv (qX11_bytesIs Z _ hc23_5) (Nat.le_of_ble_eq_true rfl) dX11_clash_23 lvX11_250 rfl rfl ob73 (Nat.le_of_ble_eq_true rfl) ?_
      refine T_if_ge dX11_clash_26 (fun c26_6 => ?_) (fun c26_6 => ?_)
      · replace hf := ite_t c26_6 hf
        refine T_aload dX11_clash_35 rfl ?_
        refine T_iload dX11_clash_36 rfl ?_
        obtain ⟨q37_7, hc37_7, hf⟩ := bind_t hf
        refine X_Vn (qX11_takesRules Z _ hc37_7) (Nat.le_of_ble_eq_true rfl) dX11_clash_37 lvX11_293 rfl rfl ob73 (Nat.le_of_ble_eq_true rfl) ?_
        refine T_iload dX11_clash_40 rfl ?_
        refine T_if_ne dX11_clash_41 (fun c41_8 => ?_) (fun c41_8 => ?_)
        · replace hf := ite_f c41_8 hf
          refine T_aload dX11_clash_51 rfl ?_
          obtain ⟨q52_9, hc52_9, hf⟩ := bind_t hf
          refine X_Vv (qX11_drops Z _ hc52_9) (Nat.le_of_ble_eq_true rfl) dX11_clash_52 lvX11_303 rfl rfl ob73 (Nat.le_of_ble_eq_true rfl) ?_
          obtain rfl := Option.some.inj hf
          exact X_ri dX11_clash_55 ⟨rfl, rfl⟩
        · replace hf := ite_t c41_8 hf
          refine T_aload dX11_clash_44 rfl ?_
          obtain ⟨q45_10, hc45_10, hf⟩ := bind_t hf
          refine X_Vv (qX11_ring Z _ hc45_10) (Nat.le_of_ble_eq_true rfl) dX11_clash_45 lvX11_300 rfl rfl ob73 (Nat.le_of_ble_eq_true rfl) ?_
          refine T_goto dX11_clash_48 ?_
          obtain rfl := Option.some.inj hf
          exact X_ri dX11_clash_55 ⟨rfl, rfl⟩
      · replace hf := ite_f c26_6 hf
        refine T_aload dX11_clash_29 rfl ?_
        refine T_iload dX11_clash_30 rfl ?_
        obtain ⟨q31_11, hc31_11, hf⟩ := bind_t hf
        refine X_Vv (qX11_bytesIs Z _ hc31_11) (Nat.le_of_ble_eq_true rfl) dX11_clash_31 lvX11_250 rfl rfl ob73 (Nat.le_of_ble_eq_true rfl) ?_
        obtain rfl := Option.some.inj hf
        exact X_ri dX11_clash_34 ⟨rfl, rfl⟩
    · replace hf := ite_t c16_4 hf
      refine T_const dX11_clash_19 ?_
      obtain rfl := Option.some.inj hf
      exact X_ri dX11_clash_20 ⟨rfl, rfl⟩
def jX11_may_81 (ih : Int32 → Int32 → Option Int32) (x : aH) (l2 : Int32) (l4 : Int32) (s0 : Int32) (s1 : Int32) : Option Int32 := ih (s0 ||| s1) (l4 + (1 : Int32))
def sX11_may_53 (x : aH) (l2 : Int32) (ih : Int32 → Int32 → Option Int32) (l3 : Int32) (l4 : Int32) : Option Int32 := if (fi x 73 6) ≤ l4 then some l3 else (fX11_mayNow x l4 l2).bind fun q67_9 => if q67_9 = (0 : Int32) then jX11_may_81 ih x l2 l4 l3 (0 : Int32) else jX11_may_81 ih x l2 l4 l3 ((1 : Int32) <<< (l4 &&& 31))
def wX11_may_53 (x : aH) (l2 : Int32) : Nat → Int32 → Int32 → Option Int32
  | 0 => fun _ _ => none
  | n + 1 => sX11_may_53 x l2 (wX11_may_53 x l2 n)
def fX11_may (x : aH) (p1 : Int32) (p2 : Int32) : Option (Int32 × aH) := (fX11_bytesIs x p1).bind fun q2_1 => if q2_1 = (-1 : Int32) then some ((-1 : Int32), x) else (fX11_within (Int32.toInt64 p2) (0 : Int64) (Int32.toInt64 (((1 : Int32) <<< ((fi x 73 6) &&& 31)) - (1 : Int32)))).bind fun q21_3 => if q21_3 = (0 : Int32) then some ((-1 : Int32), x) else (fX11_bytesIs x p1).bind fun q31_5 => if (0 : Int32) ≤ q31_5 then (fX11_takesRules x p1).bind fun q45_7 => (wX11_may_53 q45_7 p2 2000 (0 : Int32) (0 : Int32)).bind fun q53_11 => some (q53_11, q45_7) else (fX11_bytesIs x p1).bind fun q39_12 => some (q39_12, x)
theorem lX11_may_53 (Z : aZ) (y : aH) (x : aH) (l2 : Int32) {Q : Option Value → aH → Prop} {R : Int32} : ∀ (n : Nat) (l3 : Int32) (l4 : Int32), wX11_may_53 x l2 n l3 l4 = some R → (∀ q, R = q → TX false Z mX11_may 3 y x Q 89 [.null, .null, .null, .int q, .null] []) → TX false Z mX11_may 3 y x Q 53 [.ref 73, .null, .int l2, .int l3, .int l4] [] := by
  intro n
  induction n with
  | zero => intro l3 l4 hf; cases hf
  | succ n ih =>
    intro l3 l4 hf ke
    replace hf : sX11_may_53 x l2 (wX11_may_53 x l2 n) l3 l4 = some R := hf
    unfold sX11_may_53 at hf
    refine T_iload dX11_may_53 rfl ?_
    refine T_aload dX11_may_55 rfl ?_
    refine X_getf dX11_may_56 lfX11_93 rfl ob73 ?_
    refine T_icmp_ge dX11_may_59 (fun c59_8 => ?_) (fun c59_8 => ?_)
    · replace hf := ite_t c59_8 hf
      exact X_wk (WK.n (WK.n (WK.n (WK.s (WK.n WK.e))))) (ke _ (Option.some.inj hf).symm)
    · replace hf := ite_f c59_8 hf
      refine T_iload dX11_may_62 rfl ?_
      refine T_aload dX11_may_63 rfl ?_
      refine T_iload dX11_may_64 rfl ?_
      refine T_iload dX11_may_66 rfl ?_
      obtain ⟨q67_9, hc67_9, hf⟩ := bind_t hf
      refine X_Vv (qX11_mayNow Z _ hc67_9) (Nat.le_of_ble_eq_true rfl) dX11_may_67 lvX11_296 rfl rfl ob73 (Nat.le_of_ble_eq_true rfl) ?_
      have J81 : ∀ (l4 : Int32) (s0 : Int32) (s1 : Int32), jX11_may_81 (wX11_may_53 x l2 n) x l2 l4 s0 s1 = some R → TX false Z mX11_may 3 y x Q 81 [.ref 73, .null, .int l2, .null, .int l4] [.int s1, .int s0] := by
        intro l4 s0 s1 hf
        unfold jX11_may_81 at hf
        refine T_ior dX11_may_81 ?_
        refine T_istore dX11_may_82 ?_
        show TX _ _ _ _ _ _ _ _ [_, _, _, _, _] _
        refine T_iinc dX11_may_83 rfl ?_
        show TX _ _ _ _ _ _ _ _ [_, _, _, _, _] _
        refine T_goto dX11_may_86 ?_
        exact X_wk (WK.s (WK.n (WK.s (WK.s (WK.s WK.e))))) (ih _ _ hf ke)
      refine T_if_eq dX11_may_70 (fun c70_10 => ?_) (fun c70_10 => ?_)
      · replace hf := ite_t c70_10 hf
        refine T_const dX11_may_80 ?_
        exact X_wk (WK.s (WK.n (WK.s (WK.n (WK.s WK.e))))) (J81 _ _ _ hf)
      · replace hf := ite_f c70_10 hf
        refine T_const dX11_may_73 ?_
        refine T_iload dX11_may_74 rfl ?_
        refine T_ishl dX11_may_76 ?_
        refine T_goto dX11_may_77 ?_
        exact X_wk (WK.s (WK.n (WK.s (WK.n (WK.s WK.e))))) (J81 _ _ _ hf)
theorem qX11_may (Z : aZ) (y : aH) {x : aH} {p1 : Int32} {p2 : Int32} {q : (Int32 × aH)} (hf : fX11_may x p1 p2 = some q) : CX false Z mX11_may 3 [.ref 73, .int p1, .int p2] y x (RV (.int q.1) q.2) := by
  refine CX.of mokX11_may (Nat.le_of_ble_eq_true rfl) ?_
  show TX _ _ _ _ _ _ _ _ [_, _, _, _, _] _
  unfold fX11_may at hf
  refine T_aload dX11_may_0 rfl ?_
  refine T_iload dX11_may_1 rfl ?_
  obtain ⟨q2_1, hc2_1, hf⟩ := bind_t hf
  refine X_Vv (qX11_bytesIs Z _ hc2_1) (Nat.le_of_ble_eq_true rfl) dX11_may_2 lvX11_250 rfl rfl ob73 (Nat.le_of_ble_eq_true rfl) ?_
  refine T_const dX11_may_5 ?_
  refine T_icmp_eq dX11_may_6 (fun c6_2 => ?_) (fun c6_2 => ?_)
  · replace hf := ite_t c6_2 hf
    refine T_const dX11_may_27 ?_
    obtain rfl := Option.some.inj hf
    exact X_ri dX11_may_28 ⟨rfl, rfl⟩
  · replace hf := ite_f c6_2 hf
    refine T_iload dX11_may_9 rfl ?_
    refine T_i2l dX11_may_10 ?_
    refine T_constL dX11_may_11 ?_
    refine T_const dX11_may_12 ?_
    refine T_aload dX11_may_13 rfl ?_
    refine X_getf dX11_may_14 lfX11_93 rfl ob73 ?_
    refine T_ishl dX11_may_17 ?_
    refine T_const dX11_may_18 ?_
    refine T_isub dX11_may_19 ?_
    refine T_i2l dX11_may_20 ?_
    obtain ⟨q21_3, hc21_3, hf⟩ := bind_t hf
    refine X_Sv (qX11_within _ Z _ _ hc21_3) (Nat.le_of_ble_eq_true rfl) dX11_may_21 lsX11_96 rfl rfl (Nat.le_of_ble_eq_true rfl) ?_
    refine T_if_ne dX11_may_24 (fun c24_4 => ?_) (fun c24_4 => ?_)
    · replace hf := ite_f c24_4 hf
      refine T_aload dX11_may_29 rfl ?_
      refine T_iload dX11_may_30 rfl ?_
      obtain ⟨q31_5, hc31_5, hf⟩ := bind_t hf
      refine X_Vv (qX11_bytesIs Z _ hc31_5) (Nat.le_of_ble_eq_true rfl) dX11_may_31 lvX11_250 rfl rfl ob73 (Nat.le_of_ble_eq_true rfl) ?_
      refine T_if_ge dX11_may_34 (fun c34_6 => ?_) (fun c34_6 => ?_)
      · replace hf := ite_t c34_6 hf
        refine T_aload dX11_may_43 rfl ?_
        refine T_iload dX11_may_44 rfl ?_
        obtain ⟨q45_7, hc45_7, hf⟩ := bind_t hf
        refine X_Vn (qX11_takesRules Z _ hc45_7) (Nat.le_of_ble_eq_true rfl) dX11_may_45 lvX11_293 rfl rfl ob73 (Nat.le_of_ble_eq_true rfl) ?_
        refine T_const dX11_may_48 ?_
        refine T_istore dX11_may_49 ?_
        show TX _ _ _ _ _ _ _ _ [_, _, _, _, _] _
        refine T_const dX11_may_50 ?_
        refine T_istore dX11_may_51 ?_
        show TX _ _ _ _ _ _ _ _ [_, _, _, _, _] _
        obtain ⟨q53_11, hc53_11, hf⟩ := bind_t hf
        refine X_wk (WK.s (WK.n (WK.s (WK.s (WK.s WK.e))))) (lX11_may_53 Z _ _ _ 2000 _ _ hc53_11 ?_)
        intro q53_11z hr
        subst hr
        refine T_iload dX11_may_89 rfl ?_
        obtain rfl := Option.some.inj hf
        exact X_ri dX11_may_90 ⟨rfl, rfl⟩
      · replace hf := ite_f c34_6 hf
        refine T_aload dX11_may_37 rfl ?_
        refine T_iload dX11_may_38 rfl ?_
        obtain ⟨q39_12, hc39_12, hf⟩ := bind_t hf
        refine X_Vv (qX11_bytesIs Z _ hc39_12) (Nat.le_of_ble_eq_true rfl) dX11_may_39 lvX11_250 rfl rfl ob73 (Nat.le_of_ble_eq_true rfl) ?_
        obtain rfl := Option.some.inj hf
        exact X_ri dX11_may_42 ⟨rfl, rfl⟩
    · replace hf := ite_t c24_4 hf
      refine T_const dX11_may_27 ?_
      obtain rfl := Option.some.inj hf
      exact X_ri dX11_may_28 ⟨rfl, rfl⟩
def jX11_weightOf_59 (ih : Int32 → Int32 → Int32 → Option (Int32 × Int32)) (x : aH) (l1 : Int32) (l2 : Int32) (l3 : Int32) (l4 : Int32) : Option (Int32 × Int32) := ih l2 l3 (l4 + (1 : Int32))
def sX11_weightOf_7 (x : aH) (l1 : Int32) (ih : Int32 → Int32 → Int32 → Option (Int32 × Int32)) (l2 : Int32) (l3 : Int32) (l4 : Int32) : Option (Int32 × Int32) := if (fi x 73 6) ≤ l4 then some (l2, l3) else if (0 : Int32) ≤ ((10 : Int32) + l4) ∧ ((10 : Int32) + l4) < (172 : Int32) then if (ri x 74 (ix ((10 : Int32) + l4))) = l1 then if (0 : Int32) ≤ ((30 : Int32) + l4) ∧ ((30 : Int32) + l4) < (172 : Int32) then if (ri x 74 (ix ((30 : Int32) + l4))) = (0 : Int32) then if (0 : Int32) ≤ ((20 : Int32) + l4) ∧ ((20 : Int32) + l4) < (172 : Int32) then jX11_weightOf_59 ih x l1 (l2 + (1 : Int32)) (l3 + (ri x 74 (ix ((20 : Int32) + l4)))) l4 else none else jX11_weightOf_59 ih x l1 l2 l3 l4 else none else jX11_weightOf_59 ih x l1 l2 l3 l4 else none
def wX11_weightOf_7 (x : aH) (l1 : Int32) : Nat → Int32 → Int32 → Int32 → Option (Int32 × Int32)
  | 0 => fun _ _ _ => none
  | n + 1 => sX11_weightOf_7 x l1 (wX11_weightOf_7 x l1 n)
def fX11_weightOf (x : aH) (p1 : Int32) : Option Int32 := (wX11_weightOf_7 x p1 2000 (0 : Int32) (0 : Int32) (0 : Int32)).bind fun q7_7 => some (q7_7.1 + (q7_7.2 / (3 : Int32)))
theorem lX11_weightOf_7 (Z : aZ) (y : aH) (x : aH) (l1 : Int32) {Q : Option Value → aH → Prop} {R : (Int32 × Int32)} : ∀ (n : Nat) (l2 : Int32) (l3 : Int32) (l4 : Int32), wX11_weightOf_7 x l1 n l2 l3 l4 = some R → (∀ q, R = q → TX false Z mX11_weightOf 0 y x Q 65 [.null, .null, .int (q.1), .int (q.2), .null] []) → TX false Z mX11_weightOf 0 y x Q 7 [.ref 73, .int l1, .int l2, .int l3, .int l4] [] := by
  intro n
  induction n with
  | zero => intro l2 l3 l4 hf; cases hf
  | succ n ih =>
    intro l2 l3 l4 hf ke
    replace hf : sX11_weightOf_7 x l1 (wX11_weightOf_7 x l1 n) l2 l3 l4 = some R := hf
    unfold sX11_weightOf_7 at hf
    refine T_iload dX11_weightOf_7 rfl ?_
    refine T_aload dX11_weightOf_9 rfl ?_
    refine X_getf dX11_weightOf_10 lfX11_93 rfl ob73 ?_
    refine T_icmp_ge dX11_weightOf_13 (fun c13_1 => ?_) (fun c13_1 => ?_)
    · replace hf := ite_t c13_1 hf
      exact X_wk (WK.n (WK.n (WK.s (WK.s (WK.n WK.e))))) (ke _ (Option.some.inj hf).symm)
    · replace hf := ite_f c13_1 hf
      refine T_aload dX11_weightOf_16 rfl ?_
      refine X_getr dX11_weightOf_17 lfX11_9 rfl ob73 rfl ?_
      refine T_const dX11_weightOf_20 ?_
      refine T_iload dX11_weightOf_22 rfl ?_
      refine T_iadd dX11_weightOf_24 ?_
      obtain ⟨hb25_2, hf⟩ := opt_t hf
      refine X_iald (N := 172) dX11_weightOf_25 ar74 rfl hb25_2 ?_
      refine T_iload dX11_weightOf_26 rfl ?_
      have J59 : ∀ (l2 : Int32) (l3 : Int32) (l4 : Int32), jX11_weightOf_59 (wX11_weightOf_7 x l1 n) x l1 l2 l3 l4 = some R → TX false Z mX11_weightOf 0 y x Q 59 [.ref 73, .int l1, .int l2, .int l3, .int l4] [] := by
        intro l2 l3 l4 hf
        unfold jX11_weightOf_59 at hf
        refine T_iinc dX11_weightOf_59 rfl ?_
        show TX _ _ _ _ _ _ _ _ [_, _, _, _, _] _
        refine T_goto dX11_weightOf_62 ?_
        exact X_wk (WK.s (WK.s (WK.s (WK.s (WK.s WK.e))))) (ih _ _ _ hf ke)
      refine T_icmp_ne dX11_weightOf_27 (fun c27_3 => ?_) (fun c27_3 => ?_)
      · replace hf := ite_f c27_3 hf
        exact X_wk (WK.s (WK.s (WK.s (WK.s (WK.s WK.e))))) (J59 _ _ _ hf)
      · replace hf := ite_t c27_3 hf
        refine T_aload dX11_weightOf_30 rfl ?_
        refine X_getr dX11_weightOf_31 lfX11_9 rfl ob73 rfl ?_
        refine T_const dX11_weightOf_34 ?_
        refine T_iload dX11_weightOf_36 rfl ?_
        refine T_iadd dX11_weightOf_38 ?_
        obtain ⟨hb39_4, hf⟩ := opt_t hf
        refine X_iald (N := 172) dX11_weightOf_39 ar74 rfl hb39_4 ?_
        refine T_if_ne dX11_weightOf_40 (fun c40_5 => ?_) (fun c40_5 => ?_)
        · replace hf := ite_f c40_5 hf
          exact X_wk (WK.s (WK.s (WK.s (WK.s (WK.s WK.e))))) (J59 _ _ _ hf)
        · replace hf := ite_t c40_5 hf
          refine T_iinc dX11_weightOf_43 rfl ?_
          show TX _ _ _ _ _ _ _ _ [_, _, _, _, _] _
          refine T_iload dX11_weightOf_46 rfl ?_
          refine T_aload dX11_weightOf_47 rfl ?_
          refine X_getr dX11_weightOf_48 lfX11_9 rfl ob73 rfl ?_
          refine T_const dX11_weightOf_51 ?_
          refine T_iload dX11_weightOf_53 rfl ?_
          refine T_iadd dX11_weightOf_55 ?_
          obtain ⟨hb56_6, hf⟩ := opt_t hf
          refine X_iald (N := 172) dX11_weightOf_56 ar74 rfl hb56_6 ?_
          refine T_iadd dX11_weightOf_57 ?_
          refine T_istore dX11_weightOf_58 ?_
          show TX _ _ _ _ _ _ _ _ [_, _, _, _, _] _
          exact X_wk (WK.s (WK.s (WK.s (WK.s (WK.s WK.e))))) (J59 _ _ _ hf)
theorem qX11_weightOf (Z : aZ) (y : aH) {x : aH} {p1 : Int32} {q : Int32} (hf : fX11_weightOf x p1 = some q) : CX false Z mX11_weightOf 0 [.ref 73, .int p1] y x (RV (.int q) x) := by
  refine CX.of mokX11_weightOf (Nat.le_of_ble_eq_true rfl) ?_
  show TX _ _ _ _ _ _ _ _ [_, _, _, _, _] _
  unfold fX11_weightOf at hf
  refine T_const dX11_weightOf_0 ?_
  refine T_istore dX11_weightOf_1 ?_
  show TX _ _ _ _ _ _ _ _ [_, _, _, _, _] _
  refine T_const dX11_weightOf_2 ?_
  refine T_istore dX11_weightOf_3 ?_
  show TX _ _ _ _ _ _ _ _ [_, _, _, _, _] _
  refine T_const dX11_weightOf_4 ?_
  refine T_istore dX11_weightOf_5 ?_
  show TX _ _ _ _ _ _ _ _ [_, _, _, _, _] _
  obtain ⟨q7_7, hc7_7, hf⟩ := bind_t hf
  refine X_wk (WK.s (WK.s (WK.s (WK.s (WK.s WK.e))))) (lX11_weightOf_7 Z _ _ _ 2000 _ _ _ hc7_7 ?_)
  intro q7_7z hr
  subst hr
  refine T_iload dX11_weightOf_65 rfl ?_
  refine T_iload dX11_weightOf_66 rfl ?_
  refine T_const dX11_weightOf_67 ?_
  refine T_idiv dX11_weightOf_68 (by decide) ?_
  refine T_iadd dX11_weightOf_69 ?_
  obtain rfl := Option.some.inj hf
  exact X_ri dX11_weightOf_70 ⟨rfl, rfl⟩
def sX11_share_31 (x : aH) (l1 : Int32) (l2 : Int32) (ih : Int32 → Int32 → Option Int32) (l3 : Int32) (l4 : Int32) : Option Int32 := if (4 : Int32) ≤ l4 then some l3 else (fX11_weightOf x l4).bind fun q41_6 => ih (l3 + q41_6) (l4 + (1 : Int32))
def wX11_share_31 (x : aH) (l1 : Int32) (l2 : Int32) : Nat → Int32 → Int32 → Option Int32
  | 0 => fun _ _ => none
  | n + 1 => sX11_share_31 x l1 l2 (wX11_share_31 x l1 l2 n)
def fX11_share (x : aH) (p1 : Int32) (p2 : Int32) : Option Int32 := (fX11_within (Int32.toInt64 p1) (0 : Int64) (3 : Int64)).bind fun q6_1 => if q6_1 = (0 : Int32) then some (-1 : Int32) else (fX11_within (Int32.toInt64 p2) (0 : Int64) (9999 : Int64)).bind fun q18_3 => if q18_3 = (0 : Int32) then some (-1 : Int32) else (wX11_share_31 x p1 p2 2000 (0 : Int32) (0 : Int32)).bind fun q31_7 => if q31_7 = (0 : Int32) then some (0 : Int32) else (fX11_weightOf x p1).bind fun q63_9 => if ¬ (q31_7 = (0 : Int32)) then some ((p2 * q63_9) / q31_7) else none
theorem lX11_share_31 (Z : aZ) (y : aH) (x : aH) (l1 : Int32) (l2 : Int32) {Q : Option Value → aH → Prop} {R : Int32} : ∀ (n : Nat) (l3 : Int32) (l4 : Int32), wX11_share_31 x l1 l2 n l3 l4 = some R → (∀ q, R = q → TX false Z mX11_share 1 y x Q 52 [.ref 73, .int l1, .int l2, .int q, .null] []) → TX false Z mX11_share 1 y x Q 31 [.ref 73, .int l1, .int l2, .int l3, .int l4] [] := by
  intro n
  induction n with
  | zero => intro l3 l4 hf; cases hf
  | succ n ih =>
    intro l3 l4 hf ke
    replace hf : sX11_share_31 x l1 l2 (wX11_share_31 x l1 l2 n) l3 l4 = some R := hf
    unfold sX11_share_31 at hf
    refine T_iload dX11_share_31 rfl ?_
    refine T_const dX11_share_33 ?_
    refine T_icmp_ge dX11_share_34 (fun c34_5 => ?_) (fun c34_5 => ?_)
    · replace hf := ite_t c34_5 hf
      exact X_wk (WK.s (WK.s (WK.s (WK.s (WK.n WK.e))))) (ke _ (Option.some.inj hf).symm)
    · replace hf := ite_f c34_5 hf
      refine T_iload dX11_share_37 rfl ?_
      refine T_aload dX11_share_38 rfl ?_
      refine T_iload dX11_share_39 rfl ?_
      obtain ⟨q41_6, hc41_6, hf⟩ := bind_t hf
      refine X_Vv (qX11_weightOf Z _ hc41_6) (Nat.le_of_ble_eq_true rfl) dX11_share_41 lvX11_308 rfl rfl ob73 (Nat.le_of_ble_eq_true rfl) ?_
      refine T_iadd dX11_share_44 ?_
      refine T_istore dX11_share_45 ?_
      show TX _ _ _ _ _ _ _ _ [_, _, _, _, _] _
      refine T_iinc dX11_share_46 rfl ?_
      show TX _ _ _ _ _ _ _ _ [_, _, _, _, _] _
      refine T_goto dX11_share_49 ?_
      exact X_wk (WK.s (WK.s (WK.s (WK.s (WK.s WK.e))))) (ih _ _ hf ke)
theorem qX11_share (Z : aZ) (y : aH) {x : aH} {p1 : Int32} {p2 : Int32} {q : Int32} (hf : fX11_share x p1 p2 = some q) : CX false Z mX11_share 1 [.ref 73, .int p1, .int p2] y x (RV (.int q) x) := by
  refine CX.of mokX11_share (Nat.le_of_ble_eq_true rfl) ?_
  show TX _ _ _ _ _ _ _ _ [_, _, _, _, _] _
  unfold fX11_share at hf
  refine T_iload dX11_share_0 rfl ?_
  refine T_i2l dX11_share_1 ?_
  refine T_constL dX11_share_2 ?_
  refine T_constL dX11_share_3 ?_
  obtain ⟨q6_1, hc6_1, hf⟩ := bind_t hf
  refine X_Sv (qX11_within _ Z _ _ hc6_1) (Nat.le_of_ble_eq_true rfl) dX11_share_6 lsX11_96 rfl rfl (Nat.le_of_ble_eq_true rfl) ?_
  refine T_if_eq dX11_share_9 (fun c9_2 => ?_) (fun c9_2 => ?_)
  · replace hf := ite_t c9_2 hf
    refine T_const dX11_share_24 ?_
    obtain rfl := Option.some.inj hf
    exact X_ri dX11_share_25 ⟨rfl, rfl⟩
  · replace hf := ite_f c9_2 hf
    refine T_iload dX11_share_12 rfl ?_
    refine T_i2l dX11_share_13 ?_
    refine T_constL dX11_share_14 ?_
    refine T_constL dX11_share_15 ?_
    obtain ⟨q18_3, hc18_3, hf⟩ := bind_t hf
    refine X_Sv (qX11_within _ Z _ _ hc18_3) (Nat.le_of_ble_eq_true rfl) dX11_share_18 lsX11_96 rfl rfl (Nat.le_of_ble_eq_true rfl) ?_
    refine T_if_ne dX11_share_21 (fun c21_4 => ?_) (fun c21_4 => ?_)
    · replace hf := ite_f c21_4 hf
      refine T_const dX11_share_26 ?_
      refine T_istore dX11_share_27 ?_
      show TX _ _ _ _ _ _ _ _ [_, _, _, _, _] _
      refine T_const dX11_share_28 ?_
      refine T_istore dX11_share_29 ?_
      show TX _ _ _ _ _ _ _ _ [_, _, _, _, _] _
      obtain ⟨q31_7, hc31_7, hf⟩ := bind_t hf
      refine X_wk (WK.s (WK.s (WK.s (WK.s (WK.s WK.e))))) (lX11_share_31 Z _ _ _ _ 2000 _ _ hc31_7 ?_)
      intro q31_7z hr
      subst hr
      refine T_iload dX11_share_52 rfl ?_
      refine T_if_ne dX11_share_53 (fun c53_8 => ?_) (fun c53_8 => ?_)
      · replace hf := ite_f c53_8 hf
        refine T_iload dX11_share_60 rfl ?_
        refine T_aload dX11_share_61 rfl ?_
        refine T_iload dX11_share_62 rfl ?_
        obtain ⟨q63_9, hc63_9, hf⟩ := bind_t hf
        refine X_Vv (qX11_weightOf Z _ hc63_9) (Nat.le_of_ble_eq_true rfl) dX11_share_63 lvX11_308 rfl rfl ob73 (Nat.le_of_ble_eq_true rfl) ?_
        refine T_imul dX11_share_66 ?_
        refine T_iload dX11_share_67 rfl ?_
        obtain ⟨h0, hf⟩ := opt_t hf
        refine T_idiv dX11_share_68 h0 ?_
        obtain rfl := Option.some.inj hf
        exact X_ri dX11_share_69 ⟨rfl, rfl⟩
      · replace hf := ite_t c53_8 hf
        refine T_const dX11_share_56 ?_
        refine T_goto dX11_share_57 ?_
        obtain rfl := Option.some.inj hf
        exact X_ri dX11_share_69 ⟨rfl, rfl⟩
    · replace hf := ite_t c21_4 hf
      refine T_const dX11_share_24 ?_
      obtain rfl := Option.some.inj hf
      exact X_ri dX11_share_25 ⟨rfl, rfl⟩
def jX11_heard_77 (ih : Int32 → Int32 → Int32 → Option (Int32 × Int32)) (x : aH) (l1 : Int32) (l2 : Int32) (l3 : Int32) (l4 : Int32) (l5 : Int32) : Option (Int32 × Int32) := ih l3 l4 (l5 + (1 : Int32))
def jX11_heard_74 (ih : Int32 → Int32 → Int32 → Option (Int32 × Int32)) (x : aH) (l1 : Int32) (l2 : Int32) (l3 : Int32) (l5 : Int32) (s0 : Int32) (s1 : Int32) : Option (Int32 × Int32) := jX11_heard_77 ih x l1 l2 l3 (s0 + s1) l5
def sX11_heard_34 (x : aH) (l1 : Int32) (l2 : Int32) (ih : Int32 → Int32 → Int32 → Option (Int32 × Int32)) (l3 : Int32) (l4 : Int32) (l5 : Int32) : Option (Int32 × Int32) := if (64 : Int32) ≤ l5 then some (l3, l4) else (fX11_isSeen x l5 l1).bind fun q45_6 => if q45_6 = (0 : Int32) then jX11_heard_77 ih x l1 l2 l3 l4 l5 else if (0 : Int32) ≤ ((40 : Int32) + l5) ∧ ((40 : Int32) + l5) < (172 : Int32) then if (ri x 74 (ix ((40 : Int32) + l5))) = (0 : Int32) then jX11_heard_74 ih x l1 l2 (l3 + (1 : Int32)) l5 l4 (1 : Int32) else jX11_heard_74 ih x l1 l2 (l3 + (1 : Int32)) l5 l4 (0 : Int32) else none
def wX11_heard_34 (x : aH) (l1 : Int32) (l2 : Int32) : Nat → Int32 → Int32 → Int32 → Option (Int32 × Int32)
  | 0 => fun _ _ _ => none
  | n + 1 => sX11_heard_34 x l1 l2 (wX11_heard_34 x l1 l2 n)
def sX11_heard_98 (x : aH) (l2 : Int32) (l3 : Int32) (l4 : Int32) (ih : Int32 → Int32 → Option Int32) (l5 : Int32) (l6 : Int32) : Option Int32 := if l6 = (0 : Int32) then some l5 else if ¬ (l6 = (0 : Int32)) then ih l6 (l5 - l5 / l6 * l6) else none
def wX11_heard_98 (x : aH) (l2 : Int32) (l3 : Int32) (l4 : Int32) : Nat → Int32 → Int32 → Option Int32
  | 0 => fun _ _ => none
  | n + 1 => sX11_heard_98 x l2 l3 l4 (wX11_heard_98 x l2 l3 l4 n)
def fX11_heard (x : aH) (p1 : Int32) (p2 : Int32) : Option Int64 := (fX11_within (Int32.toInt64 p1) (0 : Int64) (3 : Int64)).bind fun q6_1 => if q6_1 = (0 : Int32) then some (-9223372036854775808 : Int64) else (fX11_within (Int32.toInt64 p2) (0 : Int64) (1 : Int64)).bind fun q16_3 => if q16_3 = (0 : Int32) then some (-9223372036854775808 : Int64) else (wX11_heard_34 x p1 p2 2000 (0 : Int32) (0 : Int32) (0 : Int32)).bind fun q34_10 => if q34_10.2 = (0 : Int32) then some (Int32.toInt64 p2) else (wX11_heard_98 x p2 q34_10.1 q34_10.2 2000 q34_10.2 q34_10.1).bind fun q98_13 => if p2 = (0 : Int32) then if ¬ (q98_13 = (0 : Int32)) then some (Int32.toInt64 (q34_10.2 / q98_13)) else none else if ¬ (q98_13 = (0 : Int32)) then some (Int32.toInt64 (q34_10.1 / q98_13)) else none
theorem lX11_heard_34 (Z : aZ) (y : aH) (x : aH) (l1 : Int32) (l2 : Int32) {Q : Option Value → aH → Prop} {R : (Int32 × Int32)} : ∀ (n : Nat) (l3 : Int32) (l4 : Int32) (l5 : Int32), wX11_heard_34 x l1 l2 n l3 l4 l5 = some R → (∀ q, R = q → TX false Z mX11_heard 2 y x Q 83 [.null, .null, .int l2, .int (q.1), .int (q.2), .null, .null, .null] []) → TX false Z mX11_heard 2 y x Q 34 [.ref 73, .int l1, .int l2, .int l3, .int l4, .int l5, .null, .null] [] := by
  intro n
  induction n with
  | zero => intro l3 l4 l5 hf; cases hf
  | succ n ih =>
    intro l3 l4 l5 hf ke
    replace hf : sX11_heard_34 x l1 l2 (wX11_heard_34 x l1 l2 n) l3 l4 l5 = some R := hf
    unfold sX11_heard_34 at hf
    refine T_iload dX11_heard_34 rfl ?_
    refine T_const dX11_heard_36 ?_
    refine T_icmp_ge dX11_heard_38 (fun c38_5 => ?_) (fun c38_5 => ?_)
    · replace hf := ite_t c38_5 hf
      exact X_wk (WK.n (WK.n (WK.s (WK.s (WK.s (WK.n (WK.n (WK.n WK.e)))))))) (ke _ (Option.some.inj hf).symm)
    · replace hf := ite_f c38_5 hf
      refine T_aload dX11_heard_41 rfl ?_
      refine T_iload dX11_heard_42 rfl ?_
      refine T_iload dX11_heard_44 rfl ?_
      obtain ⟨q45_6, hc45_6, hf⟩ := bind_t hf
      refine X_Vv (qX11_isSeen Z _ hc45_6) (Nat.le_of_ble_eq_true rfl) dX11_heard_45 lvX11_224 rfl rfl ob73 (Nat.le_of_ble_eq_true rfl) ?_
      have J77 : ∀ (l3 : Int32) (l4 : Int32) (l5 : Int32), jX11_heard_77 (wX11_heard_34 x l1 l2 n) x l1 l2 l3 l4 l5 = some R → TX false Z mX11_heard 2 y x Q 77 [.ref 73, .int l1, .int l2, .int l3, .int l4, .int l5, .null, .null] [] := by
        intro l3 l4 l5 hf
        unfold jX11_heard_77 at hf
        refine T_iinc dX11_heard_77 rfl ?_
        show TX _ _ _ _ _ _ _ _ [_, _, _, _, _, _, _, _] _
        refine T_goto dX11_heard_80 ?_
        exact X_wk (WK.s (WK.s (WK.s (WK.s (WK.s (WK.s (WK.n (WK.n WK.e)))))))) (ih _ _ _ hf ke)
      refine T_if_eq dX11_heard_48 (fun c48_7 => ?_) (fun c48_7 => ?_)
      · replace hf := ite_t c48_7 hf
        exact X_wk (WK.s (WK.s (WK.s (WK.s (WK.s (WK.s (WK.n (WK.n WK.e)))))))) (J77 _ _ _ hf)
      · replace hf := ite_f c48_7 hf
        refine T_iinc dX11_heard_51 rfl ?_
        show TX _ _ _ _ _ _ _ _ [_, _, _, _, _, _, _, _] _
        refine T_iload dX11_heard_54 rfl ?_
        refine T_aload dX11_heard_56 rfl ?_
        refine X_getr dX11_heard_57 lfX11_9 rfl ob73 rfl ?_
        refine T_const dX11_heard_60 ?_
        refine T_iload dX11_heard_62 rfl ?_
        refine T_iadd dX11_heard_64 ?_
        obtain ⟨hb65_8, hf⟩ := opt_t hf
        refine X_iald (N := 172) dX11_heard_65 ar74 rfl hb65_8 ?_
        have J74 : ∀ (l3 : Int32) (l5 : Int32) (s0 : Int32) (s1 : Int32), jX11_heard_74 (wX11_heard_34 x l1 l2 n) x l1 l2 l3 l5 s0 s1 = some R → TX false Z mX11_heard 2 y x Q 74 [.ref 73, .int l1, .int l2, .int l3, .null, .int l5, .null, .null] [.int s1, .int s0] := by
          intro l3 l5 s0 s1 hf
          unfold jX11_heard_74 at hf
          refine T_iadd dX11_heard_74 ?_
          refine T_istore dX11_heard_75 ?_
          show TX _ _ _ _ _ _ _ _ [_, _, _, _, _, _, _, _] _
          exact X_wk (WK.s (WK.s (WK.s (WK.s (WK.s (WK.s (WK.n (WK.n WK.e)))))))) (J77 _ _ _ hf)
        refine T_if_ne dX11_heard_66 (fun c66_9 => ?_) (fun c66_9 => ?_)
        · replace hf := ite_f c66_9 hf
          refine T_const dX11_heard_73 ?_
          exact X_wk (WK.s (WK.s (WK.s (WK.s (WK.n (WK.s (WK.n (WK.n WK.e)))))))) (J74 _ _ _ _ hf)
        · replace hf := ite_t c66_9 hf
          refine T_const dX11_heard_69 ?_
          refine T_goto dX11_heard_70 ?_
          exact X_wk (WK.s (WK.s (WK.s (WK.s (WK.n (WK.s (WK.n (WK.n WK.e)))))))) (J74 _ _ _ _ hf)
theorem lX11_heard_98 (Z : aZ) (y : aH) (x : aH) (l2 : Int32) (l3 : Int32) (l4 : Int32) {Q : Option Value → aH → Prop} {R : Int32} : ∀ (n : Nat) (l5 : Int32) (l6 : Int32), wX11_heard_98 x l2 l3 l4 n l5 l6 = some R → (∀ q, R = q → TX false Z mX11_heard 2 y x Q 121 [.null, .null, .int l2, .int l3, .int l4, .int q, .null, .null] []) → TX false Z mX11_heard 2 y x Q 98 [.null, .null, .int l2, .int l3, .int l4, .int l5, .int l6, .null] [] := by
  intro n
  induction n with
  | zero => intro l5 l6 hf; cases hf
  | succ n ih =>
    intro l5 l6 hf ke
    replace hf : sX11_heard_98 x l2 l3 l4 (wX11_heard_98 x l2 l3 l4 n) l5 l6 = some R := hf
    unfold sX11_heard_98 at hf
    refine T_iload dX11_heard_98 rfl ?_
    refine T_if_eq dX11_heard_100 (fun c100_12 => ?_) (fun c100_12 => ?_)
    · replace hf := ite_t c100_12 hf
      exact X_wk (WK.n (WK.n (WK.s (WK.s (WK.s (WK.s (WK.n (WK.n WK.e)))))))) (ke _ (Option.some.inj hf).symm)
    · replace hf := ite_f c100_12 hf
      refine T_iload dX11_heard_103 rfl ?_
      refine T_iload dX11_heard_105 rfl ?_
      obtain ⟨h0, hf⟩ := opt_t hf
      refine T_irem dX11_heard_107 h0 ?_
      refine T_istore dX11_heard_108 ?_
      show TX _ _ _ _ _ _ _ _ [_, _, _, _, _, _, _, _] _
      refine T_iload dX11_heard_110 rfl ?_
      refine T_istore dX11_heard_112 ?_
      show TX _ _ _ _ _ _ _ _ [_, _, _, _, _, _, _, _] _
      refine T_iload dX11_heard_114 rfl ?_
      refine T_istore dX11_heard_116 ?_
      show TX _ _ _ _ _ _ _ _ [_, _, _, _, _, _, _, _] _
      refine T_goto dX11_heard_118 ?_
      exact X_wk (WK.n (WK.n (WK.s (WK.s (WK.s (WK.s (WK.s (WK.n WK.e)))))))) (ih _ _ hf ke)
theorem qX11_heard (Z : aZ) (y : aH) {x : aH} {p1 : Int32} {p2 : Int32} {q : Int64} (hf : fX11_heard x p1 p2 = some q) : CX false Z mX11_heard 2 [.ref 73, .int p1, .int p2] y x (RV (.long q) x) := by
  refine CX.of mokX11_heard (Nat.le_of_ble_eq_true rfl) ?_
  show TX _ _ _ _ _ _ _ _ [_, _, _, _, _, _, _, _] _
  unfold fX11_heard at hf
  refine T_iload dX11_heard_0 rfl ?_
  refine T_i2l dX11_heard_1 ?_
  refine T_constL dX11_heard_2 ?_
  refine T_constL dX11_heard_3 ?_
  obtain ⟨q6_1, hc6_1, hf⟩ := bind_t hf
  refine X_Sv (qX11_within _ Z _ _ hc6_1) (Nat.le_of_ble_eq_true rfl) dX11_heard_6 lsX11_96 rfl rfl (Nat.le_of_ble_eq_true rfl) ?_
  refine T_if_eq dX11_heard_9 (fun c9_2 => ?_) (fun c9_2 => ?_)
  · replace hf := ite_t c9_2 hf
    refine T_constL dX11_heard_22 ?_
    obtain rfl := Option.some.inj hf
    exact X_rl dX11_heard_25 ⟨rfl, rfl⟩
  · replace hf := ite_f c9_2 hf
    refine T_iload dX11_heard_12 rfl ?_
    refine T_i2l dX11_heard_13 ?_
    refine T_constL dX11_heard_14 ?_
    refine T_constL dX11_heard_15 ?_
    obtain ⟨q16_3, hc16_3, hf⟩ := bind_t hf
    refine X_Sv (qX11_within _ Z _ _ hc16_3) (Nat.le_of_ble_eq_true rfl) dX11_heard_16 lsX11_96 rfl rfl (Nat.le_of_ble_eq_true rfl) ?_
    refine T_if_ne dX11_heard_19 (fun c19_4 => ?_) (fun c19_4 => ?_)
    · replace hf := ite_f c19_4 hf
      refine T_const dX11_heard_26 ?_
      refine T_istore dX11_heard_27 ?_
      show TX _ _ _ _ _ _ _ _ [_, _, _, _, _, _, _, _] _
      refine T_const dX11_heard_28 ?_
      refine T_istore dX11_heard_29 ?_
      show TX _ _ _ _ _ _ _ _ [_, _, _, _, _, _, _, _] _
      refine T_const dX11_heard_31 ?_
      refine T_istore dX11_heard_32 ?_
      show TX _ _ _ _ _ _ _ _ [_, _, _, _, _, _, _, _] _
      obtain ⟨q34_10, hc34_10, hf⟩ := bind_t hf
      refine X_wk (WK.s (WK.s (WK.s (WK.s (WK.s (WK.s (WK.n (WK.n WK.e)))))))) (lX11_heard_34 Z _ _ _ _ 2000 _ _ _ hc34_10 ?_)
      intro q34_10z hr
      subst hr
      refine T_iload dX11_heard_83 rfl ?_
      refine T_if_ne dX11_heard_85 (fun c85_11 => ?_) (fun c85_11 => ?_)
      · replace hf := ite_f c85_11 hf
        refine T_iload dX11_heard_91 rfl ?_
        refine T_istore dX11_heard_93 ?_
        show TX _ _ _ _ _ _ _ _ [_, _, _, _, _, _, _, _] _
        refine T_iload dX11_heard_95 rfl ?_
        refine T_istore dX11_heard_96 ?_
        show TX _ _ _ _ _ _ _ _ [_, _, _, _, _, _, _, _] _
        obtain ⟨q98_13, hc98_13, hf⟩ := bind_t hf
        refine X_wk (WK.n (WK.n (WK.s (WK.s (WK.s (WK.s (WK.s (WK.n WK.e)))))))) (lX11_heard_98 Z _ _ _ _ _ 2000 _ _ hc98_13 ?_)
        intro q98_13z hr
        subst hr
        refine T_iload dX11_heard_121 rfl ?_
        refine T_if_ne dX11_heard_122 (fun c122_14 => ?_) (fun c122_14 => ?_)
        · replace hf := ite_f c122_14 hf
          refine T_iload dX11_heard_134 rfl ?_
          refine T_iload dX11_heard_135 rfl ?_
          obtain ⟨h0, hf⟩ := opt_t hf
          refine T_idiv dX11_heard_137 h0 ?_
          refine T_i2l dX11_heard_138 ?_
          obtain rfl := Option.some.inj hf
          exact X_rl dX11_heard_139 ⟨rfl, rfl⟩
        · replace hf := ite_t c122_14 hf
          refine T_iload dX11_heard_125 rfl ?_
          refine T_iload dX11_heard_127 rfl ?_
          obtain ⟨h0, hf⟩ := opt_t hf
          refine T_idiv dX11_heard_129 h0 ?_
          refine T_i2l dX11_heard_130 ?_
          refine T_goto dX11_heard_131 ?_
          obtain rfl := Option.some.inj hf
          exact X_rl dX11_heard_139 ⟨rfl, rfl⟩
      · replace hf := ite_t c85_11 hf
        refine T_iload dX11_heard_88 rfl ?_
        refine T_i2l dX11_heard_89 ?_
        obtain rfl := Option.some.inj hf
        exact X_rl dX11_heard_90 ⟨rfl, rfl⟩
    · replace hf := ite_t c19_4 hf
      refine T_constL dX11_heard_22 ?_
      obtain rfl := Option.some.inj hf
      exact X_rl dX11_heard_25 ⟨rfl, rfl⟩
def jX11_worthOf_43 (ih : Int32 → Int32 → Option Int32) (x : aH) (l1 : Int32) (l3 : Int32) (s0 : Int32) (s1 : Int32) : Option Int32 := ih (s0 - s1) (l3 + (1 : Int32))
def jX11_worthOf_42 (ih : Int32 → Int32 → Option Int32) (x : aH) (l1 : Int32) (l3 : Int32) (s0 : Int32) : Option Int32 := jX11_worthOf_43 ih x l1 l3 s0 (0 : Int32)
def sX11_worthOf_7 (x : aH) (l1 : Int32) (ih : Int32 → Int32 → Option Int32) (l2 : Int32) (l3 : Int32) : Option Int32 := if (fi x 73 6) ≤ l3 then some l2 else if (0 : Int32) ≤ ((10 : Int32) + l3) ∧ ((10 : Int32) + l3) < (172 : Int32) then if (ri x 74 (ix ((10 : Int32) + l3))) = l1 then if (0 : Int32) ≤ l3 ∧ l3 < (10 : Int32) then if (ri x 82 (ix l3)) = (0 : Int32) then jX11_worthOf_43 ih x l1 l3 l2 (2 : Int32) else jX11_worthOf_42 ih x l1 l3 l2 else none else jX11_worthOf_42 ih x l1 l3 l2 else none
def wX11_worthOf_7 (x : aH) (l1 : Int32) : Nat → Int32 → Int32 → Option Int32
  | 0 => fun _ _ => none
  | n + 1 => sX11_worthOf_7 x l1 (wX11_worthOf_7 x l1 n)
def fX11_worthOf (x : aH) (p1 : Int32) : Option Int32 := (fX11_homeMany x).bind fun q1_1 => (wX11_worthOf_7 x p1 2000 q1_1 (0 : Int32)).bind fun q7_7 => some q7_7
theorem lX11_worthOf_7 (Z : aZ) (y : aH) (x : aH) (l1 : Int32) {Q : Option Value → aH → Prop} {R : Int32} : ∀ (n : Nat) (l2 : Int32) (l3 : Int32), wX11_worthOf_7 x l1 n l2 l3 = some R → (∀ q, R = q → TX false Z mX11_worthOf 1 y x Q 51 [.null, .null, .int q, .null] []) → TX false Z mX11_worthOf 1 y x Q 7 [.ref 73, .int l1, .int l2, .int l3] [] := by
  intro n
  induction n with
  | zero => intro l2 l3 hf; cases hf
  | succ n ih =>
    intro l2 l3 hf ke
    replace hf : sX11_worthOf_7 x l1 (wX11_worthOf_7 x l1 n) l2 l3 = some R := hf
    unfold sX11_worthOf_7 at hf
    refine T_iload dX11_worthOf_7 rfl ?_
    refine T_aload dX11_worthOf_8 rfl ?_
    refine X_getf dX11_worthOf_9 lfX11_93 rfl ob73 ?_
    refine T_icmp_ge dX11_worthOf_12 (fun c12_2 => ?_) (fun c12_2 => ?_)
    · replace hf := ite_t c12_2 hf
      exact X_wk (WK.n (WK.n (WK.s (WK.n WK.e)))) (ke _ (Option.some.inj hf).symm)
    · replace hf := ite_f c12_2 hf
      refine T_iload dX11_worthOf_15 rfl ?_
      refine T_aload dX11_worthOf_16 rfl ?_
      refine X_getr dX11_worthOf_17 lfX11_9 rfl ob73 rfl ?_
      refine T_const dX11_worthOf_20 ?_
      refine T_iload dX11_worthOf_22 rfl ?_
      refine T_iadd dX11_worthOf_23 ?_
      obtain ⟨hb24_3, hf⟩ := opt_t hf
      refine X_iald (N := 172) dX11_worthOf_24 ar74 rfl hb24_3 ?_
      refine T_iload dX11_worthOf_25 rfl ?_
      have J43 : ∀ (l3 : Int32) (s0 : Int32) (s1 : Int32), jX11_worthOf_43 (wX11_worthOf_7 x l1 n) x l1 l3 s0 s1 = some R → TX false Z mX11_worthOf 1 y x Q 43 [.ref 73, .int l1, .null, .int l3] [.int s1, .int s0] := by
        intro l3 s0 s1 hf
        unfold jX11_worthOf_43 at hf
        refine T_isub dX11_worthOf_43 ?_
        refine T_istore dX11_worthOf_44 ?_
        show TX _ _ _ _ _ _ _ _ [_, _, _, _] _
        refine T_iinc dX11_worthOf_45 rfl ?_
        show TX _ _ _ _ _ _ _ _ [_, _, _, _] _
        refine T_goto dX11_worthOf_48 ?_
        exact X_wk (WK.s (WK.s (WK.s (WK.s WK.e)))) (ih _ _ hf ke)
      have J42 : ∀ (l3 : Int32) (s0 : Int32), jX11_worthOf_42 (wX11_worthOf_7 x l1 n) x l1 l3 s0 = some R → TX false Z mX11_worthOf 1 y x Q 42 [.ref 73, .int l1, .null, .int l3] [.int s0] := by
        intro l3 s0 hf
        unfold jX11_worthOf_42 at hf
        refine T_const dX11_worthOf_42 ?_
        exact X_wk (WK.s (WK.s (WK.n (WK.s WK.e)))) (J43 _ _ _ hf)
      refine T_icmp_ne dX11_worthOf_26 (fun c26_4 => ?_) (fun c26_4 => ?_)
      · replace hf := ite_f c26_4 hf
        exact X_wk (WK.s (WK.s (WK.n (WK.s WK.e)))) (J42 _ _ hf)
      · replace hf := ite_t c26_4 hf
        refine T_aload dX11_worthOf_29 rfl ?_
        refine X_getr dX11_worthOf_30 lfX11_34 rfl ob73 rfl ?_
        refine T_iload dX11_worthOf_33 rfl ?_
        obtain ⟨hb34_5, hf⟩ := opt_t hf
        refine X_iald (N := 10) dX11_worthOf_34 ar82 rfl hb34_5 ?_
        refine T_if_ne dX11_worthOf_35 (fun c35_6 => ?_) (fun c35_6 => ?_)
        · replace hf := ite_f c35_6 hf
          exact X_wk (WK.s (WK.s (WK.n (WK.s WK.e)))) (J42 _ _ hf)
        · replace hf := ite_t c35_6 hf
          refine T_const dX11_worthOf_38 ?_
          refine T_goto dX11_worthOf_39 ?_
          exact X_wk (WK.s (WK.s (WK.n (WK.s WK.e)))) (J43 _ _ _ hf)
theorem qX11_worthOf (Z : aZ) (y : aH) {x : aH} {p1 : Int32} {q : Int32} (hf : fX11_worthOf x p1 = some q) : CX false Z mX11_worthOf 1 [.ref 73, .int p1] y x (RV (.int q) x) := by
  refine CX.of mokX11_worthOf (Nat.le_of_ble_eq_true rfl) ?_
  show TX _ _ _ _ _ _ _ _ [_, _, _, _] _
  unfold fX11_worthOf at hf
  refine T_aload dX11_worthOf_0 rfl ?_
  obtain ⟨q1_1, hc1_1, hf⟩ := bind_t hf
  refine X_Vv (qX11_homeMany Z _ hc1_1) (Nat.le_of_ble_eq_true rfl) dX11_worthOf_1 lvX11_262 rfl rfl ob73 (Nat.le_of_ble_eq_true rfl) ?_
  refine T_istore dX11_worthOf_4 ?_
  show TX _ _ _ _ _ _ _ _ [_, _, _, _] _
  refine T_const dX11_worthOf_5 ?_
  refine T_istore dX11_worthOf_6 ?_
  show TX _ _ _ _ _ _ _ _ [_, _, _, _] _
  obtain ⟨q7_7, hc7_7, hf⟩ := bind_t hf
  refine X_wk (WK.s (WK.s (WK.s (WK.s WK.e)))) (lX11_worthOf_7 Z _ _ _ 2000 _ _ hc7_7 ?_)
  intro q7_7z hr
  subst hr
  refine T_iload dX11_worthOf_51 rfl ?_
  obtain rfl := Option.some.inj hf
  exact X_ri dX11_worthOf_52 ⟨rfl, rfl⟩
def jX11_playsFrom_119 (g_X11_playsFrom : aH → Int32 → Int32 → Int32 → Option (Int32 × aH)) (ih : aH → Int32 → Int32 → Option (Int32 × aH)) (x : aH) (l1 : Int32) (l2 : Int32) (l3 : Int32) (l5 : Int32) (s0 : Int32) : Option (Int32 × aH) := ih x s0 (l5 + (1 : Int32))
def sX11_playsFrom_47 (g_X11_playsFrom : aH → Int32 → Int32 → Int32 → Option (Int32 × aH)) (l1 : Int32) (l2 : Int32) (l3 : Int32) (ih : aH → Int32 → Int32 → Option (Int32 × aH)) (x : aH) (l4 : Int32) (l5 : Int32) : Option (Int32 × aH) := if (4 : Int32) < l5 then some (l4, x) else if (0 : Int32) ≤ l2 ∧ l2 < (4 : Int32) then (g_X11_playsFrom (sri x 84 (ix l2) l5) l1 (l2 + (1 : Int32)) l3).bind fun q67_4 => if l5 = (0 : Int32) then jX11_playsFrom_119 g_X11_playsFrom ih q67_4.2 l1 l2 l3 l5 q67_4.1 else if (l2 - l2 / (2 : Int32) * (2 : Int32)) = (0 : Int32) then if q67_4.1 ≤ l4 then jX11_playsFrom_119 g_X11_playsFrom ih q67_4.2 l1 l2 l3 l5 l4 else jX11_playsFrom_119 g_X11_playsFrom ih q67_4.2 l1 l2 l3 l5 q67_4.1 else if l4 ≤ q67_4.1 then jX11_playsFrom_119 g_X11_playsFrom ih q67_4.2 l1 l2 l3 l5 l4 else jX11_playsFrom_119 g_X11_playsFrom ih q67_4.2 l1 l2 l3 l5 q67_4.1 else none
def wX11_playsFrom_47 (g_X11_playsFrom : aH → Int32 → Int32 → Int32 → Option (Int32 × aH)) (l1 : Int32) (l2 : Int32) (l3 : Int32) : Nat → aH → Int32 → Int32 → Option (Int32 × aH)
  | 0 => fun _ _ _ => none
  | n + 1 => sX11_playsFrom_47 g_X11_playsFrom l1 l2 l3 (wX11_playsFrom_47 g_X11_playsFrom l1 l2 l3 n)
def sX11_playsFrom_12 (g_X11_playsFrom : aH → Int32 → Int32 → Int32 → Option (Int32 × aH)) (l1 : Int32) (l3 : Int32) (ih : aH → Int32 → Option aH) (x : aH) (l4 : Int32) : Option aH := if l3 ≤ l4 then some x else if (0 : Int32) ≤ l4 ∧ l4 < (4 : Int32) then (fX11_goesNight x (ri x 84 (ix l4))).bind fun q26_13 => ih q26_13 (l4 + (1 : Int32)) else none
def wX11_playsFrom_12 (g_X11_playsFrom : aH → Int32 → Int32 → Int32 → Option (Int32 × aH)) (l1 : Int32) (l3 : Int32) : Nat → aH → Int32 → Option aH
  | 0 => fun _ _ => none
  | n + 1 => sX11_playsFrom_12 g_X11_playsFrom l1 l3 (wX11_playsFrom_12 g_X11_playsFrom l1 l3 n)
def uX11_playsFrom (g_X11_playsFrom : aH → Int32 → Int32 → Int32 → Option (Int32 × aH)) (x : aH) (p1 : Int32) (p2 : Int32) (p3 : Int32) : Option (Int32 × aH) := if p2 = p3 then (fX11_begins x).bind fun q6_10 => (wX11_playsFrom_12 g_X11_playsFrom p1 p3 2000 q6_10 (0 : Int32)).bind fun q12_14 => (fX11_worthOf q12_14 p1).bind fun q37_15 => some (q37_15, q12_14) else (wX11_playsFrom_47 g_X11_playsFrom p1 p2 p3 2000 x (0 : Int32) (0 : Int32)).bind fun q47_9 => some (q47_9.1, q47_9.2)
theorem lX11_playsFrom_47 (Z : aZ) (y : aH) {D : Nat} (hK : 68 ≤ D) {g_X11_playsFrom : aH → Int32 → Int32 → Int32 → Option (Int32 × aH)} (H_X11_playsFrom : ∀ (x : aH) (p1 : Int32) (p2 : Int32) (p3 : Int32) {q : (Int32 × aH)}, g_X11_playsFrom x p1 p2 p3 = some q → CX false Z mX11_playsFrom D [.ref 73, .int p1, .int p2, .int p3] y x (RV (.int q.1) q.2)) (l1 : Int32) (l2 : Int32) (l3 : Int32) {Q : Option Value → aH → Prop} {R : (Int32 × aH)} : ∀ (n : Nat) (x : aH) (l4 : Int32) (l5 : Int32), wX11_playsFrom_47 g_X11_playsFrom l1 l2 l3 n x l4 l5 = some R → (∀ q, R = q → TX false Z mX11_playsFrom (D + 1) y q.2 Q 127 [.null, .null, .null, .null, .int (q.1), .null, .null] []) → TX false Z mX11_playsFrom (D + 1) y x Q 47 [.ref 73, .int l1, .int l2, .int l3, .int l4, .int l5, .null] [] := by
  intro n
  induction n with
  | zero => intro x l4 l5 hf; cases hf
  | succ n ih =>
    intro x l4 l5 hf ke
    replace hf : sX11_playsFrom_47 g_X11_playsFrom l1 l2 l3 (wX11_playsFrom_47 g_X11_playsFrom l1 l2 l3 n) x l4 l5 = some R := hf
    unfold sX11_playsFrom_47 at hf
    refine T_iload dX11_playsFrom_47 rfl ?_
    refine T_const dX11_playsFrom_49 ?_
    refine T_icmp_gt dX11_playsFrom_50 (fun c50_2 => ?_) (fun c50_2 => ?_)
    · replace hf := ite_t c50_2 hf
      exact X_wk (WK.n (WK.n (WK.n (WK.n (WK.s (WK.n (WK.n WK.e))))))) (ke _ (Option.some.inj hf).symm)
    · replace hf := ite_f c50_2 hf
      refine T_aload dX11_playsFrom_53 rfl ?_
      refine X_getr dX11_playsFrom_54 lfX11_40 rfl ob73 rfl ?_
      refine T_iload dX11_playsFrom_57 rfl ?_
      refine T_iload dX11_playsFrom_58 rfl ?_
      obtain ⟨hb60_3, hf⟩ := opt_t hf
      refine X_iast (N := 4) dX11_playsFrom_60 ar84 rfl hb60_3 ?_
      refine T_aload dX11_playsFrom_61 rfl ?_
      refine T_iload dX11_playsFrom_62 rfl ?_
      refine T_iload dX11_playsFrom_63 rfl ?_
      refine T_const dX11_playsFrom_64 ?_
      refine T_iadd dX11_playsFrom_65 ?_
      refine T_iload dX11_playsFrom_66 rfl ?_
      obtain ⟨q67_4, hc67_4, hf⟩ := bind_t hf
      refine X_Vv (H_X11_playsFrom _ _ _ _ hc67_4) (Nat.le_refl _) dX11_playsFrom_67 lvX11_314 rfl rfl ob73 (Nat.le_of_ble_eq_true rfl) ?_
      refine T_istore dX11_playsFrom_70 ?_
      show TX _ _ _ _ _ _ _ _ [_, _, _, _, _, _, _] _
      refine T_iload dX11_playsFrom_72 rfl ?_
      have J119 : ∀ (x : aH) (l5 : Int32) (s0 : Int32), jX11_playsFrom_119 g_X11_playsFrom (wX11_playsFrom_47 g_X11_playsFrom l1 l2 l3 n) x l1 l2 l3 l5 s0 = some R → TX false Z mX11_playsFrom (D + 1) y x Q 119 [.ref 73, .int l1, .int l2, .int l3, .null, .int l5, .null] [.int s0] := by
        intro x l5 s0 hf
        unfold jX11_playsFrom_119 at hf
        refine T_istore dX11_playsFrom_119 ?_
        show TX _ _ _ _ _ _ _ _ [_, _, _, _, _, _, _] _
        refine T_iinc dX11_playsFrom_121 rfl ?_
        show TX _ _ _ _ _ _ _ _ [_, _, _, _, _, _, _] _
        refine T_goto dX11_playsFrom_124 ?_
        exact X_wk (WK.s (WK.s (WK.s (WK.s (WK.s (WK.s (WK.n WK.e))))))) (ih _ _ _ hf ke)
      refine T_if_ne dX11_playsFrom_74 (fun c74_5 => ?_) (fun c74_5 => ?_)
      · replace hf := ite_f c74_5 hf
        refine T_iload dX11_playsFrom_82 rfl ?_
        refine T_const dX11_playsFrom_83 ?_
        refine T_irem dX11_playsFrom_84 (by decide) ?_
        refine T_if_ne dX11_playsFrom_85 (fun c85_6 => ?_) (fun c85_6 => ?_)
        · replace hf := ite_f c85_6 hf
          refine T_iload dX11_playsFrom_105 rfl ?_
          refine T_iload dX11_playsFrom_107 rfl ?_
          refine T_icmp_ge dX11_playsFrom_109 (fun c109_7 => ?_) (fun c109_7 => ?_)
          · replace hf := ite_t c109_7 hf
            refine T_iload dX11_playsFrom_117 rfl ?_
            exact X_wk (WK.s (WK.s (WK.s (WK.s (WK.n (WK.s (WK.n WK.e))))))) (J119 _ _ _ hf)
          · replace hf := ite_f c109_7 hf
            refine T_iload dX11_playsFrom_112 rfl ?_
            refine T_goto dX11_playsFrom_114 ?_
            exact X_wk (WK.s (WK.s (WK.s (WK.s (WK.n (WK.s (WK.n WK.e))))))) (J119 _ _ _ hf)
        · replace hf := ite_t c85_6 hf
          refine T_iload dX11_playsFrom_88 rfl ?_
          refine T_iload dX11_playsFrom_90 rfl ?_
          refine T_icmp_le dX11_playsFrom_92 (fun c92_8 => ?_) (fun c92_8 => ?_)
          · replace hf := ite_t c92_8 hf
            refine T_iload dX11_playsFrom_100 rfl ?_
            refine T_goto dX11_playsFrom_102 ?_
            exact X_wk (WK.s (WK.s (WK.s (WK.s (WK.n (WK.s (WK.n WK.e))))))) (J119 _ _ _ hf)
          · replace hf := ite_f c92_8 hf
            refine T_iload dX11_playsFrom_95 rfl ?_
            refine T_goto dX11_playsFrom_97 ?_
            exact X_wk (WK.s (WK.s (WK.s (WK.s (WK.n (WK.s (WK.n WK.e))))))) (J119 _ _ _ hf)
      · replace hf := ite_t c74_5 hf
        refine T_iload dX11_playsFrom_77 rfl ?_
        refine T_goto dX11_playsFrom_79 ?_
        exact X_wk (WK.s (WK.s (WK.s (WK.s (WK.n (WK.s (WK.n WK.e))))))) (J119 _ _ _ hf)
theorem lX11_playsFrom_12 (Z : aZ) (y : aH) {D : Nat} (hK : 68 ≤ D) {g_X11_playsFrom : aH → Int32 → Int32 → Int32 → Option (Int32 × aH)} (H_X11_playsFrom : ∀ (x : aH) (p1 : Int32) (p2 : Int32) (p3 : Int32) {q : (Int32 × aH)}, g_X11_playsFrom x p1 p2 p3 = some q → CX false Z mX11_playsFrom D [.ref 73, .int p1, .int p2, .int p3] y x (RV (.int q.1) q.2)) (l1 : Int32) (l3 : Int32) {Q : Option Value → aH → Prop} {R : aH} : ∀ (n : Nat) (x : aH) (l4 : Int32), wX11_playsFrom_12 g_X11_playsFrom l1 l3 n x l4 = some R → (∀ q, R = q → TX false Z mX11_playsFrom (D + 1) y q Q 35 [.ref 73, .int l1, .null, .null, .null, .null, .null] []) → TX false Z mX11_playsFrom (D + 1) y x Q 12 [.ref 73, .int l1, .null, .int l3, .int l4, .null, .null] [] := by
  intro n
  induction n with
  | zero => intro x l4 hf; cases hf
  | succ n ih =>
    intro x l4 hf ke
    replace hf : sX11_playsFrom_12 g_X11_playsFrom l1 l3 (wX11_playsFrom_12 g_X11_playsFrom l1 l3 n) x l4 = some R := hf
    unfold sX11_playsFrom_12 at hf
    refine T_iload dX11_playsFrom_12 rfl ?_
    refine T_iload dX11_playsFrom_14 rfl ?_
    refine T_icmp_ge dX11_playsFrom_15 (fun c15_11 => ?_) (fun c15_11 => ?_)
    · replace hf := ite_t c15_11 hf
      exact X_wk (WK.s (WK.s (WK.n (WK.n (WK.n (WK.n (WK.n WK.e))))))) (ke _ (Option.some.inj hf).symm)
    · replace hf := ite_f c15_11 hf
      refine T_aload dX11_playsFrom_18 rfl ?_
      refine T_aload dX11_playsFrom_19 rfl ?_
      refine X_getr dX11_playsFrom_20 lfX11_40 rfl ob73 rfl ?_
      refine T_iload dX11_playsFrom_23 rfl ?_
      obtain ⟨hb25_12, hf⟩ := opt_t hf
      refine X_iald (N := 4) dX11_playsFrom_25 ar84 rfl hb25_12 ?_
      obtain ⟨q26_13, hc26_13, hf⟩ := bind_t hf
      refine X_Vn (qX11_goesNight Z _ hc26_13) (Nat.le_trans (Nat.le_of_ble_eq_true rfl) hK) dX11_playsFrom_26 lvX11_246 rfl rfl ob73 (Nat.le_of_ble_eq_true rfl) ?_
      refine T_iinc dX11_playsFrom_29 rfl ?_
      show TX _ _ _ _ _ _ _ _ [_, _, _, _, _, _, _] _
      refine T_goto dX11_playsFrom_32 ?_
      exact X_wk (WK.s (WK.s (WK.n (WK.s (WK.s (WK.n (WK.n WK.e))))))) (ih _ _ hf ke)
theorem pX11_playsFrom (Z : aZ) (y : aH) {D : Nat} (hK : 68 ≤ D) {g_X11_playsFrom : aH → Int32 → Int32 → Int32 → Option (Int32 × aH)} (H_X11_playsFrom : ∀ (x : aH) (p1 : Int32) (p2 : Int32) (p3 : Int32) {q : (Int32 × aH)}, g_X11_playsFrom x p1 p2 p3 = some q → CX false Z mX11_playsFrom D [.ref 73, .int p1, .int p2, .int p3] y x (RV (.int q.1) q.2)) {x : aH} {p1 : Int32} {p2 : Int32} {p3 : Int32} {q : (Int32 × aH)} (hf : uX11_playsFrom g_X11_playsFrom x p1 p2 p3 = some q) : CX false Z mX11_playsFrom (D + 1) [.ref 73, .int p1, .int p2, .int p3] y x (RV (.int q.1) q.2) := by
  refine CX.of mokX11_playsFrom (Nat.le_of_ble_eq_true rfl) ?_
  show TX _ _ _ _ _ _ _ _ [_, _, _, _, _, _, _] _
  unfold uX11_playsFrom at hf
  refine T_iload dX11_playsFrom_0 rfl ?_
  refine T_iload dX11_playsFrom_1 rfl ?_
  refine T_icmp_ne dX11_playsFrom_2 (fun c2_1 => ?_) (fun c2_1 => ?_)
  · replace hf := ite_f c2_1 hf
    refine T_const dX11_playsFrom_41 ?_
    refine T_istore dX11_playsFrom_42 ?_
    show TX _ _ _ _ _ _ _ _ [_, _, _, _, _, _, _] _
    refine T_const dX11_playsFrom_44 ?_
    refine T_istore dX11_playsFrom_45 ?_
    show TX _ _ _ _ _ _ _ _ [_, _, _, _, _, _, _] _
    obtain ⟨q47_9, hc47_9, hf⟩ := bind_t hf
    refine X_wk (WK.s (WK.s (WK.s (WK.s (WK.s (WK.s (WK.n WK.e))))))) (lX11_playsFrom_47 Z _ hK H_X11_playsFrom _ _ _ 2000 _ _ _ hc47_9 ?_)
    intro q47_9z hr
    subst hr
    refine T_iload dX11_playsFrom_127 rfl ?_
    obtain rfl := Option.some.inj hf
    exact X_ri dX11_playsFrom_129 ⟨rfl, rfl⟩
  · replace hf := ite_t c2_1 hf
    refine T_aload dX11_playsFrom_5 rfl ?_
    obtain ⟨q6_10, hc6_10, hf⟩ := bind_t hf
    refine X_Vn (qX11_begins Z _ hc6_10) (Nat.le_trans (Nat.le_of_ble_eq_true rfl) hK) dX11_playsFrom_6 lvX11_236 rfl rfl ob73 (Nat.le_of_ble_eq_true rfl) ?_
    refine T_const dX11_playsFrom_9 ?_
    refine T_istore dX11_playsFrom_10 ?_
    show TX _ _ _ _ _ _ _ _ [_, _, _, _, _, _, _] _
    obtain ⟨q12_14, hc12_14, hf⟩ := bind_t hf
    refine X_wk (WK.s (WK.s (WK.n (WK.s (WK.s (WK.n (WK.n WK.e))))))) (lX11_playsFrom_12 Z _ hK H_X11_playsFrom _ _ 2000 _ _ hc12_14 ?_)
    intro q12_14z hr
    subst hr
    refine T_aload dX11_playsFrom_35 rfl ?_
    refine T_iload dX11_playsFrom_36 rfl ?_
    obtain ⟨q37_15, hc37_15, hf⟩ := bind_t hf
    refine X_Vv (qX11_worthOf Z _ hc37_15) (Nat.le_trans (Nat.le_of_ble_eq_true rfl) hK) dX11_playsFrom_37 lvX11_311 rfl rfl ob73 (Nat.le_of_ble_eq_true rfl) ?_
    obtain rfl := Option.some.inj hf
    exact X_ri dX11_playsFrom_40 ⟨rfl, rfl⟩
def GX11_playsFrom : Nat → (aH → Int32 → Int32 → Int32 → Option (Int32 × aH))
  | 0 => (fun _ _ _ _ => none)
  | n + 1 => (uX11_playsFrom ((GX11_playsFrom n)))
def fX11_playsFrom (n : Nat) : aH → Int32 → Int32 → Int32 → Option (Int32 × aH) := (GX11_playsFrom n)
theorem fX11_playsFrom_S (n : Nat) : fX11_playsFrom (n + 1) = uX11_playsFrom (fX11_playsFrom n) := rfl
theorem qGX11_playsFrom (Z : aZ) (y : aH) : ∀ n, (∀ (x : aH) (p1 : Int32) (p2 : Int32) (p3 : Int32) {q : (Int32 × aH)}, fX11_playsFrom n x p1 p2 p3 = some q → CX false Z mX11_playsFrom (n + 68) [.ref 73, .int p1, .int p2, .int p3] y x (RV (.int q.1) q.2)) := by
  intro n
  induction n with
  | zero => exact (by intro _ _ _ _ q hf; cases hf)
  | succ n ih =>
    have ih_X11_playsFrom := ih
    exact (by intro _ _ _ _ q hf; exact (pX11_playsFrom Z y (D := n + 68) (Nat.le_add_left _ _) ih_X11_playsFrom hf).le (by omega))
theorem qX11_playsFrom (Z : aZ) (y : aH) {x : aH} {p1 : Int32} {p2 : Int32} {p3 : Int32} {q : (Int32 × aH)} (hf : fX11_playsFrom 64 x p1 p2 p3 = some q) : CX false Z mX11_playsFrom 132 [.ref 73, .int p1, .int p2, .int p3] y x (RV (.int q.1) q.2) := (qGX11_playsFrom Z y 64) _ _ _ _ hf
def jX11_byTurns_119 (ih : aH → Int32 → Int32 → Option (Int32 × aH)) (x : aH) (l1 : Int32) (l2 : Int32) (l4 : Int32) (l6 : Int32) (s0 : Int32) : Option (Int32 × aH) := ih x s0 (l6 + (1 : Int32))
def jX11_byTurns_89 (ih : aH → Int32 → Int32 → Option (Int32 × aH)) (x : aH) (l1 : Int32) (l2 : Int32) (l4 : Int32) (l6 : Int32) (s1 : Int32) (s2 : Int32) : Option (Int32 × aH) := if (0 : Int32) ≤ s1 ∧ s1 < (4 : Int32) then (fX11_playsFrom 64 (sri x 84 (ix s1) s2) l1 (1 : Int32) l2).bind fun q94_12 => if q94_12.1 = l4 then if l6 = (0 : Int32) then jX11_byTurns_119 ih q94_12.2 l1 l2 l4 l6 (4 : Int32) else jX11_byTurns_119 ih q94_12.2 l1 l2 l4 l6 (l6 - (1 : Int32)) else jX11_byTurns_119 ih q94_12.2 l1 l2 l4 l6 (-1 : Int32) else none
def sX11_byTurns_60 (l1 : Int32) (l2 : Int32) (l4 : Int32) (ih : aH → Int32 → Int32 → Option (Int32 × aH)) (x : aH) (l5 : Int32) (l6 : Int32) : Option (Int32 × aH) := if (4 : Int32) < l6 then some (l5, x) else if (0 : Int32) ≤ l5 then some (l5, x) else if l6 = (0 : Int32) then jX11_byTurns_89 ih x l1 l2 l4 l6 (0 : Int32) (4 : Int32) else jX11_byTurns_89 ih x l1 l2 l4 l6 (0 : Int32) (l6 - (1 : Int32))
def wX11_byTurns_60 (l1 : Int32) (l2 : Int32) (l4 : Int32) : Nat → aH → Int32 → Int32 → Option (Int32 × aH)
  | 0 => fun _ _ _ => none
  | n + 1 => sX11_byTurns_60 l1 l2 l4 (wX11_byTurns_60 l1 l2 l4 n)
def fX11_byTurns (x : aH) (p1 : Int32) (p2 : Int32) (p3 : Int32) : Option (Int32 × aH) := (fX11_within (Int32.toInt64 p1) (0 : Int64) (3 : Int64)).bind fun q6_1 => if q6_1 = (0 : Int32) then some ((-2000000000 : Int32), x) else (fX11_within (Int32.toInt64 p2) (1 : Int64) (4 : Int64)).bind fun q18_3 => if q18_3 = (0 : Int32) then some ((-2000000000 : Int32), x) else (fX11_within (Int32.toInt64 p3) (0 : Int64) (1 : Int64)).bind fun q28_5 => if q28_5 = (0 : Int32) then some ((-2000000000 : Int32), x) else (fX11_playsFrom 64 x p1 (0 : Int32) p2).bind fun q42_7 => if p3 = (0 : Int32) then some (q42_7.1, q42_7.2) else (wX11_byTurns_60 p1 p2 q42_7.1 2000 q42_7.2 (-1 : Int32) (0 : Int32)).bind fun q60_16 => some (q60_16.1, q60_16.2)
theorem lX11_byTurns_60 (Z : aZ) (y : aH) (l1 : Int32) (l2 : Int32) (l4 : Int32) {Q : Option Value → aH → Prop} {R : (Int32 × aH)} : ∀ (n : Nat) (x : aH) (l5 : Int32) (l6 : Int32), wX11_byTurns_60 l1 l2 l4 n x l5 l6 = some R → (∀ q, R = q → TX false Z mX11_byTurns 133 y q.2 Q 127 [.null, .null, .null, .null, .null, .int (q.1), .null] []) → TX false Z mX11_byTurns 133 y x Q 60 [.ref 73, .int l1, .int l2, .null, .int l4, .int l5, .int l6] [] := by
  intro n
  induction n with
  | zero => intro x l5 l6 hf; cases hf
  | succ n ih =>
    intro x l5 l6 hf ke
    replace hf : sX11_byTurns_60 l1 l2 l4 (wX11_byTurns_60 l1 l2 l4 n) x l5 l6 = some R := hf
    unfold sX11_byTurns_60 at hf
    refine T_iload dX11_byTurns_60 rfl ?_
    refine T_const dX11_byTurns_62 ?_
    refine T_icmp_gt dX11_byTurns_63 (fun c63_9 => ?_) (fun c63_9 => ?_)
    · replace hf := ite_t c63_9 hf
      exact X_wk (WK.n (WK.n (WK.n (WK.n (WK.n (WK.s (WK.n WK.e))))))) (ke _ (Option.some.inj hf).symm)
    · replace hf := ite_f c63_9 hf
      refine T_iload dX11_byTurns_66 rfl ?_
      refine T_if_ge dX11_byTurns_68 (fun c68_10 => ?_) (fun c68_10 => ?_)
      · replace hf := ite_t c68_10 hf
        exact X_wk (WK.n (WK.n (WK.n (WK.n (WK.n (WK.s (WK.n WK.e))))))) (ke _ (Option.some.inj hf).symm)
      · replace hf := ite_f c68_10 hf
        refine T_aload dX11_byTurns_71 rfl ?_
        refine X_getr dX11_byTurns_72 lfX11_40 rfl ob73 rfl ?_
        refine T_const dX11_byTurns_75 ?_
        refine T_iload dX11_byTurns_76 rfl ?_
        have J89 : ∀ (x : aH) (l6 : Int32) (s1 : Int32) (s2 : Int32), jX11_byTurns_89 (wX11_byTurns_60 l1 l2 l4 n) x l1 l2 l4 l6 s1 s2 = some R → TX false Z mX11_byTurns 133 y x Q 89 [.ref 73, .int l1, .int l2, .null, .int l4, .null, .int l6] [.int s2, .int s1, .ref 84] := by
          intro x l6 s1 s2 hf
          unfold jX11_byTurns_89 at hf
          obtain ⟨hb89_11, hf⟩ := opt_t hf
          refine X_iast (N := 4) dX11_byTurns_89 ar84 rfl hb89_11 ?_
          refine T_aload dX11_byTurns_90 rfl ?_
          refine T_iload dX11_byTurns_91 rfl ?_
          refine T_const dX11_byTurns_92 ?_
          refine T_iload dX11_byTurns_93 rfl ?_
          obtain ⟨q94_12, hc94_12, hf⟩ := bind_t hf
          refine X_Vv (qX11_playsFrom Z _ hc94_12) (Nat.le_of_ble_eq_true rfl) dX11_byTurns_94 lvX11_314 rfl rfl ob73 (Nat.le_of_ble_eq_true rfl) ?_
          refine T_iload dX11_byTurns_97 rfl ?_
          have J119 : ∀ (x : aH) (l6 : Int32) (s0 : Int32), jX11_byTurns_119 (wX11_byTurns_60 l1 l2 l4 n) x l1 l2 l4 l6 s0 = some R → TX false Z mX11_byTurns 133 y x Q 119 [.ref 73, .int l1, .int l2, .null, .int l4, .null, .int l6] [.int s0] := by
            intro x l6 s0 hf
            unfold jX11_byTurns_119 at hf
            refine T_istore dX11_byTurns_119 ?_
            show TX _ _ _ _ _ _ _ _ [_, _, _, _, _, _, _] _
            refine T_iinc dX11_byTurns_121 rfl ?_
            show TX _ _ _ _ _ _ _ _ [_, _, _, _, _, _, _] _
            refine T_goto dX11_byTurns_124 ?_
            exact X_wk (WK.s (WK.s (WK.s (WK.n (WK.s (WK.s (WK.s WK.e))))))) (ih _ _ _ hf ke)
          refine T_icmp_ne dX11_byTurns_99 (fun c99_13 => ?_) (fun c99_13 => ?_)
          · replace hf := ite_f c99_13 hf
            refine T_const dX11_byTurns_118 ?_
            exact X_wk (WK.s (WK.s (WK.s (WK.n (WK.s (WK.n (WK.s WK.e))))))) (J119 _ _ _ hf)
          · replace hf := ite_t c99_13 hf
            refine T_iload dX11_byTurns_102 rfl ?_
            refine T_if_ne dX11_byTurns_104 (fun c104_14 => ?_) (fun c104_14 => ?_)
            · replace hf := ite_f c104_14 hf
              refine T_iload dX11_byTurns_111 rfl ?_
              refine T_const dX11_byTurns_113 ?_
              refine T_isub dX11_byTurns_114 ?_
              refine T_goto dX11_byTurns_115 ?_
              exact X_wk (WK.s (WK.s (WK.s (WK.n (WK.s (WK.n (WK.s WK.e))))))) (J119 _ _ _ hf)
            · replace hf := ite_t c104_14 hf
              refine T_const dX11_byTurns_107 ?_
              refine T_goto dX11_byTurns_108 ?_
              exact X_wk (WK.s (WK.s (WK.s (WK.n (WK.s (WK.n (WK.s WK.e))))))) (J119 _ _ _ hf)
        refine T_if_ne dX11_byTurns_78 (fun c78_15 => ?_) (fun c78_15 => ?_)
        · replace hf := ite_f c78_15 hf
          refine T_iload dX11_byTurns_85 rfl ?_
          refine T_const dX11_byTurns_87 ?_
          refine T_isub dX11_byTurns_88 ?_
          exact X_wk (WK.s (WK.s (WK.s (WK.n (WK.s (WK.n (WK.s WK.e))))))) (J89 _ _ _ _ hf)
        · replace hf := ite_t c78_15 hf
          refine T_const dX11_byTurns_81 ?_
          refine T_goto dX11_byTurns_82 ?_
          exact X_wk (WK.s (WK.s (WK.s (WK.n (WK.s (WK.n (WK.s WK.e))))))) (J89 _ _ _ _ hf)
theorem qX11_byTurns (Z : aZ) (y : aH) {x : aH} {p1 : Int32} {p2 : Int32} {p3 : Int32} {q : (Int32 × aH)} (hf : fX11_byTurns x p1 p2 p3 = some q) : CX false Z mX11_byTurns 133 [.ref 73, .int p1, .int p2, .int p3] y x (RV (.int q.1) q.2) := by
  refine CX.of mokX11_byTurns (Nat.le_of_ble_eq_true rfl) ?_
  show TX _ _ _ _ _ _ _ _ [_, _, _, _, _, _, _] _
  unfold fX11_byTurns at hf
  refine T_iload dX11_byTurns_0 rfl ?_
  refine T_i2l dX11_byTurns_1 ?_
  refine T_constL dX11_byTurns_2 ?_
  refine T_constL dX11_byTurns_3 ?_
  obtain ⟨q6_1, hc6_1, hf⟩ := bind_t hf
  refine X_Sv (qX11_within _ Z _ _ hc6_1) (Nat.le_of_ble_eq_true rfl) dX11_byTurns_6 lsX11_96 rfl rfl (Nat.le_of_ble_eq_true rfl) ?_
  refine T_if_eq dX11_byTurns_9 (fun c9_2 => ?_) (fun c9_2 => ?_)
  · replace hf := ite_t c9_2 hf
    refine T_const dX11_byTurns_34 ?_
    obtain rfl := Option.some.inj hf
    exact X_ri dX11_byTurns_37 ⟨rfl, rfl⟩
  · replace hf := ite_f c9_2 hf
    refine T_iload dX11_byTurns_12 rfl ?_
    refine T_i2l dX11_byTurns_13 ?_
    refine T_constL dX11_byTurns_14 ?_
    refine T_constL dX11_byTurns_15 ?_
    obtain ⟨q18_3, hc18_3, hf⟩ := bind_t hf
    refine X_Sv (qX11_within _ Z _ _ hc18_3) (Nat.le_of_ble_eq_true rfl) dX11_byTurns_18 lsX11_96 rfl rfl (Nat.le_of_ble_eq_true rfl) ?_
    refine T_if_eq dX11_byTurns_21 (fun c21_4 => ?_) (fun c21_4 => ?_)
    · replace hf := ite_t c21_4 hf
      refine T_const dX11_byTurns_34 ?_
      obtain rfl := Option.some.inj hf
      exact X_ri dX11_byTurns_37 ⟨rfl, rfl⟩
    · replace hf := ite_f c21_4 hf
      refine T_iload dX11_byTurns_24 rfl ?_
      refine T_i2l dX11_byTurns_25 ?_
      refine T_constL dX11_byTurns_26 ?_
      refine T_constL dX11_byTurns_27 ?_
      obtain ⟨q28_5, hc28_5, hf⟩ := bind_t hf
      refine X_Sv (qX11_within _ Z _ _ hc28_5) (Nat.le_of_ble_eq_true rfl) dX11_byTurns_28 lsX11_96 rfl rfl (Nat.le_of_ble_eq_true rfl) ?_
      refine T_if_ne dX11_byTurns_31 (fun c31_6 => ?_) (fun c31_6 => ?_)
      · replace hf := ite_f c31_6 hf
        refine T_aload dX11_byTurns_38 rfl ?_
        refine T_iload dX11_byTurns_39 rfl ?_
        refine T_const dX11_byTurns_40 ?_
        refine T_iload dX11_byTurns_41 rfl ?_
        obtain ⟨q42_7, hc42_7, hf⟩ := bind_t hf
        refine X_Vv (qX11_playsFrom Z _ hc42_7) (Nat.le_of_ble_eq_true rfl) dX11_byTurns_42 lvX11_314 rfl rfl ob73 (Nat.le_of_ble_eq_true rfl) ?_
        refine T_istore dX11_byTurns_45 ?_
        show TX _ _ _ _ _ _ _ _ [_, _, _, _, _, _, _] _
        refine T_iload dX11_byTurns_47 rfl ?_
        refine T_if_ne dX11_byTurns_48 (fun c48_8 => ?_) (fun c48_8 => ?_)
        · replace hf := ite_f c48_8 hf
          refine T_const dX11_byTurns_54 ?_
          refine T_istore dX11_byTurns_55 ?_
          show TX _ _ _ _ _ _ _ _ [_, _, _, _, _, _, _] _
          refine T_const dX11_byTurns_57 ?_
          refine T_istore dX11_byTurns_58 ?_
          show TX _ _ _ _ _ _ _ _ [_, _, _, _, _, _, _] _
          obtain ⟨q60_16, hc60_16, hf⟩ := bind_t hf
          refine X_wk (WK.s (WK.s (WK.s (WK.n (WK.s (WK.s (WK.s WK.e))))))) (lX11_byTurns_60 Z _ _ _ _ 2000 _ _ _ hc60_16 ?_)
          intro q60_16z hr
          subst hr
          refine T_iload dX11_byTurns_127 rfl ?_
          obtain rfl := Option.some.inj hf
          exact X_ri dX11_byTurns_129 ⟨rfl, rfl⟩
        · replace hf := ite_t c48_8 hf
          refine T_iload dX11_byTurns_51 rfl ?_
          obtain rfl := Option.some.inj hf
          exact X_ri dX11_byTurns_53 ⟨rfl, rfl⟩
      · replace hf := ite_t c31_6 hf
        refine T_const dX11_byTurns_34 ?_
        obtain rfl := Option.some.inj hf
        exact X_ri dX11_byTurns_37 ⟨rfl, rfl⟩
def jX11_drawn_149 (ih : aH → Int32 → Int32 → Option (Int32 × aH)) (x : aH) (l2 : Int32) (l3 : Int32) (l4 : Int32) (l5 : Int32) (l6 : Int32) (l7 : Int32) (l8 : Int32) (s1 : Int32) : Option (Int32 × aH) := (fX11_goesNight x s1).bind fun q149_11 => ih q149_11 l4 (l8 + (1 : Int32))
def sX11_drawn_98 (l2 : Int32) (l3 : Int32) (l5 : Int32) (l6 : Int32) (l7 : Int32) (ih : aH → Int32 → Int32 → Option (Int32 × aH)) (x : aH) (l4 : Int32) (l8 : Int32) : Option (Int32 × aH) := if ((l2 / (100 : Int32)) - (l2 / (100 : Int32)) / (100 : Int32) * (100 : Int32)) ≤ l8 then some (l4, x) else if (l2 - l2 / (100 : Int32) * (100 : Int32)) ≤ (((Int32.toUInt32 ((l4 * (1103515245 : Int32)) + (12345 : Int32)) >>> (Int32.toUInt32 (16 : Int32) &&& Int32.toUInt32 31)).toInt32) - ((Int32.toUInt32 ((l4 * (1103515245 : Int32)) + (12345 : Int32)) >>> (Int32.toUInt32 (16 : Int32) &&& Int32.toUInt32 31)).toInt32) / (12 : Int32) * (12 : Int32)) then jX11_drawn_149 ih x l2 l3 ((l4 * (1103515245 : Int32)) + (12345 : Int32)) l5 l6 l7 l8 (((Int32.toUInt32 ((l4 * (1103515245 : Int32)) + (12345 : Int32)) >>> (Int32.toUInt32 (8 : Int32) &&& Int32.toUInt32 31)).toInt32) - ((Int32.toUInt32 ((l4 * (1103515245 : Int32)) + (12345 : Int32)) >>> (Int32.toUInt32 (8 : Int32) &&& Int32.toUInt32 31)).toInt32) / (4 : Int32) * (4 : Int32)) else jX11_drawn_149 ih x l2 l3 ((l4 * (1103515245 : Int32)) + (12345 : Int32)) l5 l6 l7 l8 (4 : Int32)
def wX11_drawn_98 (l2 : Int32) (l3 : Int32) (l5 : Int32) (l6 : Int32) (l7 : Int32) : Nat → aH → Int32 → Int32 → Option (Int32 × aH)
  | 0 => fun _ _ _ => none
  | n + 1 => sX11_drawn_98 l2 l3 l5 l6 l7 (wX11_drawn_98 l2 l3 l5 l6 l7 n)
def jX11_drawn_183 (ih : aH → Int32 → Int32 → Int32 → Int32 → Option (Int32 × Int32 × aH)) (x : aH) (l2 : Int32) (l3 : Int32) (l4 : Int32) (l5 : Int32) (l7 : Int32) (s0 : Int32) (s1 : Int32) : Option (Int32 × Int32 × aH) := ih x l4 l5 (s0 + s1) (l7 + (1 : Int32))
def sX11_drawn_81 (l2 : Int32) (l3 : Int32) (ih : aH → Int32 → Int32 → Int32 → Int32 → Option (Int32 × Int32 × aH)) (x : aH) (l4 : Int32) (l5 : Int32) (l6 : Int32) (l7 : Int32) : Option (Int32 × Int32 × aH) := if (l2 / (10000 : Int32)) ≤ l7 then some (l5, l6, x) else (fX11_begins x).bind fun q92_9 => (wX11_drawn_98 l2 l3 l5 l6 l7 2000 q92_9 l4 (0 : Int32)).bind fun q98_13 => (fX11_homeMany q98_13.2).bind fun q161_14 => if l3 < (0 : Int32) then jX11_drawn_183 ih q98_13.2 l2 l3 q98_13.1 (l5 + q161_14) l7 l6 (0 : Int32) else if (0 : Int32) ≤ l3 ∧ l3 < (10 : Int32) then jX11_drawn_183 ih q98_13.2 l2 l3 q98_13.1 (l5 + q161_14) l7 l6 (ri q98_13.2 82 (ix l3)) else none
def wX11_drawn_81 (l2 : Int32) (l3 : Int32) : Nat → aH → Int32 → Int32 → Int32 → Int32 → Option (Int32 × Int32 × aH)
  | 0 => fun _ _ _ _ _ => none
  | n + 1 => sX11_drawn_81 l2 l3 (wX11_drawn_81 l2 l3 n)
def jX11_drawn_69 (x : aH) (l1 : Int32) (l2 : Int32) (l3 : Int32) : Option (Int32 × aH) := (wX11_drawn_81 l2 l3 2000 x l1 (0 : Int32) (0 : Int32) (0 : Int32)).bind fun q81_17 => if (0 : Int32) ≤ l3 then some (q81_17.2.1, q81_17.2.2) else some (q81_17.1, q81_17.2.2)
def fX11_drawn (x : aH) (p1 : Int32) (p2 : Int32) (p3 : Int32) : Option (Int32 × aH) := if p2 < (0 : Int32) then some ((-1 : Int32), x) else (fX11_within (Int32.toInt64 (p2 / (10000 : Int32))) (1 : Int64) (30 : Int64)).bind fun q14_2 => if q14_2 = (0 : Int32) then some ((-1 : Int32), x) else (fX11_within (Int32.toInt64 ((p2 / (100 : Int32)) - (p2 / (100 : Int32)) / (100 : Int32) * (100 : Int32))) (1 : Int64) (30 : Int64)).bind fun q32_4 => if q32_4 = (0 : Int32) then some ((-1 : Int32), x) else (fX11_within (Int32.toInt64 (p2 - p2 / (100 : Int32) * (100 : Int32))) (0 : Int64) (12 : Int64)).bind fun q47_6 => if q47_6 = (0 : Int32) then some ((-1 : Int32), x) else if p3 = (-1 : Int32) then jX11_drawn_69 x p1 p2 p3 else (fX11_isLost x (Int32.toInt64 p3)).bind fun q61_20 => if q61_20 = (0 : Int32) then some ((-1 : Int32), x) else jX11_drawn_69 x p1 p2 p3
theorem lX11_drawn_98 (Z : aZ) (y : aH) (l2 : Int32) (l3 : Int32) (l5 : Int32) (l6 : Int32) (l7 : Int32) {Q : Option Value → aH → Prop} {R : (Int32 × aH)} : ∀ (n : Nat) (x : aH) (l4 : Int32) (l8 : Int32), wX11_drawn_98 l2 l3 l5 l6 l7 n x l4 l8 = some R → (∀ q, R = q → TX false Z mX11_drawn 69 y q.2 Q 158 [.ref 73, .null, .int l2, .int l3, .int (q.1), .int l5, .int l6, .int l7, .null] []) → TX false Z mX11_drawn 69 y x Q 98 [.ref 73, .null, .int l2, .int l3, .int l4, .int l5, .int l6, .int l7, .int l8] [] := by
  intro n
  induction n with
  | zero => intro x l4 l8 hf; cases hf
  | succ n ih =>
    intro x l4 l8 hf ke
    replace hf : sX11_drawn_98 l2 l3 l5 l6 l7 (wX11_drawn_98 l2 l3 l5 l6 l7 n) x l4 l8 = some R := hf
    unfold sX11_drawn_98 at hf
    refine T_iload dX11_drawn_98 rfl ?_
    refine T_iload dX11_drawn_100 rfl ?_
    refine T_const dX11_drawn_101 ?_
    refine T_idiv dX11_drawn_103 (by decide) ?_
    refine T_const dX11_drawn_104 ?_
    refine T_irem dX11_drawn_106 (by decide) ?_
    refine T_icmp_ge dX11_drawn_107 (fun c107_10 => ?_) (fun c107_10 => ?_)
    · replace hf := ite_t c107_10 hf
      exact X_wk (WK.s (WK.n (WK.s (WK.s (WK.s (WK.s (WK.s (WK.s (WK.n WK.e))))))))) (ke _ (Option.some.inj hf).symm)
    · replace hf := ite_f c107_10 hf
      refine T_iload dX11_drawn_110 rfl ?_
      refine T_const dX11_drawn_112 ?_
      refine T_imul dX11_drawn_115 ?_
      refine T_const dX11_drawn_116 ?_
      refine T_iadd dX11_drawn_119 ?_
      refine T_istore dX11_drawn_120 ?_
      show TX _ _ _ _ _ _ _ _ [_, _, _, _, _, _, _, _, _] _
      refine T_aload dX11_drawn_122 rfl ?_
      refine T_iload dX11_drawn_123 rfl ?_
      refine T_const dX11_drawn_125 ?_
      refine T_iushr dX11_drawn_127 ?_
      refine T_const dX11_drawn_128 ?_
      refine T_irem dX11_drawn_130 (by decide) ?_
      refine T_iload dX11_drawn_131 rfl ?_
      refine T_const dX11_drawn_132 ?_
      refine T_irem dX11_drawn_134 (by decide) ?_
      have J149 : ∀ (x : aH) (l4 : Int32) (l8 : Int32) (s1 : Int32), jX11_drawn_149 (wX11_drawn_98 l2 l3 l5 l6 l7 n) x l2 l3 l4 l5 l6 l7 l8 s1 = some R → TX false Z mX11_drawn 69 y x Q 149 [.ref 73, .null, .int l2, .int l3, .int l4, .int l5, .int l6, .int l7, .int l8] [.int s1, .ref 73] := by
        intro x l4 l8 s1 hf
        unfold jX11_drawn_149 at hf
        obtain ⟨q149_11, hc149_11, hf⟩ := bind_t hf
        refine X_Vn (qX11_goesNight Z _ hc149_11) (Nat.le_of_ble_eq_true rfl) dX11_drawn_149 lvX11_246 rfl rfl ob73 (Nat.le_of_ble_eq_true rfl) ?_
        refine T_iinc dX11_drawn_152 rfl ?_
        show TX _ _ _ _ _ _ _ _ [_, _, _, _, _, _, _, _, _] _
        refine T_goto dX11_drawn_155 ?_
        exact X_wk (WK.s (WK.n (WK.s (WK.s (WK.s (WK.s (WK.s (WK.s (WK.s WK.e))))))))) (ih _ _ _ hf ke)
      refine T_icmp_ge dX11_drawn_135 (fun c135_12 => ?_) (fun c135_12 => ?_)
      · replace hf := ite_t c135_12 hf
        refine T_iload dX11_drawn_142 rfl ?_
        refine T_const dX11_drawn_144 ?_
        refine T_iushr dX11_drawn_146 ?_
        refine T_const dX11_drawn_147 ?_
        refine T_irem dX11_drawn_148 (by decide) ?_
        exact X_wk (WK.s (WK.n (WK.s (WK.s (WK.s (WK.s (WK.s (WK.s (WK.s WK.e))))))))) (J149 _ _ _ _ hf)
      · replace hf := ite_f c135_12 hf
        refine T_const dX11_drawn_138 ?_
        refine T_goto dX11_drawn_139 ?_
        exact X_wk (WK.s (WK.n (WK.s (WK.s (WK.s (WK.s (WK.s (WK.s (WK.s WK.e))))))))) (J149 _ _ _ _ hf)
theorem lX11_drawn_81 (Z : aZ) (y : aH) (l2 : Int32) (l3 : Int32) {Q : Option Value → aH → Prop} {R : (Int32 × Int32 × aH)} : ∀ (n : Nat) (x : aH) (l4 : Int32) (l5 : Int32) (l6 : Int32) (l7 : Int32), wX11_drawn_81 l2 l3 n x l4 l5 l6 l7 = some R → (∀ q, R = q → TX false Z mX11_drawn 69 y q.2.2 Q 192 [.null, .null, .null, .int l3, .null, .int (q.1), .int (q.2.1), .null, .null] []) → TX false Z mX11_drawn 69 y x Q 81 [.ref 73, .null, .int l2, .int l3, .int l4, .int l5, .int l6, .int l7, .null] [] := by
  intro n
  induction n with
  | zero => intro x l4 l5 l6 l7 hf; cases hf
  | succ n ih =>
    intro x l4 l5 l6 l7 hf ke
    replace hf : sX11_drawn_81 l2 l3 (wX11_drawn_81 l2 l3 n) x l4 l5 l6 l7 = some R := hf
    unfold sX11_drawn_81 at hf
    refine T_iload dX11_drawn_81 rfl ?_
    refine T_iload dX11_drawn_83 rfl ?_
    refine T_const dX11_drawn_84 ?_
    refine T_idiv dX11_drawn_87 (by decide) ?_
    refine T_icmp_ge dX11_drawn_88 (fun c88_8 => ?_) (fun c88_8 => ?_)
    · replace hf := ite_t c88_8 hf
      exact X_wk (WK.n (WK.n (WK.n (WK.s (WK.n (WK.s (WK.s (WK.n (WK.n WK.e))))))))) (ke _ (Option.some.inj hf).symm)
    · replace hf := ite_f c88_8 hf
      refine T_aload dX11_drawn_91 rfl ?_
      obtain ⟨q92_9, hc92_9, hf⟩ := bind_t hf
      refine X_Vn (qX11_begins Z _ hc92_9) (Nat.le_of_ble_eq_true rfl) dX11_drawn_92 lvX11_236 rfl rfl ob73 (Nat.le_of_ble_eq_true rfl) ?_
      refine T_const dX11_drawn_95 ?_
      refine T_istore dX11_drawn_96 ?_
      show TX _ _ _ _ _ _ _ _ [_, _, _, _, _, _, _, _, _] _
      obtain ⟨q98_13, hc98_13, hf⟩ := bind_t hf
      refine X_wk (WK.s (WK.n (WK.s (WK.s (WK.s (WK.s (WK.s (WK.s (WK.s WK.e))))))))) (lX11_drawn_98 Z _ _ _ _ _ _ 2000 _ _ _ hc98_13 ?_)
      intro q98_13z hr
      subst hr
      refine T_iload dX11_drawn_158 rfl ?_
      refine T_aload dX11_drawn_160 rfl ?_
      obtain ⟨q161_14, hc161_14, hf⟩ := bind_t hf
      refine X_Vv (qX11_homeMany Z _ hc161_14) (Nat.le_of_ble_eq_true rfl) dX11_drawn_161 lvX11_262 rfl rfl ob73 (Nat.le_of_ble_eq_true rfl) ?_
      refine T_iadd dX11_drawn_164 ?_
      refine T_istore dX11_drawn_165 ?_
      show TX _ _ _ _ _ _ _ _ [_, _, _, _, _, _, _, _, _] _
      refine T_iload dX11_drawn_167 rfl ?_
      refine T_iload dX11_drawn_169 rfl ?_
      have J183 : ∀ (x : aH) (l4 : Int32) (l5 : Int32) (l7 : Int32) (s0 : Int32) (s1 : Int32), jX11_drawn_183 (wX11_drawn_81 l2 l3 n) x l2 l3 l4 l5 l7 s0 s1 = some R → TX false Z mX11_drawn 69 y x Q 183 [.ref 73, .null, .int l2, .int l3, .int l4, .int l5, .null, .int l7, .null] [.int s1, .int s0] := by
        intro x l4 l5 l7 s0 s1 hf
        unfold jX11_drawn_183 at hf
        refine T_iadd dX11_drawn_183 ?_
        refine T_istore dX11_drawn_184 ?_
        show TX _ _ _ _ _ _ _ _ [_, _, _, _, _, _, _, _, _] _
        refine T_iinc dX11_drawn_186 rfl ?_
        show TX _ _ _ _ _ _ _ _ [_, _, _, _, _, _, _, _, _] _
        refine T_goto dX11_drawn_189 ?_
        exact X_wk (WK.s (WK.n (WK.s (WK.s (WK.s (WK.s (WK.s (WK.s (WK.n WK.e))))))))) (ih _ _ _ _ _ hf ke)
      refine T_if_lt dX11_drawn_170 (fun c170_15 => ?_) (fun c170_15 => ?_)
      · replace hf := ite_t c170_15 hf
        refine T_const dX11_drawn_182 ?_
        exact X_wk (WK.s (WK.n (WK.s (WK.s (WK.s (WK.s (WK.n (WK.s (WK.n WK.e))))))))) (J183 _ _ _ _ _ _ hf)
      · replace hf := ite_f c170_15 hf
        refine T_aload dX11_drawn_173 rfl ?_
        refine X_getr dX11_drawn_174 lfX11_34 rfl ob73 rfl ?_
        refine T_iload dX11_drawn_177 rfl ?_
        obtain ⟨hb178_16, hf⟩ := opt_t hf
        refine X_iald (N := 10) dX11_drawn_178 ar82 rfl hb178_16 ?_
        refine T_goto dX11_drawn_179 ?_
        exact X_wk (WK.s (WK.n (WK.s (WK.s (WK.s (WK.s (WK.n (WK.s (WK.n WK.e))))))))) (J183 _ _ _ _ _ _ hf)
theorem qX11_drawn (Z : aZ) (y : aH) {x : aH} {p1 : Int32} {p2 : Int32} {p3 : Int32} {q : (Int32 × aH)} (hf : fX11_drawn x p1 p2 p3 = some q) : CX false Z mX11_drawn 69 [.ref 73, .int p1, .int p2, .int p3] y x (RV (.int q.1) q.2) := by
  refine CX.of mokX11_drawn (Nat.le_of_ble_eq_true rfl) ?_
  show TX _ _ _ _ _ _ _ _ [_, _, _, _, _, _, _, _, _] _
  unfold fX11_drawn at hf
  refine T_iload dX11_drawn_0 rfl ?_
  refine T_if_lt dX11_drawn_1 (fun c1_1 => ?_) (fun c1_1 => ?_)
  · replace hf := ite_t c1_1 hf
    refine T_const dX11_drawn_67 ?_
    obtain rfl := Option.some.inj hf
    exact X_ri dX11_drawn_68 ⟨rfl, rfl⟩
  · replace hf := ite_f c1_1 hf
    refine T_iload dX11_drawn_4 rfl ?_
    refine T_const dX11_drawn_5 ?_
    refine T_idiv dX11_drawn_8 (by decide) ?_
    refine T_i2l dX11_drawn_9 ?_
    refine T_constL dX11_drawn_10 ?_
    refine T_constL dX11_drawn_11 ?_
    obtain ⟨q14_2, hc14_2, hf⟩ := bind_t hf
    refine X_Sv (qX11_within _ Z _ _ hc14_2) (Nat.le_of_ble_eq_true rfl) dX11_drawn_14 lsX11_96 rfl rfl (Nat.le_of_ble_eq_true rfl) ?_
    refine T_if_eq dX11_drawn_17 (fun c17_3 => ?_) (fun c17_3 => ?_)
    · replace hf := ite_t c17_3 hf
      refine T_const dX11_drawn_67 ?_
      obtain rfl := Option.some.inj hf
      exact X_ri dX11_drawn_68 ⟨rfl, rfl⟩
    · replace hf := ite_f c17_3 hf
      refine T_iload dX11_drawn_20 rfl ?_
      refine T_const dX11_drawn_21 ?_
      refine T_idiv dX11_drawn_23 (by decide) ?_
      refine T_const dX11_drawn_24 ?_
      refine T_irem dX11_drawn_26 (by decide) ?_
      refine T_i2l dX11_drawn_27 ?_
      refine T_constL dX11_drawn_28 ?_
      refine T_constL dX11_drawn_29 ?_
      obtain ⟨q32_4, hc32_4, hf⟩ := bind_t hf
      refine X_Sv (qX11_within _ Z _ _ hc32_4) (Nat.le_of_ble_eq_true rfl) dX11_drawn_32 lsX11_96 rfl rfl (Nat.le_of_ble_eq_true rfl) ?_
      refine T_if_eq dX11_drawn_35 (fun c35_5 => ?_) (fun c35_5 => ?_)
      · replace hf := ite_t c35_5 hf
        refine T_const dX11_drawn_67 ?_
        obtain rfl := Option.some.inj hf
        exact X_ri dX11_drawn_68 ⟨rfl, rfl⟩
      · replace hf := ite_f c35_5 hf
        refine T_iload dX11_drawn_38 rfl ?_
        refine T_const dX11_drawn_39 ?_
        refine T_irem dX11_drawn_41 (by decide) ?_
        refine T_i2l dX11_drawn_42 ?_
        refine T_constL dX11_drawn_43 ?_
        refine T_constL dX11_drawn_44 ?_
        obtain ⟨q47_6, hc47_6, hf⟩ := bind_t hf
        refine X_Sv (qX11_within _ Z _ _ hc47_6) (Nat.le_of_ble_eq_true rfl) dX11_drawn_47 lsX11_96 rfl rfl (Nat.le_of_ble_eq_true rfl) ?_
        refine T_if_eq dX11_drawn_50 (fun c50_7 => ?_) (fun c50_7 => ?_)
        · replace hf := ite_t c50_7 hf
          refine T_const dX11_drawn_67 ?_
          obtain rfl := Option.some.inj hf
          exact X_ri dX11_drawn_68 ⟨rfl, rfl⟩
        · replace hf := ite_f c50_7 hf
          refine T_iload dX11_drawn_53 rfl ?_
          refine T_const dX11_drawn_54 ?_
          have J69 : ∀ (x : aH) (l1 : Int32) (l2 : Int32) (l3 : Int32), jX11_drawn_69 x l1 l2 l3 = some q → TX false Z mX11_drawn 69 y x (RV (.int q.1) q.2) 69 [.ref 73, .int l1, .int l2, .int l3, .null, .null, .null, .null, .null] [] := by
            intro x l1 l2 l3 hf
            unfold jX11_drawn_69 at hf
            refine T_iload dX11_drawn_69 rfl ?_
            refine T_istore dX11_drawn_70 ?_
            show TX _ _ _ _ _ _ _ _ [_, _, _, _, _, _, _, _, _] _
            refine T_const dX11_drawn_72 ?_
            refine T_istore dX11_drawn_73 ?_
            show TX _ _ _ _ _ _ _ _ [_, _, _, _, _, _, _, _, _] _
            refine T_const dX11_drawn_75 ?_
            refine T_istore dX11_drawn_76 ?_
            show TX _ _ _ _ _ _ _ _ [_, _, _, _, _, _, _, _, _] _
            refine T_const dX11_drawn_78 ?_
            refine T_istore dX11_drawn_79 ?_
            show TX _ _ _ _ _ _ _ _ [_, _, _, _, _, _, _, _, _] _
            obtain ⟨q81_17, hc81_17, hf⟩ := bind_t hf
            refine X_wk (WK.s (WK.n (WK.s (WK.s (WK.s (WK.s (WK.s (WK.s (WK.n WK.e))))))))) (lX11_drawn_81 Z _ _ _ 2000 _ _ _ _ _ hc81_17 ?_)
            intro q81_17z hr
            subst hr
            refine T_iload dX11_drawn_192 rfl ?_
            refine T_if_ge dX11_drawn_193 (fun c193_18 => ?_) (fun c193_18 => ?_)
            · replace hf := ite_t c193_18 hf
              refine T_iload dX11_drawn_201 rfl ?_
              obtain rfl := Option.some.inj hf
              exact X_ri dX11_drawn_203 ⟨rfl, rfl⟩
            · replace hf := ite_f c193_18 hf
              refine T_iload dX11_drawn_196 rfl ?_
              refine T_goto dX11_drawn_198 ?_
              obtain rfl := Option.some.inj hf
              exact X_ri dX11_drawn_203 ⟨rfl, rfl⟩
          refine T_icmp_eq dX11_drawn_55 (fun c55_19 => ?_) (fun c55_19 => ?_)
          · replace hf := ite_t c55_19 hf
            exact X_wk (WK.s (WK.s (WK.s (WK.s (WK.n (WK.n (WK.n (WK.n (WK.n WK.e))))))))) (J69 _ _ _ _ hf)
          · replace hf := ite_f c55_19 hf
            refine T_aload dX11_drawn_58 rfl ?_
            refine T_iload dX11_drawn_59 rfl ?_
            refine T_i2l dX11_drawn_60 ?_
            obtain ⟨q61_20, hc61_20, hf⟩ := bind_t hf
            refine X_Vv (qX11_isLost Z _ hc61_20) (Nat.le_of_ble_eq_true rfl) dX11_drawn_61 lvX11_123 rfl rfl ob73 (Nat.le_of_ble_eq_true rfl) ?_
            refine T_if_ne dX11_drawn_64 (fun c64_21 => ?_) (fun c64_21 => ?_)
            · replace hf := ite_f c64_21 hf
              exact X_wk (WK.s (WK.s (WK.s (WK.s (WK.n (WK.n (WK.n (WK.n (WK.n WK.e))))))))) (J69 _ _ _ _ hf)
            · replace hf := ite_t c64_21 hf
              refine T_const dX11_drawn_67 ?_
              obtain rfl := Option.some.inj hf
              exact X_ri dX11_drawn_68 ⟨rfl, rfl⟩
def sX11_night_25 (ih : aH → Int32 → Option aH) (x : aH) (l2 : Int32) : Option aH := if (fi x 73 6) ≤ l2 then some x else if (0 : Int32) ≤ l2 ∧ l2 < (10 : Int32) then if (0 : Int32) ≤ l2 ∧ l2 < (172 : Int32) then if (0 : Int32) ≤ l2 ∧ l2 < (10 : Int32) then if (0 : Int32) ≤ ((30 : Int32) + l2) ∧ ((30 : Int32) + l2) < (172 : Int32) then ih (sri (sri x 74 (ix l2) (ri x 81 (ix l2))) 74 (ix ((30 : Int32) + l2)) (ri (sri x 74 (ix l2) (ri x 81 (ix l2))) 82 (ix l2))) (l2 + (1 : Int32)) else none else none else none else none
def wX11_night_25 : Nat → aH → Int32 → Option aH
  | 0 => fun _ _ => none
  | n + 1 => sX11_night_25 (wX11_night_25 n)
def jX11_night_135 (x : aH) : Option (Int32 × aH) := some ((fi x 73 22), x)
def jX11_night_107 (x : aH) (s1 : Int32) (s2 : Int32) (s3 : Int32) : Option (Int32 × aH) := if (0 : Int32) ≤ s1 ∧ s1 < (5 : Int32) then jX11_night_135 (sri (sri (sri x 89 (ix s1) (s2 + s3)) 89 (ix (2 : Int32)) ((ri (sri x 89 (ix s1) (s2 + s3)) 89 (ix (2 : Int32))) + (fi (sri x 89 (ix s1) (s2 + s3)) 73 21))) 89 (ix (3 : Int32)) ((ri (sri (sri x 89 (ix s1) (s2 + s3)) 89 (ix (2 : Int32)) ((ri (sri x 89 (ix s1) (s2 + s3)) 89 (ix (2 : Int32))) + (fi (sri x 89 (ix s1) (s2 + s3)) 73 21))) 89 (ix (3 : Int32))) + (fi (sri (sri x 89 (ix s1) (s2 + s3)) 89 (ix (2 : Int32)) ((ri (sri x 89 (ix s1) (s2 + s3)) 89 (ix (2 : Int32))) + (fi (sri x 89 (ix s1) (s2 + s3)) 73 21))) 73 22))) else none
def fX11_night (x : aH) (p1 : Int32) : Option (Int32 × aH) := (fX11_within (Int32.toInt64 p1) (0 : Int64) (4 : Int64)).bind fun q6_1 => if q6_1 = (0 : Int32) then some ((-1 : Int32), x) else (fX11_begins x).bind fun q15_3 => (fX11_goesNight q15_3 p1).bind fun q20_4 => (wX11_night_25 2000 q20_4 (0 : Int32)).bind fun q25_10 => if (fi (sri (sri q25_10 74 (ix (169 : Int32)) (fi q25_10 73 19)) 89 (ix (0 : Int32)) ((ri (sri q25_10 74 (ix (169 : Int32)) (fi q25_10 73 19)) 89 (ix (0 : Int32))) + (1 : Int32))) 73 20) = (0 : Int32) then jX11_night_107 (sri (sri q25_10 74 (ix (169 : Int32)) (fi q25_10 73 19)) 89 (ix (0 : Int32)) ((ri (sri q25_10 74 (ix (169 : Int32)) (fi q25_10 73 19)) 89 (ix (0 : Int32))) + (1 : Int32))) (1 : Int32) (ri (sri (sri q25_10 74 (ix (169 : Int32)) (fi q25_10 73 19)) 89 (ix (0 : Int32)) ((ri (sri q25_10 74 (ix (169 : Int32)) (fi q25_10 73 19)) 89 (ix (0 : Int32))) + (1 : Int32))) 89 (ix (1 : Int32))) (0 : Int32) else jX11_night_107 (sri (sri q25_10 74 (ix (169 : Int32)) (fi q25_10 73 19)) 89 (ix (0 : Int32)) ((ri (sri q25_10 74 (ix (169 : Int32)) (fi q25_10 73 19)) 89 (ix (0 : Int32))) + (1 : Int32))) (1 : Int32) (ri (sri (sri q25_10 74 (ix (169 : Int32)) (fi q25_10 73 19)) 89 (ix (0 : Int32)) ((ri (sri q25_10 74 (ix (169 : Int32)) (fi q25_10 73 19)) 89 (ix (0 : Int32))) + (1 : Int32))) 89 (ix (1 : Int32))) (1 : Int32)
theorem lX11_night_25 (Z : aZ) (y : aH) {Q : Option Value → aH → Prop} {R : aH} : ∀ (n : Nat) (x : aH) (l2 : Int32), wX11_night_25 n x l2 = some R → (∀ q, R = q → TX false Z mX11_night 69 y q Q 66 [.ref 73, .null, .null] []) → TX false Z mX11_night 69 y x Q 25 [.ref 73, .null, .int l2] [] := by
  intro n
  induction n with
  | zero => intro x l2 hf; cases hf
  | succ n ih =>
    intro x l2 hf ke
    replace hf : sX11_night_25 (wX11_night_25 n) x l2 = some R := hf
    unfold sX11_night_25 at hf
    refine T_iload dX11_night_25 rfl ?_
    refine T_aload dX11_night_26 rfl ?_
    refine X_getf dX11_night_27 lfX11_93 rfl ob73 ?_
    refine T_icmp_ge dX11_night_30 (fun c30_5 => ?_) (fun c30_5 => ?_)
    · replace hf := ite_t c30_5 hf
      exact X_wk (WK.s (WK.n (WK.n WK.e))) (ke _ (Option.some.inj hf).symm)
    · replace hf := ite_f c30_5 hf
      refine T_aload dX11_night_33 rfl ?_
      refine X_getr dX11_night_34 lfX11_9 rfl ob73 rfl ?_
      refine T_iload dX11_night_37 rfl ?_
      refine T_aload dX11_night_38 rfl ?_
      refine X_getr dX11_night_39 lfX11_31 rfl ob73 rfl ?_
      refine T_iload dX11_night_42 rfl ?_
      obtain ⟨hb43_6, hf⟩ := opt_t hf
      refine X_iald (N := 10) dX11_night_43 ar81 rfl hb43_6 ?_
      obtain ⟨hb44_7, hf⟩ := opt_t hf
      refine X_iast (N := 172) dX11_night_44 ar74 rfl hb44_7 ?_
      refine T_aload dX11_night_45 rfl ?_
      refine X_getr dX11_night_46 lfX11_9 rfl ob73 rfl ?_
      refine T_const dX11_night_49 ?_
      refine T_iload dX11_night_51 rfl ?_
      refine T_iadd dX11_night_52 ?_
      refine T_aload dX11_night_53 rfl ?_
      refine X_getr dX11_night_54 lfX11_34 rfl ob73 rfl ?_
      refine T_iload dX11_night_57 rfl ?_
      obtain ⟨hb58_8, hf⟩ := opt_t hf
      refine X_iald (N := 10) dX11_night_58 ar82 rfl hb58_8 ?_
      obtain ⟨hb59_9, hf⟩ := opt_t hf
      refine X_iast (N := 172) dX11_night_59 ar74 rfl hb59_9 ?_
      refine T_iinc dX11_night_60 rfl ?_
      show TX _ _ _ _ _ _ _ _ [_, _, _] _
      refine T_goto dX11_night_63 ?_
      exact X_wk (WK.s (WK.n (WK.s WK.e))) (ih _ _ hf ke)
theorem qX11_night (Z : aZ) (y : aH) {x : aH} {p1 : Int32} {q : (Int32 × aH)} (hf : fX11_night x p1 = some q) : CX false Z mX11_night 69 [.ref 73, .int p1] y x (RV (.int q.1) q.2) := by
  refine CX.of mokX11_night (Nat.le_of_ble_eq_true rfl) ?_
  show TX _ _ _ _ _ _ _ _ [_, _, _] _
  unfold fX11_night at hf
  refine T_iload dX11_night_0 rfl ?_
  refine T_i2l dX11_night_1 ?_
  refine T_constL dX11_night_2 ?_
  refine T_constL dX11_night_3 ?_
  obtain ⟨q6_1, hc6_1, hf⟩ := bind_t hf
  refine X_Sv (qX11_within _ Z _ _ hc6_1) (Nat.le_of_ble_eq_true rfl) dX11_night_6 lsX11_96 rfl rfl (Nat.le_of_ble_eq_true rfl) ?_
  refine T_if_ne dX11_night_9 (fun c9_2 => ?_) (fun c9_2 => ?_)
  · replace hf := ite_f c9_2 hf
    refine T_aload dX11_night_14 rfl ?_
    obtain ⟨q15_3, hc15_3, hf⟩ := bind_t hf
    refine X_Vn (qX11_begins Z _ hc15_3) (Nat.le_of_ble_eq_true rfl) dX11_night_15 lvX11_236 rfl rfl ob73 (Nat.le_of_ble_eq_true rfl) ?_
    refine T_aload dX11_night_18 rfl ?_
    refine T_iload dX11_night_19 rfl ?_
    obtain ⟨q20_4, hc20_4, hf⟩ := bind_t hf
    refine X_Vn (qX11_goesNight Z _ hc20_4) (Nat.le_of_ble_eq_true rfl) dX11_night_20 lvX11_246 rfl rfl ob73 (Nat.le_of_ble_eq_true rfl) ?_
    refine T_const dX11_night_23 ?_
    refine T_istore dX11_night_24 ?_
    show TX _ _ _ _ _ _ _ _ [_, _, _] _
    obtain ⟨q25_10, hc25_10, hf⟩ := bind_t hf
    refine X_wk (WK.s (WK.n (WK.s WK.e))) (lX11_night_25 Z _ 2000 _ _ hc25_10 ?_)
    intro q25_10z hr
    subst hr
    refine T_aload dX11_night_66 rfl ?_
    refine X_getr dX11_night_67 lfX11_9 rfl ob73 rfl ?_
    refine T_const dX11_night_70 ?_
    refine T_aload dX11_night_73 rfl ?_
    refine X_getf dX11_night_74 lfX11_200 rfl ob73 ?_
    refine X_iast (N := 172) dX11_night_77 ar74 rfl (by decide) ?_
    refine T_aload dX11_night_78 rfl ?_
    refine X_getr dX11_night_79 lfX11_55 rfl ob73 rfl ?_
    refine T_const dX11_night_82 ?_
    refine T_dup2 dX11_night_83 rfl rfl ?_
    refine X_iald (N := 5) dX11_night_84 ar89 rfl (by decide) ?_
    refine T_const dX11_night_85 ?_
    refine T_iadd dX11_night_86 ?_
    refine X_iast (N := 5) dX11_night_87 ar89 rfl (by decide) ?_
    refine T_aload dX11_night_88 rfl ?_
    refine X_getr dX11_night_89 lfX11_55 rfl ob73 rfl ?_
    refine T_const dX11_night_92 ?_
    refine T_dup2 dX11_night_93 rfl rfl ?_
    refine X_iald (N := 5) dX11_night_94 ar89 rfl (by decide) ?_
    refine T_aload dX11_night_95 rfl ?_
    refine X_getf dX11_night_96 lfX11_214 rfl ob73 ?_
    have J107 : ∀ (x : aH) (s1 : Int32) (s2 : Int32) (s3 : Int32), jX11_night_107 x s1 s2 s3 = some q → TX false Z mX11_night 69 y x (RV (.int q.1) q.2) 107 [.ref 73, .null, .null] [.int s3, .int s2, .int s1, .ref 89] := by
      intro x s1 s2 s3 hf
      unfold jX11_night_107 at hf
      refine T_iadd dX11_night_107 ?_
      obtain ⟨hb108_11, hf⟩ := opt_t hf
      refine X_iast (N := 5) dX11_night_108 ar89 rfl hb108_11 ?_
      refine T_aload dX11_night_109 rfl ?_
      refine X_getr dX11_night_110 lfX11_55 rfl ob73 rfl ?_
      refine T_const dX11_night_113 ?_
      refine T_dup2 dX11_night_114 rfl rfl ?_
      refine X_iald (N := 5) dX11_night_115 ar89 rfl (by decide) ?_
      refine T_aload dX11_night_116 rfl ?_
      refine X_getf dX11_night_117 lfX11_218 rfl ob73 ?_
      refine T_iadd dX11_night_120 ?_
      refine X_iast (N := 5) dX11_night_121 ar89 rfl (by decide) ?_
      refine T_aload dX11_night_122 rfl ?_
      refine X_getr dX11_night_123 lfX11_55 rfl ob73 rfl ?_
      refine T_const dX11_night_126 ?_
      refine T_dup2 dX11_night_127 rfl rfl ?_
      refine X_iald (N := 5) dX11_night_128 ar89 rfl (by decide) ?_
      refine T_aload dX11_night_129 rfl ?_
      refine X_getf dX11_night_130 lfX11_221 rfl ob73 ?_
      refine T_iadd dX11_night_133 ?_
      refine X_iast (N := 5) dX11_night_134 ar89 rfl (by decide) ?_
      have J135 : ∀ (x : aH), jX11_night_135 x = some q → TX false Z mX11_night 69 y x (RV (.int q.1) q.2) 135 [.ref 73, .null, .null] [] := by
        intro x hf
        unfold jX11_night_135 at hf
        refine T_aload dX11_night_135 rfl ?_
        refine X_getf dX11_night_136 lfX11_221 rfl ob73 ?_
        obtain rfl := Option.some.inj hf
        exact X_ri dX11_night_139 ⟨rfl, rfl⟩
      exact X_wk (WK.s (WK.n (WK.n WK.e))) (J135 _ hf)
    refine T_if_eq dX11_night_99 (fun c99_12 => ?_) (fun c99_12 => ?_)
    · replace hf := ite_t c99_12 hf
      refine T_const dX11_night_106 ?_
      exact X_wk (WK.s (WK.n (WK.n WK.e))) (J107 _ _ _ _ hf)
    · replace hf := ite_f c99_12 hf
      refine T_const dX11_night_102 ?_
      refine T_goto dX11_night_103 ?_
      exact X_wk (WK.s (WK.n (WK.n WK.e))) (J107 _ _ _ _ hf)
  · replace hf := ite_t c9_2 hf
    refine T_const dX11_night_12 ?_
    obtain rfl := Option.some.inj hf
    exact X_ri dX11_night_13 ⟨rfl, rfl⟩
def jX11_oil_53 (x : aH) (l1 : Int32) (s1 : Int32) (s2 : Int32) : Option (Int32 × aH) := if (0 : Int32) ≤ s1 ∧ s1 < (172 : Int32) then some ((ri (sri (sri x 74 (ix s1) s2) 89 (ix (4 : Int32)) ((ri (sri x 74 (ix s1) s2) 89 (ix (4 : Int32))) + l1)) 74 (ix (169 : Int32))), (sri (sri x 74 (ix s1) s2) 89 (ix (4 : Int32)) ((ri (sri x 74 (ix s1) s2) 89 (ix (4 : Int32))) + l1))) else none
def fX11_oil (x : aH) (p1 : Int32) : Option (Int32 × aH) := (fX11_within (Int32.toInt64 p1) (1 : Int64) (999 : Int64)).bind fun q6_1 => if q6_1 = (0 : Int32) then some ((-1 : Int32), x) else if ((ri x 74 (ix (169 : Int32))) + p1) ≤ (999 : Int32) then jX11_oil_53 x p1 (169 : Int32) ((ri x 74 (ix (169 : Int32))) + p1) else jX11_oil_53 x p1 (169 : Int32) (999 : Int32)
theorem qX11_oil (Z : aZ) (y : aH) {x : aH} {p1 : Int32} {q : (Int32 × aH)} (hf : fX11_oil x p1 = some q) : CX false Z mX11_oil 1 [.ref 73, .int p1] y x (RV (.int q.1) q.2) := by
  refine CX.of mokX11_oil (Nat.le_of_ble_eq_true rfl) ?_
  show TX _ _ _ _ _ _ _ _ [_, _] _
  unfold fX11_oil at hf
  refine T_iload dX11_oil_0 rfl ?_
  refine T_i2l dX11_oil_1 ?_
  refine T_constL dX11_oil_2 ?_
  refine T_constL dX11_oil_3 ?_
  obtain ⟨q6_1, hc6_1, hf⟩ := bind_t hf
  refine X_Sv (qX11_within _ Z _ _ hc6_1) (Nat.le_of_ble_eq_true rfl) dX11_oil_6 lsX11_96 rfl rfl (Nat.le_of_ble_eq_true rfl) ?_
  refine T_if_ne dX11_oil_9 (fun c9_2 => ?_) (fun c9_2 => ?_)
  · replace hf := ite_f c9_2 hf
    refine T_aload dX11_oil_14 rfl ?_
    refine X_getr dX11_oil_15 lfX11_9 rfl ob73 rfl ?_
    refine T_const dX11_oil_18 ?_
    refine T_aload dX11_oil_21 rfl ?_
    refine X_getr dX11_oil_22 lfX11_9 rfl ob73 rfl ?_
    refine T_const dX11_oil_25 ?_
    refine X_iald (N := 172) dX11_oil_28 ar74 rfl (by decide) ?_
    refine T_iload dX11_oil_29 rfl ?_
    refine T_iadd dX11_oil_30 ?_
    refine T_const dX11_oil_31 ?_
    have J53 : ∀ (x : aH) (l1 : Int32) (s1 : Int32) (s2 : Int32), jX11_oil_53 x l1 s1 s2 = some q → TX false Z mX11_oil 1 y x (RV (.int q.1) q.2) 53 [.ref 73, .int l1] [.int s2, .int s1, .ref 74] := by
      intro x l1 s1 s2 hf
      unfold jX11_oil_53 at hf
      obtain ⟨hb53_3, hf⟩ := opt_t hf
      refine X_iast (N := 172) dX11_oil_53 ar74 rfl hb53_3 ?_
      refine T_aload dX11_oil_54 rfl ?_
      refine X_getr dX11_oil_55 lfX11_55 rfl ob73 rfl ?_
      refine T_const dX11_oil_58 ?_
      refine T_dup2 dX11_oil_59 rfl rfl ?_
      refine X_iald (N := 5) dX11_oil_60 ar89 rfl (by decide) ?_
      refine T_iload dX11_oil_61 rfl ?_
      refine T_iadd dX11_oil_62 ?_
      refine X_iast (N := 5) dX11_oil_63 ar89 rfl (by decide) ?_
      refine T_aload dX11_oil_64 rfl ?_
      refine X_getr dX11_oil_65 lfX11_9 rfl ob73 rfl ?_
      refine T_const dX11_oil_68 ?_
      refine X_iald (N := 172) dX11_oil_71 ar74 rfl (by decide) ?_
      obtain rfl := Option.some.inj hf
      exact X_ri dX11_oil_72 ⟨rfl, rfl⟩
    refine T_icmp_le dX11_oil_34 (fun c34_4 => ?_) (fun c34_4 => ?_)
    · replace hf := ite_t c34_4 hf
      refine T_aload dX11_oil_43 rfl ?_
      refine X_getr dX11_oil_44 lfX11_9 rfl ob73 rfl ?_
      refine T_const dX11_oil_47 ?_
      refine X_iald (N := 172) dX11_oil_50 ar74 rfl (by decide) ?_
      refine T_iload dX11_oil_51 rfl ?_
      refine T_iadd dX11_oil_52 ?_
      exact X_wk (WK.s (WK.s WK.e)) (J53 _ _ _ _ hf)
    · replace hf := ite_f c34_4 hf
      refine T_const dX11_oil_37 ?_
      refine T_goto dX11_oil_40 ?_
      exact X_wk (WK.s (WK.s WK.e)) (J53 _ _ _ _ hf)
  · replace hf := ite_t c9_2 hf
    refine T_const dX11_oil_12 ?_
    obtain rfl := Option.some.inj hf
    exact X_ri dX11_oil_13 ⟨rfl, rfl⟩
def fX11_led (x : aH) (p1 : Int32) : Option Int32 := (fX11_within (Int32.toInt64 p1) (0 : Int64) (4 : Int64)).bind fun q6_1 => if q6_1 = (0 : Int32) then some (-1 : Int32) else if (0 : Int32) ≤ p1 ∧ p1 < (5 : Int32) then some (ri x 89 (ix p1)) else none
theorem qX11_led (Z : aZ) (y : aH) {x : aH} {p1 : Int32} {q : Int32} (hf : fX11_led x p1 = some q) : CX false Z mX11_led 1 [.ref 73, .int p1] y x (RV (.int q) x) := by
  refine CX.of mokX11_led (Nat.le_of_ble_eq_true rfl) ?_
  show TX _ _ _ _ _ _ _ _ [_, _] _
  unfold fX11_led at hf
  refine T_iload dX11_led_0 rfl ?_
  refine T_i2l dX11_led_1 ?_
  refine T_constL dX11_led_2 ?_
  refine T_constL dX11_led_3 ?_
  obtain ⟨q6_1, hc6_1, hf⟩ := bind_t hf
  refine X_Sv (qX11_within _ Z _ _ hc6_1) (Nat.le_of_ble_eq_true rfl) dX11_led_6 lsX11_96 rfl rfl (Nat.le_of_ble_eq_true rfl) ?_
  refine T_if_eq dX11_led_9 (fun c9_2 => ?_) (fun c9_2 => ?_)
  · replace hf := ite_t c9_2 hf
    refine T_const dX11_led_21 ?_
    obtain rfl := Option.some.inj hf
    exact X_ri dX11_led_22 ⟨rfl, rfl⟩
  · replace hf := ite_f c9_2 hf
    refine T_aload dX11_led_12 rfl ?_
    refine X_getr dX11_led_13 lfX11_55 rfl ob73 rfl ?_
    refine T_iload dX11_led_16 rfl ?_
    obtain ⟨hb17_3, hf⟩ := opt_t hf
    refine X_iald (N := 5) dX11_led_17 ar89 rfl hb17_3 ?_
    refine T_goto dX11_led_18 ?_
    obtain rfl := Option.some.inj hf
    exact X_ri dX11_led_22 ⟨rfl, rfl⟩
def sX11_image_15 (ih : aH → Int32 → Option aH) (x : aH) (l1 : Int32) : Option aH := if (171 : Int32) < l1 then some x else if (0 : Int32) ≤ l1 ∧ l1 < (172 : Int32) then if (0 : Int32) ≤ l1 ∧ l1 < (172 : Int32) then ih (sri x 90 (ix l1) (ri x 74 (ix l1))) (l1 + (1 : Int32)) else none else none
def wX11_image_15 : Nat → aH → Int32 → Option aH
  | 0 => fun _ _ => none
  | n + 1 => sX11_image_15 (wX11_image_15 n)
def sX11_image_42 (ih : aH → Int32 → Option aH) (x : aH) (l1 : Int32) : Option aH := if (5 : Int32) ≤ l1 then some x else if (0 : Int32) ≤ l1 ∧ l1 < (5 : Int32) then if (0 : Int32) ≤ l1 ∧ l1 < (5 : Int32) then ih (sri x 91 (ix l1) (ri x 89 (ix l1))) (l1 + (1 : Int32)) else none else none
def wX11_image_42 : Nat → aH → Int32 → Option aH
  | 0 => fun _ _ => none
  | n + 1 => sX11_image_42 (wX11_image_42 n)
def fX11_image (x : aH) : Option (Int32 × aH) := (wX11_image_15 2000 (sfi (sfi x 73 32 (1 : Int32)) 73 33 (fi (sfi x 73 32 (1 : Int32)) 73 6)) (0 : Int32)).bind fun q15_4 => (wX11_image_42 2000 q15_4 (0 : Int32)).bind fun q42_8 => some ((ri q42_8 89 (ix (0 : Int32))), q42_8)
theorem lX11_image_15 (Z : aZ) (y : aH) {Q : Option Value → aH → Prop} {R : aH} : ∀ (n : Nat) (x : aH) (l1 : Int32), wX11_image_15 n x l1 = some R → (∀ q, R = q → TX false Z mX11_image 0 y q Q 40 [.ref 73, .null] []) → TX false Z mX11_image 0 y x Q 15 [.ref 73, .int l1] [] := by
  intro n
  induction n with
  | zero => intro x l1 hf; cases hf
  | succ n ih =>
    intro x l1 hf ke
    replace hf : sX11_image_15 (wX11_image_15 n) x l1 = some R := hf
    unfold sX11_image_15 at hf
    refine T_iload dX11_image_15 rfl ?_
    refine T_const dX11_image_16 ?_
    refine T_icmp_gt dX11_image_19 (fun c19_1 => ?_) (fun c19_1 => ?_)
    · replace hf := ite_t c19_1 hf
      exact X_wk (WK.s (WK.n WK.e)) (ke _ (Option.some.inj hf).symm)
    · replace hf := ite_f c19_1 hf
      refine T_aload dX11_image_22 rfl ?_
      refine X_getr dX11_image_23 lfX11_58 rfl ob73 rfl ?_
      refine T_iload dX11_image_26 rfl ?_
      refine T_aload dX11_image_27 rfl ?_
      refine X_getr dX11_image_28 lfX11_9 rfl ob73 rfl ?_
      refine T_iload dX11_image_31 rfl ?_
      obtain ⟨hb32_2, hf⟩ := opt_t hf
      refine X_iald (N := 172) dX11_image_32 ar74 rfl hb32_2 ?_
      obtain ⟨hb33_3, hf⟩ := opt_t hf
      refine X_iast (N := 172) dX11_image_33 ar90 rfl hb33_3 ?_
      refine T_iinc dX11_image_34 rfl ?_
      show TX _ _ _ _ _ _ _ _ [_, _] _
      refine T_goto dX11_image_37 ?_
      exact X_wk (WK.s (WK.s WK.e)) (ih _ _ hf ke)
theorem lX11_image_42 (Z : aZ) (y : aH) {Q : Option Value → aH → Prop} {R : aH} : ∀ (n : Nat) (x : aH) (l1 : Int32), wX11_image_42 n x l1 = some R → (∀ q, R = q → TX false Z mX11_image 0 y q Q 65 [.ref 73, .null] []) → TX false Z mX11_image 0 y x Q 42 [.ref 73, .int l1] [] := by
  intro n
  induction n with
  | zero => intro x l1 hf; cases hf
  | succ n ih =>
    intro x l1 hf ke
    replace hf : sX11_image_42 (wX11_image_42 n) x l1 = some R := hf
    unfold sX11_image_42 at hf
    refine T_iload dX11_image_42 rfl ?_
    refine T_const dX11_image_43 ?_
    refine T_icmp_ge dX11_image_44 (fun c44_5 => ?_) (fun c44_5 => ?_)
    · replace hf := ite_t c44_5 hf
      exact X_wk (WK.s (WK.n WK.e)) (ke _ (Option.some.inj hf).symm)
    · replace hf := ite_f c44_5 hf
      refine T_aload dX11_image_47 rfl ?_
      refine X_getr dX11_image_48 lfX11_61 rfl ob73 rfl ?_
      refine T_iload dX11_image_51 rfl ?_
      refine T_aload dX11_image_52 rfl ?_
      refine X_getr dX11_image_53 lfX11_55 rfl ob73 rfl ?_
      refine T_iload dX11_image_56 rfl ?_
      obtain ⟨hb57_6, hf⟩ := opt_t hf
      refine X_iald (N := 5) dX11_image_57 ar89 rfl hb57_6 ?_
      obtain ⟨hb58_7, hf⟩ := opt_t hf
      refine X_iast (N := 5) dX11_image_58 ar91 rfl hb58_7 ?_
      refine T_iinc dX11_image_59 rfl ?_
      show TX _ _ _ _ _ _ _ _ [_, _] _
      refine T_goto dX11_image_62 ?_
      exact X_wk (WK.s (WK.s WK.e)) (ih _ _ hf ke)
theorem qX11_image (Z : aZ) (y : aH) {x : aH} {q : (Int32 × aH)} (hf : fX11_image x = some q) : CX false Z mX11_image 0 [.ref 73] y x (RV (.int q.1) q.2) := by
  refine CX.of mokX11_image (Nat.le_of_ble_eq_true rfl) ?_
  show TX _ _ _ _ _ _ _ _ [_, _] _
  unfold fX11_image at hf
  refine T_aload dX11_image_0 rfl ?_
  refine T_const dX11_image_1 ?_
  refine X_putf dX11_image_2 lfX11_323 rfl rfl ob73 ⟨rfl, rfl⟩ ?_
  refine T_aload dX11_image_5 rfl ?_
  refine T_aload dX11_image_6 rfl ?_
  refine X_getf dX11_image_7 lfX11_93 rfl ob73 ?_
  refine X_putf dX11_image_10 lfX11_326 rfl rfl ob73 ⟨rfl, rfl⟩ ?_
  refine T_const dX11_image_13 ?_
  refine T_istore dX11_image_14 ?_
  show TX _ _ _ _ _ _ _ _ [_, _] _
  obtain ⟨q15_4, hc15_4, hf⟩ := bind_t hf
  refine X_wk (WK.s (WK.s WK.e)) (lX11_image_15 Z _ 2000 _ _ hc15_4 ?_)
  intro q15_4z hr
  subst hr
  refine T_const dX11_image_40 ?_
  refine T_istore dX11_image_41 ?_
  show TX _ _ _ _ _ _ _ _ [_, _] _
  obtain ⟨q42_8, hc42_8, hf⟩ := bind_t hf
  refine X_wk (WK.s (WK.s WK.e)) (lX11_image_42 Z _ 2000 _ _ hc42_8 ?_)
  intro q42_8z hr
  subst hr
  refine T_aload dX11_image_65 rfl ?_
  refine X_getr dX11_image_66 lfX11_55 rfl ob73 rfl ?_
  refine T_const dX11_image_69 ?_
  refine X_iald (N := 5) dX11_image_70 ar89 rfl (by decide) ?_
  obtain rfl := Option.some.inj hf
  exact X_ri dX11_image_71 ⟨rfl, rfl⟩
def sX11_back_12 (ih : aH → Int32 → Option aH) (x : aH) (l1 : Int32) : Option aH := if (fi x 73 33) ≤ l1 then some x else if (0 : Int32) ≤ l1 ∧ l1 < (172 : Int32) then if (0 : Int32) ≤ l1 ∧ l1 < (172 : Int32) then if (0 : Int32) ≤ ((30 : Int32) + l1) ∧ ((30 : Int32) + l1) < (172 : Int32) then if (0 : Int32) ≤ ((30 : Int32) + l1) ∧ ((30 : Int32) + l1) < (172 : Int32) then ih (sri (sri x 74 (ix l1) (ri x 90 (ix l1))) 74 (ix ((30 : Int32) + l1)) (ri (sri x 74 (ix l1) (ri x 90 (ix l1))) 90 (ix ((30 : Int32) + l1)))) (l1 + (1 : Int32)) else none else none else none else none
def wX11_back_12 : Nat → aH → Int32 → Option aH
  | 0 => fun _ _ => none
  | n + 1 => sX11_back_12 (wX11_back_12 n)
def sX11_back_74 (ih : aH → Int32 → Option aH) (x : aH) (l1 : Int32) : Option aH := if (5 : Int32) ≤ l1 then some x else if (0 : Int32) ≤ l1 ∧ l1 < (5 : Int32) then if (0 : Int32) ≤ l1 ∧ l1 < (5 : Int32) then ih (sri x 89 (ix l1) (ri x 91 (ix l1))) (l1 + (1 : Int32)) else none else none
def wX11_back_74 : Nat → aH → Int32 → Option aH
  | 0 => fun _ _ => none
  | n + 1 => sX11_back_74 (wX11_back_74 n)
def fX11_back (x : aH) : Option (Int32 × aH) := if (fi x 73 32) = (0 : Int32) then some ((-5 : Int32), x) else (wX11_back_12 2000 x (0 : Int32)).bind fun q12_7 => (wX11_back_74 2000 (sri q12_7 74 (ix (169 : Int32)) (ri q12_7 90 (ix (169 : Int32)))) (0 : Int32)).bind fun q74_11 => some ((ri q74_11 89 (ix (0 : Int32))), q74_11)
theorem lX11_back_12 (Z : aZ) (y : aH) {Q : Option Value → aH → Prop} {R : aH} : ∀ (n : Nat) (x : aH) (l1 : Int32), wX11_back_12 n x l1 = some R → (∀ q, R = q → TX false Z mX11_back 0 y q Q 56 [.ref 73, .null] []) → TX false Z mX11_back 0 y x Q 12 [.ref 73, .int l1] [] := by
  intro n
  induction n with
  | zero => intro x l1 hf; cases hf
  | succ n ih =>
    intro x l1 hf ke
    replace hf : sX11_back_12 (wX11_back_12 n) x l1 = some R := hf
    unfold sX11_back_12 at hf
    refine T_iload dX11_back_12 rfl ?_
    refine T_aload dX11_back_13 rfl ?_
    refine X_getf dX11_back_14 lfX11_326 rfl ob73 ?_
    refine T_icmp_ge dX11_back_17 (fun c17_2 => ?_) (fun c17_2 => ?_)
    · replace hf := ite_t c17_2 hf
      exact X_wk (WK.s (WK.n WK.e)) (ke _ (Option.some.inj hf).symm)
    · replace hf := ite_f c17_2 hf
      refine T_aload dX11_back_20 rfl ?_
      refine X_getr dX11_back_21 lfX11_9 rfl ob73 rfl ?_
      refine T_iload dX11_back_24 rfl ?_
      refine T_aload dX11_back_25 rfl ?_
      refine X_getr dX11_back_26 lfX11_58 rfl ob73 rfl ?_
      refine T_iload dX11_back_29 rfl ?_
      obtain ⟨hb30_3, hf⟩ := opt_t hf
      refine X_iald (N := 172) dX11_back_30 ar90 rfl hb30_3 ?_
      obtain ⟨hb31_4, hf⟩ := opt_t hf
      refine X_iast (N := 172) dX11_back_31 ar74 rfl hb31_4 ?_
      refine T_aload dX11_back_32 rfl ?_
      refine X_getr dX11_back_33 lfX11_9 rfl ob73 rfl ?_
      refine T_const dX11_back_36 ?_
      refine T_iload dX11_back_38 rfl ?_
      refine T_iadd dX11_back_39 ?_
      refine T_aload dX11_back_40 rfl ?_
      refine X_getr dX11_back_41 lfX11_58 rfl ob73 rfl ?_
      refine T_const dX11_back_44 ?_
      refine T_iload dX11_back_46 rfl ?_
      refine T_iadd dX11_back_47 ?_
      obtain ⟨hb48_5, hf⟩ := opt_t hf
      refine X_iald (N := 172) dX11_back_48 ar90 rfl hb48_5 ?_
      obtain ⟨hb49_6, hf⟩ := opt_t hf
      refine X_iast (N := 172) dX11_back_49 ar74 rfl hb49_6 ?_
      refine T_iinc dX11_back_50 rfl ?_
      show TX _ _ _ _ _ _ _ _ [_, _] _
      refine T_goto dX11_back_53 ?_
      exact X_wk (WK.s (WK.s WK.e)) (ih _ _ hf ke)
theorem lX11_back_74 (Z : aZ) (y : aH) {Q : Option Value → aH → Prop} {R : aH} : ∀ (n : Nat) (x : aH) (l1 : Int32), wX11_back_74 n x l1 = some R → (∀ q, R = q → TX false Z mX11_back 0 y q Q 97 [.ref 73, .null] []) → TX false Z mX11_back 0 y x Q 74 [.ref 73, .int l1] [] := by
  intro n
  induction n with
  | zero => intro x l1 hf; cases hf
  | succ n ih =>
    intro x l1 hf ke
    replace hf : sX11_back_74 (wX11_back_74 n) x l1 = some R := hf
    unfold sX11_back_74 at hf
    refine T_iload dX11_back_74 rfl ?_
    refine T_const dX11_back_75 ?_
    refine T_icmp_ge dX11_back_76 (fun c76_8 => ?_) (fun c76_8 => ?_)
    · replace hf := ite_t c76_8 hf
      exact X_wk (WK.s (WK.n WK.e)) (ke _ (Option.some.inj hf).symm)
    · replace hf := ite_f c76_8 hf
      refine T_aload dX11_back_79 rfl ?_
      refine X_getr dX11_back_80 lfX11_55 rfl ob73 rfl ?_
      refine T_iload dX11_back_83 rfl ?_
      refine T_aload dX11_back_84 rfl ?_
      refine X_getr dX11_back_85 lfX11_61 rfl ob73 rfl ?_
      refine T_iload dX11_back_88 rfl ?_
      obtain ⟨hb89_9, hf⟩ := opt_t hf
      refine X_iald (N := 5) dX11_back_89 ar91 rfl hb89_9 ?_
      obtain ⟨hb90_10, hf⟩ := opt_t hf
      refine X_iast (N := 5) dX11_back_90 ar89 rfl hb90_10 ?_
      refine T_iinc dX11_back_91 rfl ?_
      show TX _ _ _ _ _ _ _ _ [_, _] _
      refine T_goto dX11_back_94 ?_
      exact X_wk (WK.s (WK.s WK.e)) (ih _ _ hf ke)
theorem qX11_back (Z : aZ) (y : aH) {x : aH} {q : (Int32 × aH)} (hf : fX11_back x = some q) : CX false Z mX11_back 0 [.ref 73] y x (RV (.int q.1) q.2) := by
  refine CX.of mokX11_back (Nat.le_of_ble_eq_true rfl) ?_
  show TX _ _ _ _ _ _ _ _ [_, _] _
  unfold fX11_back at hf
  refine T_aload dX11_back_0 rfl ?_
  refine X_getf dX11_back_1 lfX11_323 rfl ob73 ?_
  refine T_if_ne dX11_back_4 (fun c4_1 => ?_) (fun c4_1 => ?_)
  · replace hf := ite_f c4_1 hf
    refine T_const dX11_back_10 ?_
    refine T_istore dX11_back_11 ?_
    show TX _ _ _ _ _ _ _ _ [_, _] _
    obtain ⟨q12_7, hc12_7, hf⟩ := bind_t hf
    refine X_wk (WK.s (WK.s WK.e)) (lX11_back_12 Z _ 2000 _ _ hc12_7 ?_)
    intro q12_7z hr
    subst hr
    refine T_aload dX11_back_56 rfl ?_
    refine X_getr dX11_back_57 lfX11_9 rfl ob73 rfl ?_
    refine T_const dX11_back_60 ?_
    refine T_aload dX11_back_63 rfl ?_
    refine X_getr dX11_back_64 lfX11_58 rfl ob73 rfl ?_
    refine T_const dX11_back_67 ?_
    refine X_iald (N := 172) dX11_back_70 ar90 rfl (by decide) ?_
    refine X_iast (N := 172) dX11_back_71 ar74 rfl (by decide) ?_
    refine T_const dX11_back_72 ?_
    refine T_istore dX11_back_73 ?_
    show TX _ _ _ _ _ _ _ _ [_, _] _
    obtain ⟨q74_11, hc74_11, hf⟩ := bind_t hf
    refine X_wk (WK.s (WK.s WK.e)) (lX11_back_74 Z _ 2000 _ _ hc74_11 ?_)
    intro q74_11z hr
    subst hr
    refine T_aload dX11_back_97 rfl ?_
    refine X_getr dX11_back_98 lfX11_55 rfl ob73 rfl ?_
    refine T_const dX11_back_101 ?_
    refine X_iald (N := 5) dX11_back_102 ar89 rfl (by decide) ?_
    obtain rfl := Option.some.inj hf
    exact X_ri dX11_back_103 ⟨rfl, rfl⟩
  · replace hf := ite_t c4_1 hf
    refine T_const dX11_back_7 ?_
    obtain rfl := Option.some.inj hf
    exact X_ri dX11_back_9 ⟨rfl, rfl⟩
def fX11_manyHome (x : aH) : Option (Int32 × aH) := (fX11_begins x).bind fun q1_1 => (fX11_homeMany q1_1).bind fun q5_2 => some (q5_2, q1_1)
theorem qX11_manyHome (Z : aZ) (y : aH) {x : aH} {q : (Int32 × aH)} (hf : fX11_manyHome x = some q) : CX false Z mX11_manyHome 1 [.ref 73] y x (RV (.int q.1) q.2) := by
  refine CX.of mokX11_manyHome (Nat.le_of_ble_eq_true rfl) ?_
  show TX _ _ _ _ _ _ _ _ [_] _
  unfold fX11_manyHome at hf
  refine T_aload dX11_manyHome_0 rfl ?_
  obtain ⟨q1_1, hc1_1, hf⟩ := bind_t hf
  refine X_Vn (qX11_begins Z _ hc1_1) (Nat.le_of_ble_eq_true rfl) dX11_manyHome_1 lvX11_236 rfl rfl ob73 (Nat.le_of_ble_eq_true rfl) ?_
  refine T_aload dX11_manyHome_4 rfl ?_
  obtain ⟨q5_2, hc5_2, hf⟩ := bind_t hf
  refine X_Vv (qX11_homeMany Z _ hc5_2) (Nat.le_of_ble_eq_true rfl) dX11_manyHome_5 lvX11_262 rfl rfl ob73 (Nat.le_of_ble_eq_true rfl) ?_
  obtain rfl := Option.some.inj hf
  exact X_ri dX11_manyHome_8 ⟨rfl, rfl⟩
def fX11_isBody (x : aH) (p1 : Int32) : Option Int32 := (fX11_within (Int32.toInt64 p1) (0 : Int64) (Int32.toInt64 ((fi x 73 36) - (1 : Int32)))).bind fun q10_1 => if q10_1 = (0 : Int32) ∨ q10_1 = (1 : Int32) then some q10_1 else none
theorem qX11_isBody (Z : aZ) (y : aH) {x : aH} {p1 : Int32} {q : Int32} (hf : fX11_isBody x p1 = some q) : CX false Z mX11_isBody 1 [.ref 73, .int p1] y x (RV (.int q) x) := by
  refine CX.of mokX11_isBody (Nat.le_of_ble_eq_true rfl) ?_
  show TX _ _ _ _ _ _ _ _ [_, _] _
  unfold fX11_isBody at hf
  refine T_iload dX11_isBody_0 rfl ?_
  refine T_i2l dX11_isBody_1 ?_
  refine T_constL dX11_isBody_2 ?_
  refine T_aload dX11_isBody_3 rfl ?_
  refine X_getf dX11_isBody_4 lfX11_329 rfl ob73 ?_
  refine T_const dX11_isBody_7 ?_
  refine T_isub dX11_isBody_8 ?_
  refine T_i2l dX11_isBody_9 ?_
  obtain ⟨q10_1, hc10_1, hf⟩ := bind_t hf
  refine X_Sv (qX11_within _ Z _ _ hc10_1) (Nat.le_of_ble_eq_true rfl) dX11_isBody_10 lsX11_96 rfl rfl (Nat.le_of_ble_eq_true rfl) ?_
  obtain ⟨h01, hf⟩ := opt_t hf
  obtain rfl := Option.some.inj hf
  exact X_rz dX11_isBody_13 h01 ⟨rfl, rfl⟩
def fX11_kindOf (x : aH) (p1 : Int32) : Option Int32 := if (0 : Int32) ≤ p1 ∧ p1 < (50 : Int32) then some (ri x 92 (ix p1)) else none
theorem qX11_kindOf (Z : aZ) (y : aH) {x : aH} {p1 : Int32} {q : Int32} (hf : fX11_kindOf x p1 = some q) : CX false Z mX11_kindOf 0 [.ref 73, .int p1] y x (RV (.int q) x) := by
  refine CX.of mokX11_kindOf (Nat.le_of_ble_eq_true rfl) ?_
  show TX _ _ _ _ _ _ _ _ [_, _] _
  unfold fX11_kindOf at hf
  refine T_aload dX11_kindOf_0 rfl ?_
  refine X_getr dX11_kindOf_1 lfX11_64 rfl ob73 rfl ?_
  refine T_iload dX11_kindOf_4 rfl ?_
  obtain ⟨hb5_1, hf⟩ := opt_t hf
  refine X_iald (N := 50) dX11_kindOf_5 ar92 rfl hb5_1 ?_
  obtain rfl := Option.some.inj hf
  exact X_ri dX11_kindOf_6 ⟨rfl, rfl⟩
def fX11_body (x : aH) (p1 : Int32) : Option (Int32 × aH) := (fX11_within (Int32.toInt64 p1) (0 : Int64) (7 : Int64)).bind fun q6_1 => if q6_1 = (0 : Int32) then some ((-1 : Int32), x) else if (fi x 73 36) = (50 : Int32) then some ((-3 : Int32), x) else if (0 : Int32) ≤ (fi x 73 36) ∧ (fi x 73 36) < (50 : Int32) then some (((fi (sfi (sri x 92 (ix (fi x 73 36)) p1) 73 36 ((fi (sri x 92 (ix (fi x 73 36)) p1) 73 36) + (1 : Int32))) 73 36) - (1 : Int32)), (sfi (sri x 92 (ix (fi x 73 36)) p1) 73 36 ((fi (sri x 92 (ix (fi x 73 36)) p1) 73 36) + (1 : Int32)))) else none
theorem qX11_body (Z : aZ) (y : aH) {x : aH} {p1 : Int32} {q : (Int32 × aH)} (hf : fX11_body x p1 = some q) : CX false Z mX11_body 1 [.ref 73, .int p1] y x (RV (.int q.1) q.2) := by
  refine CX.of mokX11_body (Nat.le_of_ble_eq_true rfl) ?_
  show TX _ _ _ _ _ _ _ _ [_, _] _
  unfold fX11_body at hf
  refine T_iload dX11_body_0 rfl ?_
  refine T_i2l dX11_body_1 ?_
  refine T_constL dX11_body_2 ?_
  refine T_constL dX11_body_3 ?_
  obtain ⟨q6_1, hc6_1, hf⟩ := bind_t hf
  refine X_Sv (qX11_within _ Z _ _ hc6_1) (Nat.le_of_ble_eq_true rfl) dX11_body_6 lsX11_96 rfl rfl (Nat.le_of_ble_eq_true rfl) ?_
  refine T_if_ne dX11_body_9 (fun c9_2 => ?_) (fun c9_2 => ?_)
  · replace hf := ite_f c9_2 hf
    refine T_aload dX11_body_14 rfl ?_
    refine X_getf dX11_body_15 lfX11_329 rfl ob73 ?_
    refine T_const dX11_body_18 ?_
    refine T_icmp_ne dX11_body_20 (fun c20_3 => ?_) (fun c20_3 => ?_)
    · replace hf := ite_f c20_3 hf
      refine T_aload dX11_body_26 rfl ?_
      refine X_getr dX11_body_27 lfX11_64 rfl ob73 rfl ?_
      refine T_aload dX11_body_30 rfl ?_
      refine X_getf dX11_body_31 lfX11_329 rfl ob73 ?_
      refine T_iload dX11_body_34 rfl ?_
      obtain ⟨hb35_4, hf⟩ := opt_t hf
      refine X_iast (N := 50) dX11_body_35 ar92 rfl hb35_4 ?_
      refine T_aload dX11_body_36 rfl ?_
      refine T_dup dX11_body_37 rfl ?_
      refine X_getf dX11_body_38 lfX11_329 rfl ob73 ?_
      refine T_const dX11_body_41 ?_
      refine T_iadd dX11_body_42 ?_
      refine X_putf dX11_body_43 lfX11_329 rfl rfl ob73 ⟨rfl, rfl⟩ ?_
      refine T_aload dX11_body_46 rfl ?_
      refine X_getf dX11_body_47 lfX11_329 rfl ob73 ?_
      refine T_const dX11_body_50 ?_
      refine T_isub dX11_body_51 ?_
      obtain rfl := Option.some.inj hf
      exact X_ri dX11_body_52 ⟨rfl, rfl⟩
    · replace hf := ite_t c20_3 hf
      refine T_const dX11_body_23 ?_
      obtain rfl := Option.some.inj hf
      exact X_ri dX11_body_25 ⟨rfl, rfl⟩
  · replace hf := ite_t c9_2 hf
    refine T_const dX11_body_12 ?_
    obtain rfl := Option.some.inj hf
    exact X_ri dX11_body_13 ⟨rfl, rfl⟩
def fX11_above (p0 : Int32) : Option Int32 := if p0 = (3 : Int32) then some (2 : Int32) else if p0 = (4 : Int32) then some (1 : Int32) else if p0 = (5 : Int32) then some (3 : Int32) else if p0 = (7 : Int32) then some (4 : Int32) else some (0 : Int32)
theorem qX11_above (sd : Bool) (Z : aZ) (y : aH) (x : aH) {p0 : Int32} {q : Int32} (hf : fX11_above p0 = some q) : CX sd Z mX11_above 0 [.int p0] y x (RV (.int q) x) := by
  refine CX.of mokX11_above (Nat.le_of_ble_eq_true rfl) ?_
  show TX _ _ _ _ _ _ _ _ [_] _
  unfold fX11_above at hf
  refine T_iload dX11_above_0 rfl ?_
  refine T_const dX11_above_1 ?_
  refine T_icmp_ne dX11_above_2 (fun c2_1 => ?_) (fun c2_1 => ?_)
  · replace hf := ite_f c2_1 hf
    refine T_iload dX11_above_9 rfl ?_
    refine T_const dX11_above_10 ?_
    refine T_icmp_ne dX11_above_11 (fun c11_2 => ?_) (fun c11_2 => ?_)
    · replace hf := ite_f c11_2 hf
      refine T_iload dX11_above_18 rfl ?_
      refine T_const dX11_above_19 ?_
      refine T_icmp_ne dX11_above_20 (fun c20_3 => ?_) (fun c20_3 => ?_)
      · replace hf := ite_f c20_3 hf
        refine T_iload dX11_above_27 rfl ?_
        refine T_const dX11_above_28 ?_
        refine T_icmp_ne dX11_above_30 (fun c30_4 => ?_) (fun c30_4 => ?_)
        · replace hf := ite_f c30_4 hf
          refine T_const dX11_above_37 ?_
          obtain rfl := Option.some.inj hf
          exact X_ri dX11_above_38 ⟨rfl, rfl⟩
        · replace hf := ite_t c30_4 hf
          refine T_const dX11_above_33 ?_
          refine T_goto dX11_above_34 ?_
          obtain rfl := Option.some.inj hf
          exact X_ri dX11_above_38 ⟨rfl, rfl⟩
      · replace hf := ite_t c20_3 hf
        refine T_const dX11_above_23 ?_
        refine T_goto dX11_above_24 ?_
        obtain rfl := Option.some.inj hf
        exact X_ri dX11_above_38 ⟨rfl, rfl⟩
    · replace hf := ite_t c11_2 hf
      refine T_const dX11_above_14 ?_
      refine T_goto dX11_above_15 ?_
      obtain rfl := Option.some.inj hf
      exact X_ri dX11_above_38 ⟨rfl, rfl⟩
  · replace hf := ite_t c2_1 hf
    refine T_const dX11_above_5 ?_
    refine T_goto dX11_above_6 ?_
    obtain rfl := Option.some.inj hf
    exact X_ri dX11_above_38 ⟨rfl, rfl⟩
def fX11_runs (x : aH) (p1 : Int32) : Option aH := if (24 : Int32) ≤ (fi x 73 39) then some (sfi x 73 39 ((fi x 73 39) + (1 : Int32))) else if (0 : Int32) ≤ (fi x 73 39) ∧ (fi x 73 39) < (24 : Int32) then some (sfi (sri x 93 (ix (fi x 73 39)) p1) 73 39 ((fi (sri x 93 (ix (fi x 73 39)) p1) 73 39) + (1 : Int32))) else none
theorem qX11_runs (Z : aZ) (y : aH) {x : aH} {p1 : Int32} {q : aH} (hf : fX11_runs x p1 = some q) : CX false Z mX11_runs 0 [.ref 73, .int p1] y x (RN q) := by
  refine CX.of mokX11_runs (Nat.le_of_ble_eq_true rfl) ?_
  show TX _ _ _ _ _ _ _ _ [_, _] _
  unfold fX11_runs at hf
  refine T_aload dX11_runs_0 rfl ?_
  refine X_getf dX11_runs_1 lfX11_332 rfl ob73 ?_
  refine T_const dX11_runs_4 ?_
  refine T_icmp_ge dX11_runs_6 (fun c6_1 => ?_) (fun c6_1 => ?_)
  · replace hf := ite_t c6_1 hf
    refine T_aload dX11_runs_19 rfl ?_
    refine T_dup dX11_runs_20 rfl ?_
    refine X_getf dX11_runs_21 lfX11_332 rfl ob73 ?_
    refine T_const dX11_runs_24 ?_
    refine T_iadd dX11_runs_25 ?_
    refine X_putf dX11_runs_26 lfX11_332 rfl rfl ob73 ⟨rfl, rfl⟩ ?_
    obtain rfl := Option.some.inj hf
    exact X_rv dX11_runs_29 ⟨rfl, rfl⟩
  · replace hf := ite_f c6_1 hf
    refine T_aload dX11_runs_9 rfl ?_
    refine X_getr dX11_runs_10 lfX11_67 rfl ob73 rfl ?_
    refine T_aload dX11_runs_13 rfl ?_
    refine X_getf dX11_runs_14 lfX11_332 rfl ob73 ?_
    refine T_iload dX11_runs_17 rfl ?_
    obtain ⟨hb18_2, hf⟩ := opt_t hf
    refine X_iast (N := 24) dX11_runs_18 ar93 rfl hb18_2 ?_
    refine T_aload dX11_runs_19 rfl ?_
    refine T_dup dX11_runs_20 rfl ?_
    refine X_getf dX11_runs_21 lfX11_332 rfl ob73 ?_
    refine T_const dX11_runs_24 ?_
    refine T_iadd dX11_runs_25 ?_
    refine X_putf dX11_runs_26 lfX11_332 rfl rfl ob73 ⟨rfl, rfl⟩ ?_
    obtain rfl := Option.some.inj hf
    exact X_rv dX11_runs_29 ⟨rfl, rfl⟩
def jX11_turnsAs_16 (g_X11_turnsAs : aH → Int32 → Int32 → Option (Int32 × aH)) (x : aH) (l2 : Int32) : Option (Int32 × aH) := (fX11_runs x (20 : Int32)).bind fun q19_1 => (g_X11_turnsAs q19_1 (0 : Int32) l2).bind fun q25_2 => some ((q25_2.1 + (3 : Int32)), q25_2.2)
def uX11_turnsAs (g_X11_turnsAs : aH → Int32 → Int32 → Option (Int32 × aH)) (x : aH) (p1 : Int32) (p2 : Int32) : Option (Int32 × aH) := if p1 = (1 : Int32) then jX11_turnsAs_16 g_X11_turnsAs x p2 else if p1 = (4 : Int32) then jX11_turnsAs_16 g_X11_turnsAs x p2 else if p1 = (7 : Int32) then jX11_turnsAs_16 g_X11_turnsAs x p2 else if p1 = (6 : Int32) then (fX11_runs x (70 : Int32)).bind fun q40_8 => (g_X11_turnsAs q40_8 (0 : Int32) p2).bind fun q46_9 => some ((q46_9.1 * (2 : Int32)), q46_9.2) else (fX11_runs x (1 : Int32)).bind fun q54_7 => some ((p2 + (fi q54_7 73 41)), q54_7)
theorem pX11_turnsAs (Z : aZ) (y : aH) {D : Nat} (hK : 0 ≤ D) {g_X11_turnsAs : aH → Int32 → Int32 → Option (Int32 × aH)} (H_X11_turnsAs : ∀ (x : aH) (p1 : Int32) (p2 : Int32) {q : (Int32 × aH)}, g_X11_turnsAs x p1 p2 = some q → CX false Z mX11_turnsAs D [.ref 73, .int p1, .int p2] y x (RV (.int q.1) q.2)) {x : aH} {p1 : Int32} {p2 : Int32} {q : (Int32 × aH)} (hf : uX11_turnsAs g_X11_turnsAs x p1 p2 = some q) : CX false Z mX11_turnsAs (D + 1) [.ref 73, .int p1, .int p2] y x (RV (.int q.1) q.2) := by
  refine CX.of mokX11_turnsAs (Nat.le_of_ble_eq_true rfl) ?_
  show TX _ _ _ _ _ _ _ _ [_, _, _] _
  unfold uX11_turnsAs at hf
  refine T_iload dX11_turnsAs_0 rfl ?_
  refine T_const dX11_turnsAs_1 ?_
  have J16 : ∀ (x : aH) (l2 : Int32), jX11_turnsAs_16 g_X11_turnsAs x l2 = some q → TX false Z mX11_turnsAs (D + 1) y x (RV (.int q.1) q.2) 16 [.ref 73, .null, .int l2] [] := by
    intro x l2 hf
    unfold jX11_turnsAs_16 at hf
    refine T_aload dX11_turnsAs_16 rfl ?_
    refine T_const dX11_turnsAs_17 ?_
    obtain ⟨q19_1, hc19_1, hf⟩ := bind_t hf
    refine X_Vn (qX11_runs Z _ hc19_1) (Nat.le_trans (Nat.le_of_ble_eq_true rfl) hK) dX11_turnsAs_19 lvX11_335 rfl rfl ob73 (Nat.le_of_ble_eq_true rfl) ?_
    refine T_aload dX11_turnsAs_22 rfl ?_
    refine T_const dX11_turnsAs_23 ?_
    refine T_iload dX11_turnsAs_24 rfl ?_
    obtain ⟨q25_2, hc25_2, hf⟩ := bind_t hf
    refine X_Vv (H_X11_turnsAs _ _ _ hc25_2) (Nat.le_refl _) dX11_turnsAs_25 lvX11_338 rfl rfl ob73 (Nat.le_of_ble_eq_true rfl) ?_
    refine T_const dX11_turnsAs_28 ?_
    refine T_iadd dX11_turnsAs_29 ?_
    obtain rfl := Option.some.inj hf
    exact X_ri dX11_turnsAs_30 ⟨rfl, rfl⟩
  refine T_icmp_eq dX11_turnsAs_2 (fun c2_3 => ?_) (fun c2_3 => ?_)
  · replace hf := ite_t c2_3 hf
    exact X_wk (WK.s (WK.n (WK.s WK.e))) (J16 _ _ hf)
  · replace hf := ite_f c2_3 hf
    refine T_iload dX11_turnsAs_5 rfl ?_
    refine T_const dX11_turnsAs_6 ?_
    refine T_icmp_eq dX11_turnsAs_7 (fun c7_4 => ?_) (fun c7_4 => ?_)
    · replace hf := ite_t c7_4 hf
      exact X_wk (WK.s (WK.n (WK.s WK.e))) (J16 _ _ hf)
    · replace hf := ite_f c7_4 hf
      refine T_iload dX11_turnsAs_10 rfl ?_
      refine T_const dX11_turnsAs_11 ?_
      refine T_icmp_ne dX11_turnsAs_13 (fun c13_5 => ?_) (fun c13_5 => ?_)
      · replace hf := ite_f c13_5 hf
        refine T_iload dX11_turnsAs_31 rfl ?_
        refine T_const dX11_turnsAs_32 ?_
        refine T_icmp_ne dX11_turnsAs_34 (fun c34_6 => ?_) (fun c34_6 => ?_)
        · replace hf := ite_f c34_6 hf
          refine T_aload dX11_turnsAs_52 rfl ?_
          refine T_const dX11_turnsAs_53 ?_
          obtain ⟨q54_7, hc54_7, hf⟩ := bind_t hf
          refine X_Vn (qX11_runs Z _ hc54_7) (Nat.le_trans (Nat.le_of_ble_eq_true rfl) hK) dX11_turnsAs_54 lvX11_335 rfl rfl ob73 (Nat.le_of_ble_eq_true rfl) ?_
          refine T_iload dX11_turnsAs_57 rfl ?_
          refine T_aload dX11_turnsAs_58 rfl ?_
          refine X_getf dX11_turnsAs_59 lfX11_341 rfl ob73 ?_
          refine T_iadd dX11_turnsAs_62 ?_
          obtain rfl := Option.some.inj hf
          exact X_ri dX11_turnsAs_63 ⟨rfl, rfl⟩
        · replace hf := ite_t c34_6 hf
          refine T_aload dX11_turnsAs_37 rfl ?_
          refine T_const dX11_turnsAs_38 ?_
          obtain ⟨q40_8, hc40_8, hf⟩ := bind_t hf
          refine X_Vn (qX11_runs Z _ hc40_8) (Nat.le_trans (Nat.le_of_ble_eq_true rfl) hK) dX11_turnsAs_40 lvX11_335 rfl rfl ob73 (Nat.le_of_ble_eq_true rfl) ?_
          refine T_aload dX11_turnsAs_43 rfl ?_
          refine T_const dX11_turnsAs_44 ?_
          refine T_iload dX11_turnsAs_45 rfl ?_
          obtain ⟨q46_9, hc46_9, hf⟩ := bind_t hf
          refine X_Vv (H_X11_turnsAs _ _ _ hc46_9) (Nat.le_refl _) dX11_turnsAs_46 lvX11_338 rfl rfl ob73 (Nat.le_of_ble_eq_true rfl) ?_
          refine T_const dX11_turnsAs_49 ?_
          refine T_imul dX11_turnsAs_50 ?_
          obtain rfl := Option.some.inj hf
          exact X_ri dX11_turnsAs_51 ⟨rfl, rfl⟩
      · replace hf := ite_t c13_5 hf
        exact X_wk (WK.s (WK.n (WK.s WK.e))) (J16 _ _ hf)
def GX11_turnsAs : Nat → (aH → Int32 → Int32 → Option (Int32 × aH))
  | 0 => (fun _ _ _ => none)
  | n + 1 => (uX11_turnsAs ((GX11_turnsAs n)))
def fX11_turnsAs (n : Nat) : aH → Int32 → Int32 → Option (Int32 × aH) := (GX11_turnsAs n)
theorem fX11_turnsAs_S (n : Nat) : fX11_turnsAs (n + 1) = uX11_turnsAs (fX11_turnsAs n) := rfl
theorem qGX11_turnsAs (Z : aZ) (y : aH) : ∀ n, (∀ (x : aH) (p1 : Int32) (p2 : Int32) {q : (Int32 × aH)}, fX11_turnsAs n x p1 p2 = some q → CX false Z mX11_turnsAs (n + 0) [.ref 73, .int p1, .int p2] y x (RV (.int q.1) q.2)) := by
  intro n
  induction n with
  | zero => exact (by intro _ _ _ q hf; cases hf)
  | succ n ih =>
    have ih_X11_turnsAs := ih
    exact (by intro _ _ _ q hf; exact (pX11_turnsAs Z y (D := n + 0) (Nat.le_add_left _ _) ih_X11_turnsAs hf).le (by omega))
theorem qX11_turnsAs (Z : aZ) (y : aH) {x : aH} {p1 : Int32} {p2 : Int32} {q : (Int32 × aH)} (hf : fX11_turnsAs 64 x p1 p2 = some q) : CX false Z mX11_turnsAs 64 [.ref 73, .int p1, .int p2] y x (RV (.int q.1) q.2) := (qGX11_turnsAs Z y 64) _ _ _ hf
def jX11_warnsAs_10 (g_X11_warnsAs : aH → Int32 → Int32 → Option (Int32 × aH)) (x : aH) (l2 : Int32) : Option (Int32 × aH) := (fX11_runs x (40 : Int32)).bind fun q13_1 => (g_X11_warnsAs q13_1 (2 : Int32) l2).bind fun q19_2 => some ((q19_2.1 * (3 : Int32)), q19_2.2)
def jX11_warnsAs_36 (g_X11_warnsAs : aH → Int32 → Int32 → Option (Int32 × aH)) (x : aH) (l2 : Int32) : Option (Int32 × aH) := (fX11_runs x (50 : Int32)).bind fun q39_5 => (g_X11_warnsAs q39_5 (1 : Int32) l2).bind fun q45_6 => (fX11_turnsAs 64 q45_6.2 (fi q45_6.2 73 40) (2 : Int32)).bind fun q56_7 => some ((q45_6.1 - q56_7.1), q56_7.2)
def uX11_warnsAs (g_X11_warnsAs : aH → Int32 → Int32 → Option (Int32 × aH)) (x : aH) (p1 : Int32) (p2 : Int32) : Option (Int32 × aH) := if p1 = (3 : Int32) then jX11_warnsAs_10 g_X11_warnsAs x p2 else if p1 = (5 : Int32) then jX11_warnsAs_10 g_X11_warnsAs x p2 else if p1 = (4 : Int32) then jX11_warnsAs_36 g_X11_warnsAs x p2 else if p1 = (7 : Int32) then jX11_warnsAs_36 g_X11_warnsAs x p2 else (fX11_runs x (11 : Int32)).bind fun q64_10 => some ((p2 ^^^ (fi q64_10 73 41)), q64_10)
theorem pX11_warnsAs (Z : aZ) (y : aH) {D : Nat} (hK : 64 ≤ D) {g_X11_warnsAs : aH → Int32 → Int32 → Option (Int32 × aH)} (H_X11_warnsAs : ∀ (x : aH) (p1 : Int32) (p2 : Int32) {q : (Int32 × aH)}, g_X11_warnsAs x p1 p2 = some q → CX false Z mX11_warnsAs D [.ref 73, .int p1, .int p2] y x (RV (.int q.1) q.2)) {x : aH} {p1 : Int32} {p2 : Int32} {q : (Int32 × aH)} (hf : uX11_warnsAs g_X11_warnsAs x p1 p2 = some q) : CX false Z mX11_warnsAs (D + 1) [.ref 73, .int p1, .int p2] y x (RV (.int q.1) q.2) := by
  refine CX.of mokX11_warnsAs (Nat.le_of_ble_eq_true rfl) ?_
  show TX _ _ _ _ _ _ _ _ [_, _, _, _] _
  unfold uX11_warnsAs at hf
  refine T_iload dX11_warnsAs_0 rfl ?_
  refine T_const dX11_warnsAs_1 ?_
  have J10 : ∀ (x : aH) (l2 : Int32), jX11_warnsAs_10 g_X11_warnsAs x l2 = some q → TX false Z mX11_warnsAs (D + 1) y x (RV (.int q.1) q.2) 10 [.ref 73, .null, .int l2, .null] [] := by
    intro x l2 hf
    unfold jX11_warnsAs_10 at hf
    refine T_aload dX11_warnsAs_10 rfl ?_
    refine T_const dX11_warnsAs_11 ?_
    obtain ⟨q13_1, hc13_1, hf⟩ := bind_t hf
    refine X_Vn (qX11_runs Z _ hc13_1) (Nat.le_trans (Nat.le_of_ble_eq_true rfl) hK) dX11_warnsAs_13 lvX11_335 rfl rfl ob73 (Nat.le_of_ble_eq_true rfl) ?_
    refine T_aload dX11_warnsAs_16 rfl ?_
    refine T_const dX11_warnsAs_17 ?_
    refine T_iload dX11_warnsAs_18 rfl ?_
    obtain ⟨q19_2, hc19_2, hf⟩ := bind_t hf
    refine X_Vv (H_X11_warnsAs _ _ _ hc19_2) (Nat.le_refl _) dX11_warnsAs_19 lvX11_350 rfl rfl ob73 (Nat.le_of_ble_eq_true rfl) ?_
    refine T_const dX11_warnsAs_22 ?_
    refine T_imul dX11_warnsAs_23 ?_
    obtain rfl := Option.some.inj hf
    exact X_ri dX11_warnsAs_24 ⟨rfl, rfl⟩
  refine T_icmp_eq dX11_warnsAs_2 (fun c2_3 => ?_) (fun c2_3 => ?_)
  · replace hf := ite_t c2_3 hf
    exact X_wk (WK.s (WK.n (WK.s (WK.n WK.e)))) (J10 _ _ hf)
  · replace hf := ite_f c2_3 hf
    refine T_iload dX11_warnsAs_5 rfl ?_
    refine T_const dX11_warnsAs_6 ?_
    refine T_icmp_ne dX11_warnsAs_7 (fun c7_4 => ?_) (fun c7_4 => ?_)
    · replace hf := ite_f c7_4 hf
      refine T_iload dX11_warnsAs_25 rfl ?_
      refine T_const dX11_warnsAs_26 ?_
      have J36 : ∀ (x : aH) (l2 : Int32), jX11_warnsAs_36 g_X11_warnsAs x l2 = some q → TX false Z mX11_warnsAs (D + 1) y x (RV (.int q.1) q.2) 36 [.ref 73, .null, .int l2, .null] [] := by
        intro x l2 hf
        unfold jX11_warnsAs_36 at hf
        refine T_aload dX11_warnsAs_36 rfl ?_
        refine T_const dX11_warnsAs_37 ?_
        obtain ⟨q39_5, hc39_5, hf⟩ := bind_t hf
        refine X_Vn (qX11_runs Z _ hc39_5) (Nat.le_trans (Nat.le_of_ble_eq_true rfl) hK) dX11_warnsAs_39 lvX11_335 rfl rfl ob73 (Nat.le_of_ble_eq_true rfl) ?_
        refine T_aload dX11_warnsAs_42 rfl ?_
        refine T_const dX11_warnsAs_43 ?_
        refine T_iload dX11_warnsAs_44 rfl ?_
        obtain ⟨q45_6, hc45_6, hf⟩ := bind_t hf
        refine X_Vv (H_X11_warnsAs _ _ _ hc45_6) (Nat.le_refl _) dX11_warnsAs_45 lvX11_350 rfl rfl ob73 (Nat.le_of_ble_eq_true rfl) ?_
        refine T_istore dX11_warnsAs_48 ?_
        show TX _ _ _ _ _ _ _ _ [_, _, _, _] _
        refine T_iload dX11_warnsAs_49 rfl ?_
        refine T_aload dX11_warnsAs_50 rfl ?_
        refine T_aload dX11_warnsAs_51 rfl ?_
        refine X_getf dX11_warnsAs_52 lfX11_347 rfl ob73 ?_
        refine T_const dX11_warnsAs_55 ?_
        obtain ⟨q56_7, hc56_7, hf⟩ := bind_t hf
        refine X_Vv (qX11_turnsAs Z _ hc56_7) (Nat.le_trans (Nat.le_of_ble_eq_true rfl) hK) dX11_warnsAs_56 lvX11_338 rfl rfl ob73 (Nat.le_of_ble_eq_true rfl) ?_
        refine T_isub dX11_warnsAs_59 ?_
        obtain rfl := Option.some.inj hf
        exact X_ri dX11_warnsAs_60 ⟨rfl, rfl⟩
      refine T_icmp_eq dX11_warnsAs_27 (fun c27_8 => ?_) (fun c27_8 => ?_)
      · replace hf := ite_t c27_8 hf
        exact X_wk (WK.s (WK.n (WK.s (WK.n WK.e)))) (J36 _ _ hf)
      · replace hf := ite_f c27_8 hf
        refine T_iload dX11_warnsAs_30 rfl ?_
        refine T_const dX11_warnsAs_31 ?_
        refine T_icmp_ne dX11_warnsAs_33 (fun c33_9 => ?_) (fun c33_9 => ?_)
        · replace hf := ite_f c33_9 hf
          refine T_aload dX11_warnsAs_61 rfl ?_
          refine T_const dX11_warnsAs_62 ?_
          obtain ⟨q64_10, hc64_10, hf⟩ := bind_t hf
          refine X_Vn (qX11_runs Z _ hc64_10) (Nat.le_trans (Nat.le_of_ble_eq_true rfl) hK) dX11_warnsAs_64 lvX11_335 rfl rfl ob73 (Nat.le_of_ble_eq_true rfl) ?_
          refine T_iload dX11_warnsAs_67 rfl ?_
          refine T_aload dX11_warnsAs_68 rfl ?_
          refine X_getf dX11_warnsAs_69 lfX11_341 rfl ob73 ?_
          refine T_ixor dX11_warnsAs_72 ?_
          obtain rfl := Option.some.inj hf
          exact X_ri dX11_warnsAs_73 ⟨rfl, rfl⟩
        · replace hf := ite_t c33_9 hf
          exact X_wk (WK.s (WK.n (WK.s (WK.n WK.e)))) (J36 _ _ hf)
    · replace hf := ite_t c7_4 hf
      exact X_wk (WK.s (WK.n (WK.s (WK.n WK.e)))) (J10 _ _ hf)
def GX11_warnsAs : Nat → (aH → Int32 → Int32 → Option (Int32 × aH))
  | 0 => (fun _ _ _ => none)
  | n + 1 => (uX11_warnsAs ((GX11_warnsAs n)))
def fX11_warnsAs (n : Nat) : aH → Int32 → Int32 → Option (Int32 × aH) := (GX11_warnsAs n)
theorem fX11_warnsAs_S (n : Nat) : fX11_warnsAs (n + 1) = uX11_warnsAs (fX11_warnsAs n) := rfl
theorem qGX11_warnsAs (Z : aZ) (y : aH) : ∀ n, (∀ (x : aH) (p1 : Int32) (p2 : Int32) {q : (Int32 × aH)}, fX11_warnsAs n x p1 p2 = some q → CX false Z mX11_warnsAs (n + 64) [.ref 73, .int p1, .int p2] y x (RV (.int q.1) q.2)) := by
  intro n
  induction n with
  | zero => exact (by intro _ _ _ q hf; cases hf)
  | succ n ih =>
    have ih_X11_warnsAs := ih
    exact (by intro _ _ _ q hf; exact (pX11_warnsAs Z y (D := n + 64) (Nat.le_add_left _ _) ih_X11_warnsAs hf).le (by omega))
theorem qX11_warnsAs (Z : aZ) (y : aH) {x : aH} {p1 : Int32} {p2 : Int32} {q : (Int32 × aH)} (hf : fX11_warnsAs 64 x p1 p2 = some q) : CX false Z mX11_warnsAs 128 [.ref 73, .int p1, .int p2] y x (RV (.int q.1) q.2) := (qGX11_warnsAs Z y 64) _ _ _ hf
def jX11_burnsAs_10 (g_X11_burnsAs : aH → Int32 → Int32 → Option (Int32 × aH)) (x : aH) (l2 : Int32) : Option (Int32 × aH) := (fX11_runs x (41 : Int32)).bind fun q13_1 => (g_X11_burnsAs q13_1 (2 : Int32) (l2 + (1 : Int32))).bind fun q21_2 => some (q21_2.1, q21_2.2)
def uX11_burnsAs (g_X11_burnsAs : aH → Int32 → Int32 → Option (Int32 × aH)) (x : aH) (p1 : Int32) (p2 : Int32) : Option (Int32 × aH) := if p1 = (3 : Int32) then jX11_burnsAs_10 g_X11_burnsAs x p2 else if p1 = (5 : Int32) then jX11_burnsAs_10 g_X11_burnsAs x p2 else if p1 = (2 : Int32) then (fX11_runs x (30 : Int32)).bind fun q33_12 => (g_X11_burnsAs q33_12 (0 : Int32) p2).bind fun q39_13 => some ((-q39_13.1), q39_13.2) else if p1 = (7 : Int32) then (fX11_runs x (80 : Int32)).bind fun q53_9 => (g_X11_burnsAs q53_9 (4 : Int32) p2).bind fun q59_10 => (fX11_warnsAs 64 q59_10.2 (fi q59_10.2 73 40) (2 : Int32)).bind fun q70_11 => some ((q59_10.1 + q70_11.1), q70_11.2) else (fX11_runs x (10 : Int32)).bind fun q78_7 => (fX11_turnsAs 64 q78_7 (fi q78_7 73 40) p2).bind fun q87_8 => some ((q87_8.1 * (2 : Int32)), q87_8.2)
theorem pX11_burnsAs (Z : aZ) (y : aH) {D : Nat} (hK : 128 ≤ D) {g_X11_burnsAs : aH → Int32 → Int32 → Option (Int32 × aH)} (H_X11_burnsAs : ∀ (x : aH) (p1 : Int32) (p2 : Int32) {q : (Int32 × aH)}, g_X11_burnsAs x p1 p2 = some q → CX false Z mX11_burnsAs D [.ref 73, .int p1, .int p2] y x (RV (.int q.1) q.2)) {x : aH} {p1 : Int32} {p2 : Int32} {q : (Int32 × aH)} (hf : uX11_burnsAs g_X11_burnsAs x p1 p2 = some q) : CX false Z mX11_burnsAs (D + 1) [.ref 73, .int p1, .int p2] y x (RV (.int q.1) q.2) := by
  refine CX.of mokX11_burnsAs (Nat.le_of_ble_eq_true rfl) ?_
  show TX _ _ _ _ _ _ _ _ [_, _, _, _] _
  unfold uX11_burnsAs at hf
  refine T_iload dX11_burnsAs_0 rfl ?_
  refine T_const dX11_burnsAs_1 ?_
  have J10 : ∀ (x : aH) (l2 : Int32), jX11_burnsAs_10 g_X11_burnsAs x l2 = some q → TX false Z mX11_burnsAs (D + 1) y x (RV (.int q.1) q.2) 10 [.ref 73, .null, .int l2, .null] [] := by
    intro x l2 hf
    unfold jX11_burnsAs_10 at hf
    refine T_aload dX11_burnsAs_10 rfl ?_
    refine T_const dX11_burnsAs_11 ?_
    obtain ⟨q13_1, hc13_1, hf⟩ := bind_t hf
    refine X_Vn (qX11_runs Z _ hc13_1) (Nat.le_trans (Nat.le_of_ble_eq_true rfl) hK) dX11_burnsAs_13 lvX11_335 rfl rfl ob73 (Nat.le_of_ble_eq_true rfl) ?_
    refine T_aload dX11_burnsAs_16 rfl ?_
    refine T_const dX11_burnsAs_17 ?_
    refine T_iload dX11_burnsAs_18 rfl ?_
    refine T_const dX11_burnsAs_19 ?_
    refine T_iadd dX11_burnsAs_20 ?_
    obtain ⟨q21_2, hc21_2, hf⟩ := bind_t hf
    refine X_Vv (H_X11_burnsAs _ _ _ hc21_2) (Nat.le_refl _) dX11_burnsAs_21 lvX11_344 rfl rfl ob73 (Nat.le_of_ble_eq_true rfl) ?_
    obtain rfl := Option.some.inj hf
    exact X_ri dX11_burnsAs_24 ⟨rfl, rfl⟩
  refine T_icmp_eq dX11_burnsAs_2 (fun c2_3 => ?_) (fun c2_3 => ?_)
  · replace hf := ite_t c2_3 hf
    exact X_wk (WK.s (WK.n (WK.s (WK.n WK.e)))) (J10 _ _ hf)
  · replace hf := ite_f c2_3 hf
    refine T_iload dX11_burnsAs_5 rfl ?_
    refine T_const dX11_burnsAs_6 ?_
    refine T_icmp_ne dX11_burnsAs_7 (fun c7_4 => ?_) (fun c7_4 => ?_)
    · replace hf := ite_f c7_4 hf
      refine T_iload dX11_burnsAs_25 rfl ?_
      refine T_const dX11_burnsAs_26 ?_
      refine T_icmp_ne dX11_burnsAs_27 (fun c27_5 => ?_) (fun c27_5 => ?_)
      · replace hf := ite_f c27_5 hf
        refine T_iload dX11_burnsAs_44 rfl ?_
        refine T_const dX11_burnsAs_45 ?_
        refine T_icmp_ne dX11_burnsAs_47 (fun c47_6 => ?_) (fun c47_6 => ?_)
        · replace hf := ite_f c47_6 hf
          refine T_aload dX11_burnsAs_75 rfl ?_
          refine T_const dX11_burnsAs_76 ?_
          obtain ⟨q78_7, hc78_7, hf⟩ := bind_t hf
          refine X_Vn (qX11_runs Z _ hc78_7) (Nat.le_trans (Nat.le_of_ble_eq_true rfl) hK) dX11_burnsAs_78 lvX11_335 rfl rfl ob73 (Nat.le_of_ble_eq_true rfl) ?_
          refine T_aload dX11_burnsAs_81 rfl ?_
          refine T_aload dX11_burnsAs_82 rfl ?_
          refine X_getf dX11_burnsAs_83 lfX11_347 rfl ob73 ?_
          refine T_iload dX11_burnsAs_86 rfl ?_
          obtain ⟨q87_8, hc87_8, hf⟩ := bind_t hf
          refine X_Vv (qX11_turnsAs Z _ hc87_8) (Nat.le_trans (Nat.le_of_ble_eq_true rfl) hK) dX11_burnsAs_87 lvX11_338 rfl rfl ob73 (Nat.le_of_ble_eq_true rfl) ?_
          refine T_const dX11_burnsAs_90 ?_
          refine T_imul dX11_burnsAs_91 ?_
          obtain rfl := Option.some.inj hf
          exact X_ri dX11_burnsAs_92 ⟨rfl, rfl⟩
        · replace hf := ite_t c47_6 hf
          refine T_aload dX11_burnsAs_50 rfl ?_
          refine T_const dX11_burnsAs_51 ?_
          obtain ⟨q53_9, hc53_9, hf⟩ := bind_t hf
          refine X_Vn (qX11_runs Z _ hc53_9) (Nat.le_trans (Nat.le_of_ble_eq_true rfl) hK) dX11_burnsAs_53 lvX11_335 rfl rfl ob73 (Nat.le_of_ble_eq_true rfl) ?_
          refine T_aload dX11_burnsAs_56 rfl ?_
          refine T_const dX11_burnsAs_57 ?_
          refine T_iload dX11_burnsAs_58 rfl ?_
          obtain ⟨q59_10, hc59_10, hf⟩ := bind_t hf
          refine X_Vv (H_X11_burnsAs _ _ _ hc59_10) (Nat.le_refl _) dX11_burnsAs_59 lvX11_344 rfl rfl ob73 (Nat.le_of_ble_eq_true rfl) ?_
          refine T_istore dX11_burnsAs_62 ?_
          show TX _ _ _ _ _ _ _ _ [_, _, _, _] _
          refine T_iload dX11_burnsAs_63 rfl ?_
          refine T_aload dX11_burnsAs_64 rfl ?_
          refine T_aload dX11_burnsAs_65 rfl ?_
          refine X_getf dX11_burnsAs_66 lfX11_347 rfl ob73 ?_
          refine T_const dX11_burnsAs_69 ?_
          obtain ⟨q70_11, hc70_11, hf⟩ := bind_t hf
          refine X_Vv (qX11_warnsAs Z _ hc70_11) (Nat.le_trans (Nat.le_of_ble_eq_true rfl) hK) dX11_burnsAs_70 lvX11_350 rfl rfl ob73 (Nat.le_of_ble_eq_true rfl) ?_
          refine T_iadd dX11_burnsAs_73 ?_
          obtain rfl := Option.some.inj hf
          exact X_ri dX11_burnsAs_74 ⟨rfl, rfl⟩
      · replace hf := ite_t c27_5 hf
        refine T_aload dX11_burnsAs_30 rfl ?_
        refine T_const dX11_burnsAs_31 ?_
        obtain ⟨q33_12, hc33_12, hf⟩ := bind_t hf
        refine X_Vn (qX11_runs Z _ hc33_12) (Nat.le_trans (Nat.le_of_ble_eq_true rfl) hK) dX11_burnsAs_33 lvX11_335 rfl rfl ob73 (Nat.le_of_ble_eq_true rfl) ?_
        refine T_aload dX11_burnsAs_36 rfl ?_
        refine T_const dX11_burnsAs_37 ?_
        refine T_iload dX11_burnsAs_38 rfl ?_
        obtain ⟨q39_13, hc39_13, hf⟩ := bind_t hf
        refine X_Vv (H_X11_burnsAs _ _ _ hc39_13) (Nat.le_refl _) dX11_burnsAs_39 lvX11_344 rfl rfl ob73 (Nat.le_of_ble_eq_true rfl) ?_
        refine T_ineg dX11_burnsAs_42 ?_
        obtain rfl := Option.some.inj hf
        exact X_ri dX11_burnsAs_43 ⟨rfl, rfl⟩
    · replace hf := ite_t c7_4 hf
      exact X_wk (WK.s (WK.n (WK.s (WK.n WK.e)))) (J10 _ _ hf)
def GX11_burnsAs : Nat → (aH → Int32 → Int32 → Option (Int32 × aH))
  | 0 => (fun _ _ _ => none)
  | n + 1 => (uX11_burnsAs ((GX11_burnsAs n)))
def fX11_burnsAs (n : Nat) : aH → Int32 → Int32 → Option (Int32 × aH) := (GX11_burnsAs n)
theorem fX11_burnsAs_S (n : Nat) : fX11_burnsAs (n + 1) = uX11_burnsAs (fX11_burnsAs n) := rfl
theorem qGX11_burnsAs (Z : aZ) (y : aH) : ∀ n, (∀ (x : aH) (p1 : Int32) (p2 : Int32) {q : (Int32 × aH)}, fX11_burnsAs n x p1 p2 = some q → CX false Z mX11_burnsAs (n + 128) [.ref 73, .int p1, .int p2] y x (RV (.int q.1) q.2)) := by
  intro n
  induction n with
  | zero => exact (by intro _ _ _ q hf; cases hf)
  | succ n ih =>
    have ih_X11_burnsAs := ih
    exact (by intro _ _ _ q hf; exact (pX11_burnsAs Z y (D := n + 128) (Nat.le_add_left _ _) ih_X11_burnsAs hf).le (by omega))
theorem qX11_burnsAs (Z : aZ) (y : aH) {x : aH} {p1 : Int32} {p2 : Int32} {q : (Int32 × aH)} (hf : fX11_burnsAs 64 x p1 p2 = some q) : CX false Z mX11_burnsAs 192 [.ref 73, .int p1, .int p2] y x (RV (.int q.1) q.2) := (qGX11_burnsAs Z y 64) _ _ _ hf
def uX11_tellsAs (g_X11_tellsAs : aH → Int32 → Int32 → Option (Int32 × aH)) (x : aH) (p1 : Int32) (p2 : Int32) : Option (Int32 × aH) := if p1 = (5 : Int32) then (fX11_runs x (60 : Int32)).bind fun q8_8 => (g_X11_tellsAs q8_8 (3 : Int32) p2).bind fun q14_9 => some ((q14_9.1 ^^^ (5 : Int32)), q14_9.2) else if p1 = (7 : Int32) then (fX11_runs x (81 : Int32)).bind fun q29_6 => (g_X11_tellsAs q29_6 (4 : Int32) p2).bind fun q35_7 => some ((q35_7.1 - (1 : Int32)), q35_7.2) else (fX11_runs x (2 : Int32)).bind fun q43_3 => (fX11_burnsAs 64 q43_3 (fi q43_3 73 40) p2).bind fun q52_4 => (fX11_warnsAs 64 q52_4.2 (fi q52_4.2 73 40) (1 : Int32)).bind fun q63_5 => some ((q52_4.1 - q63_5.1), q63_5.2)
theorem pX11_tellsAs (Z : aZ) (y : aH) {D : Nat} (hK : 192 ≤ D) {g_X11_tellsAs : aH → Int32 → Int32 → Option (Int32 × aH)} (H_X11_tellsAs : ∀ (x : aH) (p1 : Int32) (p2 : Int32) {q : (Int32 × aH)}, g_X11_tellsAs x p1 p2 = some q → CX false Z mX11_tellsAs D [.ref 73, .int p1, .int p2] y x (RV (.int q.1) q.2)) {x : aH} {p1 : Int32} {p2 : Int32} {q : (Int32 × aH)} (hf : uX11_tellsAs g_X11_tellsAs x p1 p2 = some q) : CX false Z mX11_tellsAs (D + 1) [.ref 73, .int p1, .int p2] y x (RV (.int q.1) q.2) := by
  refine CX.of mokX11_tellsAs (Nat.le_of_ble_eq_true rfl) ?_
  show TX _ _ _ _ _ _ _ _ [_, _, _, _] _
  unfold uX11_tellsAs at hf
  refine T_iload dX11_tellsAs_0 rfl ?_
  refine T_const dX11_tellsAs_1 ?_
  refine T_icmp_ne dX11_tellsAs_2 (fun c2_1 => ?_) (fun c2_1 => ?_)
  · replace hf := ite_f c2_1 hf
    refine T_iload dX11_tellsAs_20 rfl ?_
    refine T_const dX11_tellsAs_21 ?_
    refine T_icmp_ne dX11_tellsAs_23 (fun c23_2 => ?_) (fun c23_2 => ?_)
    · replace hf := ite_f c23_2 hf
      refine T_aload dX11_tellsAs_41 rfl ?_
      refine T_const dX11_tellsAs_42 ?_
      obtain ⟨q43_3, hc43_3, hf⟩ := bind_t hf
      refine X_Vn (qX11_runs Z _ hc43_3) (Nat.le_trans (Nat.le_of_ble_eq_true rfl) hK) dX11_tellsAs_43 lvX11_335 rfl rfl ob73 (Nat.le_of_ble_eq_true rfl) ?_
      refine T_aload dX11_tellsAs_46 rfl ?_
      refine T_aload dX11_tellsAs_47 rfl ?_
      refine X_getf dX11_tellsAs_48 lfX11_347 rfl ob73 ?_
      refine T_iload dX11_tellsAs_51 rfl ?_
      obtain ⟨q52_4, hc52_4, hf⟩ := bind_t hf
      refine X_Vv (qX11_burnsAs Z _ hc52_4) (Nat.le_trans (Nat.le_of_ble_eq_true rfl) hK) dX11_tellsAs_52 lvX11_344 rfl rfl ob73 (Nat.le_of_ble_eq_true rfl) ?_
      refine T_istore dX11_tellsAs_55 ?_
      show TX _ _ _ _ _ _ _ _ [_, _, _, _] _
      refine T_iload dX11_tellsAs_56 rfl ?_
      refine T_aload dX11_tellsAs_57 rfl ?_
      refine T_aload dX11_tellsAs_58 rfl ?_
      refine X_getf dX11_tellsAs_59 lfX11_347 rfl ob73 ?_
      refine T_const dX11_tellsAs_62 ?_
      obtain ⟨q63_5, hc63_5, hf⟩ := bind_t hf
      refine X_Vv (qX11_warnsAs Z _ hc63_5) (Nat.le_trans (Nat.le_of_ble_eq_true rfl) hK) dX11_tellsAs_63 lvX11_350 rfl rfl ob73 (Nat.le_of_ble_eq_true rfl) ?_
      refine T_isub dX11_tellsAs_66 ?_
      obtain rfl := Option.some.inj hf
      exact X_ri dX11_tellsAs_67 ⟨rfl, rfl⟩
    · replace hf := ite_t c23_2 hf
      refine T_aload dX11_tellsAs_26 rfl ?_
      refine T_const dX11_tellsAs_27 ?_
      obtain ⟨q29_6, hc29_6, hf⟩ := bind_t hf
      refine X_Vn (qX11_runs Z _ hc29_6) (Nat.le_trans (Nat.le_of_ble_eq_true rfl) hK) dX11_tellsAs_29 lvX11_335 rfl rfl ob73 (Nat.le_of_ble_eq_true rfl) ?_
      refine T_aload dX11_tellsAs_32 rfl ?_
      refine T_const dX11_tellsAs_33 ?_
      refine T_iload dX11_tellsAs_34 rfl ?_
      obtain ⟨q35_7, hc35_7, hf⟩ := bind_t hf
      refine X_Vv (H_X11_tellsAs _ _ _ hc35_7) (Nat.le_refl _) dX11_tellsAs_35 lvX11_353 rfl rfl ob73 (Nat.le_of_ble_eq_true rfl) ?_
      refine T_const dX11_tellsAs_38 ?_
      refine T_isub dX11_tellsAs_39 ?_
      obtain rfl := Option.some.inj hf
      exact X_ri dX11_tellsAs_40 ⟨rfl, rfl⟩
  · replace hf := ite_t c2_1 hf
    refine T_aload dX11_tellsAs_5 rfl ?_
    refine T_const dX11_tellsAs_6 ?_
    obtain ⟨q8_8, hc8_8, hf⟩ := bind_t hf
    refine X_Vn (qX11_runs Z _ hc8_8) (Nat.le_trans (Nat.le_of_ble_eq_true rfl) hK) dX11_tellsAs_8 lvX11_335 rfl rfl ob73 (Nat.le_of_ble_eq_true rfl) ?_
    refine T_aload dX11_tellsAs_11 rfl ?_
    refine T_const dX11_tellsAs_12 ?_
    refine T_iload dX11_tellsAs_13 rfl ?_
    obtain ⟨q14_9, hc14_9, hf⟩ := bind_t hf
    refine X_Vv (H_X11_tellsAs _ _ _ hc14_9) (Nat.le_refl _) dX11_tellsAs_14 lvX11_353 rfl rfl ob73 (Nat.le_of_ble_eq_true rfl) ?_
    refine T_const dX11_tellsAs_17 ?_
    refine T_ixor dX11_tellsAs_18 ?_
    obtain rfl := Option.some.inj hf
    exact X_ri dX11_tellsAs_19 ⟨rfl, rfl⟩
def GX11_tellsAs : Nat → (aH → Int32 → Int32 → Option (Int32 × aH))
  | 0 => (fun _ _ _ => none)
  | n + 1 => (uX11_tellsAs ((GX11_tellsAs n)))
def fX11_tellsAs (n : Nat) : aH → Int32 → Int32 → Option (Int32 × aH) := (GX11_tellsAs n)
theorem fX11_tellsAs_S (n : Nat) : fX11_tellsAs (n + 1) = uX11_tellsAs (fX11_tellsAs n) := rfl
theorem qGX11_tellsAs (Z : aZ) (y : aH) : ∀ n, (∀ (x : aH) (p1 : Int32) (p2 : Int32) {q : (Int32 × aH)}, fX11_tellsAs n x p1 p2 = some q → CX false Z mX11_tellsAs (n + 192) [.ref 73, .int p1, .int p2] y x (RV (.int q.1) q.2)) := by
  intro n
  induction n with
  | zero => exact (by intro _ _ _ q hf; cases hf)
  | succ n ih =>
    have ih_X11_tellsAs := ih
    exact (by intro _ _ _ q hf; exact (pX11_tellsAs Z y (D := n + 192) (Nat.le_add_left _ _) ih_X11_tellsAs hf).le (by omega))
theorem qX11_tellsAs (Z : aZ) (y : aH) {x : aH} {p1 : Int32} {p2 : Int32} {q : (Int32 × aH)} (hf : fX11_tellsAs 64 x p1 p2 = some q) : CX false Z mX11_tellsAs 256 [.ref 73, .int p1, .int p2] y x (RV (.int q.1) q.2) := (qGX11_tellsAs Z y 64) _ _ _ hf
def fX11_act (x : aH) (p1 : Int32) (p2 : Int32) (p3 : Int32) : Option (Int32 × aH) := (fX11_isBody (sfi x 73 39 (0 : Int32)) p1).bind fun q7_1 => if q7_1 = (0 : Int32) then some ((0 : Int32), (sfi x 73 39 (0 : Int32))) else if (0 : Int32) ≤ p1 ∧ p1 < (50 : Int32) then if p2 = (0 : Int32) then (fX11_turnsAs 64 (sfi (sfi (sfi x 73 39 (0 : Int32)) 73 40 (ri (sfi x 73 39 (0 : Int32)) 92 (ix p1))) 73 41 p1) (fi (sfi (sfi (sfi x 73 39 (0 : Int32)) 73 40 (ri (sfi x 73 39 (0 : Int32)) 92 (ix p1))) 73 41 p1) 73 40) p3).bind fun q66_5 => some (q66_5.1, q66_5.2) else if p2 = (1 : Int32) then (fX11_burnsAs 64 (sfi (sfi (sfi x 73 39 (0 : Int32)) 73 40 (ri (sfi x 73 39 (0 : Int32)) 92 (ix p1))) 73 41 p1) (fi (sfi (sfi (sfi x 73 39 (0 : Int32)) 73 40 (ri (sfi x 73 39 (0 : Int32)) 92 (ix p1))) 73 41 p1) 73 40) p3).bind fun q76_7 => some (q76_7.1, q76_7.2) else if p2 = (2 : Int32) then (fX11_warnsAs 64 (sfi (sfi (sfi x 73 39 (0 : Int32)) 73 40 (ri (sfi x 73 39 (0 : Int32)) 92 (ix p1))) 73 41 p1) (fi (sfi (sfi (sfi x 73 39 (0 : Int32)) 73 40 (ri (sfi x 73 39 (0 : Int32)) 92 (ix p1))) 73 41 p1) 73 40) p3).bind fun q86_9 => some (q86_9.1, q86_9.2) else if p2 = (3 : Int32) then (fX11_tellsAs 64 (sfi (sfi (sfi x 73 39 (0 : Int32)) 73 40 (ri (sfi x 73 39 (0 : Int32)) 92 (ix p1))) 73 41 p1) (fi (sfi (sfi (sfi x 73 39 (0 : Int32)) 73 40 (ri (sfi x 73 39 (0 : Int32)) 92 (ix p1))) 73 41 p1) 73 40) p3).bind fun q96_11 => some (q96_11.1, q96_11.2) else some ((0 : Int32), (sfi (sfi (sfi x 73 39 (0 : Int32)) 73 40 (ri (sfi x 73 39 (0 : Int32)) 92 (ix p1))) 73 41 p1)) else none
theorem qX11_act (Z : aZ) (y : aH) {x : aH} {p1 : Int32} {p2 : Int32} {p3 : Int32} {q : (Int32 × aH)} (hf : fX11_act x p1 p2 p3 = some q) : CX false Z mX11_act 257 [.ref 73, .int p1, .int p2, .int p3] y x (RV (.int q.1) q.2) := by
  refine CX.of mokX11_act (Nat.le_of_ble_eq_true rfl) ?_
  show TX _ _ _ _ _ _ _ _ [_, _, _, _] _
  unfold fX11_act at hf
  refine T_aload dX11_act_0 rfl ?_
  refine T_const dX11_act_1 ?_
  refine X_putf dX11_act_2 lfX11_332 rfl rfl ob73 ⟨rfl, rfl⟩ ?_
  refine T_aload dX11_act_5 rfl ?_
  refine T_iload dX11_act_6 rfl ?_
  obtain ⟨q7_1, hc7_1, hf⟩ := bind_t hf
  refine X_Vv (qX11_isBody Z _ hc7_1) (Nat.le_of_ble_eq_true rfl) dX11_act_7 lvX11_356 rfl rfl ob73 (Nat.le_of_ble_eq_true rfl) ?_
  refine T_if_ne dX11_act_10 (fun c10_2 => ?_) (fun c10_2 => ?_)
  · replace hf := ite_f c10_2 hf
    refine T_aload dX11_act_15 rfl ?_
    refine T_aload dX11_act_16 rfl ?_
    refine X_getr dX11_act_17 lfX11_64 rfl ob73 rfl ?_
    refine T_iload dX11_act_20 rfl ?_
    obtain ⟨hb21_3, hf⟩ := opt_t hf
    refine X_iald (N := 50) dX11_act_21 ar92 rfl hb21_3 ?_
    refine X_putf dX11_act_22 lfX11_347 rfl rfl ob73 ⟨rfl, rfl⟩ ?_
    refine T_aload dX11_act_25 rfl ?_
    refine T_iload dX11_act_26 rfl ?_
    refine X_putf dX11_act_27 lfX11_341 rfl rfl ob73 ⟨rfl, rfl⟩ ?_
    refine T_iload dX11_act_30 rfl ?_
    by_cases c31_4 : p2 = (0 : Int32)
    · replace hf := ite_t c31_4 hf
      refine T_tabE (off := 29) (tgt := 60) c31_4 dX11_act_31 (by decide) (by decide) (by decide) (by decide) ?_
      refine T_aload dX11_act_60 rfl ?_
      refine T_aload dX11_act_61 rfl ?_
      refine X_getf dX11_act_62 lfX11_347 rfl ob73 ?_
      refine T_iload dX11_act_65 rfl ?_
      obtain ⟨q66_5, hc66_5, hf⟩ := bind_t hf
      refine X_Vv (qX11_turnsAs Z _ hc66_5) (Nat.le_of_ble_eq_true rfl) dX11_act_66 lvX11_338 rfl rfl ob73 (Nat.le_of_ble_eq_true rfl) ?_
      obtain rfl := Option.some.inj hf
      exact X_ri dX11_act_69 ⟨rfl, rfl⟩
    replace hf := ite_f c31_4 hf
    by_cases c31_6 : p2 = (1 : Int32)
    · replace hf := ite_t c31_6 hf
      refine T_tabE (off := 39) (tgt := 70) c31_6 dX11_act_31 (by decide) (by decide) (by decide) (by decide) ?_
      refine T_aload dX11_act_70 rfl ?_
      refine T_aload dX11_act_71 rfl ?_
      refine X_getf dX11_act_72 lfX11_347 rfl ob73 ?_
      refine T_iload dX11_act_75 rfl ?_
      obtain ⟨q76_7, hc76_7, hf⟩ := bind_t hf
      refine X_Vv (qX11_burnsAs Z _ hc76_7) (Nat.le_of_ble_eq_true rfl) dX11_act_76 lvX11_344 rfl rfl ob73 (Nat.le_of_ble_eq_true rfl) ?_
      obtain rfl := Option.some.inj hf
      exact X_ri dX11_act_79 ⟨rfl, rfl⟩
    replace hf := ite_f c31_6 hf
    by_cases c31_8 : p2 = (2 : Int32)
    · replace hf := ite_t c31_8 hf
      refine T_tabE (off := 49) (tgt := 80) c31_8 dX11_act_31 (by decide) (by decide) (by decide) (by decide) ?_
      refine T_aload dX11_act_80 rfl ?_
      refine T_aload dX11_act_81 rfl ?_
      refine X_getf dX11_act_82 lfX11_347 rfl ob73 ?_
      refine T_iload dX11_act_85 rfl ?_
      obtain ⟨q86_9, hc86_9, hf⟩ := bind_t hf
      refine X_Vv (qX11_warnsAs Z _ hc86_9) (Nat.le_of_ble_eq_true rfl) dX11_act_86 lvX11_350 rfl rfl ob73 (Nat.le_of_ble_eq_true rfl) ?_
      obtain rfl := Option.some.inj hf
      exact X_ri dX11_act_89 ⟨rfl, rfl⟩
    replace hf := ite_f c31_8 hf
    by_cases c31_10 : p2 = (3 : Int32)
    · replace hf := ite_t c31_10 hf
      refine T_tabE (off := 59) (tgt := 90) c31_10 dX11_act_31 (by decide) (by decide) (by decide) (by decide) ?_
      refine T_aload dX11_act_90 rfl ?_
      refine T_aload dX11_act_91 rfl ?_
      refine X_getf dX11_act_92 lfX11_347 rfl ob73 ?_
      refine T_iload dX11_act_95 rfl ?_
      obtain ⟨q96_11, hc96_11, hf⟩ := bind_t hf
      refine X_Vv (qX11_tellsAs Z _ hc96_11) (Nat.le_of_ble_eq_true rfl) dX11_act_96 lvX11_353 rfl rfl ob73 (Nat.le_of_ble_eq_true rfl) ?_
      obtain rfl := Option.some.inj hf
      exact X_ri dX11_act_99 ⟨rfl, rfl⟩
    replace hf := ite_f c31_10 hf
    refine T_tabOut (tgt := 100) ⟨dX11_act_31, by decide⟩ (by
    have n0 := ne_toInt c31_4; rw [show (0 : Int32).toInt = 0 from rfl] at n0
    have n1 := ne_toInt c31_6; rw [show (1 : Int32).toInt = 1 from rfl] at n1
    have n2 := ne_toInt c31_8; rw [show (2 : Int32).toInt = 2 from rfl] at n2
    have n3 := ne_toInt c31_10; rw [show (3 : Int32).toInt = 3 from rfl] at n3
    omega) ?_
    refine T_const dX11_act_100 ?_
    obtain rfl := Option.some.inj hf
    exact X_ri dX11_act_101 ⟨rfl, rfl⟩
  · replace hf := ite_t c10_2 hf
    refine T_const dX11_act_13 ?_
    obtain rfl := Option.some.inj hf
    exact X_ri dX11_act_14 ⟨rfl, rfl⟩
def fX11_trace (x : aH) (p1 : Int32) : Option Int32 := if p1 < (0 : Int32) then some (-1 : Int32) else if (fi x 73 39) ≤ p1 then some (-1 : Int32) else if (24 : Int32) ≤ p1 then some (-1 : Int32) else if (0 : Int32) ≤ p1 ∧ p1 < (24 : Int32) then some (ri x 93 (ix p1)) else none
theorem qX11_trace (Z : aZ) (y : aH) {x : aH} {p1 : Int32} {q : Int32} (hf : fX11_trace x p1 = some q) : CX false Z mX11_trace 0 [.ref 73, .int p1] y x (RV (.int q) x) := by
  refine CX.of mokX11_trace (Nat.le_of_ble_eq_true rfl) ?_
  show TX _ _ _ _ _ _ _ _ [_, _] _
  unfold fX11_trace at hf
  refine T_iload dX11_trace_0 rfl ?_
  refine T_if_lt dX11_trace_1 (fun c1_1 => ?_) (fun c1_1 => ?_)
  · replace hf := ite_t c1_1 hf
    refine T_const dX11_trace_27 ?_
    obtain rfl := Option.some.inj hf
    exact X_ri dX11_trace_28 ⟨rfl, rfl⟩
  · replace hf := ite_f c1_1 hf
    refine T_iload dX11_trace_4 rfl ?_
    refine T_aload dX11_trace_5 rfl ?_
    refine X_getf dX11_trace_6 lfX11_332 rfl ob73 ?_
    refine T_icmp_ge dX11_trace_9 (fun c9_2 => ?_) (fun c9_2 => ?_)
    · replace hf := ite_t c9_2 hf
      refine T_const dX11_trace_27 ?_
      obtain rfl := Option.some.inj hf
      exact X_ri dX11_trace_28 ⟨rfl, rfl⟩
    · replace hf := ite_f c9_2 hf
      refine T_iload dX11_trace_12 rfl ?_
      refine T_const dX11_trace_13 ?_
      refine T_icmp_ge dX11_trace_15 (fun c15_3 => ?_) (fun c15_3 => ?_)
      · replace hf := ite_t c15_3 hf
        refine T_const dX11_trace_27 ?_
        obtain rfl := Option.some.inj hf
        exact X_ri dX11_trace_28 ⟨rfl, rfl⟩
      · replace hf := ite_f c15_3 hf
        refine T_aload dX11_trace_18 rfl ?_
        refine X_getr dX11_trace_19 lfX11_67 rfl ob73 rfl ?_
        refine T_iload dX11_trace_22 rfl ?_
        obtain ⟨hb23_4, hf⟩ := opt_t hf
        refine X_iald (N := 24) dX11_trace_23 ar93 rfl hb23_4 ?_
        refine T_goto dX11_trace_24 ?_
        obtain rfl := Option.some.inj hf
        exact X_ri dX11_trace_28 ⟨rfl, rfl⟩
def jX11_keep_22 (x : aH) (l1 : Int32) (l2 : Int32) : Option (Int32 × aH) := if (0 : Int32) ≤ l1 ∧ l1 < (6 : Int32) then if (0 : Int32) ≤ l1 ∧ l1 < (6 : Int32) then some ((1 : Int32), (sri (sri x 94 (ix l1) l2) 95 (ix l1) (0 : Int32))) else none else none
def fX11_keep (x : aH) (p1 : Int32) (p2 : Int32) : Option (Int32 × aH) := (fX11_isShelf p1).bind fun q1_1 => if q1_1 = (0 : Int32) then some ((-1 : Int32), x) else if p2 = (-1 : Int32) then jX11_keep_22 x p1 p2 else (fX11_isBody x p2).bind fun q14_6 => if q14_6 = (0 : Int32) then some ((-1 : Int32), x) else jX11_keep_22 x p1 p2
theorem qX11_keep (Z : aZ) (y : aH) {x : aH} {p1 : Int32} {p2 : Int32} {q : (Int32 × aH)} (hf : fX11_keep x p1 p2 = some q) : CX false Z mX11_keep 2 [.ref 73, .int p1, .int p2] y x (RV (.int q.1) q.2) := by
  refine CX.of mokX11_keep (Nat.le_of_ble_eq_true rfl) ?_
  show TX _ _ _ _ _ _ _ _ [_, _, _] _
  unfold fX11_keep at hf
  refine T_iload dX11_keep_0 rfl ?_
  obtain ⟨q1_1, hc1_1, hf⟩ := bind_t hf
  refine X_Sv (qX11_isShelf _ Z _ _ hc1_1) (Nat.le_of_ble_eq_true rfl) dX11_keep_1 lsX11_117 rfl rfl (Nat.le_of_ble_eq_true rfl) ?_
  refine T_if_eq dX11_keep_4 (fun c4_2 => ?_) (fun c4_2 => ?_)
  · replace hf := ite_t c4_2 hf
    refine T_const dX11_keep_20 ?_
    obtain rfl := Option.some.inj hf
    exact X_ri dX11_keep_21 ⟨rfl, rfl⟩
  · replace hf := ite_f c4_2 hf
    refine T_iload dX11_keep_7 rfl ?_
    refine T_const dX11_keep_8 ?_
    have J22 : ∀ (x : aH) (l1 : Int32) (l2 : Int32), jX11_keep_22 x l1 l2 = some q → TX false Z mX11_keep 2 y x (RV (.int q.1) q.2) 22 [.ref 73, .int l1, .int l2] [] := by
      intro x l1 l2 hf
      unfold jX11_keep_22 at hf
      refine T_aload dX11_keep_22 rfl ?_
      refine X_getr dX11_keep_23 lfX11_70 rfl ob73 rfl ?_
      refine T_iload dX11_keep_26 rfl ?_
      refine T_iload dX11_keep_27 rfl ?_
      obtain ⟨hb28_3, hf⟩ := opt_t hf
      refine X_iast (N := 6) dX11_keep_28 ar94 rfl hb28_3 ?_
      refine T_aload dX11_keep_29 rfl ?_
      refine X_getr dX11_keep_30 lfX11_73 rfl ob73 rfl ?_
      refine T_iload dX11_keep_33 rfl ?_
      refine T_const dX11_keep_34 ?_
      obtain ⟨hb35_4, hf⟩ := opt_t hf
      refine X_iast (N := 6) dX11_keep_35 ar95 rfl hb35_4 ?_
      refine T_const dX11_keep_36 ?_
      obtain rfl := Option.some.inj hf
      exact X_ri dX11_keep_37 ⟨rfl, rfl⟩
    refine T_icmp_eq dX11_keep_9 (fun c9_5 => ?_) (fun c9_5 => ?_)
    · replace hf := ite_t c9_5 hf
      exact X_wk (WK.s (WK.s (WK.s WK.e))) (J22 _ _ _ hf)
    · replace hf := ite_f c9_5 hf
      refine T_aload dX11_keep_12 rfl ?_
      refine T_iload dX11_keep_13 rfl ?_
      obtain ⟨q14_6, hc14_6, hf⟩ := bind_t hf
      refine X_Vv (qX11_isBody Z _ hc14_6) (Nat.le_of_ble_eq_true rfl) dX11_keep_14 lvX11_356 rfl rfl ob73 (Nat.le_of_ble_eq_true rfl) ?_
      refine T_if_ne dX11_keep_17 (fun c17_7 => ?_) (fun c17_7 => ?_)
      · replace hf := ite_f c17_7 hf
        exact X_wk (WK.s (WK.s (WK.s WK.e))) (J22 _ _ _ hf)
      · replace hf := ite_t c17_7 hf
        refine T_const dX11_keep_20 ?_
        obtain rfl := Option.some.inj hf
        exact X_ri dX11_keep_21 ⟨rfl, rfl⟩
def sX11_row_57 (l1 : Int32) (ih : aH → Int32 → Option aH) (x : aH) (l4 : Int32) : Option aH := if (((60 : Int32) * l1) + (60 : Int32)) ≤ l4 then some x else if (0 : Int32) ≤ l4 ∧ l4 < (360 : Int32) then ih (srj x 96 (ix l4) (0 : Int64)) (l4 + (1 : Int32)) else none
def wX11_row_57 (l1 : Int32) : Nat → aH → Int32 → Option aH
  | 0 => fun _ _ => none
  | n + 1 => sX11_row_57 l1 (wX11_row_57 l1 n)
def fX11_row (x : aH) (p1 : Int32) (p2 : Int32) (p3 : Int32) : Option (Int32 × aH) := (fX11_isShelf p1).bind fun q1_1 => if q1_1 = (0 : Int32) then some ((-1 : Int32), x) else (fX11_within (Int32.toInt64 p2) (0 : Int64) (4 : Int64)).bind fun q13_3 => if q13_3 = (0 : Int32) then some ((-1 : Int32), x) else if p3 ≤ (60 : Int32) then if (0 : Int32) ≤ p3 then if (0 : Int32) ≤ p1 ∧ p1 < (6 : Int32) then if (0 : Int32) ≤ p1 ∧ p1 < (6 : Int32) then (wX11_row_57 p1 2000 (sri (sri x 94 (ix p1) ((50 : Int32) + p2)) 95 (ix p1) p3) ((60 : Int32) * p1)).bind fun q57_11 => some ((1 : Int32), q57_11) else none else none else some ((-14 : Int32), x) else some ((-1 : Int32), x)
theorem lX11_row_57 (Z : aZ) (y : aH) (l1 : Int32) {Q : Option Value → aH → Prop} {R : aH} : ∀ (n : Nat) (x : aH) (l4 : Int32), wX11_row_57 l1 n x l4 = some R → (∀ q, R = q → TX false Z mX11_row 2 y q Q 83 [.null, .null, .null, .null, .null] []) → TX false Z mX11_row 2 y x Q 57 [.ref 73, .int l1, .null, .null, .int l4] [] := by
  intro n
  induction n with
  | zero => intro x l4 hf; cases hf
  | succ n ih =>
    intro x l4 hf ke
    replace hf : sX11_row_57 l1 (wX11_row_57 l1 n) x l4 = some R := hf
    unfold sX11_row_57 at hf
    refine T_iload dX11_row_57 rfl ?_
    refine T_const dX11_row_59 ?_
    refine T_iload dX11_row_61 rfl ?_
    refine T_imul dX11_row_62 ?_
    refine T_const dX11_row_63 ?_
    refine T_iadd dX11_row_65 ?_
    refine T_icmp_ge dX11_row_66 (fun c66_9 => ?_) (fun c66_9 => ?_)
    · replace hf := ite_t c66_9 hf
      exact X_wk (WK.n (WK.n (WK.n (WK.n (WK.n WK.e))))) (ke _ (Option.some.inj hf).symm)
    · replace hf := ite_f c66_9 hf
      refine T_aload dX11_row_69 rfl ?_
      refine X_getr dX11_row_70 lfX11_76 rfl ob73 rfl ?_
      refine T_iload dX11_row_73 rfl ?_
      refine T_constL dX11_row_75 ?_
      obtain ⟨hb76_10, hf⟩ := opt_t hf
      refine X_last (N := 360) dX11_row_76 ar96 rfl hb76_10 ?_
      refine T_iinc dX11_row_77 rfl ?_
      show TX _ _ _ _ _ _ _ _ [_, _, _, _, _] _
      refine T_goto dX11_row_80 ?_
      exact X_wk (WK.s (WK.s (WK.n (WK.n (WK.s WK.e))))) (ih _ _ hf ke)
theorem qX11_row (Z : aZ) (y : aH) {x : aH} {p1 : Int32} {p2 : Int32} {p3 : Int32} {q : (Int32 × aH)} (hf : fX11_row x p1 p2 p3 = some q) : CX false Z mX11_row 2 [.ref 73, .int p1, .int p2, .int p3] y x (RV (.int q.1) q.2) := by
  refine CX.of mokX11_row (Nat.le_of_ble_eq_true rfl) ?_
  show TX _ _ _ _ _ _ _ _ [_, _, _, _, _] _
  unfold fX11_row at hf
  refine T_iload dX11_row_0 rfl ?_
  obtain ⟨q1_1, hc1_1, hf⟩ := bind_t hf
  refine X_Sv (qX11_isShelf _ Z _ _ hc1_1) (Nat.le_of_ble_eq_true rfl) dX11_row_1 lsX11_117 rfl rfl (Nat.le_of_ble_eq_true rfl) ?_
  refine T_if_eq dX11_row_4 (fun c4_2 => ?_) (fun c4_2 => ?_)
  · replace hf := ite_t c4_2 hf
    refine T_const dX11_row_25 ?_
    obtain rfl := Option.some.inj hf
    exact X_ri dX11_row_26 ⟨rfl, rfl⟩
  · replace hf := ite_f c4_2 hf
    refine T_iload dX11_row_7 rfl ?_
    refine T_i2l dX11_row_8 ?_
    refine T_constL dX11_row_9 ?_
    refine T_constL dX11_row_10 ?_
    obtain ⟨q13_3, hc13_3, hf⟩ := bind_t hf
    refine X_Sv (qX11_within _ Z _ _ hc13_3) (Nat.le_of_ble_eq_true rfl) dX11_row_13 lsX11_96 rfl rfl (Nat.le_of_ble_eq_true rfl) ?_
    refine T_if_eq dX11_row_16 (fun c16_4 => ?_) (fun c16_4 => ?_)
    · replace hf := ite_t c16_4 hf
      refine T_const dX11_row_25 ?_
      obtain rfl := Option.some.inj hf
      exact X_ri dX11_row_26 ⟨rfl, rfl⟩
    · replace hf := ite_f c16_4 hf
      refine T_iload dX11_row_19 rfl ?_
      refine T_const dX11_row_20 ?_
      refine T_icmp_le dX11_row_22 (fun c22_5 => ?_) (fun c22_5 => ?_)
      · replace hf := ite_t c22_5 hf
        refine T_iload dX11_row_27 rfl ?_
        refine T_if_ge dX11_row_28 (fun c28_6 => ?_) (fun c28_6 => ?_)
        · replace hf := ite_t c28_6 hf
          refine T_aload dX11_row_34 rfl ?_
          refine X_getr dX11_row_35 lfX11_70 rfl ob73 rfl ?_
          refine T_iload dX11_row_38 rfl ?_
          refine T_const dX11_row_39 ?_
          refine T_iload dX11_row_41 rfl ?_
          refine T_iadd dX11_row_42 ?_
          obtain ⟨hb43_7, hf⟩ := opt_t hf
          refine X_iast (N := 6) dX11_row_43 ar94 rfl hb43_7 ?_
          refine T_aload dX11_row_44 rfl ?_
          refine X_getr dX11_row_45 lfX11_73 rfl ob73 rfl ?_
          refine T_iload dX11_row_48 rfl ?_
          refine T_iload dX11_row_49 rfl ?_
          obtain ⟨hb50_8, hf⟩ := opt_t hf
          refine X_iast (N := 6) dX11_row_50 ar95 rfl hb50_8 ?_
          refine T_const dX11_row_51 ?_
          refine T_iload dX11_row_53 rfl ?_
          refine T_imul dX11_row_54 ?_
          refine T_istore dX11_row_55 ?_
          show TX _ _ _ _ _ _ _ _ [_, _, _, _, _] _
          obtain ⟨q57_11, hc57_11, hf⟩ := bind_t hf
          refine X_wk (WK.s (WK.s (WK.n (WK.n (WK.s WK.e))))) (lX11_row_57 Z _ _ 2000 _ _ hc57_11 ?_)
          intro q57_11z hr
          subst hr
          refine T_const dX11_row_83 ?_
          obtain rfl := Option.some.inj hf
          exact X_ri dX11_row_84 ⟨rfl, rfl⟩
        · replace hf := ite_f c28_6 hf
          refine T_const dX11_row_31 ?_
          obtain rfl := Option.some.inj hf
          exact X_ri dX11_row_33 ⟨rfl, rfl⟩
      · replace hf := ite_f c22_5 hf
        refine T_const dX11_row_25 ?_
        obtain rfl := Option.some.inj hf
        exact X_ri dX11_row_26 ⟨rfl, rfl⟩
def fX11_refusal (x : aH) (p1 : Int32) (p2 : Int32) : Option Int32 := (fX11_isShelf p1).bind fun q1_1 => if q1_1 = (0 : Int32) then some (-1 : Int32) else if (0 : Int32) ≤ p1 ∧ p1 < (6 : Int32) then if (0 : Int32) ≤ (ri x 94 (ix p1)) then if (0 : Int32) ≤ p1 ∧ p1 < (6 : Int32) then if (50 : Int32) ≤ (ri x 94 (ix p1)) then if p2 < (0 : Int32) then some (-13 : Int32) else if (0 : Int32) ≤ p1 ∧ p1 < (6 : Int32) then if (ri x 95 (ix p1)) ≤ p2 then some (-13 : Int32) else some (0 : Int32) else none else some (-12 : Int32) else none else some (-11 : Int32) else none
theorem qX11_refusal (Z : aZ) (y : aH) {x : aH} {p1 : Int32} {p2 : Int32} {q : Int32} (hf : fX11_refusal x p1 p2 = some q) : CX false Z mX11_refusal 2 [.ref 73, .int p1, .int p2] y x (RV (.int q) x) := by
  refine CX.of mokX11_refusal (Nat.le_of_ble_eq_true rfl) ?_
  show TX _ _ _ _ _ _ _ _ [_, _, _] _
  unfold fX11_refusal at hf
  refine T_iload dX11_refusal_0 rfl ?_
  obtain ⟨q1_1, hc1_1, hf⟩ := bind_t hf
  refine X_Sv (qX11_isShelf _ Z _ _ hc1_1) (Nat.le_of_ble_eq_true rfl) dX11_refusal_1 lsX11_117 rfl rfl (Nat.le_of_ble_eq_true rfl) ?_
  refine T_if_ne dX11_refusal_4 (fun c4_2 => ?_) (fun c4_2 => ?_)
  · replace hf := ite_f c4_2 hf
    refine T_aload dX11_refusal_9 rfl ?_
    refine X_getr dX11_refusal_10 lfX11_70 rfl ob73 rfl ?_
    refine T_iload dX11_refusal_13 rfl ?_
    obtain ⟨hb14_3, hf⟩ := opt_t hf
    refine X_iald (N := 6) dX11_refusal_14 ar94 rfl hb14_3 ?_
    refine T_if_ge dX11_refusal_15 (fun c15_4 => ?_) (fun c15_4 => ?_)
    · replace hf := ite_t c15_4 hf
      refine T_aload dX11_refusal_21 rfl ?_
      refine X_getr dX11_refusal_22 lfX11_70 rfl ob73 rfl ?_
      refine T_iload dX11_refusal_25 rfl ?_
      obtain ⟨hb26_5, hf⟩ := opt_t hf
      refine X_iald (N := 6) dX11_refusal_26 ar94 rfl hb26_5 ?_
      refine T_const dX11_refusal_27 ?_
      refine T_icmp_ge dX11_refusal_29 (fun c29_6 => ?_) (fun c29_6 => ?_)
      · replace hf := ite_t c29_6 hf
        refine T_iload dX11_refusal_35 rfl ?_
        refine T_if_lt dX11_refusal_36 (fun c36_7 => ?_) (fun c36_7 => ?_)
        · replace hf := ite_t c36_7 hf
          refine T_const dX11_refusal_53 ?_
          obtain rfl := Option.some.inj hf
          exact X_ri dX11_refusal_55 ⟨rfl, rfl⟩
        · replace hf := ite_f c36_7 hf
          refine T_iload dX11_refusal_39 rfl ?_
          refine T_aload dX11_refusal_40 rfl ?_
          refine X_getr dX11_refusal_41 lfX11_73 rfl ob73 rfl ?_
          refine T_iload dX11_refusal_44 rfl ?_
          obtain ⟨hb45_8, hf⟩ := opt_t hf
          refine X_iald (N := 6) dX11_refusal_45 ar95 rfl hb45_8 ?_
          refine T_icmp_ge dX11_refusal_46 (fun c46_9 => ?_) (fun c46_9 => ?_)
          · replace hf := ite_t c46_9 hf
            refine T_const dX11_refusal_53 ?_
            obtain rfl := Option.some.inj hf
            exact X_ri dX11_refusal_55 ⟨rfl, rfl⟩
          · replace hf := ite_f c46_9 hf
            refine T_const dX11_refusal_49 ?_
            refine T_goto dX11_refusal_50 ?_
            obtain rfl := Option.some.inj hf
            exact X_ri dX11_refusal_55 ⟨rfl, rfl⟩
      · replace hf := ite_f c29_6 hf
        refine T_const dX11_refusal_32 ?_
        obtain rfl := Option.some.inj hf
        exact X_ri dX11_refusal_34 ⟨rfl, rfl⟩
    · replace hf := ite_f c15_4 hf
      refine T_const dX11_refusal_18 ?_
      obtain rfl := Option.some.inj hf
      exact X_ri dX11_refusal_20 ⟨rfl, rfl⟩
  · replace hf := ite_t c4_2 hf
    refine T_const dX11_refusal_7 ?_
    obtain rfl := Option.some.inj hf
    exact X_ri dX11_refusal_8 ⟨rfl, rfl⟩
def fX11_asSort (p0 : Int32) (p1 : Int64) : Option Int64 := if p0 = (0 : Int32) then some (Int32.toInt64 (Int8.toInt32 (Int32.toInt8 (Int64.toInt32 p1)))) else if p0 = (1 : Int32) then some (Int32.toInt64 (Int16.toInt32 (Int32.toInt16 (Int64.toInt32 p1)))) else if p0 = (2 : Int32) then some (Int32.toInt64 (Int64.toInt32 p1)) else if p0 = (4 : Int32) then if (lg_cmp p1 (0 : Int64)) = (0 : Int32) then some (0 : Int64) else some (1 : Int64) else some p1
theorem qX11_asSort (sd : Bool) (Z : aZ) (y : aH) (x : aH) {p0 : Int32} {p1 : Int64} {q : Int64} (hf : fX11_asSort p0 p1 = some q) : CX sd Z mX11_asSort 0 [.int p0, .long p1] y x (RV (.long q) x) := by
  refine CX.of mokX11_asSort (Nat.le_of_ble_eq_true rfl) ?_
  show TX _ _ _ _ _ _ _ _ [_, _, _] _
  unfold fX11_asSort at hf
  refine T_iload dX11_asSort_0 rfl ?_
  refine T_if_ne dX11_asSort_1 (fun c1_1 => ?_) (fun c1_1 => ?_)
  · replace hf := ite_f c1_1 hf
    refine T_iload dX11_asSort_11 rfl ?_
    refine T_const dX11_asSort_12 ?_
    refine T_icmp_ne dX11_asSort_13 (fun c13_2 => ?_) (fun c13_2 => ?_)
    · replace hf := ite_f c13_2 hf
      refine T_iload dX11_asSort_23 rfl ?_
      refine T_const dX11_asSort_24 ?_
      refine T_icmp_ne dX11_asSort_25 (fun c25_3 => ?_) (fun c25_3 => ?_)
      · replace hf := ite_f c25_3 hf
        refine T_iload dX11_asSort_34 rfl ?_
        refine T_const dX11_asSort_35 ?_
        refine T_icmp_ne dX11_asSort_36 (fun c36_4 => ?_) (fun c36_4 => ?_)
        · replace hf := ite_f c36_4 hf
          refine T_lload dX11_asSort_53 rfl ?_
          obtain rfl := Option.some.inj hf
          exact X_rl dX11_asSort_54 ⟨rfl, rfl⟩
        · replace hf := ite_t c36_4 hf
          refine T_lload dX11_asSort_39 rfl ?_
          refine T_constL dX11_asSort_40 ?_
          refine T_lcmp dX11_asSort_41 ?_
          refine T_if_eq dX11_asSort_42 (fun c42_5 => ?_) (fun c42_5 => ?_)
          · replace hf := ite_t c42_5 hf
            refine T_constL dX11_asSort_49 ?_
            refine T_goto dX11_asSort_50 ?_
            obtain rfl := Option.some.inj hf
            exact X_rl dX11_asSort_54 ⟨rfl, rfl⟩
          · replace hf := ite_f c42_5 hf
            refine T_constL dX11_asSort_45 ?_
            refine T_goto dX11_asSort_46 ?_
            obtain rfl := Option.some.inj hf
            exact X_rl dX11_asSort_54 ⟨rfl, rfl⟩
      · replace hf := ite_t c25_3 hf
        refine T_lload dX11_asSort_28 rfl ?_
        refine T_l2i dX11_asSort_29 ?_
        refine T_i2l dX11_asSort_30 ?_
        refine T_goto dX11_asSort_31 ?_
        obtain rfl := Option.some.inj hf
        exact X_rl dX11_asSort_54 ⟨rfl, rfl⟩
    · replace hf := ite_t c13_2 hf
      refine T_lload dX11_asSort_16 rfl ?_
      refine T_l2i dX11_asSort_17 ?_
      refine T_i2s dX11_asSort_18 ?_
      refine T_i2l dX11_asSort_19 ?_
      refine T_goto dX11_asSort_20 ?_
      obtain rfl := Option.some.inj hf
      exact X_rl dX11_asSort_54 ⟨rfl, rfl⟩
  · replace hf := ite_t c1_1 hf
    refine T_lload dX11_asSort_4 rfl ?_
    refine T_l2i dX11_asSort_5 ?_
    refine T_i2b dX11_asSort_6 ?_
    refine T_i2l dX11_asSort_7 ?_
    refine T_goto dX11_asSort_8 ?_
    obtain rfl := Option.some.inj hf
    exact X_rl dX11_asSort_54 ⟨rfl, rfl⟩
def jX11_put_37 (x : aH) (l5 : Int32) : Option (Int32 × aH) := if l5 = (0 : Int32) then some ((1 : Int32), x) else some (l5, x)
def fX11_put (x : aH) (p1 : Int32) (p2 : Int32) (p3 : Int64) : Option (Int32 × aH) := (fX11_refusal x p1 p2).bind fun q3_1 => if q3_1 = (0 : Int32) then if (0 : Int32) ≤ p1 ∧ p1 < (6 : Int32) then (fX11_asSort ((ri x 94 (ix p1)) - (50 : Int32)) p3).bind fun q33_5 => if (0 : Int32) ≤ (((60 : Int32) * p1) + p2) ∧ (((60 : Int32) * p1) + p2) < (360 : Int32) then jX11_put_37 (srj x 96 (ix (((60 : Int32) * p1) + p2)) q33_5) q3_1 else none else none else jX11_put_37 x q3_1
theorem qX11_put (Z : aZ) (y : aH) {x : aH} {p1 : Int32} {p2 : Int32} {p3 : Int64} {q : (Int32 × aH)} (hf : fX11_put x p1 p2 p3 = some q) : CX false Z mX11_put 3 [.ref 73, .int p1, .int p2, .long p3] y x (RV (.int q.1) q.2) := by
  refine CX.of mokX11_put (Nat.le_of_ble_eq_true rfl) ?_
  show TX _ _ _ _ _ _ _ _ [_, _, _, _, _, _] _
  unfold fX11_put at hf
  refine T_aload dX11_put_0 rfl ?_
  refine T_iload dX11_put_1 rfl ?_
  refine T_iload dX11_put_2 rfl ?_
  obtain ⟨q3_1, hc3_1, hf⟩ := bind_t hf
  refine X_Vv (qX11_refusal Z _ hc3_1) (Nat.le_of_ble_eq_true rfl) dX11_put_3 lvX11_359 rfl rfl ob73 (Nat.le_of_ble_eq_true rfl) ?_
  refine T_istore dX11_put_6 ?_
  show TX _ _ _ _ _ _ _ _ [_, _, _, _, _, _] _
  refine T_iload dX11_put_8 rfl ?_
  have J37 : ∀ (x : aH) (l5 : Int32), jX11_put_37 x l5 = some q → TX false Z mX11_put 3 y x (RV (.int q.1) q.2) 37 [.null, .null, .null, .null, .null, .int l5] [] := by
    intro x l5 hf
    unfold jX11_put_37 at hf
    refine T_iload dX11_put_37 rfl ?_
    refine T_if_ne dX11_put_39 (fun c39_2 => ?_) (fun c39_2 => ?_)
    · replace hf := ite_f c39_2 hf
      refine T_iload dX11_put_46 rfl ?_
      obtain rfl := Option.some.inj hf
      exact X_ri dX11_put_48 ⟨rfl, rfl⟩
    · replace hf := ite_t c39_2 hf
      refine T_const dX11_put_42 ?_
      refine T_goto dX11_put_43 ?_
      obtain rfl := Option.some.inj hf
      exact X_ri dX11_put_48 ⟨rfl, rfl⟩
  refine T_if_ne dX11_put_10 (fun c10_3 => ?_) (fun c10_3 => ?_)
  · replace hf := ite_f c10_3 hf
    exact X_wk (WK.n (WK.n (WK.n (WK.n (WK.n (WK.s WK.e)))))) (J37 _ _ hf)
  · replace hf := ite_t c10_3 hf
    refine T_aload dX11_put_13 rfl ?_
    refine X_getr dX11_put_14 lfX11_76 rfl ob73 rfl ?_
    refine T_const dX11_put_17 ?_
    refine T_iload dX11_put_19 rfl ?_
    refine T_imul dX11_put_20 ?_
    refine T_iload dX11_put_21 rfl ?_
    refine T_iadd dX11_put_22 ?_
    refine T_aload dX11_put_23 rfl ?_
    refine X_getr dX11_put_24 lfX11_70 rfl ob73 rfl ?_
    refine T_iload dX11_put_27 rfl ?_
    obtain ⟨hb28_4, hf⟩ := opt_t hf
    refine X_iald (N := 6) dX11_put_28 ar94 rfl hb28_4 ?_
    refine T_const dX11_put_29 ?_
    refine T_isub dX11_put_31 ?_
    refine T_lload dX11_put_32 rfl ?_
    obtain ⟨q33_5, hc33_5, hf⟩ := bind_t hf
    refine X_Sv (qX11_asSort _ Z _ _ hc33_5) (Nat.le_of_ble_eq_true rfl) dX11_put_33 lsX11_362 rfl rfl (Nat.le_of_ble_eq_true rfl) ?_
    obtain ⟨hb36_6, hf⟩ := opt_t hf
    refine X_last (N := 360) dX11_put_36 ar96 rfl hb36_6 ?_
    exact X_wk (WK.n (WK.n (WK.n (WK.n (WK.n (WK.s WK.e)))))) (J37 _ _ hf)
def fX11_element (x : aH) (p1 : Int32) (p2 : Int32) : Option Int64 := (fX11_refusal x p1 p2).bind fun q3_1 => if q3_1 = (0 : Int32) then if (0 : Int32) ≤ (((60 : Int32) * p1) + p2) ∧ (((60 : Int32) * p1) + p2) < (360 : Int32) then some (rj x 96 (ix (((60 : Int32) * p1) + p2))) else none else some (-9223372036854775808 : Int64)
theorem qX11_element (Z : aZ) (y : aH) {x : aH} {p1 : Int32} {p2 : Int32} {q : Int64} (hf : fX11_element x p1 p2 = some q) : CX false Z mX11_element 3 [.ref 73, .int p1, .int p2] y x (RV (.long q) x) := by
  refine CX.of mokX11_element (Nat.le_of_ble_eq_true rfl) ?_
  show TX _ _ _ _ _ _ _ _ [_, _, _] _
  unfold fX11_element at hf
  refine T_aload dX11_element_0 rfl ?_
  refine T_iload dX11_element_1 rfl ?_
  refine T_iload dX11_element_2 rfl ?_
  obtain ⟨q3_1, hc3_1, hf⟩ := bind_t hf
  refine X_Vv (qX11_refusal Z _ hc3_1) (Nat.le_of_ble_eq_true rfl) dX11_element_3 lvX11_359 rfl rfl ob73 (Nat.le_of_ble_eq_true rfl) ?_
  refine T_if_eq dX11_element_6 (fun c6_2 => ?_) (fun c6_2 => ?_)
  · replace hf := ite_t c6_2 hf
    refine T_aload dX11_element_15 rfl ?_
    refine X_getr dX11_element_16 lfX11_76 rfl ob73 rfl ?_
    refine T_const dX11_element_19 ?_
    refine T_iload dX11_element_21 rfl ?_
    refine T_imul dX11_element_22 ?_
    refine T_iload dX11_element_23 rfl ?_
    refine T_iadd dX11_element_24 ?_
    obtain ⟨hb25_3, hf⟩ := opt_t hf
    refine X_lald (N := 360) dX11_element_25 ar96 rfl hb25_3 ?_
    obtain rfl := Option.some.inj hf
    exact X_rl dX11_element_26 ⟨rfl, rfl⟩
  · replace hf := ite_f c6_2 hf
    refine T_constL dX11_element_9 ?_
    refine T_goto dX11_element_12 ?_
    obtain rfl := Option.some.inj hf
    exact X_rl dX11_element_26 ⟨rfl, rfl⟩
def sX11_shift_113 (l1 : Int32) (l2 : Int32) (l3 : Int32) (l4 : Int32) (l5 : Int32) (ih : aH → Int32 → Option aH) (x : aH) (l6 : Int32) : Option aH := if l5 ≤ l6 then some x else if (0 : Int32) ≤ ((((60 : Int32) * l1) + l2) + l6) ∧ ((((60 : Int32) * l1) + l2) + l6) < (360 : Int32) then if (0 : Int32) ≤ l6 ∧ l6 < (60 : Int32) then ih (srj x 97 (ix l6) (rj x 96 (ix ((((60 : Int32) * l1) + l2) + l6)))) (l6 + (1 : Int32)) else none else none
def wX11_shift_113 (l1 : Int32) (l2 : Int32) (l3 : Int32) (l4 : Int32) (l5 : Int32) : Nat → aH → Int32 → Option aH
  | 0 => fun _ _ => none
  | n + 1 => sX11_shift_113 l1 l2 l3 l4 l5 (wX11_shift_113 l1 l2 l3 l4 l5 n)
def sX11_shift_150 (l3 : Int32) (l4 : Int32) (l5 : Int32) (ih : aH → Int32 → Option aH) (x : aH) (l6 : Int32) : Option aH := if l5 ≤ l6 then some x else if (0 : Int32) ≤ l6 ∧ l6 < (60 : Int32) then if (0 : Int32) ≤ ((((60 : Int32) * l3) + l4) + l6) ∧ ((((60 : Int32) * l3) + l4) + l6) < (360 : Int32) then ih (srj x 96 (ix ((((60 : Int32) * l3) + l4) + l6)) (rj x 97 (ix l6))) (l6 + (1 : Int32)) else none else none
def wX11_shift_150 (l3 : Int32) (l4 : Int32) (l5 : Int32) : Nat → aH → Int32 → Option aH
  | 0 => fun _ _ => none
  | n + 1 => sX11_shift_150 l3 l4 l5 (wX11_shift_150 l3 l4 l5 n)
def fX11_shift (x : aH) (p1 : Int32) (p2 : Int32) (p3 : Int32) (p4 : Int32) (p5 : Int32) : Option (Int32 × aH) := (fX11_isShelf p1).bind fun q1_1 => if q1_1 = (0 : Int32) then some ((-1 : Int32), x) else (fX11_isShelf p3).bind fun q8_3 => if q8_3 = (0 : Int32) then some ((-1 : Int32), x) else if (0 : Int32) ≤ p1 ∧ p1 < (6 : Int32) then if (ri x 94 (ix p1)) < (0 : Int32) then some ((-11 : Int32), x) else if (0 : Int32) ≤ p3 ∧ p3 < (6 : Int32) then if (0 : Int32) ≤ (ri x 94 (ix p3)) then if (0 : Int32) ≤ p1 ∧ p1 < (6 : Int32) then if (ri x 94 (ix p1)) < (50 : Int32) then some ((-12 : Int32), x) else if (0 : Int32) ≤ p1 ∧ p1 < (6 : Int32) then if (0 : Int32) ≤ p3 ∧ p3 < (6 : Int32) then if (ri x 94 (ix p1)) = (ri x 94 (ix p3)) then if p5 < (0 : Int32) then some ((-13 : Int32), x) else if p2 < (0 : Int32) then some ((-13 : Int32), x) else if p4 < (0 : Int32) then some ((-13 : Int32), x) else if (0 : Int32) ≤ p1 ∧ p1 < (6 : Int32) then if ((ri x 95 (ix p1)) - p5) < p2 then some ((-13 : Int32), x) else if (0 : Int32) ≤ p3 ∧ p3 < (6 : Int32) then if p4 ≤ ((ri x 95 (ix p3)) - p5) then (wX11_shift_113 p1 p2 p3 p4 p5 2000 x (0 : Int32)).bind fun q113_24 => (wX11_shift_150 p3 p4 p5 2000 q113_24 (0 : Int32)).bind fun q150_28 => some (p5, q150_28) else some ((-13 : Int32), x) else none else none else some ((-12 : Int32), x) else none else none else none else some ((-11 : Int32), x) else none else none
theorem lX11_shift_113 (Z : aZ) (y : aH) (l1 : Int32) (l2 : Int32) (l3 : Int32) (l4 : Int32) (l5 : Int32) {Q : Option Value → aH → Prop} {R : aH} : ∀ (n : Nat) (x : aH) (l6 : Int32), wX11_shift_113 l1 l2 l3 l4 l5 n x l6 = some R → (∀ q, R = q → TX false Z mX11_shift 2 y q Q 147 [.ref 73, .null, .null, .int l3, .int l4, .int l5, .null] []) → TX false Z mX11_shift 2 y x Q 113 [.ref 73, .int l1, .int l2, .int l3, .int l4, .int l5, .int l6] [] := by
  intro n
  induction n with
  | zero => intro x l6 hf; cases hf
  | succ n ih =>
    intro x l6 hf ke
    replace hf : sX11_shift_113 l1 l2 l3 l4 l5 (wX11_shift_113 l1 l2 l3 l4 l5 n) x l6 = some R := hf
    unfold sX11_shift_113 at hf
    refine T_iload dX11_shift_113 rfl ?_
    refine T_iload dX11_shift_115 rfl ?_
    refine T_icmp_ge dX11_shift_117 (fun c117_21 => ?_) (fun c117_21 => ?_)
    · replace hf := ite_t c117_21 hf
      exact X_wk (WK.s (WK.n (WK.n (WK.s (WK.s (WK.s (WK.n WK.e))))))) (ke _ (Option.some.inj hf).symm)
    · replace hf := ite_f c117_21 hf
      refine T_aload dX11_shift_120 rfl ?_
      refine X_getr dX11_shift_121 lfX11_80 rfl ob73 rfl ?_
      refine T_iload dX11_shift_124 rfl ?_
      refine T_aload dX11_shift_126 rfl ?_
      refine X_getr dX11_shift_127 lfX11_76 rfl ob73 rfl ?_
      refine T_const dX11_shift_130 ?_
      refine T_iload dX11_shift_132 rfl ?_
      refine T_imul dX11_shift_133 ?_
      refine T_iload dX11_shift_134 rfl ?_
      refine T_iadd dX11_shift_135 ?_
      refine T_iload dX11_shift_136 rfl ?_
      refine T_iadd dX11_shift_138 ?_
      obtain ⟨hb139_22, hf⟩ := opt_t hf
      refine X_lald (N := 360) dX11_shift_139 ar96 rfl hb139_22 ?_
      obtain ⟨hb140_23, hf⟩ := opt_t hf
      refine X_last (N := 60) dX11_shift_140 ar97 rfl hb140_23 ?_
      refine T_iinc dX11_shift_141 rfl ?_
      show TX _ _ _ _ _ _ _ _ [_, _, _, _, _, _, _] _
      refine T_goto dX11_shift_144 ?_
      exact X_wk (WK.s (WK.s (WK.s (WK.s (WK.s (WK.s (WK.s WK.e))))))) (ih _ _ hf ke)
theorem lX11_shift_150 (Z : aZ) (y : aH) (l3 : Int32) (l4 : Int32) (l5 : Int32) {Q : Option Value → aH → Prop} {R : aH} : ∀ (n : Nat) (x : aH) (l6 : Int32), wX11_shift_150 l3 l4 l5 n x l6 = some R → (∀ q, R = q → TX false Z mX11_shift 2 y q Q 185 [.null, .null, .null, .null, .null, .int l5, .null] []) → TX false Z mX11_shift 2 y x Q 150 [.ref 73, .null, .null, .int l3, .int l4, .int l5, .int l6] [] := by
  intro n
  induction n with
  | zero => intro x l6 hf; cases hf
  | succ n ih =>
    intro x l6 hf ke
    replace hf : sX11_shift_150 l3 l4 l5 (wX11_shift_150 l3 l4 l5 n) x l6 = some R := hf
    unfold sX11_shift_150 at hf
    refine T_iload dX11_shift_150 rfl ?_
    refine T_iload dX11_shift_152 rfl ?_
    refine T_icmp_ge dX11_shift_154 (fun c154_25 => ?_) (fun c154_25 => ?_)
    · replace hf := ite_t c154_25 hf
      exact X_wk (WK.n (WK.n (WK.n (WK.n (WK.n (WK.s (WK.n WK.e))))))) (ke _ (Option.some.inj hf).symm)
    · replace hf := ite_f c154_25 hf
      refine T_aload dX11_shift_157 rfl ?_
      refine X_getr dX11_shift_158 lfX11_76 rfl ob73 rfl ?_
      refine T_const dX11_shift_161 ?_
      refine T_iload dX11_shift_163 rfl ?_
      refine T_imul dX11_shift_164 ?_
      refine T_iload dX11_shift_165 rfl ?_
      refine T_iadd dX11_shift_167 ?_
      refine T_iload dX11_shift_168 rfl ?_
      refine T_iadd dX11_shift_170 ?_
      refine T_aload dX11_shift_171 rfl ?_
      refine X_getr dX11_shift_172 lfX11_80 rfl ob73 rfl ?_
      refine T_iload dX11_shift_175 rfl ?_
      obtain ⟨hb177_26, hf⟩ := opt_t hf
      refine X_lald (N := 60) dX11_shift_177 ar97 rfl hb177_26 ?_
      obtain ⟨hb178_27, hf⟩ := opt_t hf
      refine X_last (N := 360) dX11_shift_178 ar96 rfl hb178_27 ?_
      refine T_iinc dX11_shift_179 rfl ?_
      show TX _ _ _ _ _ _ _ _ [_, _, _, _, _, _, _] _
      refine T_goto dX11_shift_182 ?_
      exact X_wk (WK.s (WK.n (WK.n (WK.s (WK.s (WK.s (WK.s WK.e))))))) (ih _ _ hf ke)
theorem qX11_shift (Z : aZ) (y : aH) {x : aH} {p1 : Int32} {p2 : Int32} {p3 : Int32} {p4 : Int32} {p5 : Int32} {q : (Int32 × aH)} (hf : fX11_shift x p1 p2 p3 p4 p5 = some q) : CX false Z mX11_shift 2 [.ref 73, .int p1, .int p2, .int p3, .int p4, .int p5] y x (RV (.int q.1) q.2) := by
  refine CX.of mokX11_shift (Nat.le_of_ble_eq_true rfl) ?_
  show TX _ _ _ _ _ _ _ _ [_, _, _, _, _, _, _] _
  unfold fX11_shift at hf
  refine T_iload dX11_shift_0 rfl ?_
  obtain ⟨q1_1, hc1_1, hf⟩ := bind_t hf
  refine X_Sv (qX11_isShelf _ Z _ _ hc1_1) (Nat.le_of_ble_eq_true rfl) dX11_shift_1 lsX11_117 rfl rfl (Nat.le_of_ble_eq_true rfl) ?_
  refine T_if_eq dX11_shift_4 (fun c4_2 => ?_) (fun c4_2 => ?_)
  · replace hf := ite_t c4_2 hf
    refine T_const dX11_shift_14 ?_
    obtain rfl := Option.some.inj hf
    exact X_ri dX11_shift_15 ⟨rfl, rfl⟩
  · replace hf := ite_f c4_2 hf
    refine T_iload dX11_shift_7 rfl ?_
    obtain ⟨q8_3, hc8_3, hf⟩ := bind_t hf
    refine X_Sv (qX11_isShelf _ Z _ _ hc8_3) (Nat.le_of_ble_eq_true rfl) dX11_shift_8 lsX11_117 rfl rfl (Nat.le_of_ble_eq_true rfl) ?_
    refine T_if_ne dX11_shift_11 (fun c11_4 => ?_) (fun c11_4 => ?_)
    · replace hf := ite_f c11_4 hf
      refine T_aload dX11_shift_16 rfl ?_
      refine X_getr dX11_shift_17 lfX11_70 rfl ob73 rfl ?_
      refine T_iload dX11_shift_20 rfl ?_
      obtain ⟨hb21_5, hf⟩ := opt_t hf
      refine X_iald (N := 6) dX11_shift_21 ar94 rfl hb21_5 ?_
      refine T_if_lt dX11_shift_22 (fun c22_6 => ?_) (fun c22_6 => ?_)
      · replace hf := ite_t c22_6 hf
        refine T_const dX11_shift_34 ?_
        obtain rfl := Option.some.inj hf
        exact X_ri dX11_shift_36 ⟨rfl, rfl⟩
      · replace hf := ite_f c22_6 hf
        refine T_aload dX11_shift_25 rfl ?_
        refine X_getr dX11_shift_26 lfX11_70 rfl ob73 rfl ?_
        refine T_iload dX11_shift_29 rfl ?_
        obtain ⟨hb30_7, hf⟩ := opt_t hf
        refine X_iald (N := 6) dX11_shift_30 ar94 rfl hb30_7 ?_
        refine T_if_ge dX11_shift_31 (fun c31_8 => ?_) (fun c31_8 => ?_)
        · replace hf := ite_t c31_8 hf
          refine T_aload dX11_shift_37 rfl ?_
          refine X_getr dX11_shift_38 lfX11_70 rfl ob73 rfl ?_
          refine T_iload dX11_shift_41 rfl ?_
          obtain ⟨hb42_9, hf⟩ := opt_t hf
          refine X_iald (N := 6) dX11_shift_42 ar94 rfl hb42_9 ?_
          refine T_const dX11_shift_43 ?_
          refine T_icmp_lt dX11_shift_45 (fun c45_10 => ?_) (fun c45_10 => ?_)
          · replace hf := ite_t c45_10 hf
            refine T_const dX11_shift_63 ?_
            obtain rfl := Option.some.inj hf
            exact X_ri dX11_shift_65 ⟨rfl, rfl⟩
          · replace hf := ite_f c45_10 hf
            refine T_aload dX11_shift_48 rfl ?_
            refine X_getr dX11_shift_49 lfX11_70 rfl ob73 rfl ?_
            refine T_iload dX11_shift_52 rfl ?_
            obtain ⟨hb53_11, hf⟩ := opt_t hf
            refine X_iald (N := 6) dX11_shift_53 ar94 rfl hb53_11 ?_
            refine T_aload dX11_shift_54 rfl ?_
            refine X_getr dX11_shift_55 lfX11_70 rfl ob73 rfl ?_
            refine T_iload dX11_shift_58 rfl ?_
            obtain ⟨hb59_12, hf⟩ := opt_t hf
            refine X_iald (N := 6) dX11_shift_59 ar94 rfl hb59_12 ?_
            refine T_icmp_eq dX11_shift_60 (fun c60_13 => ?_) (fun c60_13 => ?_)
            · replace hf := ite_t c60_13 hf
              refine T_iload dX11_shift_66 rfl ?_
              refine T_if_lt dX11_shift_68 (fun c68_14 => ?_) (fun c68_14 => ?_)
              · replace hf := ite_t c68_14 hf
                refine T_const dX11_shift_107 ?_
                obtain rfl := Option.some.inj hf
                exact X_ri dX11_shift_109 ⟨rfl, rfl⟩
              · replace hf := ite_f c68_14 hf
                refine T_iload dX11_shift_71 rfl ?_
                refine T_if_lt dX11_shift_72 (fun c72_15 => ?_) (fun c72_15 => ?_)
                · replace hf := ite_t c72_15 hf
                  refine T_const dX11_shift_107 ?_
                  obtain rfl := Option.some.inj hf
                  exact X_ri dX11_shift_109 ⟨rfl, rfl⟩
                · replace hf := ite_f c72_15 hf
                  refine T_iload dX11_shift_75 rfl ?_
                  refine T_if_lt dX11_shift_77 (fun c77_16 => ?_) (fun c77_16 => ?_)
                  · replace hf := ite_t c77_16 hf
                    refine T_const dX11_shift_107 ?_
                    obtain rfl := Option.some.inj hf
                    exact X_ri dX11_shift_109 ⟨rfl, rfl⟩
                  · replace hf := ite_f c77_16 hf
                    refine T_iload dX11_shift_80 rfl ?_
                    refine T_aload dX11_shift_81 rfl ?_
                    refine X_getr dX11_shift_82 lfX11_73 rfl ob73 rfl ?_
                    refine T_iload dX11_shift_85 rfl ?_
                    obtain ⟨hb86_17, hf⟩ := opt_t hf
                    refine X_iald (N := 6) dX11_shift_86 ar95 rfl hb86_17 ?_
                    refine T_iload dX11_shift_87 rfl ?_
                    refine T_isub dX11_shift_89 ?_
                    refine T_icmp_gt dX11_shift_90 (fun c90_18 => ?_) (fun c90_18 => ?_)
                    · replace hf := ite_t c90_18 hf
                      refine T_const dX11_shift_107 ?_
                      obtain rfl := Option.some.inj hf
                      exact X_ri dX11_shift_109 ⟨rfl, rfl⟩
                    · replace hf := ite_f c90_18 hf
                      refine T_iload dX11_shift_93 rfl ?_
                      refine T_aload dX11_shift_95 rfl ?_
                      refine X_getr dX11_shift_96 lfX11_73 rfl ob73 rfl ?_
                      refine T_iload dX11_shift_99 rfl ?_
                      obtain ⟨hb100_19, hf⟩ := opt_t hf
                      refine X_iald (N := 6) dX11_shift_100 ar95 rfl hb100_19 ?_
                      refine T_iload dX11_shift_101 rfl ?_
                      refine T_isub dX11_shift_103 ?_
                      refine T_icmp_le dX11_shift_104 (fun c104_20 => ?_) (fun c104_20 => ?_)
                      · replace hf := ite_t c104_20 hf
                        refine T_const dX11_shift_110 ?_
                        refine T_istore dX11_shift_111 ?_
                        show TX _ _ _ _ _ _ _ _ [_, _, _, _, _, _, _] _
                        obtain ⟨q113_24, hc113_24, hf⟩ := bind_t hf
                        refine X_wk (WK.s (WK.s (WK.s (WK.s (WK.s (WK.s (WK.s WK.e))))))) (lX11_shift_113 Z _ _ _ _ _ _ 2000 _ _ hc113_24 ?_)
                        intro q113_24z hr
                        subst hr
                        refine T_const dX11_shift_147 ?_
                        refine T_istore dX11_shift_148 ?_
                        show TX _ _ _ _ _ _ _ _ [_, _, _, _, _, _, _] _
                        obtain ⟨q150_28, hc150_28, hf⟩ := bind_t hf
                        refine X_wk (WK.s (WK.n (WK.n (WK.s (WK.s (WK.s (WK.s WK.e))))))) (lX11_shift_150 Z _ _ _ _ 2000 _ _ hc150_28 ?_)
                        intro q150_28z hr
                        subst hr
                        refine T_iload dX11_shift_185 rfl ?_
                        obtain rfl := Option.some.inj hf
                        exact X_ri dX11_shift_187 ⟨rfl, rfl⟩
                      · replace hf := ite_f c104_20 hf
                        refine T_const dX11_shift_107 ?_
                        obtain rfl := Option.some.inj hf
                        exact X_ri dX11_shift_109 ⟨rfl, rfl⟩
            · replace hf := ite_f c60_13 hf
              refine T_const dX11_shift_63 ?_
              obtain rfl := Option.some.inj hf
              exact X_ri dX11_shift_65 ⟨rfl, rfl⟩
        · replace hf := ite_f c31_8 hf
          refine T_const dX11_shift_34 ?_
          obtain rfl := Option.some.inj hf
          exact X_ri dX11_shift_36 ⟨rfl, rfl⟩
    · replace hf := ite_t c11_4 hf
      refine T_const dX11_shift_14 ?_
      obtain rfl := Option.some.inj hf
      exact X_ri dX11_shift_15 ⟨rfl, rfl⟩
def sX11_taken_58 (x : aH) (l1 : Int32) (l2 : Int32) (ih : Int32 → Option Int32) (l3 : Int32) : Option Int32 := if l3 = l2 then some l3 else if l3 ≤ (0 : Int32) then some l3 else (fX11_above l3).bind fun q68_13 => ih q68_13
def wX11_taken_58 (x : aH) (l1 : Int32) (l2 : Int32) : Nat → Int32 → Option Int32
  | 0 => fun _ => none
  | n + 1 => sX11_taken_58 x l1 l2 (wX11_taken_58 x l1 l2 n)
def fX11_taken (x : aH) (p1 : Int32) (p2 : Int32) : Option Int32 := (fX11_isShelf p1).bind fun q1_1 => if q1_1 = (0 : Int32) then some (-1 : Int32) else (fX11_within (Int32.toInt64 p2) (0 : Int64) (7 : Int64)).bind fun q13_3 => if q13_3 = (0 : Int32) then some (-1 : Int32) else if (0 : Int32) ≤ p1 ∧ p1 < (6 : Int32) then if (0 : Int32) ≤ (ri x 94 (ix p1)) then if (0 : Int32) ≤ p1 ∧ p1 < (6 : Int32) then if (ri x 94 (ix p1)) < (50 : Int32) then if (0 : Int32) ≤ p1 ∧ p1 < (6 : Int32) then (fX11_kindOf x (ri x 94 (ix p1))).bind fun q54_10 => (wX11_taken_58 x p1 p2 2000 q54_10).bind fun q58_14 => if q58_14 = p2 then if (0 : Int32) ≤ p1 ∧ p1 < (6 : Int32) then (fX11_kindOf x (ri x 94 (ix p1))).bind fun q87_17 => some q87_17 else none else some (-12 : Int32) else none else some (-12 : Int32) else none else some (-11 : Int32) else none
theorem lX11_taken_58 (Z : aZ) (y : aH) (x : aH) (l1 : Int32) (l2 : Int32) {Q : Option Value → aH → Prop} {R : Int32} : ∀ (n : Nat) (l3 : Int32), wX11_taken_58 x l1 l2 n l3 = some R → (∀ q, R = q → TX false Z mX11_taken 2 y x Q 75 [.ref 73, .int l1, .int l2, .int q] []) → TX false Z mX11_taken 2 y x Q 58 [.ref 73, .int l1, .int l2, .int l3] [] := by
  intro n
  induction n with
  | zero => intro l3 hf; cases hf
  | succ n ih =>
    intro l3 hf ke
    replace hf : sX11_taken_58 x l1 l2 (wX11_taken_58 x l1 l2 n) l3 = some R := hf
    unfold sX11_taken_58 at hf
    refine T_iload dX11_taken_58 rfl ?_
    refine T_iload dX11_taken_59 rfl ?_
    refine T_icmp_eq dX11_taken_60 (fun c60_11 => ?_) (fun c60_11 => ?_)
    · replace hf := ite_t c60_11 hf
      exact X_wk (WK.s (WK.s (WK.s (WK.s WK.e)))) (ke _ (Option.some.inj hf).symm)
    · replace hf := ite_f c60_11 hf
      refine T_iload dX11_taken_63 rfl ?_
      refine T_if_le dX11_taken_64 (fun c64_12 => ?_) (fun c64_12 => ?_)
      · replace hf := ite_t c64_12 hf
        exact X_wk (WK.s (WK.s (WK.s (WK.s WK.e)))) (ke _ (Option.some.inj hf).symm)
      · replace hf := ite_f c64_12 hf
        refine T_iload dX11_taken_67 rfl ?_
        obtain ⟨q68_13, hc68_13, hf⟩ := bind_t hf
        refine X_Sv (qX11_above _ Z _ _ hc68_13) (Nat.le_of_ble_eq_true rfl) dX11_taken_68 lsX11_369 rfl rfl (Nat.le_of_ble_eq_true rfl) ?_
        refine T_istore dX11_taken_71 ?_
        show TX _ _ _ _ _ _ _ _ [_, _, _, _] _
        refine T_goto dX11_taken_72 ?_
        exact X_wk (WK.s (WK.s (WK.s (WK.s WK.e)))) (ih _ hf ke)
theorem qX11_taken (Z : aZ) (y : aH) {x : aH} {p1 : Int32} {p2 : Int32} {q : Int32} (hf : fX11_taken x p1 p2 = some q) : CX false Z mX11_taken 2 [.ref 73, .int p1, .int p2] y x (RV (.int q) x) := by
  refine CX.of mokX11_taken (Nat.le_of_ble_eq_true rfl) ?_
  show TX _ _ _ _ _ _ _ _ [_, _, _, _] _
  unfold fX11_taken at hf
  refine T_iload dX11_taken_0 rfl ?_
  obtain ⟨q1_1, hc1_1, hf⟩ := bind_t hf
  refine X_Sv (qX11_isShelf _ Z _ _ hc1_1) (Nat.le_of_ble_eq_true rfl) dX11_taken_1 lsX11_117 rfl rfl (Nat.le_of_ble_eq_true rfl) ?_
  refine T_if_eq dX11_taken_4 (fun c4_2 => ?_) (fun c4_2 => ?_)
  · replace hf := ite_t c4_2 hf
    refine T_const dX11_taken_19 ?_
    obtain rfl := Option.some.inj hf
    exact X_ri dX11_taken_20 ⟨rfl, rfl⟩
  · replace hf := ite_f c4_2 hf
    refine T_iload dX11_taken_7 rfl ?_
    refine T_i2l dX11_taken_8 ?_
    refine T_constL dX11_taken_9 ?_
    refine T_constL dX11_taken_10 ?_
    obtain ⟨q13_3, hc13_3, hf⟩ := bind_t hf
    refine X_Sv (qX11_within _ Z _ _ hc13_3) (Nat.le_of_ble_eq_true rfl) dX11_taken_13 lsX11_96 rfl rfl (Nat.le_of_ble_eq_true rfl) ?_
    refine T_if_ne dX11_taken_16 (fun c16_4 => ?_) (fun c16_4 => ?_)
    · replace hf := ite_f c16_4 hf
      refine T_aload dX11_taken_21 rfl ?_
      refine X_getr dX11_taken_22 lfX11_70 rfl ob73 rfl ?_
      refine T_iload dX11_taken_25 rfl ?_
      obtain ⟨hb26_5, hf⟩ := opt_t hf
      refine X_iald (N := 6) dX11_taken_26 ar94 rfl hb26_5 ?_
      refine T_if_ge dX11_taken_27 (fun c27_6 => ?_) (fun c27_6 => ?_)
      · replace hf := ite_t c27_6 hf
        refine T_aload dX11_taken_33 rfl ?_
        refine X_getr dX11_taken_34 lfX11_70 rfl ob73 rfl ?_
        refine T_iload dX11_taken_37 rfl ?_
        obtain ⟨hb38_7, hf⟩ := opt_t hf
        refine X_iald (N := 6) dX11_taken_38 ar94 rfl hb38_7 ?_
        refine T_const dX11_taken_39 ?_
        refine T_icmp_lt dX11_taken_41 (fun c41_8 => ?_) (fun c41_8 => ?_)
        · replace hf := ite_t c41_8 hf
          refine T_aload dX11_taken_47 rfl ?_
          refine T_aload dX11_taken_48 rfl ?_
          refine X_getr dX11_taken_49 lfX11_70 rfl ob73 rfl ?_
          refine T_iload dX11_taken_52 rfl ?_
          obtain ⟨hb53_9, hf⟩ := opt_t hf
          refine X_iald (N := 6) dX11_taken_53 ar94 rfl hb53_9 ?_
          obtain ⟨q54_10, hc54_10, hf⟩ := bind_t hf
          refine X_Vv (qX11_kindOf Z _ hc54_10) (Nat.le_of_ble_eq_true rfl) dX11_taken_54 lvX11_366 rfl rfl ob73 (Nat.le_of_ble_eq_true rfl) ?_
          refine T_istore dX11_taken_57 ?_
          show TX _ _ _ _ _ _ _ _ [_, _, _, _] _
          obtain ⟨q58_14, hc58_14, hf⟩ := bind_t hf
          refine X_wk (WK.s (WK.s (WK.s (WK.s WK.e)))) (lX11_taken_58 Z _ _ _ _ 2000 _ hc58_14 ?_)
          intro q58_14z hr
          subst hr
          refine T_iload dX11_taken_75 rfl ?_
          refine T_iload dX11_taken_76 rfl ?_
          refine T_icmp_ne dX11_taken_77 (fun c77_15 => ?_) (fun c77_15 => ?_)
          · replace hf := ite_f c77_15 hf
            refine T_const dX11_taken_93 ?_
            obtain rfl := Option.some.inj hf
            exact X_ri dX11_taken_95 ⟨rfl, rfl⟩
          · replace hf := ite_t c77_15 hf
            refine T_aload dX11_taken_80 rfl ?_
            refine T_aload dX11_taken_81 rfl ?_
            refine X_getr dX11_taken_82 lfX11_70 rfl ob73 rfl ?_
            refine T_iload dX11_taken_85 rfl ?_
            obtain ⟨hb86_16, hf⟩ := opt_t hf
            refine X_iald (N := 6) dX11_taken_86 ar94 rfl hb86_16 ?_
            obtain ⟨q87_17, hc87_17, hf⟩ := bind_t hf
            refine X_Vv (qX11_kindOf Z _ hc87_17) (Nat.le_of_ble_eq_true rfl) dX11_taken_87 lvX11_366 rfl rfl ob73 (Nat.le_of_ble_eq_true rfl) ?_
            refine T_goto dX11_taken_90 ?_
            obtain rfl := Option.some.inj hf
            exact X_ri dX11_taken_95 ⟨rfl, rfl⟩
        · replace hf := ite_f c41_8 hf
          refine T_const dX11_taken_44 ?_
          obtain rfl := Option.some.inj hf
          exact X_ri dX11_taken_46 ⟨rfl, rfl⟩
      · replace hf := ite_f c27_6 hf
        refine T_const dX11_taken_30 ?_
        obtain rfl := Option.some.inj hf
        exact X_ri dX11_taken_32 ⟨rfl, rfl⟩
    · replace hf := ite_t c16_4 hf
      refine T_const dX11_taken_19 ?_
      obtain rfl := Option.some.inj hf
      exact X_ri dX11_taken_20 ⟨rfl, rfl⟩
def fX11_count (x : aH) (p1 : Int32) : Option (Int32 × aH) := if p1 = (0 : Int32) then some ((fi x 73 6), x) else if p1 = (1 : Int32) then (fX11_manyHome x).bind fun q46_3 => some (q46_3.1, q46_3.2) else if p1 = (2 : Int32) then some ((fi x 73 8), x) else if p1 = (3 : Int32) then some ((fi x 73 5), x) else if p1 = (4 : Int32) then some ((fi x 73 36), x) else if p1 = (5 : Int32) then some ((fi x 73 39), x) else some ((-1 : Int32), x)
theorem qX11_count (Z : aZ) (y : aH) {x : aH} {p1 : Int32} {q : (Int32 × aH)} (hf : fX11_count x p1 = some q) : CX false Z mX11_count 2 [.ref 73, .int p1] y x (RV (.int q.1) q.2) := by
  refine CX.of mokX11_count (Nat.le_of_ble_eq_true rfl) ?_
  show TX _ _ _ _ _ _ _ _ [_, _] _
  unfold fX11_count at hf
  refine T_iload dX11_count_0 rfl ?_
  by_cases c1_1 : p1 = (0 : Int32)
  · replace hf := ite_t c1_1 hf
    refine T_tabE (off := 39) (tgt := 40) c1_1 dX11_count_1 (by decide) (by decide) (by decide) (by decide) ?_
    refine T_aload dX11_count_40 rfl ?_
    refine X_getf dX11_count_41 lfX11_93 rfl ob73 ?_
    obtain rfl := Option.some.inj hf
    exact X_ri dX11_count_44 ⟨rfl, rfl⟩
  replace hf := ite_f c1_1 hf
  by_cases c1_2 : p1 = (1 : Int32)
  · replace hf := ite_t c1_2 hf
    refine T_tabE (off := 44) (tgt := 45) c1_2 dX11_count_1 (by decide) (by decide) (by decide) (by decide) ?_
    refine T_aload dX11_count_45 rfl ?_
    obtain ⟨q46_3, hc46_3, hf⟩ := bind_t hf
    refine X_Vv (qX11_manyHome Z _ hc46_3) (Nat.le_of_ble_eq_true rfl) dX11_count_46 lvX11_372 rfl rfl ob73 (Nat.le_of_ble_eq_true rfl) ?_
    obtain rfl := Option.some.inj hf
    exact X_ri dX11_count_49 ⟨rfl, rfl⟩
  replace hf := ite_f c1_2 hf
  by_cases c1_4 : p1 = (2 : Int32)
  · replace hf := ite_t c1_4 hf
    refine T_tabE (off := 49) (tgt := 50) c1_4 dX11_count_1 (by decide) (by decide) (by decide) (by decide) ?_
    refine T_aload dX11_count_50 rfl ?_
    refine X_getf dX11_count_51 lfX11_147 rfl ob73 ?_
    obtain rfl := Option.some.inj hf
    exact X_ri dX11_count_54 ⟨rfl, rfl⟩
  replace hf := ite_f c1_4 hf
  by_cases c1_5 : p1 = (3 : Int32)
  · replace hf := ite_t c1_5 hf
    refine T_tabE (off := 54) (tgt := 55) c1_5 dX11_count_1 (by decide) (by decide) (by decide) (by decide) ?_
    refine T_aload dX11_count_55 rfl ?_
    refine X_getf dX11_count_56 lfX11_87 rfl ob73 ?_
    obtain rfl := Option.some.inj hf
    exact X_ri dX11_count_59 ⟨rfl, rfl⟩
  replace hf := ite_f c1_5 hf
  by_cases c1_6 : p1 = (4 : Int32)
  · replace hf := ite_t c1_6 hf
    refine T_tabE (off := 59) (tgt := 60) c1_6 dX11_count_1 (by decide) (by decide) (by decide) (by decide) ?_
    refine T_aload dX11_count_60 rfl ?_
    refine X_getf dX11_count_61 lfX11_329 rfl ob73 ?_
    obtain rfl := Option.some.inj hf
    exact X_ri dX11_count_64 ⟨rfl, rfl⟩
  replace hf := ite_f c1_6 hf
  by_cases c1_7 : p1 = (5 : Int32)
  · replace hf := ite_t c1_7 hf
    refine T_tabE (off := 64) (tgt := 65) c1_7 dX11_count_1 (by decide) (by decide) (by decide) (by decide) ?_
    refine T_aload dX11_count_65 rfl ?_
    refine X_getf dX11_count_66 lfX11_332 rfl ob73 ?_
    obtain rfl := Option.some.inj hf
    exact X_ri dX11_count_69 ⟨rfl, rfl⟩
  replace hf := ite_f c1_7 hf
  refine T_tabOut (tgt := 70) ⟨dX11_count_1, by decide⟩ (by
    have n0 := ne_toInt c1_1; rw [show (0 : Int32).toInt = 0 from rfl] at n0
    have n1 := ne_toInt c1_2; rw [show (1 : Int32).toInt = 1 from rfl] at n1
    have n2 := ne_toInt c1_4; rw [show (2 : Int32).toInt = 2 from rfl] at n2
    have n3 := ne_toInt c1_5; rw [show (3 : Int32).toInt = 3 from rfl] at n3
    have n4 := ne_toInt c1_6; rw [show (4 : Int32).toInt = 4 from rfl] at n4
    have n5 := ne_toInt c1_7; rw [show (5 : Int32).toInt = 5 from rfl] at n5
    omega) ?_
  refine T_const dX11_count_70 ?_
  obtain rfl := Option.some.inj hf
  exact X_ri dX11_count_71 ⟨rfl, rfl⟩
