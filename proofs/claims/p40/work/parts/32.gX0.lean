noncomputable def fX0_isKind (x : aH) (p1 : Int32) : Option Int32 := if p1 < (0 : Int32) then some (0 : Int32) else if (8 : Int32) ≤ p1 then some (0 : Int32) else some (1 : Int32)
theorem qX0_isKind (Z : aZ) (y : aH) {x : aH} {p1 : Int32} {q : Int32} (hf : fX0_isKind x p1 = some q) : CX true Z mX0_isKind 0 [.ref 57, .int p1] y x (RV (.int q) x) := by
  refine CX.of mokX0_isKind (Nat.le_of_ble_eq_true rfl) ?_
  show TX _ _ _ _ _ _ _ _ [_, _] _
  delta fX0_isKind at hf
  refine T_iload dX0_isKind_0 rfl ?_
  refine T_if_lt dX0_isKind_1 (fun c1_1 => ?_) (fun c1_1 => ?_)
  · replace hf := ite_t c1_1 hf
    refine T_const dX0_isKind_14 ?_
    obtain rfl := Option.some.inj hf
    exact X_rz dX0_isKind_15 (by first | exact Or.inl rfl | exact Or.inr rfl) ⟨rfl, rfl⟩
  · replace hf := ite_f c1_1 hf
    refine T_iload dX0_isKind_4 rfl ?_
    refine T_const dX0_isKind_5 ?_
    refine T_icmp_ge dX0_isKind_7 (fun c7_2 => ?_) (fun c7_2 => ?_)
    · replace hf := ite_t c7_2 hf
      refine T_const dX0_isKind_14 ?_
      obtain rfl := Option.some.inj hf
      exact X_rz dX0_isKind_15 (by first | exact Or.inl rfl | exact Or.inr rfl) ⟨rfl, rfl⟩
    · replace hf := ite_f c7_2 hf
      refine T_const dX0_isKind_10 ?_
      refine T_goto dX0_isKind_11 ?_
      obtain rfl := Option.some.inj hf
      exact X_rz dX0_isKind_15 (by first | exact Or.inl rfl | exact Or.inr rfl) ⟨rfl, rfl⟩
noncomputable def fX0_isBody (x : aH) (p1 : Int32) : Option Int32 := if p1 < (0 : Int32) then some (0 : Int32) else if (fi x 57 1) ≤ p1 then some (0 : Int32) else some (1 : Int32)
theorem qX0_isBody (Z : aZ) (y : aH) {x : aH} {p1 : Int32} {q : Int32} (hf : fX0_isBody x p1 = some q) : CX true Z mX0_isBody 0 [.ref 57, .int p1] y x (RV (.int q) x) := by
  refine CX.of mokX0_isBody (Nat.le_of_ble_eq_true rfl) ?_
  show TX _ _ _ _ _ _ _ _ [_, _] _
  delta fX0_isBody at hf
  refine T_iload dX0_isBody_0 rfl ?_
  refine T_if_lt dX0_isBody_1 (fun c1_1 => ?_) (fun c1_1 => ?_)
  · replace hf := ite_t c1_1 hf
    refine T_const dX0_isBody_16 ?_
    obtain rfl := Option.some.inj hf
    exact X_rz dX0_isBody_17 (by first | exact Or.inl rfl | exact Or.inr rfl) ⟨rfl, rfl⟩
  · replace hf := ite_f c1_1 hf
    refine T_iload dX0_isBody_4 rfl ?_
    refine T_aload dX0_isBody_5 rfl ?_
    refine X_getf dX0_isBody_6 lfX0_16 rfl ob57 ?_
    refine T_icmp_ge dX0_isBody_9 (fun c9_2 => ?_) (fun c9_2 => ?_)
    · replace hf := ite_t c9_2 hf
      refine T_const dX0_isBody_16 ?_
      obtain rfl := Option.some.inj hf
      exact X_rz dX0_isBody_17 (by first | exact Or.inl rfl | exact Or.inr rfl) ⟨rfl, rfl⟩
    · replace hf := ite_f c9_2 hf
      refine T_const dX0_isBody_12 ?_
      refine T_goto dX0_isBody_13 ?_
      obtain rfl := Option.some.inj hf
      exact X_rz dX0_isBody_17 (by first | exact Or.inl rfl | exact Or.inr rfl) ⟨rfl, rfl⟩
noncomputable def fX0_isFull (x : aH) : Option Int32 := if (fi x 57 1) < (50 : Int32) then some (0 : Int32) else some (1 : Int32)
theorem qX0_isFull (Z : aZ) (y : aH) {x : aH} {q : Int32} (hf : fX0_isFull x = some q) : CX true Z mX0_isFull 0 [.ref 57] y x (RV (.int q) x) := by
  refine CX.of mokX0_isFull (Nat.le_of_ble_eq_true rfl) ?_
  show TX _ _ _ _ _ _ _ _ [_] _
  delta fX0_isFull at hf
  refine T_aload dX0_isFull_0 rfl ?_
  refine X_getf dX0_isFull_1 lfX0_16 rfl ob57 ?_
  refine T_const dX0_isFull_4 ?_
  refine T_icmp_lt dX0_isFull_6 (fun c6_1 => ?_) (fun c6_1 => ?_)
  · replace hf := ite_t c6_1 hf
    refine T_const dX0_isFull_13 ?_
    obtain rfl := Option.some.inj hf
    exact X_rz dX0_isFull_14 (by first | exact Or.inl rfl | exact Or.inr rfl) ⟨rfl, rfl⟩
  · replace hf := ite_f c6_1 hf
    refine T_const dX0_isFull_9 ?_
    refine T_goto dX0_isFull_10 ?_
    obtain rfl := Option.some.inj hf
    exact X_rz dX0_isFull_14 (by first | exact Or.inl rfl | exact Or.inr rfl) ⟨rfl, rfl⟩
noncomputable def fX0_isTraced (x : aH) (p1 : Int32) : Option Int32 := if p1 < (0 : Int32) then some (0 : Int32) else if (fi x 57 3) ≤ p1 then some (0 : Int32) else if (24 : Int32) ≤ p1 then some (0 : Int32) else some (1 : Int32)
theorem qX0_isTraced (Z : aZ) (y : aH) {x : aH} {p1 : Int32} {q : Int32} (hf : fX0_isTraced x p1 = some q) : CX true Z mX0_isTraced 0 [.ref 57, .int p1] y x (RV (.int q) x) := by
  refine CX.of mokX0_isTraced (Nat.le_of_ble_eq_true rfl) ?_
  show TX _ _ _ _ _ _ _ _ [_, _] _
  delta fX0_isTraced at hf
  refine T_iload dX0_isTraced_0 rfl ?_
  refine T_if_lt dX0_isTraced_1 (fun c1_1 => ?_) (fun c1_1 => ?_)
  · replace hf := ite_t c1_1 hf
    refine T_const dX0_isTraced_22 ?_
    obtain rfl := Option.some.inj hf
    exact X_rz dX0_isTraced_23 (by first | exact Or.inl rfl | exact Or.inr rfl) ⟨rfl, rfl⟩
  · replace hf := ite_f c1_1 hf
    refine T_iload dX0_isTraced_4 rfl ?_
    refine T_aload dX0_isTraced_5 rfl ?_
    refine X_getf dX0_isTraced_6 lfX0_20 rfl ob57 ?_
    refine T_icmp_ge dX0_isTraced_9 (fun c9_2 => ?_) (fun c9_2 => ?_)
    · replace hf := ite_t c9_2 hf
      refine T_const dX0_isTraced_22 ?_
      obtain rfl := Option.some.inj hf
      exact X_rz dX0_isTraced_23 (by first | exact Or.inl rfl | exact Or.inr rfl) ⟨rfl, rfl⟩
    · replace hf := ite_f c9_2 hf
      refine T_iload dX0_isTraced_12 rfl ?_
      refine T_const dX0_isTraced_13 ?_
      refine T_icmp_ge dX0_isTraced_15 (fun c15_3 => ?_) (fun c15_3 => ?_)
      · replace hf := ite_t c15_3 hf
        refine T_const dX0_isTraced_22 ?_
        obtain rfl := Option.some.inj hf
        exact X_rz dX0_isTraced_23 (by first | exact Or.inl rfl | exact Or.inr rfl) ⟨rfl, rfl⟩
      · replace hf := ite_f c15_3 hf
        refine T_const dX0_isTraced_18 ?_
        refine T_goto dX0_isTraced_19 ?_
        obtain rfl := Option.some.inj hf
        exact X_rz dX0_isTraced_23 (by first | exact Or.inl rfl | exact Or.inr rfl) ⟨rfl, rfl⟩
noncomputable def fX0_add (x : aH) (p1 : Int32) : Option (Int32 × aH) := if (0 : Int32) ≤ (fi x 57 1) ∧ (fi x 57 1) < (50 : Int32) then some (((fi (sfi (sri x 58 (ix (fi x 57 1)) p1) 57 1 ((fi (sri x 58 (ix (fi x 57 1)) p1) 57 1) + (1 : Int32))) 57 1) - (1 : Int32)), (sfi (sri x 58 (ix (fi x 57 1)) p1) 57 1 ((fi (sri x 58 (ix (fi x 57 1)) p1) 57 1) + (1 : Int32)))) else none
theorem qX0_add (Z : aZ) (y : aH) {x : aH} {p1 : Int32} {q : (Int32 × aH)} (hf : fX0_add x p1 = some q) : CX true Z mX0_add 0 [.ref 57, .int p1] y x (RV (.int q.1) q.2) := by
  refine CX.of mokX0_add (Nat.le_of_ble_eq_true rfl) ?_
  show TX _ _ _ _ _ _ _ _ [_, _] _
  delta fX0_add at hf
  refine T_aload dX0_add_0 rfl ?_
  refine X_getr dX0_add_1 lfX0_9 rfl ob57 rfl ?_
  refine T_aload dX0_add_4 rfl ?_
  refine X_getf dX0_add_5 lfX0_16 rfl ob57 ?_
  refine T_iload dX0_add_8 rfl ?_
  obtain ⟨hb9_1, hf⟩ := opt_t hf
  refine X_iast (N := 50) dX0_add_9 ar58 rfl hb9_1 ?_
  refine T_aload dX0_add_10 rfl ?_
  refine T_dup dX0_add_11 rfl ?_
  refine X_getf dX0_add_12 lfX0_16 rfl ob57 ?_
  refine T_const dX0_add_15 ?_
  refine T_iadd dX0_add_16 ?_
  refine X_putf dX0_add_17 lfX0_16 rfl rfl ob57 ⟨rfl, rfl⟩ ?_
  refine T_aload dX0_add_20 rfl ?_
  refine X_getf dX0_add_21 lfX0_16 rfl ob57 ?_
  refine T_const dX0_add_24 ?_
  refine T_isub dX0_add_25 ?_
  obtain rfl := Option.some.inj hf
  exact X_ri dX0_add_26 ⟨rfl, rfl⟩
noncomputable def sX0_isUnder_5 (x : aH) (l2 : Int32) (ih : Int32 → Int32 → Option (Sum Int32 Unit)) (l3 : Int32) (l4 : Int32) : Option (Sum Int32 Unit) := if (8 : Int32) ≤ l4 then some (.inr ()) else if l3 < (0 : Int32) then some (.inr ()) else if l3 = l2 then some (.inl (1 : Int32)) else if (0 : Int32) ≤ l3 ∧ l3 < (8 : Int32) then ih (stR 4 (ix l3)) (l4 + (1 : Int32)) else none
noncomputable def wX0_isUnder_5 (x : aH) (l2 : Int32) : Nat → Int32 → Int32 → Option (Sum Int32 Unit)
  | 0 => fun _ _ => none
  | n + 1 => sX0_isUnder_5 x l2 (wX0_isUnder_5 x l2 n)
noncomputable def fX0_isUnder (x : aH) (p1 : Int32) (p2 : Int32) : Option Int32 := (wX0_isUnder_5 x p2 2000 p1 (0 : Int32)).bind fun q5_5 => elS q5_5 (fun r => some r) (fun eq5_5 => some (0 : Int32))
theorem lX0_isUnder_5 (Z : aZ) (y : aH) (x : aH) (l2 : Int32) {Q : Option Value → aH → Prop} {R : (Sum Int32 Unit)} : ∀ (n : Nat) (l3 : Int32) (l4 : Int32), wX0_isUnder_5 x l2 n l3 l4 = some R → (∀ r, R = .inl r → Q (some (.int r)) x) → (∀ q, R = .inr q → TX true Z mX0_isUnder 0 y x Q 35 [.null, .null, .null, .null, .null] []) → TX true Z mX0_isUnder 0 y x Q 5 [.null, .null, .int l2, .int l3, .int l4] [] := by
  intro n
  induction n with
  | zero => intro l3 l4 hf; cases hf
  | succ n ih =>
    intro l3 l4 hf kr ke
    replace hf : sX0_isUnder_5 x l2 (wX0_isUnder_5 x l2 n) l3 l4 = some R := hf
    delta sX0_isUnder_5 at hf
    refine T_iload dX0_isUnder_5 rfl ?_
    refine T_const dX0_isUnder_7 ?_
    refine T_icmp_ge dX0_isUnder_9 (fun c9_1 => ?_) (fun c9_1 => ?_)
    · replace hf := ite_t c9_1 hf
      exact X_wk (WK.n (WK.n (WK.n (WK.n (WK.n WK.e))))) (ke () (Option.some.inj hf).symm)
    · replace hf := ite_f c9_1 hf
      refine T_iload dX0_isUnder_12 rfl ?_
      refine T_if_lt dX0_isUnder_13 (fun c13_2 => ?_) (fun c13_2 => ?_)
      · replace hf := ite_t c13_2 hf
        exact X_wk (WK.n (WK.n (WK.n (WK.n (WK.n WK.e))))) (ke () (Option.some.inj hf).symm)
      · replace hf := ite_f c13_2 hf
        refine T_iload dX0_isUnder_16 rfl ?_
        refine T_iload dX0_isUnder_17 rfl ?_
        refine T_icmp_ne dX0_isUnder_18 (fun c18_3 => ?_) (fun c18_3 => ?_)
        · replace hf := ite_f c18_3 hf
          refine T_gets dX0_isUnder_23 lgX0_23 ?_
          refine T_iload dX0_isUnder_26 rfl ?_
          obtain ⟨hb27_4, hf⟩ := opt_t hf
          refine X_ialdS (N := 8) dX0_isUnder_27 (by decide) rfl (by decide) rfl hb27_4 ?_
          refine T_istore dX0_isUnder_28 ?_
          show TX _ _ _ _ _ _ _ _ [_, _, _, _, _] _
          refine T_iinc dX0_isUnder_29 rfl ?_
          show TX _ _ _ _ _ _ _ _ [_, _, _, _, _] _
          refine T_goto dX0_isUnder_32 ?_
          exact X_wk (WK.n (WK.n (WK.s (WK.s (WK.s WK.e))))) (ih _ _ hf kr ke)
        · replace hf := ite_t c18_3 hf
          refine T_const dX0_isUnder_21 ?_
          exact X_rz dX0_isUnder_22 (by first | exact Or.inl rfl | exact Or.inr rfl) (kr (1 : Int32) (Option.some.inj hf).symm)
theorem qX0_isUnder (Z : aZ) (y : aH) {x : aH} {p1 : Int32} {p2 : Int32} {q : Int32} (hf : fX0_isUnder x p1 p2 = some q) : CX true Z mX0_isUnder 0 [.ref 57, .int p1, .int p2] y x (RV (.int q) x) := by
  refine CX.of mokX0_isUnder (Nat.le_of_ble_eq_true rfl) ?_
  show TX _ _ _ _ _ _ _ _ [_, _, _, _, _] _
  delta fX0_isUnder at hf
  refine T_iload dX0_isUnder_0 rfl ?_
  refine T_istore dX0_isUnder_1 ?_
  show TX _ _ _ _ _ _ _ _ [_, _, _, _, _] _
  refine T_const dX0_isUnder_2 ?_
  refine T_istore dX0_isUnder_3 ?_
  show TX _ _ _ _ _ _ _ _ [_, _, _, _, _] _
  obtain ⟨q5_5, hc5_5, hf⟩ := bind_t hf
  refine X_wk (WK.n (WK.n (WK.s (WK.s (WK.s WK.e))))) (lX0_isUnder_5 Z _ _ _ 2000 _ _ hc5_5 ?_ ?_)
  · intro r hr
    subst hr
    replace hf := elS_l hf
    obtain rfl := Option.some.inj hf
    exact ⟨rfl, rfl⟩
  · intro eq5_5 hr
    subst hr
    replace hf := elS_r hf
    refine T_const dX0_isUnder_35 ?_
    obtain rfl := Option.some.inj hf
    exact X_rz dX0_isUnder_36 (by first | exact Or.inl rfl | exact Or.inr rfl) ⟨rfl, rfl⟩
noncomputable def uX0_any (g_X0_run : aH → Int32 → Int32 → Int32 → Int32 → Int32 → Option (Int32 × aH)) (x : aH) (p1 : Int32) (p2 : Int32) (p3 : Int32) (p4 : Int32) : Option (Int32 × aH) := if (0 : Int32) ≤ p1 ∧ p1 < (50 : Int32) then (g_X0_run x p1 (ri x 58 (ix p1)) p2 p3 p4).bind fun q12_2 => some (q12_2.1, q12_2.2) else none
theorem pX0_any (Z : aZ) (y : aH) {D : Nat} (hK : 0 ≤ D) {g_X0_run : aH → Int32 → Int32 → Int32 → Int32 → Int32 → Option (Int32 × aH)} (H_X0_run : ∀ (x : aH) (p1 : Int32) (p2 : Int32) (p3 : Int32) (p4 : Int32) (p5 : Int32) {q : (Int32 × aH)}, g_X0_run x p1 p2 p3 p4 p5 = some q → CX true Z mX0_run D [.ref 57, .int p1, .int p2, .int p3, .int p4, .int p5] y x (RV (.int q.1) q.2)) {x : aH} {p1 : Int32} {p2 : Int32} {p3 : Int32} {p4 : Int32} {q : (Int32 × aH)} (hf : uX0_any g_X0_run x p1 p2 p3 p4 = some q) : CX true Z mX0_any (D + 1) [.ref 57, .int p1, .int p2, .int p3, .int p4] y x (RV (.int q.1) q.2) := by
  refine CX.of mokX0_any (Nat.le_of_ble_eq_true rfl) ?_
  show TX _ _ _ _ _ _ _ _ [_, _, _, _, _] _
  delta uX0_any at hf
  refine T_aload dX0_any_0 rfl ?_
  refine T_iload dX0_any_1 rfl ?_
  refine T_aload dX0_any_2 rfl ?_
  refine X_getr dX0_any_3 lfX0_9 rfl ob57 rfl ?_
  refine T_iload dX0_any_6 rfl ?_
  obtain ⟨hb7_1, hf⟩ := opt_t hf
  refine X_iald (N := 50) dX0_any_7 ar58 rfl hb7_1 ?_
  refine T_iload dX0_any_8 rfl ?_
  refine T_iload dX0_any_9 rfl ?_
  refine T_iload dX0_any_10 rfl ?_
  obtain ⟨q12_2, hc12_2, hf⟩ := bind_t hf
  refine X_Vv (H_X0_run _ _ _ _ _ _ hc12_2) (Nat.le_refl _) dX0_any_12 lvX0_34 rfl rfl ob57 (Nat.le_of_ble_eq_true rfl) ?_
  obtain rfl := Option.some.inj hf
  exact X_ri dX0_any_15 ⟨rfl, rfl⟩
noncomputable def sX0_run_6 (g_X0_perform : aH → Int32 → Int32 → Int32 → Int32 → Int32 → Option (Int32 × aH)) (x : aH) (l1 : Int32) (l3 : Int32) (l4 : Int32) (l5 : Int32) (ih : Int32 → Int32 → Option Int32) (l6 : Int32) (l7 : Int32) : Option Int32 := if (8 : Int32) ≤ l7 then some l6 else if l6 ≤ (0 : Int32) then some l6 else if (0 : Int32) ≤ ((l6 * (4 : Int32)) + l3) ∧ ((l6 * (4 : Int32)) + l3) < (32 : Int32) then if (stR 3 (ix ((l6 * (4 : Int32)) + l3))) = (0 : Int32) then if (0 : Int32) ≤ l6 ∧ l6 < (8 : Int32) then ih (stR 4 (ix l6)) (l7 + (1 : Int32)) else none else some l6 else none
noncomputable def wX0_run_6 (g_X0_perform : aH → Int32 → Int32 → Int32 → Int32 → Int32 → Option (Int32 × aH)) (x : aH) (l1 : Int32) (l3 : Int32) (l4 : Int32) (l5 : Int32) : Nat → Int32 → Int32 → Option Int32
  | 0 => fun _ _ => none
  | n + 1 => sX0_run_6 g_X0_perform x l1 l3 l4 l5 (wX0_run_6 g_X0_perform x l1 l3 l4 l5 n)
noncomputable def jX0_run_91 (g_X0_perform : aH → Int32 → Int32 → Int32 → Int32 → Int32 → Option (Int32 × aH)) (x : aH) (l1 : Int32) (l4 : Int32) (l5 : Int32) (l6 : Int32) (l7 : Int32) : Option (Int32 × aH) := if (0 : Int32) ≤ l6 ∧ l6 < (8 : Int32) then (g_X0_perform (sfi x 57 3 ((fi x 57 3) + (1 : Int32))) l7 l1 (stR 4 (ix l6)) l4 (l5 + (1 : Int32))).bind fun q117_11 => some (q117_11.1, q117_11.2) else none
noncomputable def uX0_run (g_X0_perform : aH → Int32 → Int32 → Int32 → Int32 → Int32 → Option (Int32 × aH)) (x : aH) (p1 : Int32) (p2 : Int32) (p3 : Int32) (p4 : Int32) (p5 : Int32) : Option (Int32 × aH) := (wX0_run_6 g_X0_perform x p1 p3 p4 p5 2000 p2 (0 : Int32)).bind fun q6_6 => if q6_6 < (0 : Int32) then some ((0 : Int32), x) else if p5 ≤ (40 : Int32) then if (0 : Int32) ≤ ((q6_6 * (4 : Int32)) + p3) ∧ ((q6_6 * (4 : Int32)) + p3) < (32 : Int32) then if (24 : Int32) ≤ (fi x 57 3) then jX0_run_91 g_X0_perform x p1 p4 p5 q6_6 (stR 3 (ix ((q6_6 * (4 : Int32)) + p3))) else if (0 : Int32) ≤ (fi x 57 3) ∧ (fi x 57 3) < (24 : Int32) then jX0_run_91 g_X0_perform (sri x 59 (ix (fi x 57 3)) (stR 3 (ix ((q6_6 * (4 : Int32)) + p3)))) p1 p4 p5 q6_6 (stR 3 (ix ((q6_6 * (4 : Int32)) + p3))) else none else none else some ((0 : Int32), x)
theorem lX0_run_6 (Z : aZ) (y : aH) {D : Nat} (hK : 0 ≤ D) {g_X0_perform : aH → Int32 → Int32 → Int32 → Int32 → Int32 → Option (Int32 × aH)} (H_X0_perform : ∀ (x : aH) (p1 : Int32) (p2 : Int32) (p3 : Int32) (p4 : Int32) (p5 : Int32) {q : (Int32 × aH)}, g_X0_perform x p1 p2 p3 p4 p5 = some q → CX true Z mX0_perform D [.ref 57, .int p1, .int p2, .int p3, .int p4, .int p5] y x (RV (.int q.1) q.2)) (x : aH) (l1 : Int32) (l3 : Int32) (l4 : Int32) (l5 : Int32) {Q : Option Value → aH → Prop} {R : Int32} : ∀ (n : Nat) (l6 : Int32) (l7 : Int32), wX0_run_6 g_X0_perform x l1 l3 l4 l5 n l6 l7 = some R → (∀ q, R = q → TX true Z mX0_run (D + 1) y x Q 45 [.ref 57, .int l1, .null, .int l3, .int l4, .int l5, .int q, .null] []) → TX true Z mX0_run (D + 1) y x Q 6 [.ref 57, .int l1, .null, .int l3, .int l4, .int l5, .int l6, .int l7] [] := by
  intro n
  induction n with
  | zero => intro l6 l7 hf; cases hf
  | succ n ih =>
    intro l6 l7 hf ke
    replace hf : sX0_run_6 g_X0_perform x l1 l3 l4 l5 (wX0_run_6 g_X0_perform x l1 l3 l4 l5 n) l6 l7 = some R := hf
    delta sX0_run_6 at hf
    refine T_iload dX0_run_6 rfl ?_
    refine T_const dX0_run_8 ?_
    refine T_icmp_ge dX0_run_10 (fun c10_1 => ?_) (fun c10_1 => ?_)
    · replace hf := ite_t c10_1 hf
      exact X_wk (WK.s (WK.s (WK.n (WK.s (WK.s (WK.s (WK.s (WK.n WK.e)))))))) (ke l6 (Option.some.inj hf).symm)
    · replace hf := ite_f c10_1 hf
      refine T_iload dX0_run_13 rfl ?_
      refine T_if_le dX0_run_15 (fun c15_2 => ?_) (fun c15_2 => ?_)
      · replace hf := ite_t c15_2 hf
        exact X_wk (WK.s (WK.s (WK.n (WK.s (WK.s (WK.s (WK.s (WK.n WK.e)))))))) (ke l6 (Option.some.inj hf).symm)
      · replace hf := ite_f c15_2 hf
        refine T_gets dX0_run_18 lgX0_38 ?_
        refine T_iload dX0_run_21 rfl ?_
        refine T_const dX0_run_23 ?_
        refine T_imul dX0_run_24 ?_
        refine T_iload dX0_run_25 rfl ?_
        refine T_iadd dX0_run_26 ?_
        obtain ⟨hb27_3, hf⟩ := opt_t hf
        refine X_ialdS (N := 32) dX0_run_27 (by decide) rfl (by decide) rfl hb27_3 ?_
        refine T_if_ne dX0_run_28 (fun c28_4 => ?_) (fun c28_4 => ?_)
        · replace hf := ite_f c28_4 hf
          exact X_wk (WK.s (WK.s (WK.n (WK.s (WK.s (WK.s (WK.s (WK.n WK.e)))))))) (ke l6 (Option.some.inj hf).symm)
        · replace hf := ite_t c28_4 hf
          refine T_gets dX0_run_31 lgX0_23 ?_
          refine T_iload dX0_run_34 rfl ?_
          obtain ⟨hb36_5, hf⟩ := opt_t hf
          refine X_ialdS (N := 8) dX0_run_36 (by decide) rfl (by decide) rfl hb36_5 ?_
          refine T_istore dX0_run_37 ?_
          show TX _ _ _ _ _ _ _ _ [_, _, _, _, _, _, _, _] _
          refine T_iinc dX0_run_39 rfl ?_
          show TX _ _ _ _ _ _ _ _ [_, _, _, _, _, _, _, _] _
          refine T_goto dX0_run_42 ?_
          exact X_wk (WK.s (WK.s (WK.n (WK.s (WK.s (WK.s (WK.s (WK.s WK.e)))))))) (ih _ _ hf ke)
theorem pX0_run (Z : aZ) (y : aH) {D : Nat} (hK : 0 ≤ D) {g_X0_perform : aH → Int32 → Int32 → Int32 → Int32 → Int32 → Option (Int32 × aH)} (H_X0_perform : ∀ (x : aH) (p1 : Int32) (p2 : Int32) (p3 : Int32) (p4 : Int32) (p5 : Int32) {q : (Int32 × aH)}, g_X0_perform x p1 p2 p3 p4 p5 = some q → CX true Z mX0_perform D [.ref 57, .int p1, .int p2, .int p3, .int p4, .int p5] y x (RV (.int q.1) q.2)) {x : aH} {p1 : Int32} {p2 : Int32} {p3 : Int32} {p4 : Int32} {p5 : Int32} {q : (Int32 × aH)} (hf : uX0_run g_X0_perform x p1 p2 p3 p4 p5 = some q) : CX true Z mX0_run (D + 1) [.ref 57, .int p1, .int p2, .int p3, .int p4, .int p5] y x (RV (.int q.1) q.2) := by
  refine CX.of mokX0_run (Nat.le_of_ble_eq_true rfl) ?_
  show TX _ _ _ _ _ _ _ _ [_, _, _, _, _, _, _, _] _
  delta uX0_run at hf
  refine T_iload dX0_run_0 rfl ?_
  refine T_istore dX0_run_1 ?_
  show TX _ _ _ _ _ _ _ _ [_, _, _, _, _, _, _, _] _
  refine T_const dX0_run_3 ?_
  refine T_istore dX0_run_4 ?_
  show TX _ _ _ _ _ _ _ _ [_, _, _, _, _, _, _, _] _
  obtain ⟨q6_6, hc6_6, hf⟩ := bind_t hf
  refine X_wk (WK.s (WK.s (WK.n (WK.s (WK.s (WK.s (WK.s (WK.s WK.e)))))))) (lX0_run_6 Z _ hK H_X0_perform _ _ _ _ _ 2000 _ _ hc6_6 ?_)
  intro q6_6z hr
  subst hr
  refine T_iload dX0_run_45 rfl ?_
  refine T_if_lt dX0_run_47 (fun c47_7 => ?_) (fun c47_7 => ?_)
  · replace hf := ite_t c47_7 hf
    refine T_const dX0_run_57 ?_
    obtain rfl := Option.some.inj hf
    exact X_ri dX0_run_58 ⟨rfl, rfl⟩
  · replace hf := ite_f c47_7 hf
    refine T_iload dX0_run_50 rfl ?_
    refine T_const dX0_run_52 ?_
    refine T_icmp_le dX0_run_54 (fun c54_8 => ?_) (fun c54_8 => ?_)
    · replace hf := ite_t c54_8 hf
      refine T_gets dX0_run_59 lgX0_38 ?_
      refine T_iload dX0_run_62 rfl ?_
      refine T_const dX0_run_64 ?_
      refine T_imul dX0_run_65 ?_
      refine T_iload dX0_run_66 rfl ?_
      refine T_iadd dX0_run_67 ?_
      obtain ⟨hb68_9, hf⟩ := opt_t hf
      refine X_ialdS (N := 32) dX0_run_68 (by decide) rfl (by decide) rfl hb68_9 ?_
      refine T_istore dX0_run_69 ?_
      show TX _ _ _ _ _ _ _ _ [_, _, _, _, _, _, _, _] _
      refine T_aload dX0_run_71 rfl ?_
      refine X_getf dX0_run_72 lfX0_20 rfl ob57 ?_
      refine T_const dX0_run_75 ?_
      have J91 : ∀ (x : aH) (l1 : Int32) (l4 : Int32) (l5 : Int32) (l6 : Int32) (l7 : Int32), jX0_run_91 g_X0_perform x l1 l4 l5 l6 l7 = some q → TX true Z mX0_run (D + 1) y x (RV (.int q.1) q.2) 91 [.ref 57, .int l1, .null, .null, .int l4, .int l5, .int l6, .int l7] [] := by
        intro x l1 l4 l5 l6 l7 hf
        delta jX0_run_91 at hf
        refine T_aload dX0_run_91 rfl ?_
        refine T_dup dX0_run_92 rfl ?_
        refine X_getf dX0_run_93 lfX0_20 rfl ob57 ?_
        refine T_const dX0_run_96 ?_
        refine T_iadd dX0_run_97 ?_
        refine X_putf dX0_run_98 lfX0_20 rfl rfl ob57 ⟨rfl, rfl⟩ ?_
        refine T_aload dX0_run_101 rfl ?_
        refine T_iload dX0_run_102 rfl ?_
        refine T_iload dX0_run_104 rfl ?_
        refine T_gets dX0_run_105 lgX0_23 ?_
        refine T_iload dX0_run_108 rfl ?_
        obtain ⟨hb110_10, hf⟩ := opt_t hf
        refine X_ialdS (N := 8) dX0_run_110 (by decide) rfl (by decide) rfl hb110_10 ?_
        refine T_iload dX0_run_111 rfl ?_
        refine T_iload dX0_run_113 rfl ?_
        refine T_const dX0_run_115 ?_
        refine T_iadd dX0_run_116 ?_
        obtain ⟨q117_11, hc117_11, hf⟩ := bind_t hf
        refine X_Vv (H_X0_perform _ _ _ _ _ _ hc117_11) (Nat.le_refl _) dX0_run_117 lvX0_41 rfl rfl ob57 (Nat.le_of_ble_eq_true rfl) ?_
        obtain rfl := Option.some.inj hf
        exact X_ri dX0_run_120 ⟨rfl, rfl⟩
      refine T_icmp_ge dX0_run_77 (fun c77_12 => ?_) (fun c77_12 => ?_)
      · replace hf := ite_t c77_12 hf
        exact X_wk (WK.s (WK.s (WK.n (WK.n (WK.s (WK.s (WK.s (WK.s WK.e)))))))) (J91 _ _ _ _ _ _ hf)
      · replace hf := ite_f c77_12 hf
        refine T_aload dX0_run_80 rfl ?_
        refine X_getr dX0_run_81 lfX0_13 rfl ob57 rfl ?_
        refine T_aload dX0_run_84 rfl ?_
        refine X_getf dX0_run_85 lfX0_20 rfl ob57 ?_
        refine T_iload dX0_run_88 rfl ?_
        obtain ⟨hb90_13, hf⟩ := opt_t hf
        refine X_iast (N := 24) dX0_run_90 ar59 rfl hb90_13 ?_
        exact X_wk (WK.s (WK.s (WK.n (WK.n (WK.s (WK.s (WK.s (WK.s WK.e)))))))) (J91 _ _ _ _ _ _ hf)
    · replace hf := ite_f c54_8 hf
      refine T_const dX0_run_57 ?_
      obtain rfl := Option.some.inj hf
      exact X_ri dX0_run_58 ⟨rfl, rfl⟩
noncomputable def uX0_perform (g_X0_any : aH → Int32 → Int32 → Int32 → Int32 → Option (Int32 × aH)) (g_X0_run : aH → Int32 → Int32 → Int32 → Int32 → Int32 → Option (Int32 × aH)) (x : aH) (p1 : Int32) (p2 : Int32) (p3 : Int32) (p4 : Int32) (p5 : Int32) : Option (Int32 × aH) := if p1 = (1 : Int32) then some ((p4 + p2), x) else if p1 = (2 : Int32) then (g_X0_any x p2 (1 : Int32) p4 p5).bind fun q128_3 => (g_X0_any q128_3.2 p2 (2 : Int32) (1 : Int32) p5).bind fun q137_4 => some ((q128_3.1 - q137_4.1), q137_4.2) else if p1 = (10 : Int32) then (g_X0_any x p2 (0 : Int32) p4 p5).bind fun q149_6 => some ((q149_6.1 * (2 : Int32)), q149_6.2) else if p1 = (11 : Int32) then some ((p4 ^^^ p2), x) else if p1 = (20 : Int32) then (g_X0_run x p2 p3 (0 : Int32) p4 p5).bind fun q168_9 => some ((q168_9.1 + (3 : Int32)), q168_9.2) else if p1 = (30 : Int32) then (g_X0_run x p2 p3 (1 : Int32) p4 p5).bind fun q182_11 => some ((-q182_11.1), q182_11.2) else if p1 = (40 : Int32) then (g_X0_run x p2 p3 (2 : Int32) p4 p5).bind fun q195_13 => some ((q195_13.1 * (3 : Int32)), q195_13.2) else if p1 = (41 : Int32) then (g_X0_run x p2 p3 (1 : Int32) (p4 + (1 : Int32)) p5).bind fun q211_15 => some (q211_15.1, q211_15.2) else if p1 = (50 : Int32) then (g_X0_run x p2 p3 (2 : Int32) p4 p5).bind fun q223_17 => (g_X0_any q223_17.2 p2 (0 : Int32) (2 : Int32) p5).bind fun q232_18 => some ((q223_17.1 - q232_18.1), q232_18.2) else if p1 = (60 : Int32) then (g_X0_run x p2 p3 (3 : Int32) p4 p5).bind fun q245_20 => some ((q245_20.1 ^^^ (5 : Int32)), q245_20.2) else if p1 = (70 : Int32) then (g_X0_run x p2 p3 (0 : Int32) p4 p5).bind fun q259_22 => some ((q259_22.1 * (2 : Int32)), q259_22.2) else if p1 = (80 : Int32) then (g_X0_run x p2 p3 (1 : Int32) p4 p5).bind fun q273_24 => (g_X0_any q273_24.2 p2 (2 : Int32) (2 : Int32) p5).bind fun q282_25 => some ((q273_24.1 + q282_25.1), q282_25.2) else if p1 = (81 : Int32) then (g_X0_run x p2 p3 (3 : Int32) p4 p5).bind fun q295_27 => some ((q295_27.1 - (1 : Int32)), q295_27.2) else some ((0 : Int32), x)
theorem pX0_perform (Z : aZ) (y : aH) {D : Nat} (hK : 0 ≤ D) {g_X0_any : aH → Int32 → Int32 → Int32 → Int32 → Option (Int32 × aH)} (H_X0_any : ∀ (x : aH) (p1 : Int32) (p2 : Int32) (p3 : Int32) (p4 : Int32) {q : (Int32 × aH)}, g_X0_any x p1 p2 p3 p4 = some q → CX true Z mX0_any D [.ref 57, .int p1, .int p2, .int p3, .int p4] y x (RV (.int q.1) q.2)) {g_X0_run : aH → Int32 → Int32 → Int32 → Int32 → Int32 → Option (Int32 × aH)} (H_X0_run : ∀ (x : aH) (p1 : Int32) (p2 : Int32) (p3 : Int32) (p4 : Int32) (p5 : Int32) {q : (Int32 × aH)}, g_X0_run x p1 p2 p3 p4 p5 = some q → CX true Z mX0_run D [.ref 57, .int p1, .int p2, .int p3, .int p4, .int p5] y x (RV (.int q.1) q.2)) {x : aH} {p1 : Int32} {p2 : Int32} {p3 : Int32} {p4 : Int32} {p5 : Int32} {q : (Int32 × aH)} (hf : uX0_perform g_X0_any g_X0_run x p1 p2 p3 p4 p5 = some q) : CX true Z mX0_perform (D + 1) [.ref 57, .int p1, .int p2, .int p3, .int p4, .int p5] y x (RV (.int q.1) q.2) := by
  refine CX.of mokX0_perform (Nat.le_of_ble_eq_true rfl) ?_
  show TX _ _ _ _ _ _ _ _ [_, _, _, _, _, _] _
  delta uX0_perform at hf
  refine T_iload dX0_perform_0 rfl ?_
  by_cases c1_1 : p1 = (1 : Int32)
  · replace hf := ite_t c1_1 hf
    refine T_lookE (off := 115) (tgt := 116) c1_1 dX0_perform_1 (by decide) (by decide) (by decide) ?_
    refine T_iload dX0_perform_116 rfl ?_
    refine T_iload dX0_perform_118 rfl ?_
    refine T_iadd dX0_perform_119 ?_
    obtain rfl := Option.some.inj hf
    exact X_ri dX0_perform_120 ⟨rfl, rfl⟩
  replace hf := ite_f c1_1 hf
  by_cases c1_2 : p1 = (2 : Int32)
  · replace hf := ite_t c1_2 hf
    refine T_lookE (off := 120) (tgt := 121) c1_2 dX0_perform_1 (by decide) (by decide) (by decide) ?_
    refine T_aload dX0_perform_121 rfl ?_
    refine T_iload dX0_perform_122 rfl ?_
    refine T_const dX0_perform_123 ?_
    refine T_iload dX0_perform_124 rfl ?_
    refine T_iload dX0_perform_126 rfl ?_
    obtain ⟨q128_3, hc128_3, hf⟩ := bind_t hf
    refine X_Vv (H_X0_any _ _ _ _ _ hc128_3) (Nat.le_refl _) dX0_perform_128 lvX0_30 rfl rfl ob57 (Nat.le_of_ble_eq_true rfl) ?_
    refine T_aload dX0_perform_131 rfl ?_
    refine T_iload dX0_perform_132 rfl ?_
    refine T_const dX0_perform_133 ?_
    refine T_const dX0_perform_134 ?_
    refine T_iload dX0_perform_135 rfl ?_
    obtain ⟨q137_4, hc137_4, hf⟩ := bind_t hf
    refine X_Vv (H_X0_any _ _ _ _ _ hc137_4) (Nat.le_refl _) dX0_perform_137 lvX0_30 rfl rfl ob57 (Nat.le_of_ble_eq_true rfl) ?_
    refine T_isub dX0_perform_140 ?_
    obtain rfl := Option.some.inj hf
    exact X_ri dX0_perform_141 ⟨rfl, rfl⟩
  replace hf := ite_f c1_2 hf
  by_cases c1_5 : p1 = (10 : Int32)
  · replace hf := ite_t c1_5 hf
    refine T_lookE (off := 141) (tgt := 142) c1_5 dX0_perform_1 (by decide) (by decide) (by decide) ?_
    refine T_aload dX0_perform_142 rfl ?_
    refine T_iload dX0_perform_143 rfl ?_
    refine T_const dX0_perform_144 ?_
    refine T_iload dX0_perform_145 rfl ?_
    refine T_iload dX0_perform_147 rfl ?_
    obtain ⟨q149_6, hc149_6, hf⟩ := bind_t hf
    refine X_Vv (H_X0_any _ _ _ _ _ hc149_6) (Nat.le_refl _) dX0_perform_149 lvX0_30 rfl rfl ob57 (Nat.le_of_ble_eq_true rfl) ?_
    refine T_const dX0_perform_152 ?_
    refine T_imul dX0_perform_153 ?_
    obtain rfl := Option.some.inj hf
    exact X_ri dX0_perform_154 ⟨rfl, rfl⟩
  replace hf := ite_f c1_5 hf
  by_cases c1_7 : p1 = (11 : Int32)
  · replace hf := ite_t c1_7 hf
    refine T_lookE (off := 154) (tgt := 155) c1_7 dX0_perform_1 (by decide) (by decide) (by decide) ?_
    refine T_iload dX0_perform_155 rfl ?_
    refine T_iload dX0_perform_157 rfl ?_
    refine T_ixor dX0_perform_158 ?_
    obtain rfl := Option.some.inj hf
    exact X_ri dX0_perform_159 ⟨rfl, rfl⟩
  replace hf := ite_f c1_7 hf
  by_cases c1_8 : p1 = (20 : Int32)
  · replace hf := ite_t c1_8 hf
    refine T_lookE (off := 159) (tgt := 160) c1_8 dX0_perform_1 (by decide) (by decide) (by decide) ?_
    refine T_aload dX0_perform_160 rfl ?_
    refine T_iload dX0_perform_161 rfl ?_
    refine T_iload dX0_perform_162 rfl ?_
    refine T_const dX0_perform_163 ?_
    refine T_iload dX0_perform_164 rfl ?_
    refine T_iload dX0_perform_166 rfl ?_
    obtain ⟨q168_9, hc168_9, hf⟩ := bind_t hf
    refine X_Vv (H_X0_run _ _ _ _ _ _ hc168_9) (Nat.le_refl _) dX0_perform_168 lvX0_34 rfl rfl ob57 (Nat.le_of_ble_eq_true rfl) ?_
    refine T_const dX0_perform_171 ?_
    refine T_iadd dX0_perform_172 ?_
    obtain rfl := Option.some.inj hf
    exact X_ri dX0_perform_173 ⟨rfl, rfl⟩
  replace hf := ite_f c1_8 hf
  by_cases c1_10 : p1 = (30 : Int32)
  · replace hf := ite_t c1_10 hf
    refine T_lookE (off := 173) (tgt := 174) c1_10 dX0_perform_1 (by decide) (by decide) (by decide) ?_
    refine T_aload dX0_perform_174 rfl ?_
    refine T_iload dX0_perform_175 rfl ?_
    refine T_iload dX0_perform_176 rfl ?_
    refine T_const dX0_perform_177 ?_
    refine T_iload dX0_perform_178 rfl ?_
    refine T_iload dX0_perform_180 rfl ?_
    obtain ⟨q182_11, hc182_11, hf⟩ := bind_t hf
    refine X_Vv (H_X0_run _ _ _ _ _ _ hc182_11) (Nat.le_refl _) dX0_perform_182 lvX0_34 rfl rfl ob57 (Nat.le_of_ble_eq_true rfl) ?_
    refine T_ineg dX0_perform_185 ?_
    obtain rfl := Option.some.inj hf
    exact X_ri dX0_perform_186 ⟨rfl, rfl⟩
  replace hf := ite_f c1_10 hf
  by_cases c1_12 : p1 = (40 : Int32)
  · replace hf := ite_t c1_12 hf
    refine T_lookE (off := 186) (tgt := 187) c1_12 dX0_perform_1 (by decide) (by decide) (by decide) ?_
    refine T_aload dX0_perform_187 rfl ?_
    refine T_iload dX0_perform_188 rfl ?_
    refine T_iload dX0_perform_189 rfl ?_
    refine T_const dX0_perform_190 ?_
    refine T_iload dX0_perform_191 rfl ?_
    refine T_iload dX0_perform_193 rfl ?_
    obtain ⟨q195_13, hc195_13, hf⟩ := bind_t hf
    refine X_Vv (H_X0_run _ _ _ _ _ _ hc195_13) (Nat.le_refl _) dX0_perform_195 lvX0_34 rfl rfl ob57 (Nat.le_of_ble_eq_true rfl) ?_
    refine T_const dX0_perform_198 ?_
    refine T_imul dX0_perform_199 ?_
    obtain rfl := Option.some.inj hf
    exact X_ri dX0_perform_200 ⟨rfl, rfl⟩
  replace hf := ite_f c1_12 hf
  by_cases c1_14 : p1 = (41 : Int32)
  · replace hf := ite_t c1_14 hf
    refine T_lookE (off := 200) (tgt := 201) c1_14 dX0_perform_1 (by decide) (by decide) (by decide) ?_
    refine T_aload dX0_perform_201 rfl ?_
    refine T_iload dX0_perform_202 rfl ?_
    refine T_iload dX0_perform_203 rfl ?_
    refine T_const dX0_perform_204 ?_
    refine T_iload dX0_perform_205 rfl ?_
    refine T_const dX0_perform_207 ?_
    refine T_iadd dX0_perform_208 ?_
    refine T_iload dX0_perform_209 rfl ?_
    obtain ⟨q211_15, hc211_15, hf⟩ := bind_t hf
    refine X_Vv (H_X0_run _ _ _ _ _ _ hc211_15) (Nat.le_refl _) dX0_perform_211 lvX0_34 rfl rfl ob57 (Nat.le_of_ble_eq_true rfl) ?_
    obtain rfl := Option.some.inj hf
    exact X_ri dX0_perform_214 ⟨rfl, rfl⟩
  replace hf := ite_f c1_14 hf
  by_cases c1_16 : p1 = (50 : Int32)
  · replace hf := ite_t c1_16 hf
    refine T_lookE (off := 214) (tgt := 215) c1_16 dX0_perform_1 (by decide) (by decide) (by decide) ?_
    refine T_aload dX0_perform_215 rfl ?_
    refine T_iload dX0_perform_216 rfl ?_
    refine T_iload dX0_perform_217 rfl ?_
    refine T_const dX0_perform_218 ?_
    refine T_iload dX0_perform_219 rfl ?_
    refine T_iload dX0_perform_221 rfl ?_
    obtain ⟨q223_17, hc223_17, hf⟩ := bind_t hf
    refine X_Vv (H_X0_run _ _ _ _ _ _ hc223_17) (Nat.le_refl _) dX0_perform_223 lvX0_34 rfl rfl ob57 (Nat.le_of_ble_eq_true rfl) ?_
    refine T_aload dX0_perform_226 rfl ?_
    refine T_iload dX0_perform_227 rfl ?_
    refine T_const dX0_perform_228 ?_
    refine T_const dX0_perform_229 ?_
    refine T_iload dX0_perform_230 rfl ?_
    obtain ⟨q232_18, hc232_18, hf⟩ := bind_t hf
    refine X_Vv (H_X0_any _ _ _ _ _ hc232_18) (Nat.le_refl _) dX0_perform_232 lvX0_30 rfl rfl ob57 (Nat.le_of_ble_eq_true rfl) ?_
    refine T_isub dX0_perform_235 ?_
    obtain rfl := Option.some.inj hf
    exact X_ri dX0_perform_236 ⟨rfl, rfl⟩
  replace hf := ite_f c1_16 hf
  by_cases c1_19 : p1 = (60 : Int32)
  · replace hf := ite_t c1_19 hf
    refine T_lookE (off := 236) (tgt := 237) c1_19 dX0_perform_1 (by decide) (by decide) (by decide) ?_
    refine T_aload dX0_perform_237 rfl ?_
    refine T_iload dX0_perform_238 rfl ?_
    refine T_iload dX0_perform_239 rfl ?_
    refine T_const dX0_perform_240 ?_
    refine T_iload dX0_perform_241 rfl ?_
    refine T_iload dX0_perform_243 rfl ?_
    obtain ⟨q245_20, hc245_20, hf⟩ := bind_t hf
    refine X_Vv (H_X0_run _ _ _ _ _ _ hc245_20) (Nat.le_refl _) dX0_perform_245 lvX0_34 rfl rfl ob57 (Nat.le_of_ble_eq_true rfl) ?_
    refine T_const dX0_perform_248 ?_
    refine T_ixor dX0_perform_249 ?_
    obtain rfl := Option.some.inj hf
    exact X_ri dX0_perform_250 ⟨rfl, rfl⟩
  replace hf := ite_f c1_19 hf
  by_cases c1_21 : p1 = (70 : Int32)
  · replace hf := ite_t c1_21 hf
    refine T_lookE (off := 250) (tgt := 251) c1_21 dX0_perform_1 (by decide) (by decide) (by decide) ?_
    refine T_aload dX0_perform_251 rfl ?_
    refine T_iload dX0_perform_252 rfl ?_
    refine T_iload dX0_perform_253 rfl ?_
    refine T_const dX0_perform_254 ?_
    refine T_iload dX0_perform_255 rfl ?_
    refine T_iload dX0_perform_257 rfl ?_
    obtain ⟨q259_22, hc259_22, hf⟩ := bind_t hf
    refine X_Vv (H_X0_run _ _ _ _ _ _ hc259_22) (Nat.le_refl _) dX0_perform_259 lvX0_34 rfl rfl ob57 (Nat.le_of_ble_eq_true rfl) ?_
    refine T_const dX0_perform_262 ?_
    refine T_imul dX0_perform_263 ?_
    obtain rfl := Option.some.inj hf
    exact X_ri dX0_perform_264 ⟨rfl, rfl⟩
  replace hf := ite_f c1_21 hf
  by_cases c1_23 : p1 = (80 : Int32)
  · replace hf := ite_t c1_23 hf
    refine T_lookE (off := 264) (tgt := 265) c1_23 dX0_perform_1 (by decide) (by decide) (by decide) ?_
    refine T_aload dX0_perform_265 rfl ?_
    refine T_iload dX0_perform_266 rfl ?_
    refine T_iload dX0_perform_267 rfl ?_
    refine T_const dX0_perform_268 ?_
    refine T_iload dX0_perform_269 rfl ?_
    refine T_iload dX0_perform_271 rfl ?_
    obtain ⟨q273_24, hc273_24, hf⟩ := bind_t hf
    refine X_Vv (H_X0_run _ _ _ _ _ _ hc273_24) (Nat.le_refl _) dX0_perform_273 lvX0_34 rfl rfl ob57 (Nat.le_of_ble_eq_true rfl) ?_
    refine T_aload dX0_perform_276 rfl ?_
    refine T_iload dX0_perform_277 rfl ?_
    refine T_const dX0_perform_278 ?_
    refine T_const dX0_perform_279 ?_
    refine T_iload dX0_perform_280 rfl ?_
    obtain ⟨q282_25, hc282_25, hf⟩ := bind_t hf
    refine X_Vv (H_X0_any _ _ _ _ _ hc282_25) (Nat.le_refl _) dX0_perform_282 lvX0_30 rfl rfl ob57 (Nat.le_of_ble_eq_true rfl) ?_
    refine T_iadd dX0_perform_285 ?_
    obtain rfl := Option.some.inj hf
    exact X_ri dX0_perform_286 ⟨rfl, rfl⟩
  replace hf := ite_f c1_23 hf
  by_cases c1_26 : p1 = (81 : Int32)
  · replace hf := ite_t c1_26 hf
    refine T_lookE (off := 286) (tgt := 287) c1_26 dX0_perform_1 (by decide) (by decide) (by decide) ?_
    refine T_aload dX0_perform_287 rfl ?_
    refine T_iload dX0_perform_288 rfl ?_
    refine T_iload dX0_perform_289 rfl ?_
    refine T_const dX0_perform_290 ?_
    refine T_iload dX0_perform_291 rfl ?_
    refine T_iload dX0_perform_293 rfl ?_
    obtain ⟨q295_27, hc295_27, hf⟩ := bind_t hf
    refine X_Vv (H_X0_run _ _ _ _ _ _ hc295_27) (Nat.le_refl _) dX0_perform_295 lvX0_34 rfl rfl ob57 (Nat.le_of_ble_eq_true rfl) ?_
    refine T_const dX0_perform_298 ?_
    refine T_isub dX0_perform_299 ?_
    obtain rfl := Option.some.inj hf
    exact X_ri dX0_perform_300 ⟨rfl, rfl⟩
  replace hf := ite_f c1_26 hf
  refine T_lookup (off := 300) (tgt := 301) dX0_perform_1 (by decide) (by
    rw [show (#[(1, 115), (2, 120), (10, 141), (11, 154), (20, 159), (30, 173), (40, 186), (41, 200), (50, 214), (60, 236), (70, 250), (80, 264), (81, 286)] : Array (Int × Int)).toList = [(1, 115), (2, 120), (10, 141), (11, 154), (20, 159), (30, 173), (40, 186), (41, 200), (50, 214), (60, 236), (70, 250), (80, 264), (81, 286)] from rfl]
    rw [lv_osw c1_1 (show (1 : Int32).toInt = 1 from rfl), lv_osw c1_2 (show (2 : Int32).toInt = 2 from rfl), lv_osw c1_5 (show (10 : Int32).toInt = 10 from rfl), lv_osw c1_7 (show (11 : Int32).toInt = 11 from rfl), lv_osw c1_8 (show (20 : Int32).toInt = 20 from rfl), lv_osw c1_10 (show (30 : Int32).toInt = 30 from rfl), lv_osw c1_12 (show (40 : Int32).toInt = 40 from rfl), lv_osw c1_14 (show (41 : Int32).toInt = 41 from rfl), lv_osw c1_16 (show (50 : Int32).toInt = 50 from rfl), lv_osw c1_19 (show (60 : Int32).toInt = 60 from rfl), lv_osw c1_21 (show (70 : Int32).toInt = 70 from rfl), lv_osw c1_23 (show (80 : Int32).toInt = 80 from rfl), lv_osw c1_26 (show (81 : Int32).toInt = 81 from rfl)]
    rfl) (by decide) ?_
  refine T_const dX0_perform_301 ?_
  obtain rfl := Option.some.inj hf
  exact X_ri dX0_perform_302 ⟨rfl, rfl⟩
noncomputable def GX0_any : Nat → (aH → Int32 → Int32 → Int32 → Int32 → Option (Int32 × aH)) × (aH → Int32 → Int32 → Int32 → Int32 → Int32 → Option (Int32 × aH)) × (aH → Int32 → Int32 → Int32 → Int32 → Int32 → Option (Int32 × aH))
  | 0 => (fun _ _ _ _ _ => none, fun _ _ _ _ _ _ => none, fun _ _ _ _ _ _ => none)
  | n + 1 => (uX0_any ((GX0_any n).2.1), uX0_run ((GX0_any n).2.2), uX0_perform ((GX0_any n).1) ((GX0_any n).2.1))
noncomputable def fX0_any (n : Nat) : aH → Int32 → Int32 → Int32 → Int32 → Option (Int32 × aH) := (GX0_any n).1
noncomputable def fX0_run (n : Nat) : aH → Int32 → Int32 → Int32 → Int32 → Int32 → Option (Int32 × aH) := (GX0_any n).2.1
noncomputable def fX0_perform (n : Nat) : aH → Int32 → Int32 → Int32 → Int32 → Int32 → Option (Int32 × aH) := (GX0_any n).2.2
theorem fX0_any_S (n : Nat) : fX0_any (n + 1) = uX0_any (fX0_run n) := rfl
theorem fX0_run_S (n : Nat) : fX0_run (n + 1) = uX0_run (fX0_perform n) := rfl
theorem fX0_perform_S (n : Nat) : fX0_perform (n + 1) = uX0_perform (fX0_any n) (fX0_run n) := rfl
theorem qGX0_any (Z : aZ) (y : aH) : ∀ n, (∀ (x : aH) (p1 : Int32) (p2 : Int32) (p3 : Int32) (p4 : Int32) {q : (Int32 × aH)}, fX0_any n x p1 p2 p3 p4 = some q → CX true Z mX0_any (n + 0) [.ref 57, .int p1, .int p2, .int p3, .int p4] y x (RV (.int q.1) q.2)) ∧ (∀ (x : aH) (p1 : Int32) (p2 : Int32) (p3 : Int32) (p4 : Int32) (p5 : Int32) {q : (Int32 × aH)}, fX0_run n x p1 p2 p3 p4 p5 = some q → CX true Z mX0_run (n + 0) [.ref 57, .int p1, .int p2, .int p3, .int p4, .int p5] y x (RV (.int q.1) q.2)) ∧ (∀ (x : aH) (p1 : Int32) (p2 : Int32) (p3 : Int32) (p4 : Int32) (p5 : Int32) {q : (Int32 × aH)}, fX0_perform n x p1 p2 p3 p4 p5 = some q → CX true Z mX0_perform (n + 0) [.ref 57, .int p1, .int p2, .int p3, .int p4, .int p5] y x (RV (.int q.1) q.2)) := by
  intro n
  induction n with
  | zero => exact ⟨(by intro _ _ _ _ _ q hf; cases hf), (by intro _ _ _ _ _ _ q hf; cases hf), (by intro _ _ _ _ _ _ q hf; cases hf)⟩
  | succ n ih =>
    obtain ⟨ih_X0_any, ih_X0_run, ih_X0_perform⟩ := ih
    exact ⟨(by intro _ _ _ _ _ q hf; exact (pX0_any Z y (D := n + 0) (Nat.le_add_left _ _) ih_X0_run hf).le (by omega)),
      (by intro _ _ _ _ _ _ q hf; exact (pX0_run Z y (D := n + 0) (Nat.le_add_left _ _) ih_X0_perform hf).le (by omega)),
      (by intro _ _ _ _ _ _ q hf; exact (pX0_perform Z y (D := n + 0) (Nat.le_add_left _ _) ih_X0_any ih_X0_run hf).le (by omega))⟩
theorem qX0_any (Z : aZ) (y : aH) {x : aH} {p1 : Int32} {p2 : Int32} {p3 : Int32} {p4 : Int32} {q : (Int32 × aH)} (hf : fX0_any 64 x p1 p2 p3 p4 = some q) : CX true Z mX0_any 64 [.ref 57, .int p1, .int p2, .int p3, .int p4] y x (RV (.int q.1) q.2) := (qGX0_any Z y 64).1 _ _ _ _ _ hf
theorem qX0_run (Z : aZ) (y : aH) {x : aH} {p1 : Int32} {p2 : Int32} {p3 : Int32} {p4 : Int32} {p5 : Int32} {q : (Int32 × aH)} (hf : fX0_run 64 x p1 p2 p3 p4 p5 = some q) : CX true Z mX0_run 64 [.ref 57, .int p1, .int p2, .int p3, .int p4, .int p5] y x (RV (.int q.1) q.2) := (qGX0_any Z y 64).2.1 _ _ _ _ _ _ hf
theorem qX0_perform (Z : aZ) (y : aH) {x : aH} {p1 : Int32} {p2 : Int32} {p3 : Int32} {p4 : Int32} {p5 : Int32} {q : (Int32 × aH)} (hf : fX0_perform 64 x p1 p2 p3 p4 p5 = some q) : CX true Z mX0_perform 64 [.ref 57, .int p1, .int p2, .int p3, .int p4, .int p5] y x (RV (.int q.1) q.2) := (qGX0_any Z y 64).2.2 _ _ _ _ _ _ hf
noncomputable def fX0_start (x : aH) (p1 : Int32) (p2 : Int32) (p3 : Int32) : Option (Int32 × aH) := (fX0_isBody (sfi x 57 3 (0 : Int32)) p1).bind fun q7_1 => if q7_1 = (0 : Int32) then some ((0 : Int32), (sfi x 57 3 (0 : Int32))) else if p2 < (0 : Int32) then some ((0 : Int32), (sfi x 57 3 (0 : Int32))) else if p2 < (4 : Int32) then (fX0_any 64 (sfi x 57 3 (0 : Int32)) p1 p2 p3 (0 : Int32)).bind fun q29_5 => some (q29_5.1, q29_5.2) else some ((0 : Int32), (sfi x 57 3 (0 : Int32)))
theorem qX0_start (Z : aZ) (y : aH) {x : aH} {p1 : Int32} {p2 : Int32} {p3 : Int32} {q : (Int32 × aH)} (hf : fX0_start x p1 p2 p3 = some q) : CX true Z mX0_start 65 [.ref 57, .int p1, .int p2, .int p3] y x (RV (.int q.1) q.2) := by
  refine CX.of mokX0_start (Nat.le_of_ble_eq_true rfl) ?_
  show TX _ _ _ _ _ _ _ _ [_, _, _, _] _
  delta fX0_start at hf
  refine T_aload dX0_start_0 rfl ?_
  refine T_const dX0_start_1 ?_
  refine X_putf dX0_start_2 lfX0_20 rfl rfl ob57 ⟨rfl, rfl⟩ ?_
  refine T_aload dX0_start_5 rfl ?_
  refine T_iload dX0_start_6 rfl ?_
  obtain ⟨q7_1, hc7_1, hf⟩ := bind_t hf
  refine X_Vv (qX0_isBody Z _ hc7_1) (Nat.le_of_ble_eq_true rfl) dX0_start_7 lvX0_26 rfl rfl ob57 (Nat.le_of_ble_eq_true rfl) ?_
  refine T_if_eq dX0_start_10 (fun c10_2 => ?_) (fun c10_2 => ?_)
  · replace hf := ite_t c10_2 hf
    refine T_const dX0_start_22 ?_
    obtain rfl := Option.some.inj hf
    exact X_ri dX0_start_23 ⟨rfl, rfl⟩
  · replace hf := ite_f c10_2 hf
    refine T_iload dX0_start_13 rfl ?_
    refine T_if_lt dX0_start_14 (fun c14_3 => ?_) (fun c14_3 => ?_)
    · replace hf := ite_t c14_3 hf
      refine T_const dX0_start_22 ?_
      obtain rfl := Option.some.inj hf
      exact X_ri dX0_start_23 ⟨rfl, rfl⟩
    · replace hf := ite_f c14_3 hf
      refine T_iload dX0_start_17 rfl ?_
      refine T_const dX0_start_18 ?_
      refine T_icmp_lt dX0_start_19 (fun c19_4 => ?_) (fun c19_4 => ?_)
      · replace hf := ite_t c19_4 hf
        refine T_aload dX0_start_24 rfl ?_
        refine T_iload dX0_start_25 rfl ?_
        refine T_iload dX0_start_26 rfl ?_
        refine T_iload dX0_start_27 rfl ?_
        refine T_const dX0_start_28 ?_
        obtain ⟨q29_5, hc29_5, hf⟩ := bind_t hf
        refine X_Vv (qX0_any Z _ hc29_5) (Nat.le_of_ble_eq_true rfl) dX0_start_29 lvX0_30 rfl rfl ob57 (Nat.le_of_ble_eq_true rfl) ?_
        obtain rfl := Option.some.inj hf
        exact X_ri dX0_start_32 ⟨rfl, rfl⟩
      · replace hf := ite_f c19_4 hf
        refine T_const dX0_start_22 ?_
        obtain rfl := Option.some.inj hf
        exact X_ri dX0_start_23 ⟨rfl, rfl⟩
noncomputable def fX3_become (x : aH) : Option aH := if ¬ (0 : Int32) < 0 ∧ ¬ (0 : Int32) < 0 ∧ ¬ (fi (sfi x 10 2 (fi x 6 5)) 10 2) < 0 ∧ ix (0 : Int32) + ix (fi (sfi x 10 2 (fi x 6 5)) 10 2) ≤ 128 ∧ ix (0 : Int32) + ix (fi (sfi x 10 2 (fi x 6 5)) 10 2) ≤ 128 then if ¬ (0 : Int32) < 0 ∧ ¬ (0 : Int32) < 0 ∧ ¬ (fi (srow (sfi x 10 2 (fi x 6 5)) 11 (va_cpy (ri (sfi x 10 2 (fi x 6 5)) 8) (ri (sfi x 10 2 (fi x 6 5)) 11) (ix (0 : Int32)) (ix (0 : Int32)) (ix (fi (sfi x 10 2 (fi x 6 5)) 10 2)))) 10 2) < 0 ∧ ix (0 : Int32) + ix (fi (srow (sfi x 10 2 (fi x 6 5)) 11 (va_cpy (ri (sfi x 10 2 (fi x 6 5)) 8) (ri (sfi x 10 2 (fi x 6 5)) 11) (ix (0 : Int32)) (ix (0 : Int32)) (ix (fi (sfi x 10 2 (fi x 6 5)) 10 2)))) 10 2) ≤ 128 ∧ ix (0 : Int32) + ix (fi (srow (sfi x 10 2 (fi x 6 5)) 11 (va_cpy (ri (sfi x 10 2 (fi x 6 5)) 8) (ri (sfi x 10 2 (fi x 6 5)) 11) (ix (0 : Int32)) (ix (0 : Int32)) (ix (fi (sfi x 10 2 (fi x 6 5)) 10 2)))) 10 2) ≤ 128 then some (srow (srow (sfi x 10 2 (fi x 6 5)) 11 (va_cpy (ri (sfi x 10 2 (fi x 6 5)) 8) (ri (sfi x 10 2 (fi x 6 5)) 11) (ix (0 : Int32)) (ix (0 : Int32)) (ix (fi (sfi x 10 2 (fi x 6 5)) 10 2)))) 12 (va_cpy (ri (srow (sfi x 10 2 (fi x 6 5)) 11 (va_cpy (ri (sfi x 10 2 (fi x 6 5)) 8) (ri (sfi x 10 2 (fi x 6 5)) 11) (ix (0 : Int32)) (ix (0 : Int32)) (ix (fi (sfi x 10 2 (fi x 6 5)) 10 2)))) 9) (ri (srow (sfi x 10 2 (fi x 6 5)) 11 (va_cpy (ri (sfi x 10 2 (fi x 6 5)) 8) (ri (sfi x 10 2 (fi x 6 5)) 11) (ix (0 : Int32)) (ix (0 : Int32)) (ix (fi (sfi x 10 2 (fi x 6 5)) 10 2)))) 12) (ix (0 : Int32)) (ix (0 : Int32)) (ix (fi (srow (sfi x 10 2 (fi x 6 5)) 11 (va_cpy (ri (sfi x 10 2 (fi x 6 5)) 8) (ri (sfi x 10 2 (fi x 6 5)) 11) (ix (0 : Int32)) (ix (0 : Int32)) (ix (fi (sfi x 10 2 (fi x 6 5)) 10 2)))) 10 2)))) else none else none
theorem qX3_become (Z : aZ) (y : aH) {x : aH} {q : aH} (hf : fX3_become x = some q) : CX true Z mX3_become 0 [.ref 10, .ref 6] y x (RN q) := by
  refine CX.of mokX3_become (Nat.le_of_ble_eq_true rfl) ?_
  show TX _ _ _ _ _ _ _ _ [_, _] _
  delta fX3_become at hf
  refine T_aload dX3_become_0 rfl ?_
  refine T_aload dX3_become_1 rfl ?_
  refine X_getf dX3_become_2 lfX3_24 rfl ob6 ?_
  refine X_putf dX3_become_5 lfX3_28 rfl rfl ob10 ⟨rfl, rfl⟩ ?_
  refine T_aload dX3_become_8 rfl ?_
  refine X_getr dX3_become_9 lfX3_31 rfl ob6 rfl ?_
  refine T_const dX3_become_12 ?_
  refine T_aload dX3_become_13 rfl ?_
  refine X_getr dX3_become_14 lfX3_9 rfl ob10 rfl ?_
  refine T_const dX3_become_17 ?_
  refine T_aload dX3_become_18 rfl ?_
  refine X_getf dX3_become_19 lfX3_28 rfl ob10 ?_
  obtain ⟨hk1, hf⟩ := opt_t hf
  refine X_copyi dX3_become_22 lcX3_32 ar8 ar11 hk1 (Nat.le_of_ble_eq_true rfl) ?_
  refine T_aload dX3_become_25 rfl ?_
  refine X_getr dX3_become_26 lfX3_38 rfl ob6 rfl ?_
  refine T_const dX3_become_29 ?_
  refine T_aload dX3_become_30 rfl ?_
  refine X_getr dX3_become_31 lfX3_15 rfl ob10 rfl ?_
  refine T_const dX3_become_34 ?_
  refine T_aload dX3_become_35 rfl ?_
  refine X_getf dX3_become_36 lfX3_28 rfl ob10 ?_
  obtain ⟨hk2, hf⟩ := opt_t hf
  refine X_copyi dX3_become_39 lcX3_32 ar9 ar12 hk2 (Nat.le_of_ble_eq_true rfl) ?_
  obtain rfl := Option.some.inj hf
  exact X_rv dX3_become_42 ⟨rfl, rfl⟩
noncomputable def fX3_joined (x : aH) (p1 : Int32) (p2 : Int32) (p3 : Int32) : Option Int32 := if p1 = (37 : Int32) then if p3 = (0 : Int32) then some (0 : Int32) else if ¬ (p3 = (0 : Int32)) then some (p2 - p2 / p3 * p3) else none else if p1 = (38 : Int32) then if p2 = (0 : Int32) then some (0 : Int32) else if p3 = (0 : Int32) then some (0 : Int32) else some (1 : Int32) else if p1 = (42 : Int32) then some (p2 * p3) else if p1 = (43 : Int32) then some (p2 + p3) else if p1 = (45 : Int32) then some (p2 - p3) else if p1 = (47 : Int32) then if p3 = (0 : Int32) then some (0 : Int32) else if ¬ (p3 = (0 : Int32)) then some (p2 / p3) else none else if p1 = (60 : Int32) then if p3 ≤ p2 then some (0 : Int32) else some (1 : Int32) else if p1 = (61 : Int32) then if p2 = p3 then some (1 : Int32) else some (0 : Int32) else if p1 = (62 : Int32) then if p2 ≤ p3 then some (0 : Int32) else some (1 : Int32) else if p1 = (124 : Int32) then if p2 = (0 : Int32) then if p3 = (0 : Int32) then some (0 : Int32) else some (1 : Int32) else some (1 : Int32) else some (0 : Int32)
theorem qX3_joined (Z : aZ) (y : aH) {x : aH} {p1 : Int32} {p2 : Int32} {p3 : Int32} {q : Int32} (hf : fX3_joined x p1 p2 p3 = some q) : CX true Z mX3_joined 0 [.ref 10, .int p1, .int p2, .int p3] y x (RV (.int q) x) := by
  refine CX.of mokX3_joined (Nat.le_of_ble_eq_true rfl) ?_
  show TX _ _ _ _ _ _ _ _ [_, _, _, _] _
  delta fX3_joined at hf
  refine T_iload dX3_joined_0 rfl ?_
  by_cases c1_1 : p1 = (37 : Int32)
  · replace hf := ite_t c1_1 hf
    refine T_lookE (off := 176) (tgt := 177) c1_1 dX3_joined_1 (by decide) (by decide) (by decide) ?_
    refine T_iload dX3_joined_177 rfl ?_
    refine T_if_ne dX3_joined_178 (fun c178_2 => ?_) (fun c178_2 => ?_)
    · replace hf := ite_f c178_2 hf
      refine T_iload dX3_joined_185 rfl ?_
      refine T_iload dX3_joined_186 rfl ?_
      obtain ⟨h0, hf⟩ := opt_t hf
      refine T_irem dX3_joined_187 h0 ?_
      obtain rfl := Option.some.inj hf
      exact X_ri dX3_joined_188 ⟨rfl, rfl⟩
    · replace hf := ite_t c178_2 hf
      refine T_const dX3_joined_181 ?_
      refine T_goto dX3_joined_182 ?_
      obtain rfl := Option.some.inj hf
      exact X_ri dX3_joined_188 ⟨rfl, rfl⟩
  replace hf := ite_f c1_1 hf
  by_cases c1_3 : p1 = (38 : Int32)
  · replace hf := ite_t c1_3 hf
    refine T_lookE (off := 105) (tgt := 106) c1_3 dX3_joined_1 (by decide) (by decide) (by decide) ?_
    refine T_iload dX3_joined_106 rfl ?_
    refine T_if_eq dX3_joined_107 (fun c107_4 => ?_) (fun c107_4 => ?_)
    · replace hf := ite_t c107_4 hf
      refine T_const dX3_joined_118 ?_
      obtain rfl := Option.some.inj hf
      exact X_ri dX3_joined_119 ⟨rfl, rfl⟩
    · replace hf := ite_f c107_4 hf
      refine T_iload dX3_joined_110 rfl ?_
      refine T_if_eq dX3_joined_111 (fun c111_5 => ?_) (fun c111_5 => ?_)
      · replace hf := ite_t c111_5 hf
        refine T_const dX3_joined_118 ?_
        obtain rfl := Option.some.inj hf
        exact X_ri dX3_joined_119 ⟨rfl, rfl⟩
      · replace hf := ite_f c111_5 hf
        refine T_const dX3_joined_114 ?_
        refine T_goto dX3_joined_115 ?_
        obtain rfl := Option.some.inj hf
        exact X_ri dX3_joined_119 ⟨rfl, rfl⟩
  replace hf := ite_f c1_3 hf
  by_cases c1_6 : p1 = (42 : Int32)
  · replace hf := ite_t c1_6 hf
    refine T_lookE (off := 160) (tgt := 161) c1_6 dX3_joined_1 (by decide) (by decide) (by decide) ?_
    refine T_iload dX3_joined_161 rfl ?_
    refine T_iload dX3_joined_162 rfl ?_
    refine T_imul dX3_joined_163 ?_
    obtain rfl := Option.some.inj hf
    exact X_ri dX3_joined_164 ⟨rfl, rfl⟩
  replace hf := ite_f c1_6 hf
  by_cases c1_7 : p1 = (43 : Int32)
  · replace hf := ite_t c1_7 hf
    refine T_lookE (off := 152) (tgt := 153) c1_7 dX3_joined_1 (by decide) (by decide) (by decide) ?_
    refine T_iload dX3_joined_153 rfl ?_
    refine T_iload dX3_joined_154 rfl ?_
    refine T_iadd dX3_joined_155 ?_
    obtain rfl := Option.some.inj hf
    exact X_ri dX3_joined_156 ⟨rfl, rfl⟩
  replace hf := ite_f c1_7 hf
  by_cases c1_8 : p1 = (45 : Int32)
  · replace hf := ite_t c1_8 hf
    refine T_lookE (off := 156) (tgt := 157) c1_8 dX3_joined_1 (by decide) (by decide) (by decide) ?_
    refine T_iload dX3_joined_157 rfl ?_
    refine T_iload dX3_joined_158 rfl ?_
    refine T_isub dX3_joined_159 ?_
    obtain rfl := Option.some.inj hf
    exact X_ri dX3_joined_160 ⟨rfl, rfl⟩
  replace hf := ite_f c1_8 hf
  by_cases c1_9 : p1 = (47 : Int32)
  · replace hf := ite_t c1_9 hf
    refine T_lookE (off := 164) (tgt := 165) c1_9 dX3_joined_1 (by decide) (by decide) (by decide) ?_
    refine T_iload dX3_joined_165 rfl ?_
    refine T_if_ne dX3_joined_166 (fun c166_10 => ?_) (fun c166_10 => ?_)
    · replace hf := ite_f c166_10 hf
      refine T_iload dX3_joined_173 rfl ?_
      refine T_iload dX3_joined_174 rfl ?_
      obtain ⟨h0, hf⟩ := opt_t hf
      refine T_idiv dX3_joined_175 h0 ?_
      obtain rfl := Option.some.inj hf
      exact X_ri dX3_joined_176 ⟨rfl, rfl⟩
    · replace hf := ite_t c166_10 hf
      refine T_const dX3_joined_169 ?_
      refine T_goto dX3_joined_170 ?_
      obtain rfl := Option.some.inj hf
      exact X_ri dX3_joined_176 ⟨rfl, rfl⟩
  replace hf := ite_f c1_9 hf
  by_cases c1_11 : p1 = (60 : Int32)
  · replace hf := ite_t c1_11 hf
    refine T_lookE (off := 119) (tgt := 120) c1_11 dX3_joined_1 (by decide) (by decide) (by decide) ?_
    refine T_iload dX3_joined_120 rfl ?_
    refine T_iload dX3_joined_121 rfl ?_
    refine T_icmp_ge dX3_joined_122 (fun c122_12 => ?_) (fun c122_12 => ?_)
    · replace hf := ite_t c122_12 hf
      refine T_const dX3_joined_129 ?_
      obtain rfl := Option.some.inj hf
      exact X_ri dX3_joined_130 ⟨rfl, rfl⟩
    · replace hf := ite_f c122_12 hf
      refine T_const dX3_joined_125 ?_
      refine T_goto dX3_joined_126 ?_
      obtain rfl := Option.some.inj hf
      exact X_ri dX3_joined_130 ⟨rfl, rfl⟩
  replace hf := ite_f c1_11 hf
  by_cases c1_13 : p1 = (61 : Int32)
  · replace hf := ite_t c1_13 hf
    refine T_lookE (off := 130) (tgt := 131) c1_13 dX3_joined_1 (by decide) (by decide) (by decide) ?_
    refine T_iload dX3_joined_131 rfl ?_
    refine T_iload dX3_joined_132 rfl ?_
    refine T_icmp_ne dX3_joined_133 (fun c133_14 => ?_) (fun c133_14 => ?_)
    · replace hf := ite_f c133_14 hf
      refine T_const dX3_joined_140 ?_
      obtain rfl := Option.some.inj hf
      exact X_ri dX3_joined_141 ⟨rfl, rfl⟩
    · replace hf := ite_t c133_14 hf
      refine T_const dX3_joined_136 ?_
      refine T_goto dX3_joined_137 ?_
      obtain rfl := Option.some.inj hf
      exact X_ri dX3_joined_141 ⟨rfl, rfl⟩
  replace hf := ite_f c1_13 hf
  by_cases c1_15 : p1 = (62 : Int32)
  · replace hf := ite_t c1_15 hf
    refine T_lookE (off := 141) (tgt := 142) c1_15 dX3_joined_1 (by decide) (by decide) (by decide) ?_
    refine T_iload dX3_joined_142 rfl ?_
    refine T_iload dX3_joined_143 rfl ?_
    refine T_icmp_le dX3_joined_144 (fun c144_16 => ?_) (fun c144_16 => ?_)
    · replace hf := ite_t c144_16 hf
      refine T_const dX3_joined_151 ?_
      obtain rfl := Option.some.inj hf
      exact X_ri dX3_joined_152 ⟨rfl, rfl⟩
    · replace hf := ite_f c144_16 hf
      refine T_const dX3_joined_147 ?_
      refine T_goto dX3_joined_148 ?_
      obtain rfl := Option.some.inj hf
      exact X_ri dX3_joined_152 ⟨rfl, rfl⟩
  replace hf := ite_f c1_15 hf
  by_cases c1_17 : p1 = (124 : Int32)
  · replace hf := ite_t c1_17 hf
    refine T_lookE (off := 91) (tgt := 92) c1_17 dX3_joined_1 (by decide) (by decide) (by decide) ?_
    refine T_iload dX3_joined_92 rfl ?_
    refine T_if_ne dX3_joined_93 (fun c93_18 => ?_) (fun c93_18 => ?_)
    · replace hf := ite_f c93_18 hf
      refine T_const dX3_joined_100 ?_
      refine T_goto dX3_joined_101 ?_
      obtain rfl := Option.some.inj hf
      exact X_ri dX3_joined_105 ⟨rfl, rfl⟩
    · replace hf := ite_t c93_18 hf
      refine T_iload dX3_joined_96 rfl ?_
      refine T_if_eq dX3_joined_97 (fun c97_19 => ?_) (fun c97_19 => ?_)
      · replace hf := ite_t c97_19 hf
        refine T_const dX3_joined_104 ?_
        obtain rfl := Option.some.inj hf
        exact X_ri dX3_joined_105 ⟨rfl, rfl⟩
      · replace hf := ite_f c97_19 hf
        refine T_const dX3_joined_100 ?_
        refine T_goto dX3_joined_101 ?_
        obtain rfl := Option.some.inj hf
        exact X_ri dX3_joined_105 ⟨rfl, rfl⟩
  replace hf := ite_f c1_17 hf
  refine T_lookup (off := 188) (tgt := 189) dX3_joined_1 (by decide) (by
    rw [show (#[(37, 176), (38, 105), (42, 160), (43, 152), (45, 156), (47, 164), (60, 119), (61, 130), (62, 141), (124, 91)] : Array (Int × Int)).toList = [(37, 176), (38, 105), (42, 160), (43, 152), (45, 156), (47, 164), (60, 119), (61, 130), (62, 141), (124, 91)] from rfl]
    rw [lv_osw c1_1 (show (37 : Int32).toInt = 37 from rfl), lv_osw c1_3 (show (38 : Int32).toInt = 38 from rfl), lv_osw c1_6 (show (42 : Int32).toInt = 42 from rfl), lv_osw c1_7 (show (43 : Int32).toInt = 43 from rfl), lv_osw c1_8 (show (45 : Int32).toInt = 45 from rfl), lv_osw c1_9 (show (47 : Int32).toInt = 47 from rfl), lv_osw c1_11 (show (60 : Int32).toInt = 60 from rfl), lv_osw c1_13 (show (61 : Int32).toInt = 61 from rfl), lv_osw c1_15 (show (62 : Int32).toInt = 62 from rfl), lv_osw c1_17 (show (124 : Int32).toInt = 124 from rfl)]
    rfl) (by decide) ?_
  refine T_const dX3_joined_189 ?_
  obtain rfl := Option.some.inj hf
  exact X_ri dX3_joined_190 ⟨rfl, rfl⟩
noncomputable def jX3_workOut_257 (ih : aH → Int32 → Int32 → Option (Sum (Int32 × aH) aH)) (x : aH) (l1 : Int32) (l2 : Int32) : Option (Sum (Int32 × aH) aH) := ih x l1 l2
noncomputable def jX3_workOut_216 (ih : aH → Int32 → Int32 → Option (Sum (Int32 × aH) aH)) (x : aH) (l1 : Int32) (l2 : Int32) (s1 : Int32) (s2 : Int32) : Option (Sum (Int32 × aH) aH) := if (0 : Int32) ≤ s1 ∧ s1 < (128 : Int32) then jX3_workOut_257 ih (sri x 14 (ix s1) s2) l1 l2 else none
noncomputable def jX3_workOut_158 (ih : aH → Int32 → Int32 → Option (Sum (Int32 × aH) aH)) (x : aH) (l1 : Int32) (s0 : Int32) : Option (Sum (Int32 × aH) aH) := jX3_workOut_257 ih x l1 s0
noncomputable def sX3_workOut_32 (ih : aH → Int32 → Int32 → Option (Sum (Int32 × aH) aH)) (x : aH) (l1 : Int32) (l2 : Int32) : Option (Sum (Int32 × aH) aH) := if (fi x 10 2) ≤ l2 then some (.inr x) else if (128 : Int32) ≤ l1 then some (.inr x) else if (0 : Int32) ≤ l2 ∧ l2 < (128 : Int32) then if (0 : Int32) ≤ l2 ∧ l2 < (128 : Int32) then if (ri x 11 (ix l2)) = (1 : Int32) then if (0 : Int32) ≤ l1 ∧ l1 < (128 : Int32) then jX3_workOut_257 ih (sri x 14 (ix l1) (ri x 12 (ix l2))) (l1 + (1 : Int32)) (l2 + (1 : Int32)) else none else if (ri x 11 (ix l2)) = (2 : Int32) then if (0 : Int32) ≤ (ri x 12 (ix l2)) ∧ (ri x 12 (ix l2)) < (6 : Int32) then if (0 : Int32) ≤ l1 ∧ l1 < (128 : Int32) then jX3_workOut_257 ih (sri x 14 (ix l1) (ri x 13 (ix (ri x 12 (ix l2))))) (l1 + (1 : Int32)) (l2 + (1 : Int32)) else none else none else if (1 : Int32) ≤ l1 then if (ri x 11 (ix l2)) = (5 : Int32) then if (0 : Int32) ≤ (l1 - (1 : Int32)) ∧ (l1 - (1 : Int32)) < (128 : Int32) then some (.inl ((ri x 14 (ix (l1 - (1 : Int32)))), x)) else none else if (ri x 11 (ix l2)) = (4 : Int32) then if (0 : Int32) ≤ (l1 + (-1 : Int32)) ∧ (l1 + (-1 : Int32)) < (128 : Int32) then if (ri x 14 (ix (l1 + (-1 : Int32)))) = (0 : Int32) then jX3_workOut_158 ih x (l1 + (-1 : Int32)) (if (l2 + (1 : Int32)) < (ri x 12 (ix l2)) then (ri x 12 (ix l2)) else (l2 + (1 : Int32))) else jX3_workOut_158 ih x (l1 + (-1 : Int32)) (l2 + (1 : Int32)) else none else if (ri x 11 (ix l2)) = (3 : Int32) then if (0 : Int32) ≤ (l1 - (1 : Int32)) ∧ (l1 - (1 : Int32)) < (128 : Int32) then if (0 : Int32) ≤ (l1 - (1 : Int32)) ∧ (l1 - (1 : Int32)) < (128 : Int32) then jX3_workOut_257 ih (sri x 14 (ix (l1 - (1 : Int32))) (-(ri x 14 (ix (l1 - (1 : Int32)))))) l1 (l2 + (1 : Int32)) else none else none else if (ri x 11 (ix l2)) = (33 : Int32) then if (0 : Int32) ≤ (l1 - (1 : Int32)) ∧ (l1 - (1 : Int32)) < (128 : Int32) then if (ri x 14 (ix (l1 - (1 : Int32)))) = (0 : Int32) then jX3_workOut_216 ih x l1 (l2 + (1 : Int32)) (l1 - (1 : Int32)) (1 : Int32) else jX3_workOut_216 ih x l1 (l2 + (1 : Int32)) (l1 - (1 : Int32)) (0 : Int32) else none else if (2 : Int32) ≤ l1 then if (0 : Int32) ≤ ((l1 + (-1 : Int32)) - (1 : Int32)) ∧ ((l1 + (-1 : Int32)) - (1 : Int32)) < (128 : Int32) then if (0 : Int32) ≤ (l1 + (-1 : Int32)) ∧ (l1 + (-1 : Int32)) < (128 : Int32) then (fX3_joined x (ri x 11 (ix l2)) (ri x 14 (ix ((l1 + (-1 : Int32)) - (1 : Int32)))) (ri x 14 (ix (l1 + (-1 : Int32))))).bind fun q253_16 => if (0 : Int32) ≤ ((l1 + (-1 : Int32)) - (1 : Int32)) ∧ ((l1 + (-1 : Int32)) - (1 : Int32)) < (128 : Int32) then jX3_workOut_257 ih (sri x 14 (ix ((l1 + (-1 : Int32)) - (1 : Int32))) q253_16) (l1 + (-1 : Int32)) (l2 + (1 : Int32)) else none else none else none else some (.inl ((0 : Int32), x)) else some (.inl ((0 : Int32), x)) else none else none
noncomputable def wX3_workOut_32 : Nat → aH → Int32 → Int32 → Option (Sum (Int32 × aH) aH)
  | 0 => fun _ _ _ => none
  | n + 1 => sX3_workOut_32 (wX3_workOut_32 n)
noncomputable def fX3_workOut (x : aH) : Option (Int32 × aH) := if (fi x 10 2) = (0 : Int32) then some ((((6 : Int32) - ((ri x 13 (ix (1 : Int32))) / (2 : Int32))) - ((ri x 13 (ix (2 : Int32))) / (3 : Int32))), x) else (wX3_workOut_32 2000 x (0 : Int32) (0 : Int32)).bind fun q32_29 => elS q32_29 (fun r => some r) (fun eq32_29 => some ((0 : Int32), eq32_29))
theorem lX3_workOut_32 (Z : aZ) (y : aH) {Q : Option Value → aH → Prop} {R : (Sum (Int32 × aH) aH)} : ∀ (n : Nat) (x : aH) (l1 : Int32) (l2 : Int32), wX3_workOut_32 n x l1 l2 = some R → (∀ r, R = .inl r → Q (some (.int r.1)) r.2) → (∀ q, R = .inr q → TX true Z mX3_workOut 1 y q Q 260 [.null, .null, .null, .null, .null] []) → TX true Z mX3_workOut 1 y x Q 32 [.ref 10, .int l1, .int l2, .null, .null] [] := by
  intro n
  induction n with
  | zero => intro x l1 l2 hf; cases hf
  | succ n ih =>
    intro x l1 l2 hf kr ke
    replace hf : sX3_workOut_32 (wX3_workOut_32 n) x l1 l2 = some R := hf
    delta sX3_workOut_32 at hf
    refine T_iload dX3_workOut_32 rfl ?_
    refine T_aload dX3_workOut_33 rfl ?_
    refine X_getf dX3_workOut_34 lfX3_28 rfl ob10 ?_
    refine T_icmp_ge dX3_workOut_37 (fun c37_2 => ?_) (fun c37_2 => ?_)
    · replace hf := ite_t c37_2 hf
      exact X_wk (WK.n (WK.n (WK.n (WK.n (WK.n WK.e))))) (ke x (Option.some.inj hf).symm)
    · replace hf := ite_f c37_2 hf
      refine T_iload dX3_workOut_40 rfl ?_
      refine T_aload dX3_workOut_41 rfl ?_
      refine X_getr dX3_workOut_42 lfX3_21 rfl ob10 rfl ?_
      refine X_alen (N := 128) dX3_workOut_45 ar14 rfl ?_
      refine T_icmp_ge dX3_workOut_46 (fun c46_3 => ?_) (fun c46_3 => ?_)
      · replace hf := ite_t c46_3 hf
        exact X_wk (WK.n (WK.n (WK.n (WK.n (WK.n WK.e))))) (ke x (Option.some.inj hf).symm)
      · replace hf := ite_f c46_3 hf
        refine T_aload dX3_workOut_49 rfl ?_
        refine X_getr dX3_workOut_50 lfX3_9 rfl ob10 rfl ?_
        refine T_iload dX3_workOut_53 rfl ?_
        obtain ⟨hb54_4, hf⟩ := opt_t hf
        refine X_iald (N := 128) dX3_workOut_54 ar11 rfl hb54_4 ?_
        refine T_istore dX3_workOut_55 ?_
        show TX _ _ _ _ _ _ _ _ [_, _, _, _, _] _
        refine T_aload dX3_workOut_56 rfl ?_
        refine X_getr dX3_workOut_57 lfX3_15 rfl ob10 rfl ?_
        refine T_iload dX3_workOut_60 rfl ?_
        obtain ⟨hb61_5, hf⟩ := opt_t hf
        refine X_iald (N := 128) dX3_workOut_61 ar12 rfl hb61_5 ?_
        refine T_istore dX3_workOut_62 ?_
        show TX _ _ _ _ _ _ _ _ [_, _, _, _, _] _
        refine T_iinc dX3_workOut_64 rfl ?_
        show TX _ _ _ _ _ _ _ _ [_, _, _, _, _] _
        refine T_iload dX3_workOut_67 rfl ?_
        refine T_const dX3_workOut_68 ?_
        have J257 : ∀ (x : aH) (l1 : Int32) (l2 : Int32), jX3_workOut_257 (wX3_workOut_32 n) x l1 l2 = some R → TX true Z mX3_workOut 1 y x Q 257 [.ref 10, .int l1, .int l2, .null, .null] [] := by
          intro x l1 l2 hf
          delta jX3_workOut_257 at hf
          refine T_goto dX3_workOut_257 ?_
          exact X_wk (WK.s (WK.s (WK.s (WK.n (WK.n WK.e))))) (ih _ _ _ hf kr ke)
        refine T_icmp_ne dX3_workOut_69 (fun c69_6 => ?_) (fun c69_6 => ?_)
        · replace hf := ite_f c69_6 hf
          refine T_iload dX3_workOut_86 rfl ?_
          refine T_const dX3_workOut_87 ?_
          refine T_icmp_ne dX3_workOut_88 (fun c88_7 => ?_) (fun c88_7 => ?_)
          · replace hf := ite_f c88_7 hf
            refine T_iload dX3_workOut_110 rfl ?_
            refine T_const dX3_workOut_111 ?_
            refine T_icmp_ge dX3_workOut_112 (fun c112_8 => ?_) (fun c112_8 => ?_)
            · replace hf := ite_t c112_8 hf
              refine T_iload dX3_workOut_117 rfl ?_
              refine T_const dX3_workOut_118 ?_
              refine T_icmp_ne dX3_workOut_119 (fun c119_9 => ?_) (fun c119_9 => ?_)
              · replace hf := ite_f c119_9 hf
                refine T_iload dX3_workOut_131 rfl ?_
                refine T_const dX3_workOut_132 ?_
                refine T_icmp_ne dX3_workOut_133 (fun c133_10 => ?_) (fun c133_10 => ?_)
                · replace hf := ite_f c133_10 hf
                  refine T_iload dX3_workOut_162 rfl ?_
                  refine T_const dX3_workOut_163 ?_
                  refine T_icmp_ne dX3_workOut_164 (fun c164_11 => ?_) (fun c164_11 => ?_)
                  · replace hf := ite_f c164_11 hf
                    refine T_iload dX3_workOut_187 rfl ?_
                    refine T_const dX3_workOut_188 ?_
                    refine T_icmp_ne dX3_workOut_190 (fun c190_12 => ?_) (fun c190_12 => ?_)
                    · replace hf := ite_f c190_12 hf
                      refine T_iload dX3_workOut_220 rfl ?_
                      refine T_const dX3_workOut_221 ?_
                      refine T_icmp_ge dX3_workOut_222 (fun c222_13 => ?_) (fun c222_13 => ?_)
                      · replace hf := ite_t c222_13 hf
                        refine T_iinc dX3_workOut_227 rfl ?_
                        show TX _ _ _ _ _ _ _ _ [_, _, _, _, _] _
                        refine T_aload dX3_workOut_230 rfl ?_
                        refine X_getr dX3_workOut_231 lfX3_21 rfl ob10 rfl ?_
                        refine T_iload dX3_workOut_234 rfl ?_
                        refine T_const dX3_workOut_235 ?_
                        refine T_isub dX3_workOut_236 ?_
                        refine T_aload dX3_workOut_237 rfl ?_
                        refine T_iload dX3_workOut_238 rfl ?_
                        refine T_aload dX3_workOut_239 rfl ?_
                        refine X_getr dX3_workOut_240 lfX3_21 rfl ob10 rfl ?_
                        refine T_iload dX3_workOut_243 rfl ?_
                        refine T_const dX3_workOut_244 ?_
                        refine T_isub dX3_workOut_245 ?_
                        obtain ⟨hb246_14, hf⟩ := opt_t hf
                        refine X_iald (N := 128) dX3_workOut_246 ar14 rfl hb246_14 ?_
                        refine T_aload dX3_workOut_247 rfl ?_
                        refine X_getr dX3_workOut_248 lfX3_21 rfl ob10 rfl ?_
                        refine T_iload dX3_workOut_251 rfl ?_
                        obtain ⟨hb252_15, hf⟩ := opt_t hf
                        refine X_iald (N := 128) dX3_workOut_252 ar14 rfl hb252_15 ?_
                        obtain ⟨q253_16, hc253_16, hf⟩ := bind_t hf
                        refine X_Vv (qX3_joined Z _ hc253_16) (Nat.le_of_ble_eq_true rfl) dX3_workOut_253 lvX3_45 rfl rfl ob10 (Nat.le_of_ble_eq_true rfl) ?_
                        obtain ⟨hb256_17, hf⟩ := opt_t hf
                        refine X_iast (N := 128) dX3_workOut_256 ar14 rfl hb256_17 ?_
                        exact X_wk (WK.s (WK.s (WK.s (WK.n (WK.n WK.e))))) (J257 _ _ _ hf)
                      · replace hf := ite_f c222_13 hf
                        refine T_const dX3_workOut_225 ?_
                        exact X_ri dX3_workOut_226 (kr ((0 : Int32), x) (Option.some.inj hf).symm)
                    · replace hf := ite_t c190_12 hf
                      refine T_aload dX3_workOut_193 rfl ?_
                      refine X_getr dX3_workOut_194 lfX3_21 rfl ob10 rfl ?_
                      refine T_iload dX3_workOut_197 rfl ?_
                      refine T_const dX3_workOut_198 ?_
                      refine T_isub dX3_workOut_199 ?_
                      refine T_aload dX3_workOut_200 rfl ?_
                      refine X_getr dX3_workOut_201 lfX3_21 rfl ob10 rfl ?_
                      refine T_iload dX3_workOut_204 rfl ?_
                      refine T_const dX3_workOut_205 ?_
                      refine T_isub dX3_workOut_206 ?_
                      obtain ⟨hb207_18, hf⟩ := opt_t hf
                      refine X_iald (N := 128) dX3_workOut_207 ar14 rfl hb207_18 ?_
                      have J216 : ∀ (x : aH) (l1 : Int32) (l2 : Int32) (s1 : Int32) (s2 : Int32), jX3_workOut_216 (wX3_workOut_32 n) x l1 l2 s1 s2 = some R → TX true Z mX3_workOut 1 y x Q 216 [.ref 10, .int l1, .int l2, .null, .null] [.int s2, .int s1, .ref 14] := by
                        intro x l1 l2 s1 s2 hf
                        delta jX3_workOut_216 at hf
                        obtain ⟨hb216_19, hf⟩ := opt_t hf
                        refine X_iast (N := 128) dX3_workOut_216 ar14 rfl hb216_19 ?_
                        refine T_goto dX3_workOut_217 ?_
                        exact X_wk (WK.s (WK.s (WK.s (WK.n (WK.n WK.e))))) (J257 _ _ _ hf)
                      refine T_if_ne dX3_workOut_208 (fun c208_20 => ?_) (fun c208_20 => ?_)
                      · replace hf := ite_f c208_20 hf
                        refine T_const dX3_workOut_215 ?_
                        exact X_wk (WK.s (WK.s (WK.s (WK.n (WK.n WK.e))))) (J216 _ _ _ _ _ hf)
                      · replace hf := ite_t c208_20 hf
                        refine T_const dX3_workOut_211 ?_
                        refine T_goto dX3_workOut_212 ?_
                        exact X_wk (WK.s (WK.s (WK.s (WK.n (WK.n WK.e))))) (J216 _ _ _ _ _ hf)
                  · replace hf := ite_t c164_11 hf
                    refine T_aload dX3_workOut_167 rfl ?_
                    refine X_getr dX3_workOut_168 lfX3_21 rfl ob10 rfl ?_
                    refine T_iload dX3_workOut_171 rfl ?_
                    refine T_const dX3_workOut_172 ?_
                    refine T_isub dX3_workOut_173 ?_
                    refine T_aload dX3_workOut_174 rfl ?_
                    refine X_getr dX3_workOut_175 lfX3_21 rfl ob10 rfl ?_
                    refine T_iload dX3_workOut_178 rfl ?_
                    refine T_const dX3_workOut_179 ?_
                    refine T_isub dX3_workOut_180 ?_
                    obtain ⟨hb181_21, hf⟩ := opt_t hf
                    refine X_iald (N := 128) dX3_workOut_181 ar14 rfl hb181_21 ?_
                    refine T_ineg dX3_workOut_182 ?_
                    obtain ⟨hb183_22, hf⟩ := opt_t hf
                    refine X_iast (N := 128) dX3_workOut_183 ar14 rfl hb183_22 ?_
                    refine T_goto dX3_workOut_184 ?_
                    exact X_wk (WK.s (WK.s (WK.s (WK.n (WK.n WK.e))))) (J257 _ _ _ hf)
                · replace hf := ite_t c133_10 hf
                  refine T_iinc dX3_workOut_136 rfl ?_
                  show TX _ _ _ _ _ _ _ _ [_, _, _, _, _] _
                  refine T_aload dX3_workOut_139 rfl ?_
                  refine X_getr dX3_workOut_140 lfX3_21 rfl ob10 rfl ?_
                  refine T_iload dX3_workOut_143 rfl ?_
                  obtain ⟨hb144_23, hf⟩ := opt_t hf
                  refine X_iald (N := 128) dX3_workOut_144 ar14 rfl hb144_23 ?_
                  have J158 : ∀ (x : aH) (l1 : Int32) (s0 : Int32), jX3_workOut_158 (wX3_workOut_32 n) x l1 s0 = some R → TX true Z mX3_workOut 1 y x Q 158 [.ref 10, .int l1, .null, .null, .null] [.int s0] := by
                    intro x l1 s0 hf
                    delta jX3_workOut_158 at hf
                    refine T_istore dX3_workOut_158 ?_
                    show TX _ _ _ _ _ _ _ _ [_, _, _, _, _] _
                    refine T_goto dX3_workOut_159 ?_
                    exact X_wk (WK.s (WK.s (WK.s (WK.n (WK.n WK.e))))) (J257 _ _ _ hf)
                  refine T_if_ne dX3_workOut_145 (fun c145_24 => ?_) (fun c145_24 => ?_)
                  · replace hf := ite_f c145_24 hf
                    refine T_iload dX3_workOut_157 rfl ?_
                    exact X_wk (WK.s (WK.s (WK.n (WK.n (WK.n WK.e))))) (J158 _ _ _ hf)
                  · replace hf := ite_t c145_24 hf
                    refine T_iload dX3_workOut_148 rfl ?_
                    refine T_iload dX3_workOut_149 rfl ?_
                    refine T_max dX3_workOut_151 lmX3_39 (Nat.le_of_ble_eq_true rfl) ?_
                    refine T_goto dX3_workOut_154 ?_
                    exact X_wk (WK.s (WK.s (WK.n (WK.n (WK.n WK.e))))) (J158 _ _ _ hf)
              · replace hf := ite_t c119_9 hf
                refine T_aload dX3_workOut_122 rfl ?_
                refine X_getr dX3_workOut_123 lfX3_21 rfl ob10 rfl ?_
                refine T_iload dX3_workOut_126 rfl ?_
                refine T_const dX3_workOut_127 ?_
                refine T_isub dX3_workOut_128 ?_
                obtain ⟨hb129_25, hf⟩ := opt_t hf
                refine X_iald (N := 128) dX3_workOut_129 ar14 rfl hb129_25 ?_
                exact X_ri dX3_workOut_130 (kr ((ri x 14 (ix (l1 - (1 : Int32)))), x) (Option.some.inj hf).symm)
            · replace hf := ite_f c112_8 hf
              refine T_const dX3_workOut_115 ?_
              exact X_ri dX3_workOut_116 (kr ((0 : Int32), x) (Option.some.inj hf).symm)
          · replace hf := ite_t c88_7 hf
            refine T_aload dX3_workOut_91 rfl ?_
            refine X_getr dX3_workOut_92 lfX3_21 rfl ob10 rfl ?_
            refine T_iload dX3_workOut_95 rfl ?_
            refine T_aload dX3_workOut_96 rfl ?_
            refine X_getr dX3_workOut_97 lfX3_18 rfl ob10 rfl ?_
            refine T_iload dX3_workOut_100 rfl ?_
            obtain ⟨hb102_26, hf⟩ := opt_t hf
            refine X_iald (N := 6) dX3_workOut_102 ar13 rfl hb102_26 ?_
            obtain ⟨hb103_27, hf⟩ := opt_t hf
            refine X_iast (N := 128) dX3_workOut_103 ar14 rfl hb103_27 ?_
            refine T_iinc dX3_workOut_104 rfl ?_
            show TX _ _ _ _ _ _ _ _ [_, _, _, _, _] _
            refine T_goto dX3_workOut_107 ?_
            exact X_wk (WK.s (WK.s (WK.s (WK.n (WK.n WK.e))))) (J257 _ _ _ hf)
        · replace hf := ite_t c69_6 hf
          refine T_aload dX3_workOut_72 rfl ?_
          refine X_getr dX3_workOut_73 lfX3_21 rfl ob10 rfl ?_
          refine T_iload dX3_workOut_76 rfl ?_
          refine T_iload dX3_workOut_77 rfl ?_
          obtain ⟨hb79_28, hf⟩ := opt_t hf
          refine X_iast (N := 128) dX3_workOut_79 ar14 rfl hb79_28 ?_
          refine T_iinc dX3_workOut_80 rfl ?_
          show TX _ _ _ _ _ _ _ _ [_, _, _, _, _] _
          refine T_goto dX3_workOut_83 ?_
          exact X_wk (WK.s (WK.s (WK.s (WK.n (WK.n WK.e))))) (J257 _ _ _ hf)
theorem qX3_workOut (Z : aZ) (y : aH) {x : aH} {q : (Int32 × aH)} (hf : fX3_workOut x = some q) : CX true Z mX3_workOut 1 [.ref 10] y x (RV (.int q.1) q.2) := by
  refine CX.of mokX3_workOut (Nat.le_of_ble_eq_true rfl) ?_
  show TX _ _ _ _ _ _ _ _ [_, _, _, _, _] _
  delta fX3_workOut at hf
  refine T_aload dX3_workOut_0 rfl ?_
  refine X_getf dX3_workOut_1 lfX3_28 rfl ob10 ?_
  refine T_if_ne dX3_workOut_4 (fun c4_1 => ?_) (fun c4_1 => ?_)
  · replace hf := ite_f c4_1 hf
    refine T_const dX3_workOut_28 ?_
    refine T_istore dX3_workOut_29 ?_
    show TX _ _ _ _ _ _ _ _ [_, _, _, _, _] _
    refine T_const dX3_workOut_30 ?_
    refine T_istore dX3_workOut_31 ?_
    show TX _ _ _ _ _ _ _ _ [_, _, _, _, _] _
    obtain ⟨q32_29, hc32_29, hf⟩ := bind_t hf
    refine X_wk (WK.s (WK.s (WK.s (WK.n (WK.n WK.e))))) (lX3_workOut_32 Z _ 2000 _ _ _ hc32_29 ?_ ?_)
    · intro r hr
      subst hr
      replace hf := elS_l hf
      obtain rfl := Option.some.inj hf
      exact ⟨rfl, rfl⟩
    · intro eq32_29 hr
      subst hr
      replace hf := elS_r hf
      refine T_const dX3_workOut_260 ?_
      obtain rfl := Option.some.inj hf
      exact X_ri dX3_workOut_261 ⟨rfl, rfl⟩
  · replace hf := ite_t c4_1 hf
    refine T_const dX3_workOut_7 ?_
    refine T_aload dX3_workOut_9 rfl ?_
    refine X_getr dX3_workOut_10 lfX3_18 rfl ob10 rfl ?_
    refine T_const dX3_workOut_13 ?_
    refine X_iald (N := 6) dX3_workOut_14 ar13 rfl (by decide) ?_
    refine T_const dX3_workOut_15 ?_
    refine T_idiv dX3_workOut_16 (by decide) ?_
    refine T_isub dX3_workOut_17 ?_
    refine T_aload dX3_workOut_18 rfl ?_
    refine X_getr dX3_workOut_19 lfX3_18 rfl ob10 rfl ?_
    refine T_const dX3_workOut_22 ?_
    refine X_iald (N := 6) dX3_workOut_23 ar13 rfl (by decide) ?_
    refine T_const dX3_workOut_24 ?_
    refine T_idiv dX3_workOut_25 (by decide) ?_
    refine T_isub dX3_workOut_26 ?_
    obtain rfl := Option.some.inj hf
    exact X_ri dX3_workOut_27 ⟨rfl, rfl⟩
noncomputable def jX8_layBack_50 (a : Nat) (p1 : Nat) (x : aH) : Option aH := if ¬ (0 : Int32) < 0 ∧ ¬ (0 : Int32) < 0 ∧ ¬ (5 : Int32) < 0 ∧ ix (0 : Int32) + ix (5 : Int32) ≤ 5 ∧ ix (0 : Int32) + ix (5 : Int32) ≤ 5 then some (srow x (a + 2) (va_cpy (ri x (p1 + 2)) (ri x (a + 2)) (ix (0 : Int32)) (ix (0 : Int32)) (ix (5 : Int32)))) else none
noncomputable def fX8_layBack (x : aH) (a : Nat) (p1 : Nat) : Option aH := if ¬ (0 : Int32) < 0 ∧ ¬ (0 : Int32) < 0 ∧ ¬ (fi (sfi (sfi x a 6 ((((fi x a 6) >>> ((fi x p1 5) &&& 31)) <<< ((fi x p1 5) &&& 31)) ||| (fi x p1 6))) a 7 (fi (sfi x a 6 ((((fi x a 6) >>> ((fi x p1 5) &&& 31)) <<< ((fi x p1 5) &&& 31)) ||| (fi x p1 6))) p1 7)) p1 5) < 0 ∧ ix (0 : Int32) + ix (fi (sfi (sfi x a 6 ((((fi x a 6) >>> ((fi x p1 5) &&& 31)) <<< ((fi x p1 5) &&& 31)) ||| (fi x p1 6))) a 7 (fi (sfi x a 6 ((((fi x a 6) >>> ((fi x p1 5) &&& 31)) <<< ((fi x p1 5) &&& 31)) ||| (fi x p1 6))) p1 7)) p1 5) ≤ 10 ∧ ix (0 : Int32) + ix (fi (sfi (sfi x a 6 ((((fi x a 6) >>> ((fi x p1 5) &&& 31)) <<< ((fi x p1 5) &&& 31)) ||| (fi x p1 6))) a 7 (fi (sfi x a 6 ((((fi x a 6) >>> ((fi x p1 5) &&& 31)) <<< ((fi x p1 5) &&& 31)) ||| (fi x p1 6))) p1 7)) p1 5) ≤ 10 then jX8_layBack_50 a p1 (srow (sfi (sfi x a 6 ((((fi x a 6) >>> ((fi x p1 5) &&& 31)) <<< ((fi x p1 5) &&& 31)) ||| (fi x p1 6))) a 7 (fi (sfi x a 6 ((((fi x a 6) >>> ((fi x p1 5) &&& 31)) <<< ((fi x p1 5) &&& 31)) ||| (fi x p1 6))) p1 7)) (a + 1) (va_cpy (ri (sfi (sfi x a 6 ((((fi x a 6) >>> ((fi x p1 5) &&& 31)) <<< ((fi x p1 5) &&& 31)) ||| (fi x p1 6))) a 7 (fi (sfi x a 6 ((((fi x a 6) >>> ((fi x p1 5) &&& 31)) <<< ((fi x p1 5) &&& 31)) ||| (fi x p1 6))) p1 7)) (p1 + 1)) (ri (sfi (sfi x a 6 ((((fi x a 6) >>> ((fi x p1 5) &&& 31)) <<< ((fi x p1 5) &&& 31)) ||| (fi x p1 6))) a 7 (fi (sfi x a 6 ((((fi x a 6) >>> ((fi x p1 5) &&& 31)) <<< ((fi x p1 5) &&& 31)) ||| (fi x p1 6))) p1 7)) (a + 1)) (ix (0 : Int32)) (ix (0 : Int32)) (ix (fi (sfi (sfi x a 6 ((((fi x a 6) >>> ((fi x p1 5) &&& 31)) <<< ((fi x p1 5) &&& 31)) ||| (fi x p1 6))) a 7 (fi (sfi x a 6 ((((fi x a 6) >>> ((fi x p1 5) &&& 31)) <<< ((fi x p1 5) &&& 31)) ||| (fi x p1 6))) p1 7)) p1 5)))) else none
theorem qX8_layBack (Z : aZ) (y : aH) {x : aH} {a : Nat} {p1 : Nat} (hA : SD a) (hp1 : SD p1) {q : aH} (hf : fX8_layBack x a p1 = some q) : CX true Z mX8_layBack 0 [.ref a, .ref p1] y x (RN q) := by
  refine CX.of mokX8_layBack (Nat.le_of_ble_eq_true rfl) ?_
  show TX _ _ _ _ _ _ _ _ [_, _, _] _
  delta fX8_layBack at hf
  refine T_aload dX8_layBack_0 rfl ?_
  refine X_getf dX8_layBack_1 lfX8_33 rfl (SD.ob hA) ?_
  refine T_aload dX8_layBack_4 rfl ?_
  refine X_getf dX8_layBack_5 lfX8_36 rfl (SD.ob hp1) ?_
  refine T_ishr dX8_layBack_8 ?_
  refine T_aload dX8_layBack_9 rfl ?_
  refine X_getf dX8_layBack_10 lfX8_36 rfl (SD.ob hp1) ?_
  refine T_ishl dX8_layBack_13 ?_
  refine T_istore dX8_layBack_14 ?_
  show TX _ _ _ _ _ _ _ _ [_, _, _] _
  refine T_aload dX8_layBack_15 rfl ?_
  refine T_iload dX8_layBack_16 rfl ?_
  refine T_aload dX8_layBack_17 rfl ?_
  refine X_getf dX8_layBack_18 lfX8_33 rfl (SD.ob hp1) ?_
  refine T_ior dX8_layBack_21 ?_
  refine X_putf dX8_layBack_22 lfX8_33 rfl rfl (SD.ob hA) ⟨rfl, rfl⟩ ?_
  refine T_aload dX8_layBack_25 rfl ?_
  refine T_aload dX8_layBack_26 rfl ?_
  refine X_getf dX8_layBack_27 lfX8_21 rfl (SD.ob hp1) ?_
  refine X_putf dX8_layBack_30 lfX8_21 rfl rfl (SD.ob hA) ⟨rfl, rfl⟩ ?_
  refine T_aload dX8_layBack_33 rfl ?_
  refine X_getr dX8_layBack_34 lfX8_9 rfl (SD.ob hp1) (SD.f2 hp1) ?_
  refine T_const dX8_layBack_37 ?_
  refine T_aload dX8_layBack_38 rfl ?_
  refine X_getr dX8_layBack_39 lfX8_9 rfl (SD.ob hA) (SD.f2 hA) ?_
  refine T_const dX8_layBack_42 ?_
  refine T_aload dX8_layBack_43 rfl ?_
  refine X_getf dX8_layBack_44 lfX8_36 rfl (SD.ob hp1) ?_
  obtain ⟨hk1, hf⟩ := opt_t hf
  refine X_copyi dX8_layBack_47 lcX8_43 (SD.ar2 hp1) (SD.ar2 hA) hk1 (Nat.le_of_ble_eq_true rfl) ?_
  have J50 : ∀ (x : aH), jX8_layBack_50 a p1 x = some q → TX true Z mX8_layBack 0 y x (RN q) 50 [.ref a, .ref p1, .null] [] := by
    intro x hf
    delta jX8_layBack_50 at hf
    refine T_aload dX8_layBack_50 rfl ?_
    refine X_getr dX8_layBack_51 lfX8_15 rfl (SD.ob hp1) (SD.f3 hp1) ?_
    refine T_const dX8_layBack_54 ?_
    refine T_aload dX8_layBack_55 rfl ?_
    refine X_getr dX8_layBack_56 lfX8_15 rfl (SD.ob hA) (SD.f3 hA) ?_
    refine T_const dX8_layBack_59 ?_
    refine T_const dX8_layBack_60 ?_
    obtain ⟨hk2, hf⟩ := opt_t hf
    refine X_copyi dX8_layBack_61 lcX8_43 (SD.ar3 hp1) (SD.ar3 hA) hk2 (Nat.le_of_ble_eq_true rfl) ?_
    obtain rfl := Option.some.inj hf
    exact X_rv dX8_layBack_64 ⟨rfl, rfl⟩
  exact X_wk (WK.s (WK.s (WK.n WK.e))) (J50 _ hf)
noncomputable def fX8_become (x : aH) (a : Nat) (p1 : Nat) : Option aH := (fX8_layBack (sfi x a 5 (fi x p1 5)) a p1).bind fun q10_1 => some q10_1
theorem qX8_become (Z : aZ) (y : aH) {x : aH} {a : Nat} {p1 : Nat} (hA : SD a) (hp1 : SD p1) {q : aH} (hf : fX8_become x a p1 = some q) : CX true Z mX8_become 1 [.ref a, .ref p1] y x (RN q) := by
  refine CX.of mokX8_become (Nat.le_of_ble_eq_true rfl) ?_
  show TX _ _ _ _ _ _ _ _ [_, _] _
  delta fX8_become at hf
  refine T_aload dX8_become_0 rfl ?_
  refine T_aload dX8_become_1 rfl ?_
  refine X_getf dX8_become_2 lfX8_36 rfl (SD.ob hp1) ?_
  refine X_putf dX8_become_5 lfX8_36 rfl rfl (SD.ob hA) ⟨rfl, rfl⟩ ?_
  refine T_aload dX8_become_8 rfl ?_
  refine T_aload dX8_become_9 rfl ?_
  obtain ⟨q10_1, hc10_1, hf⟩ := bind_t hf
  refine X_Vn (qX8_layBack Z _ hA hp1 hc10_1) (Nat.le_of_ble_eq_true rfl) dX8_become_10 lvX8_39 rfl rfl (SD.ob hA) (Nat.le_of_ble_eq_true rfl) ?_
  obtain rfl := Option.some.inj hf
  exact X_rv dX8_become_13 ⟨rfl, rfl⟩
noncomputable def fX8_isHome (x : aH) (a : Nat) (p1 : Int32) : Option Int32 := if (((fi x a 6) >>> (p1 &&& 31)) &&& (1 : Int32)) = (0 : Int32) then some (0 : Int32) else some (1 : Int32)
theorem qX8_isHome (Z : aZ) (y : aH) {x : aH} {a : Nat} {p1 : Int32} (hA : SD a) {q : Int32} (hf : fX8_isHome x a p1 = some q) : CX true Z mX8_isHome 0 [.ref a, .int p1] y x (RV (.int q) x) := by
  refine CX.of mokX8_isHome (Nat.le_of_ble_eq_true rfl) ?_
  show TX _ _ _ _ _ _ _ _ [_, _] _
  delta fX8_isHome at hf
  refine T_aload dX8_isHome_0 rfl ?_
  refine X_getf dX8_isHome_1 lfX8_33 rfl (SD.ob hA) ?_
  refine T_iload dX8_isHome_4 rfl ?_
  refine T_ishr dX8_isHome_5 ?_
  refine T_const dX8_isHome_6 ?_
  refine T_iand dX8_isHome_7 ?_
  refine T_if_eq dX8_isHome_8 (fun c8_1 => ?_) (fun c8_1 => ?_)
  · replace hf := ite_t c8_1 hf
    refine T_const dX8_isHome_15 ?_
    obtain rfl := Option.some.inj hf
    exact X_rz dX8_isHome_16 (by first | exact Or.inl rfl | exact Or.inr rfl) ⟨rfl, rfl⟩
  · replace hf := ite_f c8_1 hf
    refine T_const dX8_isHome_11 ?_
    refine T_goto dX8_isHome_12 ?_
    obtain rfl := Option.some.inj hf
    exact X_rz dX8_isHome_16 (by first | exact Or.inl rfl | exact Or.inr rfl) ⟨rfl, rfl⟩
noncomputable def jX8_pull_83 (a : Nat) (ih : Int32 → Int32 → Int32 → Option (Int32 × Int32)) (x : aH) (l1 : Int32) (l2 : Int32) (l3 : Int32) (l4 : Int32) : Option (Int32 × Int32) := ih l2 l3 (l4 + (1 : Int32))
noncomputable def jX8_pull_53 (a : Nat) (ih : Int32 → Int32 → Int32 → Option (Int32 × Int32)) (x : aH) (l1 : Int32) (l2 : Int32) (l4 : Int32) (s0 : Int32) (s1 : Int32) : Option (Int32 × Int32) := jX8_pull_83 a ih x l1 l2 (s0 + s1) l4
noncomputable def sX8_pull_7 (a : Nat) (x : aH) (l1 : Int32) (ih : Int32 → Int32 → Int32 → Option (Int32 × Int32)) (l2 : Int32) (l3 : Int32) (l4 : Int32) : Option (Int32 × Int32) := if (fi x a 5) ≤ l4 then some (l2, l3) else (fX8_isHome x a l4).bind fun q19_2 => if q19_2 = (0 : Int32) then if l4 = l1 then jX8_pull_83 a ih x l1 l2 l3 l4 else if (0 : Int32) ≤ l4 ∧ l4 < (10 : Int32) then if (0 : Int32) ≤ l1 ∧ l1 < (10 : Int32) then if (ri x (a + 1) (ix l4)) = (ri x (a + 1) (ix l1)) then jX8_pull_83 a ih x l1 (l2 + (1 : Int32)) l3 l4 else jX8_pull_83 a ih x l1 l2 l3 l4 else none else none else if (0 : Int32) ≤ l4 ∧ l4 < (10 : Int32) then if (0 : Int32) ≤ l1 ∧ l1 < (10 : Int32) then if (ri x 4 (ix l4)) = (ri x 4 (ix l1)) then jX8_pull_53 a ih x l1 l2 l4 l3 (1 : Int32) else jX8_pull_53 a ih x l1 l2 l4 l3 (0 : Int32) else none else none
noncomputable def wX8_pull_7 (a : Nat) (x : aH) (l1 : Int32) : Nat → Int32 → Int32 → Int32 → Option (Int32 × Int32)
  | 0 => fun _ _ _ => none
  | n + 1 => sX8_pull_7 a x l1 (wX8_pull_7 a x l1 n)
noncomputable def jX8_pull_152 (a : Nat) (x : aH) (l2 : Int32) (l3 : Int32) : Option (Int32 × aH) := (fX3_workOut (sri (sri (sri x 13 (ix (3 : Int32)) l2) 13 (ix (4 : Int32)) l3) 13 (ix (5 : Int32)) (fi (sri (sri x 13 (ix (3 : Int32)) l2) 13 (ix (4 : Int32)) l3) a 7))).bind fun q192_17 => some ((if (0 : Int32) < (if q192_17.1 < (9 : Int32) then q192_17.1 else (9 : Int32)) then (if q192_17.1 < (9 : Int32) then q192_17.1 else (9 : Int32)) else (0 : Int32)), q192_17.2)
noncomputable def fX8_pull (x : aH) (a : Nat) (p1 : Int32) : Option (Int32 × aH) := (wX8_pull_7 a x p1 2000 (0 : Int32) (0 : Int32) (0 : Int32)).bind fun q7_11 => if (0 : Int32) ≤ p1 ∧ p1 < (10 : Int32) then (fX5_far x (ri x (a + 1) (ix p1))).bind fun q107_13 => if (0 : Int32) ≤ p1 ∧ p1 < (10 : Int32) then if (0 : Int32) ≤ (ri (sri x 13 (ix (0 : Int32)) q107_13) (a + 1) (ix p1)) ∧ (ri (sri x 13 (ix (0 : Int32)) q107_13) (a + 1) (ix p1)) < (64 : Int32) then if (0 : Int32) ≤ p1 ∧ p1 < (10 : Int32) then jX8_pull_152 a (sri (sri (sri x 13 (ix (0 : Int32)) q107_13) 13 (ix (1 : Int32)) (ri (sri x 13 (ix (0 : Int32)) q107_13) 2 (ix (ri (sri x 13 (ix (0 : Int32)) q107_13) (a + 1) (ix p1))))) 13 (ix (2 : Int32)) (ri (sri (sri x 13 (ix (0 : Int32)) q107_13) 13 (ix (1 : Int32)) (ri (sri x 13 (ix (0 : Int32)) q107_13) 2 (ix (ri (sri x 13 (ix (0 : Int32)) q107_13) (a + 1) (ix p1))))) 5 (ix p1))) q7_11.1 q7_11.2 else none else none else none else none
theorem lX8_pull_7 (Z : aZ) (y : aH) {a : Nat} (hA : SD a) (x : aH) (l1 : Int32) {Q : Option Value → aH → Prop} {R : (Int32 × Int32)} : ∀ (n : Nat) (l2 : Int32) (l3 : Int32) (l4 : Int32), wX8_pull_7 a x l1 n l2 l3 l4 = some R → (∀ q, R = q → TX true Z mX8_pull 2 y x Q 89 [.ref a, .int l1, .int (q.1), .int (q.2), .null] []) → TX true Z mX8_pull 2 y x Q 7 [.ref a, .int l1, .int l2, .int l3, .int l4] [] := by
  intro n
  induction n with
  | zero => intro l2 l3 l4 hf; cases hf
  | succ n ih =>
    intro l2 l3 l4 hf ke
    replace hf : sX8_pull_7 a x l1 (wX8_pull_7 a x l1 n) l2 l3 l4 = some R := hf
    delta sX8_pull_7 at hf
    refine T_iload dX8_pull_7 rfl ?_
    refine T_aload dX8_pull_9 rfl ?_
    refine X_getf dX8_pull_10 lfX8_36 rfl (SD.ob hA) ?_
    refine T_icmp_ge dX8_pull_13 (fun c13_1 => ?_) (fun c13_1 => ?_)
    · replace hf := ite_t c13_1 hf
      exact X_wk (WK.s (WK.s (WK.s (WK.s (WK.n WK.e))))) (ke (l2, l3) (Option.some.inj hf).symm)
    · replace hf := ite_f c13_1 hf
      refine T_aload dX8_pull_16 rfl ?_
      refine T_iload dX8_pull_17 rfl ?_
      obtain ⟨q19_2, hc19_2, hf⟩ := bind_t hf
      refine X_Vv (qX8_isHome Z _ hA hc19_2) (Nat.le_of_ble_eq_true rfl) dX8_pull_19 lvX8_54 rfl rfl (SD.ob hA) (Nat.le_of_ble_eq_true rfl) ?_
      have J83 : ∀ (l2 : Int32) (l3 : Int32) (l4 : Int32), jX8_pull_83 a (wX8_pull_7 a x l1 n) x l1 l2 l3 l4 = some R → TX true Z mX8_pull 2 y x Q 83 [.ref a, .int l1, .int l2, .int l3, .int l4] [] := by
        intro l2 l3 l4 hf
        delta jX8_pull_83 at hf
        refine T_iinc dX8_pull_83 rfl ?_
        show TX _ _ _ _ _ _ _ _ [_, _, _, _, _] _
        refine T_goto dX8_pull_86 ?_
        exact X_wk (WK.s (WK.s (WK.s (WK.s (WK.s WK.e))))) (ih _ _ _ hf ke)
      refine T_if_eq dX8_pull_22 (fun c22_3 => ?_) (fun c22_3 => ?_)
      · replace hf := ite_t c22_3 hf
        refine T_iload dX8_pull_58 rfl ?_
        refine T_iload dX8_pull_60 rfl ?_
        refine T_icmp_eq dX8_pull_61 (fun c61_4 => ?_) (fun c61_4 => ?_)
        · replace hf := ite_t c61_4 hf
          exact X_wk (WK.s (WK.s (WK.s (WK.s (WK.s WK.e))))) (J83 _ _ _ hf)
        · replace hf := ite_f c61_4 hf
          refine T_aload dX8_pull_64 rfl ?_
          refine X_getr dX8_pull_65 lfX8_9 rfl (SD.ob hA) (SD.f2 hA) ?_
          refine T_iload dX8_pull_68 rfl ?_
          obtain ⟨hb70_5, hf⟩ := opt_t hf
          refine X_iald (N := 10) dX8_pull_70 (SD.ar2 hA) rfl hb70_5 ?_
          refine T_aload dX8_pull_71 rfl ?_
          refine X_getr dX8_pull_72 lfX8_9 rfl (SD.ob hA) (SD.f2 hA) ?_
          refine T_iload dX8_pull_75 rfl ?_
          obtain ⟨hb76_6, hf⟩ := opt_t hf
          refine X_iald (N := 10) dX8_pull_76 (SD.ar2 hA) rfl hb76_6 ?_
          refine T_icmp_ne dX8_pull_77 (fun c77_7 => ?_) (fun c77_7 => ?_)
          · replace hf := ite_f c77_7 hf
            exact X_wk (WK.s (WK.s (WK.s (WK.s (WK.s WK.e))))) (J83 _ _ _ hf)
          · replace hf := ite_t c77_7 hf
            refine T_iinc dX8_pull_80 rfl ?_
            show TX _ _ _ _ _ _ _ _ [_, _, _, _, _] _
            exact X_wk (WK.s (WK.s (WK.s (WK.s (WK.s WK.e))))) (J83 _ _ _ hf)
      · replace hf := ite_f c22_3 hf
        refine T_iload dX8_pull_25 rfl ?_
        refine T_aload dX8_pull_26 rfl ?_
        refine X_getr dX8_pull_27 lfX8_25 rfl (SD.ob hA) (SD.f0 hA) ?_
        refine X_getr dX8_pull_30 lfX8_87 rfl ob1 rfl ?_
        refine T_iload dX8_pull_33 rfl ?_
        obtain ⟨hb35_8, hf⟩ := opt_t hf
        refine X_iald (N := 10) dX8_pull_35 ar4 rfl hb35_8 ?_
        refine T_aload dX8_pull_36 rfl ?_
        refine X_getr dX8_pull_37 lfX8_25 rfl (SD.ob hA) (SD.f0 hA) ?_
        refine X_getr dX8_pull_40 lfX8_87 rfl ob1 rfl ?_
        refine T_iload dX8_pull_43 rfl ?_
        obtain ⟨hb44_9, hf⟩ := opt_t hf
        refine X_iald (N := 10) dX8_pull_44 ar4 rfl hb44_9 ?_
        have J53 : ∀ (l2 : Int32) (l4 : Int32) (s0 : Int32) (s1 : Int32), jX8_pull_53 a (wX8_pull_7 a x l1 n) x l1 l2 l4 s0 s1 = some R → TX true Z mX8_pull 2 y x Q 53 [.ref a, .int l1, .int l2, .null, .int l4] [.int s1, .int s0] := by
          intro l2 l4 s0 s1 hf
          delta jX8_pull_53 at hf
          refine T_iadd dX8_pull_53 ?_
          refine T_istore dX8_pull_54 ?_
          show TX _ _ _ _ _ _ _ _ [_, _, _, _, _] _
          refine T_goto dX8_pull_55 ?_
          exact X_wk (WK.s (WK.s (WK.s (WK.s (WK.s WK.e))))) (J83 _ _ _ hf)
        refine T_icmp_ne dX8_pull_45 (fun c45_10 => ?_) (fun c45_10 => ?_)
        · replace hf := ite_f c45_10 hf
          refine T_const dX8_pull_52 ?_
          exact X_wk (WK.s (WK.s (WK.s (WK.n (WK.s WK.e))))) (J53 _ _ _ _ hf)
        · replace hf := ite_t c45_10 hf
          refine T_const dX8_pull_48 ?_
          refine T_goto dX8_pull_49 ?_
          exact X_wk (WK.s (WK.s (WK.s (WK.n (WK.s WK.e))))) (J53 _ _ _ _ hf)
theorem qX8_pull (Z : aZ) (y : aH) {x : aH} {a : Nat} {p1 : Int32} (hA : SD a) {q : (Int32 × aH)} (hf : fX8_pull x a p1 = some q) : CX true Z mX8_pull 2 [.ref a, .int p1] y x (RV (.int q.1) q.2) := by
  refine CX.of mokX8_pull (Nat.le_of_ble_eq_true rfl) ?_
  show TX _ _ _ _ _ _ _ _ [_, _, _, _, _] _
  delta fX8_pull at hf
  refine T_const dX8_pull_0 ?_
  refine T_istore dX8_pull_1 ?_
  show TX _ _ _ _ _ _ _ _ [_, _, _, _, _] _
  refine T_const dX8_pull_2 ?_
  refine T_istore dX8_pull_3 ?_
  show TX _ _ _ _ _ _ _ _ [_, _, _, _, _] _
  refine T_const dX8_pull_4 ?_
  refine T_istore dX8_pull_5 ?_
  show TX _ _ _ _ _ _ _ _ [_, _, _, _, _] _
  obtain ⟨q7_11, hc7_11, hf⟩ := bind_t hf
  refine X_wk (WK.s (WK.s (WK.s (WK.s (WK.s WK.e))))) (lX8_pull_7 Z _ hA _ _ 2000 _ _ _ hc7_11 ?_)
  intro q7_11z hr
  subst hr
  refine T_aload dX8_pull_89 rfl ?_
  refine X_getr dX8_pull_90 lfX8_29 rfl (SD.ob hA) (SD.f1 hA) ?_
  refine X_getr dX8_pull_93 lfX8_90 rfl ob10 rfl ?_
  refine T_const dX8_pull_96 ?_
  refine T_aload dX8_pull_97 rfl ?_
  refine X_getr dX8_pull_98 lfX8_25 rfl (SD.ob hA) (SD.f0 hA) ?_
  refine T_aload dX8_pull_101 rfl ?_
  refine X_getr dX8_pull_102 lfX8_9 rfl (SD.ob hA) (SD.f2 hA) ?_
  refine T_iload dX8_pull_105 rfl ?_
  obtain ⟨hb106_12, hf⟩ := opt_t hf
  refine X_iald (N := 10) dX8_pull_106 (SD.ar2 hA) rfl hb106_12 ?_
  obtain ⟨q107_13, hc107_13, hf⟩ := bind_t hf
  refine X_Vv (qX5_far Z _ hc107_13) (Nat.le_of_ble_eq_true rfl) dX8_pull_107 lvX8_95 rfl rfl ob1 (Nat.le_of_ble_eq_true rfl) ?_
  refine X_iast (N := 6) dX8_pull_110 ar13 rfl (by decide) ?_
  refine T_aload dX8_pull_111 rfl ?_
  refine X_getr dX8_pull_112 lfX8_29 rfl (SD.ob hA) (SD.f1 hA) ?_
  refine X_getr dX8_pull_115 lfX8_90 rfl ob10 rfl ?_
  refine T_const dX8_pull_118 ?_
  refine T_aload dX8_pull_119 rfl ?_
  refine X_getr dX8_pull_120 lfX8_25 rfl (SD.ob hA) (SD.f0 hA) ?_
  refine X_getr dX8_pull_123 lfX8_98 rfl ob1 rfl ?_
  refine T_aload dX8_pull_126 rfl ?_
  refine X_getr dX8_pull_127 lfX8_9 rfl (SD.ob hA) (SD.f2 hA) ?_
  refine T_iload dX8_pull_130 rfl ?_
  obtain ⟨hb131_14, hf⟩ := opt_t hf
  refine X_iald (N := 10) dX8_pull_131 (SD.ar2 hA) rfl hb131_14 ?_
  obtain ⟨hb132_15, hf⟩ := opt_t hf
  refine X_iald (N := 64) dX8_pull_132 ar2 rfl hb132_15 ?_
  refine X_iast (N := 6) dX8_pull_133 ar13 rfl (by decide) ?_
  refine T_aload dX8_pull_134 rfl ?_
  refine X_getr dX8_pull_135 lfX8_29 rfl (SD.ob hA) (SD.f1 hA) ?_
  refine X_getr dX8_pull_138 lfX8_90 rfl ob10 rfl ?_
  refine T_const dX8_pull_141 ?_
  refine T_aload dX8_pull_142 rfl ?_
  refine X_getr dX8_pull_143 lfX8_25 rfl (SD.ob hA) (SD.f0 hA) ?_
  refine X_getr dX8_pull_146 lfX8_101 rfl ob1 rfl ?_
  refine T_iload dX8_pull_149 rfl ?_
  obtain ⟨hb150_16, hf⟩ := opt_t hf
  refine X_iald (N := 10) dX8_pull_150 ar5 rfl hb150_16 ?_
  refine X_iast (N := 6) dX8_pull_151 ar13 rfl (by decide) ?_
  have J152 : ∀ (x : aH) (l2 : Int32) (l3 : Int32), jX8_pull_152 a x l2 l3 = some q → TX true Z mX8_pull 2 y x (RV (.int q.1) q.2) 152 [.ref a, .null, .int l2, .int l3, .null] [] := by
    intro x l2 l3 hf
    delta jX8_pull_152 at hf
    refine T_aload dX8_pull_152 rfl ?_
    refine X_getr dX8_pull_153 lfX8_29 rfl (SD.ob hA) (SD.f1 hA) ?_
    refine X_getr dX8_pull_156 lfX8_90 rfl ob10 rfl ?_
    refine T_const dX8_pull_159 ?_
    refine T_iload dX8_pull_160 rfl ?_
    refine X_iast (N := 6) dX8_pull_161 ar13 rfl (by decide) ?_
    refine T_aload dX8_pull_162 rfl ?_
    refine X_getr dX8_pull_163 lfX8_29 rfl (SD.ob hA) (SD.f1 hA) ?_
    refine X_getr dX8_pull_166 lfX8_90 rfl ob10 rfl ?_
    refine T_const dX8_pull_169 ?_
    refine T_iload dX8_pull_170 rfl ?_
    refine X_iast (N := 6) dX8_pull_171 ar13 rfl (by decide) ?_
    refine T_aload dX8_pull_172 rfl ?_
    refine X_getr dX8_pull_173 lfX8_29 rfl (SD.ob hA) (SD.f1 hA) ?_
    refine X_getr dX8_pull_176 lfX8_90 rfl ob10 rfl ?_
    refine T_const dX8_pull_179 ?_
    refine T_aload dX8_pull_180 rfl ?_
    refine X_getf dX8_pull_181 lfX8_21 rfl (SD.ob hA) ?_
    refine X_iast (N := 6) dX8_pull_184 ar13 rfl (by decide) ?_
    refine T_const dX8_pull_185 ?_
    refine T_const dX8_pull_186 ?_
    refine T_aload dX8_pull_188 rfl ?_
    refine X_getr dX8_pull_189 lfX8_29 rfl (SD.ob hA) (SD.f1 hA) ?_
    obtain ⟨q192_17, hc192_17, hf⟩ := bind_t hf
    refine X_Vv (qX3_workOut Z _ hc192_17) (Nat.le_of_ble_eq_true rfl) dX8_pull_192 lvX8_104 rfl rfl ob10 (Nat.le_of_ble_eq_true rfl) ?_
    refine T_min dX8_pull_195 lmX8_108 (Nat.le_of_ble_eq_true rfl) ?_
    refine T_max dX8_pull_198 lmX8_114 (Nat.le_of_ble_eq_true rfl) ?_
    obtain rfl := Option.some.inj hf
    exact X_ri dX8_pull_201 ⟨rfl, rfl⟩
  exact X_wk (WK.s (WK.n (WK.s (WK.s (WK.n WK.e))))) (J152 _ _ _ hf)
noncomputable def fX8_setHome (x : aH) (a : Nat) (p1 : Int32) (p2 : Int32) : Option aH := if p2 = (0 : Int32) then some (sfi x a 6 ((fi x a 6) &&& (((1 : Int32) <<< (p1 &&& 31)) ^^^ (-1 : Int32)))) else some (sfi x a 6 ((fi x a 6) ||| ((1 : Int32) <<< (p1 &&& 31))))
theorem qX8_setHome (Z : aZ) (y : aH) {x : aH} {a : Nat} {p1 : Int32} {p2 : Int32} (hA : SD a) {q : aH} (hf : fX8_setHome x a p1 p2 = some q) : CX true Z mX8_setHome 0 [.ref a, .int p1, .int p2] y x (RN q) := by
  refine CX.of mokX8_setHome (Nat.le_of_ble_eq_true rfl) ?_
  show TX _ _ _ _ _ _ _ _ [_, _, _] _
  delta fX8_setHome at hf
  refine T_aload dX8_setHome_0 rfl ?_
  refine T_iload dX8_setHome_1 rfl ?_
  refine T_if_eq dX8_setHome_2 (fun c2_1 => ?_) (fun c2_1 => ?_)
  · replace hf := ite_t c2_1 hf
    refine T_aload dX8_setHome_16 rfl ?_
    refine X_getf dX8_setHome_17 lfX8_33 rfl (SD.ob hA) ?_
    refine T_const dX8_setHome_20 ?_
    refine T_iload dX8_setHome_21 rfl ?_
    refine T_ishl dX8_setHome_22 ?_
    refine T_const dX8_setHome_23 ?_
    refine T_ixor dX8_setHome_24 ?_
    refine T_iand dX8_setHome_25 ?_
    refine X_putf dX8_setHome_26 lfX8_33 rfl rfl (SD.ob hA) ⟨rfl, rfl⟩ ?_
    obtain rfl := Option.some.inj hf
    exact X_rv dX8_setHome_29 ⟨rfl, rfl⟩
  · replace hf := ite_f c2_1 hf
    refine T_aload dX8_setHome_5 rfl ?_
    refine X_getf dX8_setHome_6 lfX8_33 rfl (SD.ob hA) ?_
    refine T_const dX8_setHome_9 ?_
    refine T_iload dX8_setHome_10 rfl ?_
    refine T_ishl dX8_setHome_11 ?_
    refine T_ior dX8_setHome_12 ?_
    refine T_goto dX8_setHome_13 ?_
    refine X_putf dX8_setHome_26 lfX8_33 rfl rfl (SD.ob hA) ⟨rfl, rfl⟩ ?_
    obtain rfl := Option.some.inj hf
    exact X_rv dX8_setHome_29 ⟨rfl, rfl⟩
noncomputable def jX8_pass_137 (a : Nat) (ih : aH → Int32 → Option aH) (x : aH) (l1 : Int32) (l2 : Int32) (l3 : Int32) : Option aH := ih x (l3 + (1 : Int32))
noncomputable def jX8_pass_122 (a : Nat) (ih : aH → Int32 → Option aH) (x : aH) (l1 : Int32) (l2 : Int32) (l3 : Int32) (l4 : Int32) : Option aH := (fX5_carried x l4).bind fun q133_5 => if (0 : Int32) ≤ l3 ∧ l3 < (10 : Int32) then jX8_pass_137 a ih (sri x (a + 3) (ix l3) q133_5) l1 l2 l3 else none
noncomputable def sX8_pass_27 (a : Nat) (l1 : Int32) (l2 : Int32) (ih : aH → Int32 → Option aH) (x : aH) (l3 : Int32) : Option aH := if (fi x a 5) ≤ l3 then some x else if (0 : Int32) ≤ l3 ∧ l3 < (10 : Int32) then (fX8_isHome x a l3).bind fun q45_3 => if q45_3 = (0 : Int32) then if l2 = (0 : Int32) then jX8_pass_122 a ih x l1 l2 l3 (ri x (a + 1) (ix l3)) else (fX5_isLit x l1 (ri x (a + 1) (ix l3))).bind fun q73_8 => if q73_8 = (0 : Int32) then jX8_pass_122 a ih x l1 l2 l3 (ri x (a + 1) (ix l3)) else (fX8_pull x a l3).bind fun q81_10 => if q81_10.1 < (fi q81_10.2 1 6) then jX8_pass_122 a ih q81_10.2 l1 l2 l3 (ri x (a + 1) (ix l3)) else (fX5_nearer q81_10.2 (ri x (a + 1) (ix l3))).bind fun q105_12 => if (0 : Int32) ≤ l3 ∧ l3 < (10 : Int32) then jX8_pass_137 a ih (sri (sri q81_10.2 (a + 3) (ix l3) q105_12) (a + 2) (ix (2 : Int32)) ((ri (sri q81_10.2 (a + 3) (ix l3) q105_12) (a + 2) (ix (2 : Int32))) + (1 : Int32))) l1 l2 l3 else none else if (0 : Int32) ≤ l3 ∧ l3 < (10 : Int32) then jX8_pass_137 a ih (sri x (a + 3) (ix l3) (ri x (a + 1) (ix l3))) l1 l2 l3 else none else none
noncomputable def wX8_pass_27 (a : Nat) (l1 : Int32) (l2 : Int32) : Nat → aH → Int32 → Option aH
  | 0 => fun _ _ => none
  | n + 1 => sX8_pass_27 a l1 l2 (wX8_pass_27 a l1 l2 n)
noncomputable def jX8_pass_241 (a : Nat) (ih : aH → Int32 → Option aH) (x : aH) (l3 : Int32) (l4 : Int32) : Option aH := ih x (l4 + (1 : Int32))
noncomputable def sX8_pass_194 (a : Nat) (l3 : Int32) (ih : aH → Int32 → Option aH) (x : aH) (l4 : Int32) : Option aH := if (fi x a 5) ≤ l4 then some x else if (0 : Int32) ≤ l4 ∧ l4 < (10 : Int32) then if (0 : Int32) ≤ l4 ∧ l4 < (10 : Int32) then if (0 : Int32) ≤ l4 ∧ l4 < (10 : Int32) then if (ri (sri x (a + 1) (ix l4) (ri x (a + 3) (ix l4))) (a + 1) (ix l4)) = (fi (sri x (a + 1) (ix l4) (ri x (a + 3) (ix l4))) 1 4) then (fX8_setHome (sri x (a + 1) (ix l4) (ri x (a + 3) (ix l4))) a l4 (1 : Int32)).bind fun q238_22 => jX8_pass_241 a ih q238_22 l3 l4 else jX8_pass_241 a ih (sri x (a + 1) (ix l4) (ri x (a + 3) (ix l4))) l3 l4 else none else none else none
noncomputable def wX8_pass_194 (a : Nat) (l3 : Int32) : Nat → aH → Int32 → Option aH
  | 0 => fun _ _ => none
  | n + 1 => sX8_pass_194 a l3 (wX8_pass_194 a l3 n)
noncomputable def jX8_pass_183 (a : Nat) (x : aH) : Option (Int32 × aH) := (fJ6_bitCount_0f7a4 (fi x a 6)).bind fun q187_16 => (wX8_pass_194 a q187_16 2000 x (0 : Int32)).bind fun q194_23 => (fJ6_bitCount_0f7a4 (fi q194_23 a 6)).bind fun q251_24 => some ((q251_24 - q187_16), (sri q194_23 (a + 2) (ix (3 : Int32)) ((ri q194_23 (a + 2) (ix (3 : Int32))) + (q251_24 - q187_16))))
noncomputable def jX8_pass_173 (a : Nat) (x : aH) : Option (Int32 × aH) := jX8_pass_183 a (sri x (a + 2) (ix (1 : Int32)) ((ri x (a + 2) (ix (1 : Int32))) + (1 : Int32)))
noncomputable def jX8_pass_24 (a : Nat) (x : aH) (l1 : Int32) (s0 : Int32) : Option (Int32 × aH) := (wX8_pass_27 a l1 s0 2000 x (0 : Int32)).bind fun q27_15 => if s0 = (0 : Int32) then jX8_pass_183 a (sri q27_15 (a + 2) (ix (0 : Int32)) ((ri q27_15 (a + 2) (ix (0 : Int32))) + (1 : Int32))) else jX8_pass_173 a (sfi (sri q27_15 (a + 2) (ix (0 : Int32)) ((ri q27_15 (a + 2) (ix (0 : Int32))) + (1 : Int32))) a 7 ((fi (sri q27_15 (a + 2) (ix (0 : Int32)) ((ri q27_15 (a + 2) (ix (0 : Int32))) + (1 : Int32))) a 7) - (fi (sri q27_15 (a + 2) (ix (0 : Int32)) ((ri q27_15 (a + 2) (ix (0 : Int32))) + (1 : Int32))) 1 5)))
noncomputable def jX8_pass_23 (a : Nat) (x : aH) (l1 : Int32) : Option (Int32 × aH) := jX8_pass_24 a x l1 (0 : Int32)
noncomputable def fX8_pass (x : aH) (a : Nat) (p1 : Int32) : Option (Int32 × aH) := if p1 = (4 : Int32) then jX8_pass_23 a x p1 else if (fi x a 7) < (fi x 1 5) then jX8_pass_23 a x p1 else jX8_pass_24 a x p1 (1 : Int32)
theorem lX8_pass_27 (Z : aZ) (y : aH) {a : Nat} (hA : SD a) (l1 : Int32) (l2 : Int32) {Q : Option Value → aH → Prop} {R : aH} : ∀ (n : Nat) (x : aH) (l3 : Int32), wX8_pass_27 a l1 l2 n x l3 = some R → (∀ q, R = q → TX true Z mX8_pass 3 y q Q 143 [.ref a, .null, .int l2, .null, .null] []) → TX true Z mX8_pass 3 y x Q 27 [.ref a, .int l1, .int l2, .int l3, .null] [] := by
  intro n
  induction n with
  | zero => intro x l3 hf; cases hf
  | succ n ih =>
    intro x l3 hf ke
    replace hf : sX8_pass_27 a l1 l2 (wX8_pass_27 a l1 l2 n) x l3 = some R := hf
    delta sX8_pass_27 at hf
    refine T_iload dX8_pass_27 rfl ?_
    refine T_aload dX8_pass_28 rfl ?_
    refine X_getf dX8_pass_29 lfX8_36 rfl (SD.ob hA) ?_
    refine T_icmp_ge dX8_pass_32 (fun c32_1 => ?_) (fun c32_1 => ?_)
    · replace hf := ite_t c32_1 hf
      exact X_wk (WK.s (WK.n (WK.s (WK.n (WK.n WK.e))))) (ke x (Option.some.inj hf).symm)
    · replace hf := ite_f c32_1 hf
      refine T_aload dX8_pass_35 rfl ?_
      refine X_getr dX8_pass_36 lfX8_9 rfl (SD.ob hA) (SD.f2 hA) ?_
      refine T_iload dX8_pass_39 rfl ?_
      obtain ⟨hb40_2, hf⟩ := opt_t hf
      refine X_iald (N := 10) dX8_pass_40 (SD.ar2 hA) rfl hb40_2 ?_
      refine T_istore dX8_pass_41 ?_
      show TX _ _ _ _ _ _ _ _ [_, _, _, _, _] _
      refine T_aload dX8_pass_43 rfl ?_
      refine T_iload dX8_pass_44 rfl ?_
      obtain ⟨q45_3, hc45_3, hf⟩ := bind_t hf
      refine X_Vv (qX8_isHome Z _ hA hc45_3) (Nat.le_of_ble_eq_true rfl) dX8_pass_45 lvX8_54 rfl rfl (SD.ob hA) (Nat.le_of_ble_eq_true rfl) ?_
      have J137 : ∀ (x : aH) (l3 : Int32), jX8_pass_137 a (wX8_pass_27 a l1 l2 n) x l1 l2 l3 = some R → TX true Z mX8_pass 3 y x Q 137 [.ref a, .int l1, .int l2, .int l3, .null] [] := by
        intro x l3 hf
        delta jX8_pass_137 at hf
        refine T_iinc dX8_pass_137 rfl ?_
        show TX _ _ _ _ _ _ _ _ [_, _, _, _, _] _
        refine T_goto dX8_pass_140 ?_
        exact X_wk (WK.s (WK.s (WK.s (WK.s (WK.n WK.e))))) (ih _ _ hf ke)
      refine T_if_eq dX8_pass_48 (fun c48_4 => ?_) (fun c48_4 => ?_)
      · replace hf := ite_t c48_4 hf
        refine T_iload dX8_pass_62 rfl ?_
        have J122 : ∀ (x : aH) (l3 : Int32) (l4 : Int32), jX8_pass_122 a (wX8_pass_27 a l1 l2 n) x l1 l2 l3 l4 = some R → TX true Z mX8_pass 3 y x Q 122 [.ref a, .int l1, .int l2, .int l3, .int l4] [] := by
          intro x l3 l4 hf
          delta jX8_pass_122 at hf
          refine T_aload dX8_pass_122 rfl ?_
          refine X_getr dX8_pass_123 lfX8_18 rfl (SD.ob hA) (SD.f4 hA) ?_
          refine T_iload dX8_pass_126 rfl ?_
          refine T_aload dX8_pass_127 rfl ?_
          refine X_getr dX8_pass_128 lfX8_25 rfl (SD.ob hA) (SD.f0 hA) ?_
          refine T_iload dX8_pass_131 rfl ?_
          obtain ⟨q133_5, hc133_5, hf⟩ := bind_t hf
          refine X_Vv (qX5_carried Z _ hc133_5) (Nat.le_of_ble_eq_true rfl) dX8_pass_133 lvX8_72 rfl rfl ob1 (Nat.le_of_ble_eq_true rfl) ?_
          obtain ⟨hb136_6, hf⟩ := opt_t hf
          refine X_iast (N := 10) dX8_pass_136 (SD.ar4 hA) rfl hb136_6 ?_
          exact X_wk (WK.s (WK.s (WK.s (WK.s (WK.n WK.e))))) (J137 _ _ hf)
        refine T_if_eq dX8_pass_63 (fun c63_7 => ?_) (fun c63_7 => ?_)
        · replace hf := ite_t c63_7 hf
          exact X_wk (WK.s (WK.s (WK.s (WK.s (WK.s WK.e))))) (J122 _ _ _ hf)
        · replace hf := ite_f c63_7 hf
          refine T_aload dX8_pass_66 rfl ?_
          refine X_getr dX8_pass_67 lfX8_25 rfl (SD.ob hA) (SD.f0 hA) ?_
          refine T_iload dX8_pass_70 rfl ?_
          refine T_iload dX8_pass_71 rfl ?_
          obtain ⟨q73_8, hc73_8, hf⟩ := bind_t hf
          refine X_Vv (qX5_isLit Z _ hc73_8) (Nat.le_of_ble_eq_true rfl) dX8_pass_73 lvX8_58 rfl rfl ob1 (Nat.le_of_ble_eq_true rfl) ?_
          refine T_if_eq dX8_pass_76 (fun c76_9 => ?_) (fun c76_9 => ?_)
          · replace hf := ite_t c76_9 hf
            exact X_wk (WK.s (WK.s (WK.s (WK.s (WK.s WK.e))))) (J122 _ _ _ hf)
          · replace hf := ite_f c76_9 hf
            refine T_aload dX8_pass_79 rfl ?_
            refine T_iload dX8_pass_80 rfl ?_
            obtain ⟨q81_10, hc81_10, hf⟩ := bind_t hf
            refine X_Vv (qX8_pull Z _ hA hc81_10) (Nat.le_of_ble_eq_true rfl) dX8_pass_81 lvX8_62 rfl rfl (SD.ob hA) (Nat.le_of_ble_eq_true rfl) ?_
            refine T_aload dX8_pass_84 rfl ?_
            refine X_getr dX8_pass_85 lfX8_25 rfl (SD.ob hA) (SD.f0 hA) ?_
            refine X_getf dX8_pass_88 lfX8_66 rfl ob1 ?_
            refine T_icmp_lt dX8_pass_91 (fun c91_11 => ?_) (fun c91_11 => ?_)
            · replace hf := ite_t c91_11 hf
              exact X_wk (WK.s (WK.s (WK.s (WK.s (WK.s WK.e))))) (J122 _ _ _ hf)
            · replace hf := ite_f c91_11 hf
              refine T_aload dX8_pass_94 rfl ?_
              refine X_getr dX8_pass_95 lfX8_18 rfl (SD.ob hA) (SD.f4 hA) ?_
              refine T_iload dX8_pass_98 rfl ?_
              refine T_aload dX8_pass_99 rfl ?_
              refine X_getr dX8_pass_100 lfX8_25 rfl (SD.ob hA) (SD.f0 hA) ?_
              refine T_iload dX8_pass_103 rfl ?_
              obtain ⟨q105_12, hc105_12, hf⟩ := bind_t hf
              refine X_Vv (qX5_nearer Z _ hc105_12) (Nat.le_of_ble_eq_true rfl) dX8_pass_105 lvX8_69 rfl rfl ob1 (Nat.le_of_ble_eq_true rfl) ?_
              obtain ⟨hb108_13, hf⟩ := opt_t hf
              refine X_iast (N := 10) dX8_pass_108 (SD.ar4 hA) rfl hb108_13 ?_
              refine T_aload dX8_pass_109 rfl ?_
              refine X_getr dX8_pass_110 lfX8_15 rfl (SD.ob hA) (SD.f3 hA) ?_
              refine T_const dX8_pass_113 ?_
              refine T_dup2 dX8_pass_114 rfl rfl ?_
              refine X_iald (N := 5) dX8_pass_115 (SD.ar3 hA) rfl (by decide) ?_
              refine T_const dX8_pass_116 ?_
              refine T_iadd dX8_pass_117 ?_
              refine X_iast (N := 5) dX8_pass_118 (SD.ar3 hA) rfl (by decide) ?_
              refine T_goto dX8_pass_119 ?_
              exact X_wk (WK.s (WK.s (WK.s (WK.s (WK.n WK.e))))) (J137 _ _ hf)
      · replace hf := ite_f c48_4 hf
        refine T_aload dX8_pass_51 rfl ?_
        refine X_getr dX8_pass_52 lfX8_18 rfl (SD.ob hA) (SD.f4 hA) ?_
        refine T_iload dX8_pass_55 rfl ?_
        refine T_iload dX8_pass_56 rfl ?_
        obtain ⟨hb58_14, hf⟩ := opt_t hf
        refine X_iast (N := 10) dX8_pass_58 (SD.ar4 hA) rfl hb58_14 ?_
        refine T_goto dX8_pass_59 ?_
        exact X_wk (WK.s (WK.s (WK.s (WK.s (WK.n WK.e))))) (J137 _ _ hf)
theorem lX8_pass_194 (Z : aZ) (y : aH) {a : Nat} (hA : SD a) (l3 : Int32) {Q : Option Value → aH → Prop} {R : aH} : ∀ (n : Nat) (x : aH) (l4 : Int32), wX8_pass_194 a l3 n x l4 = some R → (∀ q, R = q → TX true Z mX8_pass 3 y q Q 247 [.ref a, .null, .null, .int l3, .null] []) → TX true Z mX8_pass 3 y x Q 194 [.ref a, .null, .null, .int l3, .int l4] [] := by
  intro n
  induction n with
  | zero => intro x l4 hf; cases hf
  | succ n ih =>
    intro x l4 hf ke
    replace hf : sX8_pass_194 a l3 (wX8_pass_194 a l3 n) x l4 = some R := hf
    delta sX8_pass_194 at hf
    refine T_iload dX8_pass_194 rfl ?_
    refine T_aload dX8_pass_196 rfl ?_
    refine X_getf dX8_pass_197 lfX8_36 rfl (SD.ob hA) ?_
    refine T_icmp_ge dX8_pass_200 (fun c200_17 => ?_) (fun c200_17 => ?_)
    · replace hf := ite_t c200_17 hf
      exact X_wk (WK.s (WK.n (WK.n (WK.s (WK.n WK.e))))) (ke x (Option.some.inj hf).symm)
    · replace hf := ite_f c200_17 hf
      refine T_aload dX8_pass_203 rfl ?_
      refine X_getr dX8_pass_204 lfX8_9 rfl (SD.ob hA) (SD.f2 hA) ?_
      refine T_iload dX8_pass_207 rfl ?_
      refine T_aload dX8_pass_209 rfl ?_
      refine X_getr dX8_pass_210 lfX8_18 rfl (SD.ob hA) (SD.f4 hA) ?_
      refine T_iload dX8_pass_213 rfl ?_
      obtain ⟨hb215_18, hf⟩ := opt_t hf
      refine X_iald (N := 10) dX8_pass_215 (SD.ar4 hA) rfl hb215_18 ?_
      obtain ⟨hb216_19, hf⟩ := opt_t hf
      refine X_iast (N := 10) dX8_pass_216 (SD.ar2 hA) rfl hb216_19 ?_
      refine T_aload dX8_pass_217 rfl ?_
      refine X_getr dX8_pass_218 lfX8_9 rfl (SD.ob hA) (SD.f2 hA) ?_
      refine T_iload dX8_pass_221 rfl ?_
      obtain ⟨hb223_20, hf⟩ := opt_t hf
      refine X_iald (N := 10) dX8_pass_223 (SD.ar2 hA) rfl hb223_20 ?_
      refine T_aload dX8_pass_224 rfl ?_
      refine X_getr dX8_pass_225 lfX8_25 rfl (SD.ob hA) (SD.f0 hA) ?_
      refine X_getf dX8_pass_228 lfX8_80 rfl ob1 ?_
      have J241 : ∀ (x : aH) (l4 : Int32), jX8_pass_241 a (wX8_pass_194 a l3 n) x l3 l4 = some R → TX true Z mX8_pass 3 y x Q 241 [.ref a, .null, .null, .int l3, .int l4] [] := by
        intro x l4 hf
        delta jX8_pass_241 at hf
        refine T_iinc dX8_pass_241 rfl ?_
        show TX _ _ _ _ _ _ _ _ [_, _, _, _, _] _
        refine T_goto dX8_pass_244 ?_
        exact X_wk (WK.s (WK.n (WK.n (WK.s (WK.s WK.e))))) (ih _ _ hf ke)
      refine T_icmp_ne dX8_pass_231 (fun c231_21 => ?_) (fun c231_21 => ?_)
      · replace hf := ite_f c231_21 hf
        exact X_wk (WK.s (WK.n (WK.n (WK.s (WK.s WK.e))))) (J241 _ _ hf)
      · replace hf := ite_t c231_21 hf
        refine T_aload dX8_pass_234 rfl ?_
        refine T_iload dX8_pass_235 rfl ?_
        refine T_const dX8_pass_237 ?_
        obtain ⟨q238_22, hc238_22, hf⟩ := bind_t hf
        refine X_Vn (qX8_setHome Z _ hA hc238_22) (Nat.le_of_ble_eq_true rfl) dX8_pass_238 lvX8_83 rfl rfl (SD.ob hA) (Nat.le_of_ble_eq_true rfl) ?_
        exact X_wk (WK.s (WK.n (WK.n (WK.s (WK.s WK.e))))) (J241 _ _ hf)
theorem qX8_pass (Z : aZ) (y : aH) {x : aH} {a : Nat} {p1 : Int32} (hA : SD a) {q : (Int32 × aH)} (hf : fX8_pass x a p1 = some q) : CX true Z mX8_pass 3 [.ref a, .int p1] y x (RV (.int q.1) q.2) := by
  refine CX.of mokX8_pass (Nat.le_of_ble_eq_true rfl) ?_
  show TX _ _ _ _ _ _ _ _ [_, _, _, _, _] _
  delta fX8_pass at hf
  refine T_iload dX8_pass_0 rfl ?_
  refine T_const dX8_pass_1 ?_
  have J24 : ∀ (x : aH) (l1 : Int32) (s0 : Int32), jX8_pass_24 a x l1 s0 = some q → TX true Z mX8_pass 3 y x (RV (.int q.1) q.2) 24 [.ref a, .int l1, .null, .null, .null] [.int s0] := by
    intro x l1 s0 hf
    delta jX8_pass_24 at hf
    refine T_istore dX8_pass_24 ?_
    show TX _ _ _ _ _ _ _ _ [_, _, _, _, _] _
    refine T_const dX8_pass_25 ?_
    refine T_istore dX8_pass_26 ?_
    show TX _ _ _ _ _ _ _ _ [_, _, _, _, _] _
    obtain ⟨q27_15, hc27_15, hf⟩ := bind_t hf
    refine X_wk (WK.s (WK.s (WK.s (WK.s (WK.n WK.e))))) (lX8_pass_27 Z _ hA _ _ 2000 _ _ hc27_15 ?_)
    intro q27_15z hr
    subst hr
    refine T_aload dX8_pass_143 rfl ?_
    refine X_getr dX8_pass_144 lfX8_15 rfl (SD.ob hA) (SD.f3 hA) ?_
    refine T_const dX8_pass_147 ?_
    refine T_dup2 dX8_pass_148 rfl rfl ?_
    refine X_iald (N := 5) dX8_pass_149 (SD.ar3 hA) rfl (by decide) ?_
    refine T_const dX8_pass_150 ?_
    refine T_iadd dX8_pass_151 ?_
    refine X_iast (N := 5) dX8_pass_152 (SD.ar3 hA) rfl (by decide) ?_
    refine T_iload dX8_pass_153 rfl ?_
    have J183 : ∀ (x : aH), jX8_pass_183 a x = some q → TX true Z mX8_pass 3 y x (RV (.int q.1) q.2) 183 [.ref a, .null, .null, .null, .null] [] := by
      intro x hf
      delta jX8_pass_183 at hf
      refine T_aload dX8_pass_183 rfl ?_
      refine X_getf dX8_pass_184 lfX8_33 rfl (SD.ob hA) ?_
      obtain ⟨q187_16, hc187_16, hf⟩ := bind_t hf
      refine X_Sv (qJ6_bitCount_0f7a4 _ Z _ _ hc187_16) (Nat.le_of_ble_eq_true rfl) dX8_pass_187 lsX8_75 rfl rfl (Nat.le_of_ble_eq_true rfl) ?_
      refine T_istore dX8_pass_190 ?_
      show TX _ _ _ _ _ _ _ _ [_, _, _, _, _] _
      refine T_const dX8_pass_191 ?_
      refine T_istore dX8_pass_192 ?_
      show TX _ _ _ _ _ _ _ _ [_, _, _, _, _] _
      obtain ⟨q194_23, hc194_23, hf⟩ := bind_t hf
      refine X_wk (WK.s (WK.n (WK.n (WK.s (WK.s WK.e))))) (lX8_pass_194 Z _ hA _ 2000 _ _ hc194_23 ?_)
      intro q194_23z hr
      subst hr
      refine T_aload dX8_pass_247 rfl ?_
      refine X_getf dX8_pass_248 lfX8_33 rfl (SD.ob hA) ?_
      obtain ⟨q251_24, hc251_24, hf⟩ := bind_t hf
      refine X_Sv (qJ6_bitCount_0f7a4 _ Z _ _ hc251_24) (Nat.le_of_ble_eq_true rfl) dX8_pass_251 lsX8_75 rfl rfl (Nat.le_of_ble_eq_true rfl) ?_
      refine T_iload dX8_pass_254 rfl ?_
      refine T_isub dX8_pass_255 ?_
      refine T_istore dX8_pass_256 ?_
      show TX _ _ _ _ _ _ _ _ [_, _, _, _, _] _
      refine T_aload dX8_pass_258 rfl ?_
      refine X_getr dX8_pass_259 lfX8_15 rfl (SD.ob hA) (SD.f3 hA) ?_
      refine T_const dX8_pass_262 ?_
      refine T_dup2 dX8_pass_263 rfl rfl ?_
      refine X_iald (N := 5) dX8_pass_264 (SD.ar3 hA) rfl (by decide) ?_
      refine T_iload dX8_pass_265 rfl ?_
      refine T_iadd dX8_pass_267 ?_
      refine X_iast (N := 5) dX8_pass_268 (SD.ar3 hA) rfl (by decide) ?_
      refine T_iload dX8_pass_269 rfl ?_
      obtain rfl := Option.some.inj hf
      exact X_ri dX8_pass_271 ⟨rfl, rfl⟩
    refine T_if_eq dX8_pass_154 (fun c154_25 => ?_) (fun c154_25 => ?_)
    · replace hf := ite_t c154_25 hf
      exact X_wk (WK.s (WK.n (WK.n (WK.n (WK.n WK.e))))) (J183 _ hf)
    · replace hf := ite_f c154_25 hf
      refine T_aload dX8_pass_157 rfl ?_
      refine T_dup dX8_pass_158 rfl ?_
      refine X_getf dX8_pass_159 lfX8_21 rfl (SD.ob hA) ?_
      refine T_aload dX8_pass_162 rfl ?_
      refine X_getr dX8_pass_163 lfX8_25 rfl (SD.ob hA) (SD.f0 hA) ?_
      refine X_getf dX8_pass_166 lfX8_49 rfl ob1 ?_
      refine T_isub dX8_pass_169 ?_
      refine X_putf dX8_pass_170 lfX8_21 rfl rfl (SD.ob hA) ⟨rfl, rfl⟩ ?_
      have J173 : ∀ (x : aH), jX8_pass_173 a x = some q → TX true Z mX8_pass 3 y x (RV (.int q.1) q.2) 173 [.ref a, .null, .null, .null, .null] [] := by
        intro x hf
        delta jX8_pass_173 at hf
        refine T_aload dX8_pass_173 rfl ?_
        refine X_getr dX8_pass_174 lfX8_15 rfl (SD.ob hA) (SD.f3 hA) ?_
        refine T_const dX8_pass_177 ?_
        refine T_dup2 dX8_pass_178 rfl rfl ?_
        refine X_iald (N := 5) dX8_pass_179 (SD.ar3 hA) rfl (by decide) ?_
        refine T_const dX8_pass_180 ?_
        refine T_iadd dX8_pass_181 ?_
        refine X_iast (N := 5) dX8_pass_182 (SD.ar3 hA) rfl (by decide) ?_
        exact X_wk (WK.s (WK.n (WK.n (WK.n (WK.n WK.e))))) (J183 _ hf)
      exact X_wk (WK.s (WK.n (WK.n (WK.n (WK.n WK.e))))) (J173 _ hf)
  have J23 : ∀ (x : aH) (l1 : Int32), jX8_pass_23 a x l1 = some q → TX true Z mX8_pass 3 y x (RV (.int q.1) q.2) 23 [.ref a, .int l1, .null, .null, .null] [] := by
    intro x l1 hf
    delta jX8_pass_23 at hf
    refine T_const dX8_pass_23 ?_
    exact X_wk (WK.s (WK.s (WK.n (WK.n (WK.n WK.e))))) (J24 _ _ _ hf)
  refine T_icmp_eq dX8_pass_2 (fun c2_26 => ?_) (fun c2_26 => ?_)
  · replace hf := ite_t c2_26 hf
    exact X_wk (WK.s (WK.s (WK.n (WK.n (WK.n WK.e))))) (J23 _ _ hf)
  · replace hf := ite_f c2_26 hf
    refine T_aload dX8_pass_5 rfl ?_
    refine X_getf dX8_pass_6 lfX8_21 rfl (SD.ob hA) ?_
    refine T_aload dX8_pass_9 rfl ?_
    refine X_getr dX8_pass_10 lfX8_25 rfl (SD.ob hA) (SD.f0 hA) ?_
    refine X_getf dX8_pass_13 lfX8_49 rfl ob1 ?_
    refine T_icmp_lt dX8_pass_16 (fun c16_27 => ?_) (fun c16_27 => ?_)
    · replace hf := ite_t c16_27 hf
      exact X_wk (WK.s (WK.s (WK.n (WK.n (WK.n WK.e))))) (J23 _ _ hf)
    · replace hf := ite_f c16_27 hf
      refine T_const dX8_pass_19 ?_
      refine T_goto dX8_pass_20 ?_
      exact X_wk (WK.s (WK.s (WK.n (WK.n (WK.n WK.e))))) (J24 _ _ _ hf)
noncomputable def jX8_awayOf_39 (a : Nat) (ih : Int32 → Int32 → Option Int32) (x : aH) (l1 : Int32) (l3 : Int32) (s0 : Int32) (s1 : Int32) : Option Int32 := ih (s0 + s1) (l3 + (1 : Int32))
noncomputable def jX8_awayOf_38 (a : Nat) (ih : Int32 → Int32 → Option Int32) (x : aH) (l1 : Int32) (l3 : Int32) (s0 : Int32) : Option Int32 := jX8_awayOf_39 a ih x l1 l3 s0 (0 : Int32)
noncomputable def sX8_awayOf_4 (a : Nat) (x : aH) (l1 : Int32) (ih : Int32 → Int32 → Option Int32) (l2 : Int32) (l3 : Int32) : Option Int32 := if (fi x a 5) ≤ l3 then some l2 else (fX8_isHome x a l3).bind fun q15_2 => if q15_2 = (0 : Int32) then if (0 : Int32) ≤ l3 ∧ l3 < (10 : Int32) then if (ri x 4 (ix l3)) = l1 then jX8_awayOf_39 a ih x l1 l3 l2 (1 : Int32) else jX8_awayOf_38 a ih x l1 l3 l2 else none else jX8_awayOf_38 a ih x l1 l3 l2
noncomputable def wX8_awayOf_4 (a : Nat) (x : aH) (l1 : Int32) : Nat → Int32 → Int32 → Option Int32
  | 0 => fun _ _ => none
  | n + 1 => sX8_awayOf_4 a x l1 (wX8_awayOf_4 a x l1 n)
noncomputable def fX8_awayOf (x : aH) (a : Nat) (p1 : Int32) : Option Int32 := (wX8_awayOf_4 a x p1 2000 (0 : Int32) (0 : Int32)).bind fun q4_6 => some q4_6
theorem lX8_awayOf_4 (Z : aZ) (y : aH) {a : Nat} (hA : SD a) (x : aH) (l1 : Int32) {Q : Option Value → aH → Prop} {R : Int32} : ∀ (n : Nat) (l2 : Int32) (l3 : Int32), wX8_awayOf_4 a x l1 n l2 l3 = some R → (∀ q, R = q → TX true Z mX8_awayOf 1 y x Q 47 [.null, .null, .int q, .null] []) → TX true Z mX8_awayOf 1 y x Q 4 [.ref a, .int l1, .int l2, .int l3] [] := by
  intro n
  induction n with
  | zero => intro l2 l3 hf; cases hf
  | succ n ih =>
    intro l2 l3 hf ke
    replace hf : sX8_awayOf_4 a x l1 (wX8_awayOf_4 a x l1 n) l2 l3 = some R := hf
    delta sX8_awayOf_4 at hf
    refine T_iload dX8_awayOf_4 rfl ?_
    refine T_aload dX8_awayOf_5 rfl ?_
    refine X_getf dX8_awayOf_6 lfX8_36 rfl (SD.ob hA) ?_
    refine T_icmp_ge dX8_awayOf_9 (fun c9_1 => ?_) (fun c9_1 => ?_)
    · replace hf := ite_t c9_1 hf
      exact X_wk (WK.n (WK.n (WK.s (WK.n WK.e)))) (ke l2 (Option.some.inj hf).symm)
    · replace hf := ite_f c9_1 hf
      refine T_iload dX8_awayOf_12 rfl ?_
      refine T_aload dX8_awayOf_13 rfl ?_
      refine T_iload dX8_awayOf_14 rfl ?_
      obtain ⟨q15_2, hc15_2, hf⟩ := bind_t hf
      refine X_Vv (qX8_isHome Z _ hA hc15_2) (Nat.le_of_ble_eq_true rfl) dX8_awayOf_15 lvX8_54 rfl rfl (SD.ob hA) (Nat.le_of_ble_eq_true rfl) ?_
      have J39 : ∀ (l3 : Int32) (s0 : Int32) (s1 : Int32), jX8_awayOf_39 a (wX8_awayOf_4 a x l1 n) x l1 l3 s0 s1 = some R → TX true Z mX8_awayOf 1 y x Q 39 [.ref a, .int l1, .null, .int l3] [.int s1, .int s0] := by
        intro l3 s0 s1 hf
        delta jX8_awayOf_39 at hf
        refine T_iadd dX8_awayOf_39 ?_
        refine T_istore dX8_awayOf_40 ?_
        show TX _ _ _ _ _ _ _ _ [_, _, _, _] _
        refine T_iinc dX8_awayOf_41 rfl ?_
        show TX _ _ _ _ _ _ _ _ [_, _, _, _] _
        refine T_goto dX8_awayOf_44 ?_
        exact X_wk (WK.s (WK.s (WK.s (WK.s WK.e)))) (ih _ _ hf ke)
      have J38 : ∀ (l3 : Int32) (s0 : Int32), jX8_awayOf_38 a (wX8_awayOf_4 a x l1 n) x l1 l3 s0 = some R → TX true Z mX8_awayOf 1 y x Q 38 [.ref a, .int l1, .null, .int l3] [.int s0] := by
        intro l3 s0 hf
        delta jX8_awayOf_38 at hf
        refine T_const dX8_awayOf_38 ?_
        exact X_wk (WK.s (WK.s (WK.n (WK.s WK.e)))) (J39 _ _ _ hf)
      refine T_if_ne dX8_awayOf_18 (fun c18_3 => ?_) (fun c18_3 => ?_)
      · replace hf := ite_f c18_3 hf
        exact X_wk (WK.s (WK.s (WK.n (WK.s WK.e)))) (J38 _ _ hf)
      · replace hf := ite_t c18_3 hf
        refine T_aload dX8_awayOf_21 rfl ?_
        refine X_getr dX8_awayOf_22 lfX8_25 rfl (SD.ob hA) (SD.f0 hA) ?_
        refine X_getr dX8_awayOf_25 lfX8_87 rfl ob1 rfl ?_
        refine T_iload dX8_awayOf_28 rfl ?_
        obtain ⟨hb29_4, hf⟩ := opt_t hf
        refine X_iald (N := 10) dX8_awayOf_29 ar4 rfl hb29_4 ?_
        refine T_iload dX8_awayOf_30 rfl ?_
        refine T_icmp_ne dX8_awayOf_31 (fun c31_5 => ?_) (fun c31_5 => ?_)
        · replace hf := ite_f c31_5 hf
          exact X_wk (WK.s (WK.s (WK.n (WK.s WK.e)))) (J38 _ _ hf)
        · replace hf := ite_t c31_5 hf
          refine T_const dX8_awayOf_34 ?_
          refine T_goto dX8_awayOf_35 ?_
          exact X_wk (WK.s (WK.s (WK.n (WK.s WK.e)))) (J39 _ _ _ hf)
theorem qX8_awayOf (Z : aZ) (y : aH) {x : aH} {a : Nat} {p1 : Int32} (hA : SD a) {q : Int32} (hf : fX8_awayOf x a p1 = some q) : CX true Z mX8_awayOf 1 [.ref a, .int p1] y x (RV (.int q) x) := by
  refine CX.of mokX8_awayOf (Nat.le_of_ble_eq_true rfl) ?_
  show TX _ _ _ _ _ _ _ _ [_, _, _, _] _
  delta fX8_awayOf at hf
  refine T_const dX8_awayOf_0 ?_
  refine T_istore dX8_awayOf_1 ?_
  show TX _ _ _ _ _ _ _ _ [_, _, _, _] _
  refine T_const dX8_awayOf_2 ?_
  refine T_istore dX8_awayOf_3 ?_
  show TX _ _ _ _ _ _ _ _ [_, _, _, _] _
  obtain ⟨q4_6, hc4_6, hf⟩ := bind_t hf
  refine X_wk (WK.s (WK.s (WK.s (WK.s WK.e)))) (lX8_awayOf_4 Z _ hA _ _ 2000 _ _ hc4_6 ?_)
  intro q4_6z hr
  subst hr
  refine T_iload dX8_awayOf_47 rfl ?_
  obtain rfl := Option.some.inj hf
  exact X_ri dX8_awayOf_48 ⟨rfl, rfl⟩
noncomputable def jX8_claim_47 (a : Nat) (ih : Int32 → Int32 → Option Int32) (x : aH) (l1 : Int32) (l3 : Int32) (s0 : Int32) (s1 : Int32) : Option Int32 := ih (s0 + s1) (l3 + (1 : Int32))
noncomputable def jX8_claim_46 (a : Nat) (ih : Int32 → Int32 → Option Int32) (x : aH) (l1 : Int32) (l3 : Int32) (s0 : Int32) : Option Int32 := jX8_claim_47 a ih x l1 l3 s0 (0 : Int32)
noncomputable def sX8_claim_4 (a : Nat) (x : aH) (l1 : Int32) (ih : Int32 → Int32 → Option Int32) (l2 : Int32) (l3 : Int32) : Option Int32 := if (fi x a 5) ≤ l3 then some l2 else (fX8_isHome x a l3).bind fun q15_2 => if q15_2 = (0 : Int32) then if (0 : Int32) ≤ l3 ∧ l3 < (10 : Int32) then if (ri x 4 (ix l3)) = l1 then if (0 : Int32) ≤ l3 ∧ l3 < (10 : Int32) then jX8_claim_47 a ih x l1 l3 l2 (ri x 5 (ix l3)) else none else jX8_claim_46 a ih x l1 l3 l2 else none else jX8_claim_46 a ih x l1 l3 l2
noncomputable def wX8_claim_4 (a : Nat) (x : aH) (l1 : Int32) : Nat → Int32 → Int32 → Option Int32
  | 0 => fun _ _ => none
  | n + 1 => sX8_claim_4 a x l1 (wX8_claim_4 a x l1 n)
noncomputable def fX8_claim (x : aH) (a : Nat) (p1 : Int32) : Option Int32 := (wX8_claim_4 a x p1 2000 (0 : Int32) (0 : Int32)).bind fun q4_7 => (fX8_awayOf x a p1).bind fun q57_8 => some (q57_8 + (q4_7 / (3 : Int32)))
theorem lX8_claim_4 (Z : aZ) (y : aH) {a : Nat} (hA : SD a) (x : aH) (l1 : Int32) {Q : Option Value → aH → Prop} {R : Int32} : ∀ (n : Nat) (l2 : Int32) (l3 : Int32), wX8_claim_4 a x l1 n l2 l3 = some R → (∀ q, R = q → TX true Z mX8_claim 2 y x Q 55 [.ref a, .int l1, .int q, .null] []) → TX true Z mX8_claim 2 y x Q 4 [.ref a, .int l1, .int l2, .int l3] [] := by
  intro n
  induction n with
  | zero => intro l2 l3 hf; cases hf
  | succ n ih =>
    intro l2 l3 hf ke
    replace hf : sX8_claim_4 a x l1 (wX8_claim_4 a x l1 n) l2 l3 = some R := hf
    delta sX8_claim_4 at hf
    refine T_iload dX8_claim_4 rfl ?_
    refine T_aload dX8_claim_5 rfl ?_
    refine X_getf dX8_claim_6 lfX8_36 rfl (SD.ob hA) ?_
    refine T_icmp_ge dX8_claim_9 (fun c9_1 => ?_) (fun c9_1 => ?_)
    · replace hf := ite_t c9_1 hf
      exact X_wk (WK.s (WK.s (WK.s (WK.n WK.e)))) (ke l2 (Option.some.inj hf).symm)
    · replace hf := ite_f c9_1 hf
      refine T_iload dX8_claim_12 rfl ?_
      refine T_aload dX8_claim_13 rfl ?_
      refine T_iload dX8_claim_14 rfl ?_
      obtain ⟨q15_2, hc15_2, hf⟩ := bind_t hf
      refine X_Vv (qX8_isHome Z _ hA hc15_2) (Nat.le_of_ble_eq_true rfl) dX8_claim_15 lvX8_54 rfl rfl (SD.ob hA) (Nat.le_of_ble_eq_true rfl) ?_
      have J47 : ∀ (l3 : Int32) (s0 : Int32) (s1 : Int32), jX8_claim_47 a (wX8_claim_4 a x l1 n) x l1 l3 s0 s1 = some R → TX true Z mX8_claim 2 y x Q 47 [.ref a, .int l1, .null, .int l3] [.int s1, .int s0] := by
        intro l3 s0 s1 hf
        delta jX8_claim_47 at hf
        refine T_iadd dX8_claim_47 ?_
        refine T_istore dX8_claim_48 ?_
        show TX _ _ _ _ _ _ _ _ [_, _, _, _] _
        refine T_iinc dX8_claim_49 rfl ?_
        show TX _ _ _ _ _ _ _ _ [_, _, _, _] _
        refine T_goto dX8_claim_52 ?_
        exact X_wk (WK.s (WK.s (WK.s (WK.s WK.e)))) (ih _ _ hf ke)
      have J46 : ∀ (l3 : Int32) (s0 : Int32), jX8_claim_46 a (wX8_claim_4 a x l1 n) x l1 l3 s0 = some R → TX true Z mX8_claim 2 y x Q 46 [.ref a, .int l1, .null, .int l3] [.int s0] := by
        intro l3 s0 hf
        delta jX8_claim_46 at hf
        refine T_const dX8_claim_46 ?_
        exact X_wk (WK.s (WK.s (WK.n (WK.s WK.e)))) (J47 _ _ _ hf)
      refine T_if_ne dX8_claim_18 (fun c18_3 => ?_) (fun c18_3 => ?_)
      · replace hf := ite_f c18_3 hf
        exact X_wk (WK.s (WK.s (WK.n (WK.s WK.e)))) (J46 _ _ hf)
      · replace hf := ite_t c18_3 hf
        refine T_aload dX8_claim_21 rfl ?_
        refine X_getr dX8_claim_22 lfX8_25 rfl (SD.ob hA) (SD.f0 hA) ?_
        refine X_getr dX8_claim_25 lfX8_87 rfl ob1 rfl ?_
        refine T_iload dX8_claim_28 rfl ?_
        obtain ⟨hb29_4, hf⟩ := opt_t hf
        refine X_iald (N := 10) dX8_claim_29 ar4 rfl hb29_4 ?_
        refine T_iload dX8_claim_30 rfl ?_
        refine T_icmp_ne dX8_claim_31 (fun c31_5 => ?_) (fun c31_5 => ?_)
        · replace hf := ite_f c31_5 hf
          exact X_wk (WK.s (WK.s (WK.n (WK.s WK.e)))) (J46 _ _ hf)
        · replace hf := ite_t c31_5 hf
          refine T_aload dX8_claim_34 rfl ?_
          refine X_getr dX8_claim_35 lfX8_25 rfl (SD.ob hA) (SD.f0 hA) ?_
          refine X_getr dX8_claim_38 lfX8_101 rfl ob1 rfl ?_
          refine T_iload dX8_claim_41 rfl ?_
          obtain ⟨hb42_6, hf⟩ := opt_t hf
          refine X_iald (N := 10) dX8_claim_42 ar5 rfl hb42_6 ?_
          refine T_goto dX8_claim_43 ?_
          exact X_wk (WK.s (WK.s (WK.n (WK.s WK.e)))) (J47 _ _ _ hf)
theorem qX8_claim (Z : aZ) (y : aH) {x : aH} {a : Nat} {p1 : Int32} (hA : SD a) {q : Int32} (hf : fX8_claim x a p1 = some q) : CX true Z mX8_claim 2 [.ref a, .int p1] y x (RV (.int q) x) := by
  refine CX.of mokX8_claim (Nat.le_of_ble_eq_true rfl) ?_
  show TX _ _ _ _ _ _ _ _ [_, _, _, _] _
  delta fX8_claim at hf
  refine T_const dX8_claim_0 ?_
  refine T_istore dX8_claim_1 ?_
  show TX _ _ _ _ _ _ _ _ [_, _, _, _] _
  refine T_const dX8_claim_2 ?_
  refine T_istore dX8_claim_3 ?_
  show TX _ _ _ _ _ _ _ _ [_, _, _, _] _
  obtain ⟨q4_7, hc4_7, hf⟩ := bind_t hf
  refine X_wk (WK.s (WK.s (WK.s (WK.s WK.e)))) (lX8_claim_4 Z _ hA _ _ 2000 _ _ hc4_7 ?_)
  intro q4_7z hr
  subst hr
  refine T_aload dX8_claim_55 rfl ?_
  refine T_iload dX8_claim_56 rfl ?_
  obtain ⟨q57_8, hc57_8, hf⟩ := bind_t hf
  refine X_Vv (qX8_awayOf Z _ hA hc57_8) (Nat.le_of_ble_eq_true rfl) dX8_claim_57 lvX8_117 rfl rfl (SD.ob hA) (Nat.le_of_ble_eq_true rfl) ?_
  refine T_iload dX8_claim_60 rfl ?_
  refine T_const dX8_claim_61 ?_
  refine T_idiv dX8_claim_62 (by decide) ?_
  refine T_iadd dX8_claim_63 ?_
  obtain rfl := Option.some.inj hf
  exact X_ri dX8_claim_64 ⟨rfl, rfl⟩
noncomputable def fX9_take (x : aH) (p1 : Int32) : Option (Int32 × aH) := if (fi x 6 1) < (120 : Int32) then if (0 : Int32) ≤ (fi x 6 1) ∧ (fi x 6 1) < (120 : Int32) then some ((1 : Int32), (sfi (sri x 7 (ix (fi x 6 1)) p1) 6 1 ((fi (sri x 7 (ix (fi x 6 1)) p1) 6 1) + (1 : Int32)))) else none else some ((0 : Int32), x)
theorem qX9_take (Z : aZ) (y : aH) {x : aH} {p1 : Int32} {q : (Int32 × aH)} (hf : fX9_take x p1 = some q) : CX true Z mX9_take 0 [.ref 6, .int p1] y x (RV (.int q.1) q.2) := by
  refine CX.of mokX9_take (Nat.le_of_ble_eq_true rfl) ?_
  show TX _ _ _ _ _ _ _ _ [_, _] _
  delta fX9_take at hf
  refine T_aload dX9_take_0 rfl ?_
  refine X_getf dX9_take_1 lfX9_19 rfl ob6 ?_
  refine T_const dX9_take_4 ?_
  refine T_icmp_lt dX9_take_6 (fun c6_1 => ?_) (fun c6_1 => ?_)
  · replace hf := ite_t c6_1 hf
    refine T_aload dX9_take_11 rfl ?_
    refine X_getr dX9_take_12 lfX9_9 rfl ob6 rfl ?_
    refine T_aload dX9_take_15 rfl ?_
    refine X_getf dX9_take_16 lfX9_19 rfl ob6 ?_
    refine T_iload dX9_take_19 rfl ?_
    obtain ⟨hb20_2, hf⟩ := opt_t hf
    refine X_iast (N := 120) dX9_take_20 ar7 rfl hb20_2 ?_
    refine T_aload dX9_take_21 rfl ?_
    refine T_dup dX9_take_22 rfl ?_
    refine X_getf dX9_take_23 lfX9_19 rfl ob6 ?_
    refine T_const dX9_take_26 ?_
    refine T_iadd dX9_take_27 ?_
    refine X_putf dX9_take_28 lfX9_19 rfl rfl ob6 ⟨rfl, rfl⟩ ?_
    refine T_const dX9_take_31 ?_
    obtain rfl := Option.some.inj hf
    exact X_rz dX9_take_32 (by first | exact Or.inl rfl | exact Or.inr rfl) ⟨rfl, rfl⟩
  · replace hf := ite_f c6_1 hf
    refine T_const dX9_take_9 ?_
    obtain rfl := Option.some.inj hf
    exact X_rz dX9_take_10 (by first | exact Or.inl rfl | exact Or.inr rfl) ⟨rfl, rfl⟩
noncomputable def fX9_write (x : aH) (p1 : Int32) (p2 : Int32) : Option aH := if (128 : Int32) ≤ (fi x 6 5) then some x else if (0 : Int32) ≤ (fi x 6 5) ∧ (fi x 6 5) < (128 : Int32) then if (0 : Int32) ≤ (fi (sri x 8 (ix (fi x 6 5)) p1) 6 5) ∧ (fi (sri x 8 (ix (fi x 6 5)) p1) 6 5) < (128 : Int32) then some (sfi (sri (sri x 8 (ix (fi x 6 5)) p1) 9 (ix (fi (sri x 8 (ix (fi x 6 5)) p1) 6 5)) p2) 6 5 ((fi (sri (sri x 8 (ix (fi x 6 5)) p1) 9 (ix (fi (sri x 8 (ix (fi x 6 5)) p1) 6 5)) p2) 6 5) + (1 : Int32))) else none else none
theorem qX9_write (Z : aZ) (y : aH) {x : aH} {p1 : Int32} {p2 : Int32} {q : aH} (hf : fX9_write x p1 p2 = some q) : CX true Z mX9_write 0 [.ref 6, .int p1, .int p2] y x (RN q) := by
  refine CX.of mokX9_write (Nat.le_of_ble_eq_true rfl) ?_
  show TX _ _ _ _ _ _ _ _ [_, _, _] _
  delta fX9_write at hf
  refine T_aload dX9_write_0 rfl ?_
  refine X_getf dX9_write_1 lfX9_26 rfl ob6 ?_
  refine T_const dX9_write_4 ?_
  refine T_icmp_ge dX9_write_7 (fun c7_1 => ?_) (fun c7_1 => ?_)
  · replace hf := ite_t c7_1 hf
    obtain rfl := Option.some.inj hf
    exact X_rv dX9_write_40 ⟨rfl, rfl⟩
  · replace hf := ite_f c7_1 hf
    refine T_aload dX9_write_10 rfl ?_
    refine X_getr dX9_write_11 lfX9_13 rfl ob6 rfl ?_
    refine T_aload dX9_write_14 rfl ?_
    refine X_getf dX9_write_15 lfX9_26 rfl ob6 ?_
    refine T_iload dX9_write_18 rfl ?_
    obtain ⟨hb19_2, hf⟩ := opt_t hf
    refine X_iast (N := 128) dX9_write_19 ar8 rfl hb19_2 ?_
    refine T_aload dX9_write_20 rfl ?_
    refine X_getr dX9_write_21 lfX9_16 rfl ob6 rfl ?_
    refine T_aload dX9_write_24 rfl ?_
    refine X_getf dX9_write_25 lfX9_26 rfl ob6 ?_
    refine T_iload dX9_write_28 rfl ?_
    obtain ⟨hb29_3, hf⟩ := opt_t hf
    refine X_iast (N := 128) dX9_write_29 ar9 rfl hb29_3 ?_
    refine T_aload dX9_write_30 rfl ?_
    refine T_dup dX9_write_31 rfl ?_
    refine X_getf dX9_write_32 lfX9_26 rfl ob6 ?_
    refine T_const dX9_write_35 ?_
    refine T_iadd dX9_write_36 ?_
    refine X_putf dX9_write_37 lfX9_26 rfl rfl ob6 ⟨rfl, rfl⟩ ?_
    obtain rfl := Option.some.inj hf
    exact X_rv dX9_write_40 ⟨rfl, rfl⟩
noncomputable def sX9_readNumber_16 (l2 : Int32) (ih : aH → Int32 → Option (Int32 × aH)) (x : aH) (l1 : Int32) : Option (Int32 × aH) := if l2 ≤ (fi x 6 2) then some (l1, x) else if (0 : Int32) ≤ (fi x 6 2) ∧ (fi x 6 2) < (120 : Int32) then if (ri x 7 (ix (fi x 6 2))) < (48 : Int32) then some (l1, x) else if (0 : Int32) ≤ (fi x 6 2) ∧ (fi x 6 2) < (120 : Int32) then if (57 : Int32) < (ri x 7 (ix (fi x 6 2))) then some (l1, x) else if (0 : Int32) ≤ (fi x 6 2) ∧ (fi x 6 2) < (120 : Int32) then ih (sfi x 6 2 ((fi x 6 2) + (1 : Int32))) (((l1 * (10 : Int32)) + (ri x 7 (ix (fi x 6 2)))) - (48 : Int32)) else none else none else none
noncomputable def wX9_readNumber_16 (l2 : Int32) : Nat → aH → Int32 → Option (Int32 × aH)
  | 0 => fun _ _ => none
  | n + 1 => sX9_readNumber_16 l2 (wX9_readNumber_16 l2 n)
noncomputable def fX9_readNumber (x : aH) : Option aH := (wX9_readNumber_16 (if ((fi x 6 2) + (4 : Int32)) < (fi x 6 1) then ((fi x 6 2) + (4 : Int32)) else (fi x 6 1)) 2000 x (0 : Int32)).bind fun q16_7 => (fX9_write q16_7.2 (1 : Int32) q16_7.1).bind fun q86_8 => some q86_8
theorem lX9_readNumber_16 (Z : aZ) (y : aH) (l2 : Int32) {Q : Option Value → aH → Prop} {R : (Int32 × aH)} : ∀ (n : Nat) (x : aH) (l1 : Int32), wX9_readNumber_16 l2 n x l1 = some R → (∀ q, R = q → TX true Z mX9_readNumber 1 y q.2 Q 83 [.ref 6, .int (q.1), .null] []) → TX true Z mX9_readNumber 1 y x Q 16 [.ref 6, .int l1, .int l2] [] := by
  intro n
  induction n with
  | zero => intro x l1 hf; cases hf
  | succ n ih =>
    intro x l1 hf ke
    replace hf : sX9_readNumber_16 l2 (wX9_readNumber_16 l2 n) x l1 = some R := hf
    delta sX9_readNumber_16 at hf
    refine T_aload dX9_readNumber_16 rfl ?_
    refine X_getf dX9_readNumber_17 lfX9_23 rfl ob6 ?_
    refine T_iload dX9_readNumber_20 rfl ?_
    refine T_icmp_ge dX9_readNumber_21 (fun c21_1 => ?_) (fun c21_1 => ?_)
    · replace hf := ite_t c21_1 hf
      exact X_wk (WK.s (WK.s (WK.n WK.e))) (ke (l1, x) (Option.some.inj hf).symm)
    · replace hf := ite_f c21_1 hf
      refine T_aload dX9_readNumber_24 rfl ?_
      refine X_getr dX9_readNumber_25 lfX9_9 rfl ob6 rfl ?_
      refine T_aload dX9_readNumber_28 rfl ?_
      refine X_getf dX9_readNumber_29 lfX9_23 rfl ob6 ?_
      obtain ⟨hb32_2, hf⟩ := opt_t hf
      refine X_iald (N := 120) dX9_readNumber_32 ar7 rfl hb32_2 ?_
      refine T_const dX9_readNumber_33 ?_
      refine T_icmp_lt dX9_readNumber_35 (fun c35_3 => ?_) (fun c35_3 => ?_)
      · replace hf := ite_t c35_3 hf
        exact X_wk (WK.s (WK.s (WK.n WK.e))) (ke (l1, x) (Option.some.inj hf).symm)
      · replace hf := ite_f c35_3 hf
        refine T_aload dX9_readNumber_38 rfl ?_
        refine X_getr dX9_readNumber_39 lfX9_9 rfl ob6 rfl ?_
        refine T_aload dX9_readNumber_42 rfl ?_
        refine X_getf dX9_readNumber_43 lfX9_23 rfl ob6 ?_
        obtain ⟨hb46_4, hf⟩ := opt_t hf
        refine X_iald (N := 120) dX9_readNumber_46 ar7 rfl hb46_4 ?_
        refine T_const dX9_readNumber_47 ?_
        refine T_icmp_gt dX9_readNumber_49 (fun c49_5 => ?_) (fun c49_5 => ?_)
        · replace hf := ite_t c49_5 hf
          exact X_wk (WK.s (WK.s (WK.n WK.e))) (ke (l1, x) (Option.some.inj hf).symm)
        · replace hf := ite_f c49_5 hf
          refine T_iload dX9_readNumber_52 rfl ?_
          refine T_const dX9_readNumber_53 ?_
          refine T_imul dX9_readNumber_55 ?_
          refine T_aload dX9_readNumber_56 rfl ?_
          refine X_getr dX9_readNumber_57 lfX9_9 rfl ob6 rfl ?_
          refine T_aload dX9_readNumber_60 rfl ?_
          refine X_getf dX9_readNumber_61 lfX9_23 rfl ob6 ?_
          obtain ⟨hb64_6, hf⟩ := opt_t hf
          refine X_iald (N := 120) dX9_readNumber_64 ar7 rfl hb64_6 ?_
          refine T_iadd dX9_readNumber_65 ?_
          refine T_const dX9_readNumber_66 ?_
          refine T_isub dX9_readNumber_68 ?_
          refine T_istore dX9_readNumber_69 ?_
          show TX _ _ _ _ _ _ _ _ [_, _, _] _
          refine T_aload dX9_readNumber_70 rfl ?_
          refine T_dup dX9_readNumber_71 rfl ?_
          refine X_getf dX9_readNumber_72 lfX9_23 rfl ob6 ?_
          refine T_const dX9_readNumber_75 ?_
          refine T_iadd dX9_readNumber_76 ?_
          refine X_putf dX9_readNumber_77 lfX9_23 rfl rfl ob6 ⟨rfl, rfl⟩ ?_
          refine T_goto dX9_readNumber_80 ?_
          exact X_wk (WK.s (WK.s (WK.s WK.e))) (ih _ _ hf ke)
theorem qX9_readNumber (Z : aZ) (y : aH) {x : aH} {q : aH} (hf : fX9_readNumber x = some q) : CX true Z mX9_readNumber 1 [.ref 6] y x (RN q) := by
  refine CX.of mokX9_readNumber (Nat.le_of_ble_eq_true rfl) ?_
  show TX _ _ _ _ _ _ _ _ [_, _, _] _
  delta fX9_readNumber at hf
  refine T_const dX9_readNumber_0 ?_
  refine T_istore dX9_readNumber_1 ?_
  show TX _ _ _ _ _ _ _ _ [_, _, _] _
  refine T_aload dX9_readNumber_2 rfl ?_
  refine X_getf dX9_readNumber_3 lfX9_19 rfl ob6 ?_
  refine T_aload dX9_readNumber_6 rfl ?_
  refine X_getf dX9_readNumber_7 lfX9_23 rfl ob6 ?_
  refine T_const dX9_readNumber_10 ?_
  refine T_iadd dX9_readNumber_11 ?_
  refine T_min dX9_readNumber_12 lmX9_64 (Nat.le_of_ble_eq_true rfl) ?_
  refine T_istore dX9_readNumber_15 ?_
  show TX _ _ _ _ _ _ _ _ [_, _, _] _
  obtain ⟨q16_7, hc16_7, hf⟩ := bind_t hf
  refine X_wk (WK.s (WK.s (WK.s WK.e))) (lX9_readNumber_16 Z _ _ 2000 _ _ hc16_7 ?_)
  intro q16_7z hr
  subst hr
  refine T_aload dX9_readNumber_83 rfl ?_
  refine T_const dX9_readNumber_84 ?_
  refine T_iload dX9_readNumber_85 rfl ?_
  obtain ⟨q86_8, hc86_8, hf⟩ := bind_t hf
  refine X_Vn (qX9_write Z _ hc86_8) (Nat.le_of_ble_eq_true rfl) dX9_readNumber_86 lvX9_41 rfl rfl ob6 (Nat.le_of_ble_eq_true rfl) ?_
  obtain rfl := Option.some.inj hf
  exact X_rv dX9_readNumber_89 ⟨rfl, rfl⟩
noncomputable def fX9_nameOf (x : aH) (p1 : Int32) : Option Int32 := if p1 = (97 : Int32) then some (4 : Int32) else if p1 = (98 : Int32) then some (-1 : Int32) else if p1 = (99 : Int32) then some (-1 : Int32) else if p1 = (100 : Int32) then some (0 : Int32) else if p1 = (101 : Int32) then some (-1 : Int32) else if p1 = (102 : Int32) then some (-1 : Int32) else if p1 = (103 : Int32) then some (-1 : Int32) else if p1 = (104 : Int32) then some (-1 : Int32) else if p1 = (105 : Int32) then some (-1 : Int32) else if p1 = (106 : Int32) then some (-1 : Int32) else if p1 = (107 : Int32) then some (-1 : Int32) else if p1 = (108 : Int32) then some (5 : Int32) else if p1 = (109 : Int32) then some (-1 : Int32) else if p1 = (110 : Int32) then some (3 : Int32) else if p1 = (111 : Int32) then some (2 : Int32) else if p1 = (112 : Int32) then some (1 : Int32) else some (-1 : Int32)
theorem qX9_nameOf (Z : aZ) (y : aH) {x : aH} {p1 : Int32} {q : Int32} (hf : fX9_nameOf x p1 = some q) : CX true Z mX9_nameOf 0 [.ref 6, .int p1] y x (RV (.int q) x) := by
  refine CX.of mokX9_nameOf (Nat.le_of_ble_eq_true rfl) ?_
  show TX _ _ _ _ _ _ _ _ [_, _] _
  delta fX9_nameOf at hf
  refine T_iload dX9_nameOf_0 rfl ?_
  by_cases c1_1 : p1 = (97 : Int32)
  · replace hf := ite_t c1_1 hf
    refine T_tabE (off := 87) (tgt := 88) c1_1 dX9_nameOf_1 (by decide) (by decide) (by decide) (by decide) ?_
    refine T_const dX9_nameOf_88 ?_
    obtain rfl := Option.some.inj hf
    exact X_ri dX9_nameOf_89 ⟨rfl, rfl⟩
  replace hf := ite_f c1_1 hf
  by_cases c1_2 : p1 = (98 : Int32)
  · replace hf := ite_t c1_2 hf
    refine T_tabE (off := 91) (tgt := 92) c1_2 dX9_nameOf_1 (by decide) (by decide) (by decide) (by decide) ?_
    refine T_const dX9_nameOf_92 ?_
    obtain rfl := Option.some.inj hf
    exact X_ri dX9_nameOf_93 ⟨rfl, rfl⟩
  replace hf := ite_f c1_2 hf
  by_cases c1_3 : p1 = (99 : Int32)
  · replace hf := ite_t c1_3 hf
    refine T_tabE (off := 91) (tgt := 92) c1_3 dX9_nameOf_1 (by decide) (by decide) (by decide) (by decide) ?_
    refine T_const dX9_nameOf_92 ?_
    obtain rfl := Option.some.inj hf
    exact X_ri dX9_nameOf_93 ⟨rfl, rfl⟩
  replace hf := ite_f c1_3 hf
  by_cases c1_4 : p1 = (100 : Int32)
  · replace hf := ite_t c1_4 hf
    refine T_tabE (off := 79) (tgt := 80) c1_4 dX9_nameOf_1 (by decide) (by decide) (by decide) (by decide) ?_
    refine T_const dX9_nameOf_80 ?_
    obtain rfl := Option.some.inj hf
    exact X_ri dX9_nameOf_81 ⟨rfl, rfl⟩
  replace hf := ite_f c1_4 hf
  by_cases c1_5 : p1 = (101 : Int32)
  · replace hf := ite_t c1_5 hf
    refine T_tabE (off := 91) (tgt := 92) c1_5 dX9_nameOf_1 (by decide) (by decide) (by decide) (by decide) ?_
    refine T_const dX9_nameOf_92 ?_
    obtain rfl := Option.some.inj hf
    exact X_ri dX9_nameOf_93 ⟨rfl, rfl⟩
  replace hf := ite_f c1_5 hf
  by_cases c1_6 : p1 = (102 : Int32)
  · replace hf := ite_t c1_6 hf
    refine T_tabE (off := 91) (tgt := 92) c1_6 dX9_nameOf_1 (by decide) (by decide) (by decide) (by decide) ?_
    refine T_const dX9_nameOf_92 ?_
    obtain rfl := Option.some.inj hf
    exact X_ri dX9_nameOf_93 ⟨rfl, rfl⟩
  replace hf := ite_f c1_6 hf
  by_cases c1_7 : p1 = (103 : Int32)
  · replace hf := ite_t c1_7 hf
    refine T_tabE (off := 91) (tgt := 92) c1_7 dX9_nameOf_1 (by decide) (by decide) (by decide) (by decide) ?_
    refine T_const dX9_nameOf_92 ?_
    obtain rfl := Option.some.inj hf
    exact X_ri dX9_nameOf_93 ⟨rfl, rfl⟩
  replace hf := ite_f c1_7 hf
  by_cases c1_8 : p1 = (104 : Int32)
  · replace hf := ite_t c1_8 hf
    refine T_tabE (off := 91) (tgt := 92) c1_8 dX9_nameOf_1 (by decide) (by decide) (by decide) (by decide) ?_
    refine T_const dX9_nameOf_92 ?_
    obtain rfl := Option.some.inj hf
    exact X_ri dX9_nameOf_93 ⟨rfl, rfl⟩
  replace hf := ite_f c1_8 hf
  by_cases c1_9 : p1 = (105 : Int32)
  · replace hf := ite_t c1_9 hf
    refine T_tabE (off := 91) (tgt := 92) c1_9 dX9_nameOf_1 (by decide) (by decide) (by decide) (by decide) ?_
    refine T_const dX9_nameOf_92 ?_
    obtain rfl := Option.some.inj hf
    exact X_ri dX9_nameOf_93 ⟨rfl, rfl⟩
  replace hf := ite_f c1_9 hf
  by_cases c1_10 : p1 = (106 : Int32)
  · replace hf := ite_t c1_10 hf
    refine T_tabE (off := 91) (tgt := 92) c1_10 dX9_nameOf_1 (by decide) (by decide) (by decide) (by decide) ?_
    refine T_const dX9_nameOf_92 ?_
    obtain rfl := Option.some.inj hf
    exact X_ri dX9_nameOf_93 ⟨rfl, rfl⟩
  replace hf := ite_f c1_10 hf
  by_cases c1_11 : p1 = (107 : Int32)
  · replace hf := ite_t c1_11 hf
    refine T_tabE (off := 91) (tgt := 92) c1_11 dX9_nameOf_1 (by decide) (by decide) (by decide) (by decide) ?_
    refine T_const dX9_nameOf_92 ?_
    obtain rfl := Option.some.inj hf
    exact X_ri dX9_nameOf_93 ⟨rfl, rfl⟩
  replace hf := ite_f c1_11 hf
  by_cases c1_12 : p1 = (108 : Int32)
  · replace hf := ite_t c1_12 hf
    refine T_tabE (off := 89) (tgt := 90) c1_12 dX9_nameOf_1 (by decide) (by decide) (by decide) (by decide) ?_
    refine T_const dX9_nameOf_90 ?_
    obtain rfl := Option.some.inj hf
    exact X_ri dX9_nameOf_91 ⟨rfl, rfl⟩
  replace hf := ite_f c1_12 hf
  by_cases c1_13 : p1 = (109 : Int32)
  · replace hf := ite_t c1_13 hf
    refine T_tabE (off := 91) (tgt := 92) c1_13 dX9_nameOf_1 (by decide) (by decide) (by decide) (by decide) ?_
    refine T_const dX9_nameOf_92 ?_
    obtain rfl := Option.some.inj hf
    exact X_ri dX9_nameOf_93 ⟨rfl, rfl⟩
  replace hf := ite_f c1_13 hf
  by_cases c1_14 : p1 = (110 : Int32)
  · replace hf := ite_t c1_14 hf
    refine T_tabE (off := 85) (tgt := 86) c1_14 dX9_nameOf_1 (by decide) (by decide) (by decide) (by decide) ?_
    refine T_const dX9_nameOf_86 ?_
    obtain rfl := Option.some.inj hf
    exact X_ri dX9_nameOf_87 ⟨rfl, rfl⟩
  replace hf := ite_f c1_14 hf
  by_cases c1_15 : p1 = (111 : Int32)
  · replace hf := ite_t c1_15 hf
    refine T_tabE (off := 83) (tgt := 84) c1_15 dX9_nameOf_1 (by decide) (by decide) (by decide) (by decide) ?_
    refine T_const dX9_nameOf_84 ?_
    obtain rfl := Option.some.inj hf
    exact X_ri dX9_nameOf_85 ⟨rfl, rfl⟩
  replace hf := ite_f c1_15 hf
  by_cases c1_16 : p1 = (112 : Int32)
  · replace hf := ite_t c1_16 hf
    refine T_tabE (off := 81) (tgt := 82) c1_16 dX9_nameOf_1 (by decide) (by decide) (by decide) (by decide) ?_
    refine T_const dX9_nameOf_82 ?_
    obtain rfl := Option.some.inj hf
    exact X_ri dX9_nameOf_83 ⟨rfl, rfl⟩
  replace hf := ite_f c1_16 hf
  refine T_tabOut (tgt := 92) ⟨dX9_nameOf_1, by decide⟩ (by
    have n97 := ne_toInt c1_1; rw [show (97 : Int32).toInt = 97 from rfl] at n97
    have n98 := ne_toInt c1_2; rw [show (98 : Int32).toInt = 98 from rfl] at n98
    have n99 := ne_toInt c1_3; rw [show (99 : Int32).toInt = 99 from rfl] at n99
    have n100 := ne_toInt c1_4; rw [show (100 : Int32).toInt = 100 from rfl] at n100
    have n101 := ne_toInt c1_5; rw [show (101 : Int32).toInt = 101 from rfl] at n101
    have n102 := ne_toInt c1_6; rw [show (102 : Int32).toInt = 102 from rfl] at n102
    have n103 := ne_toInt c1_7; rw [show (103 : Int32).toInt = 103 from rfl] at n103
    have n104 := ne_toInt c1_8; rw [show (104 : Int32).toInt = 104 from rfl] at n104
    have n105 := ne_toInt c1_9; rw [show (105 : Int32).toInt = 105 from rfl] at n105
    have n106 := ne_toInt c1_10; rw [show (106 : Int32).toInt = 106 from rfl] at n106
    have n107 := ne_toInt c1_11; rw [show (107 : Int32).toInt = 107 from rfl] at n107
    have n108 := ne_toInt c1_12; rw [show (108 : Int32).toInt = 108 from rfl] at n108
    have n109 := ne_toInt c1_13; rw [show (109 : Int32).toInt = 109 from rfl] at n109
    have n110 := ne_toInt c1_14; rw [show (110 : Int32).toInt = 110 from rfl] at n110
    have n111 := ne_toInt c1_15; rw [show (111 : Int32).toInt = 111 from rfl] at n111
    have n112 := ne_toInt c1_16; rw [show (112 : Int32).toInt = 112 from rfl] at n112
    omega) ?_
  refine T_const dX9_nameOf_92 ?_
  obtain rfl := Option.some.inj hf
  exact X_ri dX9_nameOf_93 ⟨rfl, rfl⟩
noncomputable def fX9_isNext (x : aH) (p1 : Int32) : Option Int32 := if (fi x 6 1) ≤ (fi x 6 2) then some (0 : Int32) else if (0 : Int32) ≤ (fi x 6 2) ∧ (fi x 6 2) < (120 : Int32) then if (ri x 7 (ix (fi x 6 2))) = p1 then some (1 : Int32) else some (0 : Int32) else none
theorem qX9_isNext (Z : aZ) (y : aH) {x : aH} {p1 : Int32} {q : Int32} (hf : fX9_isNext x p1 = some q) : CX true Z mX9_isNext 0 [.ref 6, .int p1] y x (RV (.int q) x) := by
  refine CX.of mokX9_isNext (Nat.le_of_ble_eq_true rfl) ?_
  show TX _ _ _ _ _ _ _ _ [_, _] _
  delta fX9_isNext at hf
  refine T_aload dX9_isNext_0 rfl ?_
  refine X_getf dX9_isNext_1 lfX9_23 rfl ob6 ?_
  refine T_aload dX9_isNext_4 rfl ?_
  refine X_getf dX9_isNext_5 lfX9_19 rfl ob6 ?_
  refine T_icmp_ge dX9_isNext_8 (fun c8_1 => ?_) (fun c8_1 => ?_)
  · replace hf := ite_t c8_1 hf
    refine T_const dX9_isNext_28 ?_
    obtain rfl := Option.some.inj hf
    exact X_rz dX9_isNext_29 (by first | exact Or.inl rfl | exact Or.inr rfl) ⟨rfl, rfl⟩
  · replace hf := ite_f c8_1 hf
    refine T_aload dX9_isNext_11 rfl ?_
    refine X_getr dX9_isNext_12 lfX9_9 rfl ob6 rfl ?_
    refine T_aload dX9_isNext_15 rfl ?_
    refine X_getf dX9_isNext_16 lfX9_23 rfl ob6 ?_
    obtain ⟨hb19_2, hf⟩ := opt_t hf
    refine X_iald (N := 120) dX9_isNext_19 ar7 rfl hb19_2 ?_
    refine T_iload dX9_isNext_20 rfl ?_
    refine T_icmp_ne dX9_isNext_21 (fun c21_3 => ?_) (fun c21_3 => ?_)
    · replace hf := ite_f c21_3 hf
      refine T_const dX9_isNext_28 ?_
      obtain rfl := Option.some.inj hf
      exact X_rz dX9_isNext_29 (by first | exact Or.inl rfl | exact Or.inr rfl) ⟨rfl, rfl⟩
    · replace hf := ite_t c21_3 hf
      refine T_const dX9_isNext_24 ?_
      refine T_goto dX9_isNext_25 ?_
      obtain rfl := Option.some.inj hf
      exact X_rz dX9_isNext_29 (by first | exact Or.inl rfl | exact Or.inr rfl) ⟨rfl, rfl⟩
noncomputable def fX9_readClosing (x : aH) : Option (Int32 × aH) := (fX9_isNext x (41 : Int32)).bind fun q3_1 => if q3_1 = (0 : Int32) then some ((0 : Int32), x) else some ((1 : Int32), (sfi x 6 2 ((fi x 6 2) + (1 : Int32))))
theorem qX9_readClosing (Z : aZ) (y : aH) {x : aH} {q : (Int32 × aH)} (hf : fX9_readClosing x = some q) : CX true Z mX9_readClosing 1 [.ref 6] y x (RV (.int q.1) q.2) := by
  refine CX.of mokX9_readClosing (Nat.le_of_ble_eq_true rfl) ?_
  show TX _ _ _ _ _ _ _ _ [_] _
  delta fX9_readClosing at hf
  refine T_aload dX9_readClosing_0 rfl ?_
  refine T_const dX9_readClosing_1 ?_
  obtain ⟨q3_1, hc3_1, hf⟩ := bind_t hf
  refine X_Vv (qX9_isNext Z _ hc3_1) (Nat.le_of_ble_eq_true rfl) dX9_readClosing_3 lvX9_37 rfl rfl ob6 (Nat.le_of_ble_eq_true rfl) ?_
  refine T_if_ne dX9_readClosing_6 (fun c6_2 => ?_) (fun c6_2 => ?_)
  · replace hf := ite_f c6_2 hf
    refine T_aload dX9_readClosing_11 rfl ?_
    refine T_dup dX9_readClosing_12 rfl ?_
    refine X_getf dX9_readClosing_13 lfX9_23 rfl ob6 ?_
    refine T_const dX9_readClosing_16 ?_
    refine T_iadd dX9_readClosing_17 ?_
    refine X_putf dX9_readClosing_18 lfX9_23 rfl rfl ob6 ⟨rfl, rfl⟩ ?_
    refine T_const dX9_readClosing_21 ?_
    obtain rfl := Option.some.inj hf
    exact X_rz dX9_readClosing_22 (by first | exact Or.inl rfl | exact Or.inr rfl) ⟨rfl, rfl⟩
  · replace hf := ite_t c6_2 hf
    refine T_const dX9_readClosing_9 ?_
    obtain rfl := Option.some.inj hf
    exact X_rz dX9_readClosing_10 (by first | exact Or.inl rfl | exact Or.inr rfl) ⟨rfl, rfl⟩
noncomputable def fX9_tierOf (x : aH) (p1 : Int32) : Option Int32 := if p1 = (37 : Int32) then some (4 : Int32) else if p1 = (38 : Int32) then some (1 : Int32) else if p1 = (42 : Int32) then some (4 : Int32) else if p1 = (43 : Int32) then some (3 : Int32) else if p1 = (45 : Int32) then some (3 : Int32) else if p1 = (47 : Int32) then some (4 : Int32) else if p1 = (60 : Int32) then some (2 : Int32) else if p1 = (61 : Int32) then some (2 : Int32) else if p1 = (62 : Int32) then some (2 : Int32) else if p1 = (124 : Int32) then some (0 : Int32) else some (-1 : Int32)
theorem qX9_tierOf (Z : aZ) (y : aH) {x : aH} {p1 : Int32} {q : Int32} (hf : fX9_tierOf x p1 = some q) : CX true Z mX9_tierOf 0 [.ref 6, .int p1] y x (RV (.int q) x) := by
  refine CX.of mokX9_tierOf (Nat.le_of_ble_eq_true rfl) ?_
  show TX _ _ _ _ _ _ _ _ [_, _] _
  delta fX9_tierOf at hf
  refine T_iload dX9_tierOf_0 rfl ?_
  by_cases c1_1 : p1 = (37 : Int32)
  · replace hf := ite_t c1_1 hf
    refine T_lookE (off := 99) (tgt := 100) c1_1 dX9_tierOf_1 (by decide) (by decide) (by decide) ?_
    refine T_const dX9_tierOf_100 ?_
    obtain rfl := Option.some.inj hf
    exact X_ri dX9_tierOf_101 ⟨rfl, rfl⟩
  replace hf := ite_f c1_1 hf
  by_cases c1_2 : p1 = (38 : Int32)
  · replace hf := ite_t c1_2 hf
    refine T_lookE (off := 93) (tgt := 94) c1_2 dX9_tierOf_1 (by decide) (by decide) (by decide) ?_
    refine T_const dX9_tierOf_94 ?_
    obtain rfl := Option.some.inj hf
    exact X_ri dX9_tierOf_95 ⟨rfl, rfl⟩
  replace hf := ite_f c1_2 hf
  by_cases c1_3 : p1 = (42 : Int32)
  · replace hf := ite_t c1_3 hf
    refine T_lookE (off := 99) (tgt := 100) c1_3 dX9_tierOf_1 (by decide) (by decide) (by decide) ?_
    refine T_const dX9_tierOf_100 ?_
    obtain rfl := Option.some.inj hf
    exact X_ri dX9_tierOf_101 ⟨rfl, rfl⟩
  replace hf := ite_f c1_3 hf
  by_cases c1_4 : p1 = (43 : Int32)
  · replace hf := ite_t c1_4 hf
    refine T_lookE (off := 97) (tgt := 98) c1_4 dX9_tierOf_1 (by decide) (by decide) (by decide) ?_
    refine T_const dX9_tierOf_98 ?_
    obtain rfl := Option.some.inj hf
    exact X_ri dX9_tierOf_99 ⟨rfl, rfl⟩
  replace hf := ite_f c1_4 hf
  by_cases c1_5 : p1 = (45 : Int32)
  · replace hf := ite_t c1_5 hf
    refine T_lookE (off := 97) (tgt := 98) c1_5 dX9_tierOf_1 (by decide) (by decide) (by decide) ?_
    refine T_const dX9_tierOf_98 ?_
    obtain rfl := Option.some.inj hf
    exact X_ri dX9_tierOf_99 ⟨rfl, rfl⟩
  replace hf := ite_f c1_5 hf
  by_cases c1_6 : p1 = (47 : Int32)
  · replace hf := ite_t c1_6 hf
    refine T_lookE (off := 99) (tgt := 100) c1_6 dX9_tierOf_1 (by decide) (by decide) (by decide) ?_
    refine T_const dX9_tierOf_100 ?_
    obtain rfl := Option.some.inj hf
    exact X_ri dX9_tierOf_101 ⟨rfl, rfl⟩
  replace hf := ite_f c1_6 hf
  by_cases c1_7 : p1 = (60 : Int32)
  · replace hf := ite_t c1_7 hf
    refine T_lookE (off := 95) (tgt := 96) c1_7 dX9_tierOf_1 (by decide) (by decide) (by decide) ?_
    refine T_const dX9_tierOf_96 ?_
    obtain rfl := Option.some.inj hf
    exact X_ri dX9_tierOf_97 ⟨rfl, rfl⟩
  replace hf := ite_f c1_7 hf
  by_cases c1_8 : p1 = (61 : Int32)
  · replace hf := ite_t c1_8 hf
    refine T_lookE (off := 95) (tgt := 96) c1_8 dX9_tierOf_1 (by decide) (by decide) (by decide) ?_
    refine T_const dX9_tierOf_96 ?_
    obtain rfl := Option.some.inj hf
    exact X_ri dX9_tierOf_97 ⟨rfl, rfl⟩
  replace hf := ite_f c1_8 hf
  by_cases c1_9 : p1 = (62 : Int32)
  · replace hf := ite_t c1_9 hf
    refine T_lookE (off := 95) (tgt := 96) c1_9 dX9_tierOf_1 (by decide) (by decide) (by decide) ?_
    refine T_const dX9_tierOf_96 ?_
    obtain rfl := Option.some.inj hf
    exact X_ri dX9_tierOf_97 ⟨rfl, rfl⟩
  replace hf := ite_f c1_9 hf
  by_cases c1_10 : p1 = (124 : Int32)
  · replace hf := ite_t c1_10 hf
    refine T_lookE (off := 91) (tgt := 92) c1_10 dX9_tierOf_1 (by decide) (by decide) (by decide) ?_
    refine T_const dX9_tierOf_92 ?_
    obtain rfl := Option.some.inj hf
    exact X_ri dX9_tierOf_93 ⟨rfl, rfl⟩
  replace hf := ite_f c1_10 hf
  refine T_lookup (off := 101) (tgt := 102) dX9_tierOf_1 (by decide) (by
    rw [show (#[(37, 99), (38, 93), (42, 99), (43, 97), (45, 97), (47, 99), (60, 95), (61, 95), (62, 95), (124, 91)] : Array (Int × Int)).toList = [(37, 99), (38, 93), (42, 99), (43, 97), (45, 97), (47, 99), (60, 95), (61, 95), (62, 95), (124, 91)] from rfl]
    rw [lv_osw c1_1 (show (37 : Int32).toInt = 37 from rfl), lv_osw c1_2 (show (38 : Int32).toInt = 38 from rfl), lv_osw c1_3 (show (42 : Int32).toInt = 42 from rfl), lv_osw c1_4 (show (43 : Int32).toInt = 43 from rfl), lv_osw c1_5 (show (45 : Int32).toInt = 45 from rfl), lv_osw c1_6 (show (47 : Int32).toInt = 47 from rfl), lv_osw c1_7 (show (60 : Int32).toInt = 60 from rfl), lv_osw c1_8 (show (61 : Int32).toInt = 61 from rfl), lv_osw c1_9 (show (62 : Int32).toInt = 62 from rfl), lv_osw c1_10 (show (124 : Int32).toInt = 124 from rfl)]
    rfl) (by decide) ?_
  refine T_const dX9_tierOf_102 ?_
  obtain rfl := Option.some.inj hf
  exact X_ri dX9_tierOf_103 ⟨rfl, rfl⟩
noncomputable def sX9_readTier_7 (g_X9_readPart : aH → Int32 → Int32 → Option (Int32 × aH)) (l1 : Int32) (l2 : Int32) (ih : aH → Int32 → Option (Sum (Int32 × aH) (Int32 × aH))) (x : aH) (l3 : Int32) : Option (Sum (Int32 × aH) (Int32 × aH)) := if l3 = (0 : Int32) then some (.inr (l3, x)) else if (fi x 6 1) ≤ (fi x 6 2) then some (.inr (l3, x)) else if (0 : Int32) ≤ (fi x 6 2) ∧ (fi x 6 2) < (120 : Int32) then (fX9_tierOf x (ri x 7 (ix (fi x 6 2)))).bind fun q32_5 => if q32_5 = l1 then if (0 : Int32) ≤ (fi x 6 2) ∧ (fi x 6 2) < (120 : Int32) then (g_X9_readPart (sfi x 6 2 ((fi x 6 2) + (1 : Int32))) l1 l2).bind fun q63_8 => (fX9_write q63_8.2 (ri x 7 (ix (fi x 6 2))) (0 : Int32)).bind fun q71_9 => if l1 = (2 : Int32) then if q63_8.1 = (0 : Int32) ∨ q63_8.1 = (1 : Int32) then some (.inl (q63_8.1, q71_9)) else none else ih q71_9 q63_8.1 else none else some (.inr (l3, x)) else none
noncomputable def wX9_readTier_7 (g_X9_readPart : aH → Int32 → Int32 → Option (Int32 × aH)) (l1 : Int32) (l2 : Int32) : Nat → aH → Int32 → Option (Sum (Int32 × aH) (Int32 × aH))
  | 0 => fun _ _ => none
  | n + 1 => sX9_readTier_7 g_X9_readPart l1 l2 (wX9_readTier_7 g_X9_readPart l1 l2 n)
noncomputable def uX9_readTier (g_X9_readPart : aH → Int32 → Int32 → Option (Int32 × aH)) (x : aH) (p1 : Int32) (p2 : Int32) : Option (Int32 × aH) := (g_X9_readPart x p1 p2).bind fun q3_1 => (wX9_readTier_7 g_X9_readPart p1 p2 2000 q3_1.2 q3_1.1).bind fun q7_11 => elS q7_11 (fun r => some r) (fun eq7_11 => if eq7_11.1 = (0 : Int32) ∨ eq7_11.1 = (1 : Int32) then some (eq7_11.1, eq7_11.2) else none)
theorem lX9_readTier_7 (Z : aZ) (y : aH) {D : Nat} (hK : 1 ≤ D) {g_X9_readPart : aH → Int32 → Int32 → Option (Int32 × aH)} (H_X9_readPart : ∀ (x : aH) (p1 : Int32) (p2 : Int32) {q : (Int32 × aH)}, g_X9_readPart x p1 p2 = some q → CX true Z mX9_readPart D [.ref 6, .int p1, .int p2] y x (RV (.int q.1) q.2)) (l1 : Int32) (l2 : Int32) {Q : Option Value → aH → Prop} {R : (Sum (Int32 × aH) (Int32 × aH))} : ∀ (n : Nat) (x : aH) (l3 : Int32), wX9_readTier_7 g_X9_readPart l1 l2 n x l3 = some R → (∀ r, R = .inl r → Q (some (.int r.1)) r.2) → (∀ q, R = .inr q → TX true Z mX9_readTier (D + 1) y q.2 Q 84 [.null, .null, .null, .int (q.1), .null] []) → TX true Z mX9_readTier (D + 1) y x Q 7 [.ref 6, .int l1, .int l2, .int l3, .null] [] := by
  intro n
  induction n with
  | zero => intro x l3 hf; cases hf
  | succ n ih =>
    intro x l3 hf kr ke
    replace hf : sX9_readTier_7 g_X9_readPart l1 l2 (wX9_readTier_7 g_X9_readPart l1 l2 n) x l3 = some R := hf
    delta sX9_readTier_7 at hf
    refine T_iload dX9_readTier_7 rfl ?_
    refine T_if_eq dX9_readTier_8 (fun c8_2 => ?_) (fun c8_2 => ?_)
    · replace hf := ite_t c8_2 hf
      exact X_wk (WK.n (WK.n (WK.n (WK.s (WK.n WK.e))))) (ke (l3, x) (Option.some.inj hf).symm)
    · replace hf := ite_f c8_2 hf
      refine T_aload dX9_readTier_11 rfl ?_
      refine X_getf dX9_readTier_12 lfX9_23 rfl ob6 ?_
      refine T_aload dX9_readTier_15 rfl ?_
      refine X_getf dX9_readTier_16 lfX9_19 rfl ob6 ?_
      refine T_icmp_ge dX9_readTier_19 (fun c19_3 => ?_) (fun c19_3 => ?_)
      · replace hf := ite_t c19_3 hf
        exact X_wk (WK.n (WK.n (WK.n (WK.s (WK.n WK.e))))) (ke (l3, x) (Option.some.inj hf).symm)
      · replace hf := ite_f c19_3 hf
        refine T_aload dX9_readTier_22 rfl ?_
        refine T_aload dX9_readTier_23 rfl ?_
        refine X_getr dX9_readTier_24 lfX9_9 rfl ob6 rfl ?_
        refine T_aload dX9_readTier_27 rfl ?_
        refine X_getf dX9_readTier_28 lfX9_23 rfl ob6 ?_
        obtain ⟨hb31_4, hf⟩ := opt_t hf
        refine X_iald (N := 120) dX9_readTier_31 ar7 rfl hb31_4 ?_
        obtain ⟨q32_5, hc32_5, hf⟩ := bind_t hf
        refine X_Vv (qX9_tierOf Z _ hc32_5) (Nat.le_trans (Nat.le_of_ble_eq_true rfl) hK) dX9_readTier_32 lvX9_48 rfl rfl ob6 (Nat.le_of_ble_eq_true rfl) ?_
        refine T_iload dX9_readTier_35 rfl ?_
        refine T_icmp_ne dX9_readTier_36 (fun c36_6 => ?_) (fun c36_6 => ?_)
        · replace hf := ite_f c36_6 hf
          exact X_wk (WK.n (WK.n (WK.n (WK.s (WK.n WK.e))))) (ke (l3, x) (Option.some.inj hf).symm)
        · replace hf := ite_t c36_6 hf
          refine T_aload dX9_readTier_39 rfl ?_
          refine X_getr dX9_readTier_40 lfX9_9 rfl ob6 rfl ?_
          refine T_aload dX9_readTier_43 rfl ?_
          refine X_getf dX9_readTier_44 lfX9_23 rfl ob6 ?_
          obtain ⟨hb47_7, hf⟩ := opt_t hf
          refine X_iald (N := 120) dX9_readTier_47 ar7 rfl hb47_7 ?_
          refine T_istore dX9_readTier_48 ?_
          show TX _ _ _ _ _ _ _ _ [_, _, _, _, _] _
          refine T_aload dX9_readTier_50 rfl ?_
          refine T_dup dX9_readTier_51 rfl ?_
          refine X_getf dX9_readTier_52 lfX9_23 rfl ob6 ?_
          refine T_const dX9_readTier_55 ?_
          refine T_iadd dX9_readTier_56 ?_
          refine X_putf dX9_readTier_57 lfX9_23 rfl rfl ob6 ⟨rfl, rfl⟩ ?_
          refine T_aload dX9_readTier_60 rfl ?_
          refine T_iload dX9_readTier_61 rfl ?_
          refine T_iload dX9_readTier_62 rfl ?_
          obtain ⟨q63_8, hc63_8, hf⟩ := bind_t hf
          refine X_Vv (H_X9_readPart _ _ _ hc63_8) (Nat.le_refl _) dX9_readTier_63 lvX9_45 rfl rfl ob6 (Nat.le_of_ble_eq_true rfl) ?_
          refine T_istore dX9_readTier_66 ?_
          show TX _ _ _ _ _ _ _ _ [_, _, _, _, _] _
          refine T_aload dX9_readTier_67 rfl ?_
          refine T_iload dX9_readTier_68 rfl ?_
          refine T_const dX9_readTier_70 ?_
          obtain ⟨q71_9, hc71_9, hf⟩ := bind_t hf
          refine X_Vn (qX9_write Z _ hc71_9) (Nat.le_trans (Nat.le_of_ble_eq_true rfl) hK) dX9_readTier_71 lvX9_41 rfl rfl ob6 (Nat.le_of_ble_eq_true rfl) ?_
          refine T_iload dX9_readTier_74 rfl ?_
          refine T_const dX9_readTier_75 ?_
          refine T_icmp_ne dX9_readTier_76 (fun c76_10 => ?_) (fun c76_10 => ?_)
          · replace hf := ite_f c76_10 hf
            refine T_goto dX9_readTier_81 ?_
            exact X_wk (WK.s (WK.s (WK.s (WK.s (WK.n WK.e))))) (ih _ _ hf kr ke)
          · replace hf := ite_t c76_10 hf
            refine T_iload dX9_readTier_79 rfl ?_
            obtain ⟨h01, hf⟩ := opt_t hf
            exact X_rz dX9_readTier_80 h01 (kr (q63_8.1, q71_9) (Option.some.inj hf).symm)
theorem pX9_readTier (Z : aZ) (y : aH) {D : Nat} (hK : 1 ≤ D) {g_X9_readPart : aH → Int32 → Int32 → Option (Int32 × aH)} (H_X9_readPart : ∀ (x : aH) (p1 : Int32) (p2 : Int32) {q : (Int32 × aH)}, g_X9_readPart x p1 p2 = some q → CX true Z mX9_readPart D [.ref 6, .int p1, .int p2] y x (RV (.int q.1) q.2)) {x : aH} {p1 : Int32} {p2 : Int32} {q : (Int32 × aH)} (hf : uX9_readTier g_X9_readPart x p1 p2 = some q) : CX true Z mX9_readTier (D + 1) [.ref 6, .int p1, .int p2] y x (RV (.int q.1) q.2) := by
  refine CX.of mokX9_readTier (Nat.le_of_ble_eq_true rfl) ?_
  show TX _ _ _ _ _ _ _ _ [_, _, _, _, _] _
  delta uX9_readTier at hf
  refine T_aload dX9_readTier_0 rfl ?_
  refine T_iload dX9_readTier_1 rfl ?_
  refine T_iload dX9_readTier_2 rfl ?_
  obtain ⟨q3_1, hc3_1, hf⟩ := bind_t hf
  refine X_Vv (H_X9_readPart _ _ _ hc3_1) (Nat.le_refl _) dX9_readTier_3 lvX9_45 rfl rfl ob6 (Nat.le_of_ble_eq_true rfl) ?_
  refine T_istore dX9_readTier_6 ?_
  show TX _ _ _ _ _ _ _ _ [_, _, _, _, _] _
  obtain ⟨q7_11, hc7_11, hf⟩ := bind_t hf
  refine X_wk (WK.s (WK.s (WK.s (WK.s (WK.n WK.e))))) (lX9_readTier_7 Z _ hK H_X9_readPart _ _ 2000 _ _ hc7_11 ?_ ?_)
  · intro r hr
    subst hr
    replace hf := elS_l hf
    obtain rfl := Option.some.inj hf
    exact ⟨rfl, rfl⟩
  · intro eq7_11 hr
    subst hr
    replace hf := elS_r hf
    refine T_iload dX9_readTier_84 rfl ?_
    obtain ⟨h01, hf⟩ := opt_t hf
    obtain rfl := Option.some.inj hf
    exact X_rz dX9_readTier_85 h01 ⟨rfl, rfl⟩
noncomputable def uX9_readPart (g_X9_readTier : aH → Int32 → Int32 → Option (Int32 × aH)) (g_X9_readOperand : aH → Int32 → Option (Int32 × aH)) (x : aH) (p1 : Int32) (p2 : Int32) : Option (Int32 × aH) := if p1 < (4 : Int32) then (g_X9_readTier x (p1 + (1 : Int32)) p2).bind fun q18_2 => if q18_2.1 = (0 : Int32) ∨ q18_2.1 = (1 : Int32) then some (q18_2.1, q18_2.2) else none else (g_X9_readOperand x p2).bind fun q7_3 => if q7_3.1 = (0 : Int32) ∨ q7_3.1 = (1 : Int32) then some (q7_3.1, q7_3.2) else none
theorem pX9_readPart (Z : aZ) (y : aH) {D : Nat} (hK : 1 ≤ D) {g_X9_readTier : aH → Int32 → Int32 → Option (Int32 × aH)} (H_X9_readTier : ∀ (x : aH) (p1 : Int32) (p2 : Int32) {q : (Int32 × aH)}, g_X9_readTier x p1 p2 = some q → CX true Z mX9_readTier D [.ref 6, .int p1, .int p2] y x (RV (.int q.1) q.2)) {g_X9_readOperand : aH → Int32 → Option (Int32 × aH)} (H_X9_readOperand : ∀ (x : aH) (p1 : Int32) {q : (Int32 × aH)}, g_X9_readOperand x p1 = some q → CX true Z mX9_readOperand D [.ref 6, .int p1] y x (RV (.int q.1) q.2)) {x : aH} {p1 : Int32} {p2 : Int32} {q : (Int32 × aH)} (hf : uX9_readPart g_X9_readTier g_X9_readOperand x p1 p2 = some q) : CX true Z mX9_readPart (D + 1) [.ref 6, .int p1, .int p2] y x (RV (.int q.1) q.2) := by
  refine CX.of mokX9_readPart (Nat.le_of_ble_eq_true rfl) ?_
  show TX _ _ _ _ _ _ _ _ [_, _, _] _
  delta uX9_readPart at hf
  refine T_iload dX9_readPart_0 rfl ?_
  refine T_const dX9_readPart_1 ?_
  refine T_icmp_lt dX9_readPart_2 (fun c2_1 => ?_) (fun c2_1 => ?_)
  · replace hf := ite_t c2_1 hf
    refine T_aload dX9_readPart_13 rfl ?_
    refine T_iload dX9_readPart_14 rfl ?_
    refine T_const dX9_readPart_15 ?_
    refine T_iadd dX9_readPart_16 ?_
    refine T_iload dX9_readPart_17 rfl ?_
    obtain ⟨q18_2, hc18_2, hf⟩ := bind_t hf
    refine X_Vv (H_X9_readTier _ _ _ hc18_2) (Nat.le_refl _) dX9_readPart_18 lvX9_33 rfl rfl ob6 (Nat.le_of_ble_eq_true rfl) ?_
    obtain ⟨h01, hf⟩ := opt_t hf
    obtain rfl := Option.some.inj hf
    exact X_rz dX9_readPart_21 h01 ⟨rfl, rfl⟩
  · replace hf := ite_f c2_1 hf
    refine T_aload dX9_readPart_5 rfl ?_
    refine T_iload dX9_readPart_6 rfl ?_
    obtain ⟨q7_3, hc7_3, hf⟩ := bind_t hf
    refine X_Vv (H_X9_readOperand _ _ hc7_3) (Nat.le_refl _) dX9_readPart_7 lvX9_52 rfl rfl ob6 (Nat.le_of_ble_eq_true rfl) ?_
    refine T_goto dX9_readPart_10 ?_
    obtain ⟨h01, hf⟩ := opt_t hf
    obtain rfl := Option.some.inj hf
    exact X_rz dX9_readPart_21 h01 ⟨rfl, rfl⟩
noncomputable def jX9_readOperand_158 (g_X9_readTier : aH → Int32 → Int32 → Option (Int32 × aH)) (g_X9_readPart : aH → Int32 → Int32 → Option (Int32 × aH)) (x : aH) (l4 : Int32) (s1 : Int32) : Option (Int32 × aH) := (fX9_write x s1 (0 : Int32)).bind fun q159_8 => if l4 = (0 : Int32) ∨ l4 = (1 : Int32) then some (l4, q159_8) else none
noncomputable def jX9_readOperand_95 (g_X9_readTier : aH → Int32 → Int32 → Option (Int32 × aH)) (g_X9_readPart : aH → Int32 → Int32 → Option (Int32 × aH)) (x : aH) (l1 : Int32) (l2 : Int32) : Option (Int32 × aH) := if l2 = (40 : Int32) then (g_X9_readTier (sfi x 6 2 ((fi x 6 2) + (1 : Int32))) (0 : Int32) (l1 + (1 : Int32))).bind fun q116_10 => if q116_10.1 = (0 : Int32) then some ((0 : Int32), q116_10.2) else (fX9_readClosing q116_10.2).bind fun q123_12 => if q123_12.1 = (0 : Int32) then some ((0 : Int32), q123_12.2) else some ((1 : Int32), q123_12.2) else (g_X9_readPart (sfi x 6 2 ((fi x 6 2) + (1 : Int32))) (4 : Int32) (l1 + (1 : Int32))).bind fun q140_7 => if l2 = (33 : Int32) then jX9_readOperand_158 g_X9_readTier g_X9_readPart q140_7.2 q140_7.1 (33 : Int32) else jX9_readOperand_158 g_X9_readTier g_X9_readPart q140_7.2 q140_7.1 (3 : Int32)
noncomputable def jX9_readOperand_41 (g_X9_readTier : aH → Int32 → Int32 → Option (Int32 × aH)) (g_X9_readPart : aH → Int32 → Int32 → Option (Int32 × aH)) (x : aH) (l1 : Int32) (l2 : Int32) : Option (Int32 × aH) := (fX9_nameOf x l2).bind fun q43_3 => if q43_3 < (0 : Int32) then if (6 : Int32) ≤ l1 then some ((0 : Int32), x) else if l2 = (40 : Int32) then jX9_readOperand_95 g_X9_readTier g_X9_readPart x l1 l2 else if l2 = (33 : Int32) then jX9_readOperand_95 g_X9_readTier g_X9_readPart x l1 l2 else if l2 = (45 : Int32) then jX9_readOperand_95 g_X9_readTier g_X9_readPart x l1 l2 else some ((0 : Int32), x) else (fX9_write (sfi x 6 2 ((fi x 6 2) + (1 : Int32))) (2 : Int32) q43_3).bind fun q64_17 => some ((1 : Int32), q64_17)
noncomputable def uX9_readOperand (g_X9_readTier : aH → Int32 → Int32 → Option (Int32 × aH)) (g_X9_readPart : aH → Int32 → Int32 → Option (Int32 × aH)) (x : aH) (p1 : Int32) : Option (Int32 × aH) := if (fi x 6 2) < (fi x 6 1) then if (0 : Int32) ≤ (fi x 6 2) ∧ (fi x 6 2) < (120 : Int32) then if (ri x 7 (ix (fi x 6 2))) < (48 : Int32) then jX9_readOperand_41 g_X9_readTier g_X9_readPart x p1 (ri x 7 (ix (fi x 6 2))) else if (57 : Int32) < (ri x 7 (ix (fi x 6 2))) then jX9_readOperand_41 g_X9_readTier g_X9_readPart x p1 (ri x 7 (ix (fi x 6 2))) else (fX9_readNumber x).bind fun q36_20 => some ((1 : Int32), q36_20) else none else some ((0 : Int32), x)
theorem pX9_readOperand (Z : aZ) (y : aH) {D : Nat} (hK : 1 ≤ D) {g_X9_readTier : aH → Int32 → Int32 → Option (Int32 × aH)} (H_X9_readTier : ∀ (x : aH) (p1 : Int32) (p2 : Int32) {q : (Int32 × aH)}, g_X9_readTier x p1 p2 = some q → CX true Z mX9_readTier D [.ref 6, .int p1, .int p2] y x (RV (.int q.1) q.2)) {g_X9_readPart : aH → Int32 → Int32 → Option (Int32 × aH)} (H_X9_readPart : ∀ (x : aH) (p1 : Int32) (p2 : Int32) {q : (Int32 × aH)}, g_X9_readPart x p1 p2 = some q → CX true Z mX9_readPart D [.ref 6, .int p1, .int p2] y x (RV (.int q.1) q.2)) {x : aH} {p1 : Int32} {q : (Int32 × aH)} (hf : uX9_readOperand g_X9_readTier g_X9_readPart x p1 = some q) : CX true Z mX9_readOperand (D + 1) [.ref 6, .int p1] y x (RV (.int q.1) q.2) := by
  refine CX.of mokX9_readOperand (Nat.le_of_ble_eq_true rfl) ?_
  show TX _ _ _ _ _ _ _ _ [_, _, _, _, _] _
  delta uX9_readOperand at hf
  refine T_aload dX9_readOperand_0 rfl ?_
  refine X_getf dX9_readOperand_1 lfX9_23 rfl ob6 ?_
  refine T_aload dX9_readOperand_4 rfl ?_
  refine X_getf dX9_readOperand_5 lfX9_19 rfl ob6 ?_
  refine T_icmp_lt dX9_readOperand_8 (fun c8_1 => ?_) (fun c8_1 => ?_)
  · replace hf := ite_t c8_1 hf
    refine T_aload dX9_readOperand_13 rfl ?_
    refine X_getr dX9_readOperand_14 lfX9_9 rfl ob6 rfl ?_
    refine T_aload dX9_readOperand_17 rfl ?_
    refine X_getf dX9_readOperand_18 lfX9_23 rfl ob6 ?_
    obtain ⟨hb21_2, hf⟩ := opt_t hf
    refine X_iald (N := 120) dX9_readOperand_21 ar7 rfl hb21_2 ?_
    refine T_istore dX9_readOperand_22 ?_
    show TX _ _ _ _ _ _ _ _ [_, _, _, _, _] _
    refine T_iload dX9_readOperand_23 rfl ?_
    refine T_const dX9_readOperand_24 ?_
    have J41 : ∀ (x : aH) (l1 : Int32) (l2 : Int32), jX9_readOperand_41 g_X9_readTier g_X9_readPart x l1 l2 = some q → TX true Z mX9_readOperand (D + 1) y x (RV (.int q.1) q.2) 41 [.ref 6, .int l1, .int l2, .null, .null] [] := by
      intro x l1 l2 hf
      delta jX9_readOperand_41 at hf
      refine T_aload dX9_readOperand_41 rfl ?_
      refine T_iload dX9_readOperand_42 rfl ?_
      obtain ⟨q43_3, hc43_3, hf⟩ := bind_t hf
      refine X_Vv (qX9_nameOf Z _ hc43_3) (Nat.le_trans (Nat.le_of_ble_eq_true rfl) hK) dX9_readOperand_43 lvX9_58 rfl rfl ob6 (Nat.le_of_ble_eq_true rfl) ?_
      refine T_istore dX9_readOperand_46 ?_
      show TX _ _ _ _ _ _ _ _ [_, _, _, _, _] _
      refine T_iload dX9_readOperand_47 rfl ?_
      refine T_if_lt dX9_readOperand_48 (fun c48_4 => ?_) (fun c48_4 => ?_)
      · replace hf := ite_t c48_4 hf
        refine T_iload dX9_readOperand_69 rfl ?_
        refine T_const dX9_readOperand_70 ?_
        refine T_icmp_ge dX9_readOperand_72 (fun c72_5 => ?_) (fun c72_5 => ?_)
        · replace hf := ite_t c72_5 hf
          refine T_const dX9_readOperand_93 ?_
          obtain rfl := Option.some.inj hf
          exact X_rz dX9_readOperand_94 (by first | exact Or.inl rfl | exact Or.inr rfl) ⟨rfl, rfl⟩
        · replace hf := ite_f c72_5 hf
          refine T_iload dX9_readOperand_75 rfl ?_
          refine T_const dX9_readOperand_76 ?_
          have J95 : ∀ (x : aH) (l1 : Int32) (l2 : Int32), jX9_readOperand_95 g_X9_readTier g_X9_readPart x l1 l2 = some q → TX true Z mX9_readOperand (D + 1) y x (RV (.int q.1) q.2) 95 [.ref 6, .int l1, .int l2, .null, .null] [] := by
            intro x l1 l2 hf
            delta jX9_readOperand_95 at hf
            refine T_aload dX9_readOperand_95 rfl ?_
            refine T_dup dX9_readOperand_96 rfl ?_
            refine X_getf dX9_readOperand_97 lfX9_23 rfl ob6 ?_
            refine T_const dX9_readOperand_100 ?_
            refine T_iadd dX9_readOperand_101 ?_
            refine X_putf dX9_readOperand_102 lfX9_23 rfl rfl ob6 ⟨rfl, rfl⟩ ?_
            refine T_iload dX9_readOperand_105 rfl ?_
            refine T_const dX9_readOperand_106 ?_
            refine T_icmp_ne dX9_readOperand_108 (fun c108_6 => ?_) (fun c108_6 => ?_)
            · replace hf := ite_f c108_6 hf
              refine T_aload dX9_readOperand_135 rfl ?_
              refine T_const dX9_readOperand_136 ?_
              refine T_iload dX9_readOperand_137 rfl ?_
              refine T_const dX9_readOperand_138 ?_
              refine T_iadd dX9_readOperand_139 ?_
              obtain ⟨q140_7, hc140_7, hf⟩ := bind_t hf
              refine X_Vv (H_X9_readPart _ _ _ hc140_7) (Nat.le_refl _) dX9_readOperand_140 lvX9_45 rfl rfl ob6 (Nat.le_of_ble_eq_true rfl) ?_
              refine T_istore dX9_readOperand_143 ?_
              show TX _ _ _ _ _ _ _ _ [_, _, _, _, _] _
              refine T_aload dX9_readOperand_145 rfl ?_
              refine T_iload dX9_readOperand_146 rfl ?_
              refine T_const dX9_readOperand_147 ?_
              have J158 : ∀ (x : aH) (l4 : Int32) (s1 : Int32), jX9_readOperand_158 g_X9_readTier g_X9_readPart x l4 s1 = some q → TX true Z mX9_readOperand (D + 1) y x (RV (.int q.1) q.2) 158 [.null, .null, .null, .null, .int l4] [.int s1, .ref 6] := by
                intro x l4 s1 hf
                delta jX9_readOperand_158 at hf
                refine T_const dX9_readOperand_158 ?_
                obtain ⟨q159_8, hc159_8, hf⟩ := bind_t hf
                refine X_Vn (qX9_write Z _ hc159_8) (Nat.le_trans (Nat.le_of_ble_eq_true rfl) hK) dX9_readOperand_159 lvX9_41 rfl rfl ob6 (Nat.le_of_ble_eq_true rfl) ?_
                refine T_iload dX9_readOperand_162 rfl ?_
                obtain ⟨h01, hf⟩ := opt_t hf
                obtain rfl := Option.some.inj hf
                exact X_rz dX9_readOperand_164 h01 ⟨rfl, rfl⟩
              refine T_icmp_ne dX9_readOperand_149 (fun c149_9 => ?_) (fun c149_9 => ?_)
              · replace hf := ite_f c149_9 hf
                refine T_const dX9_readOperand_157 ?_
                exact X_wk (WK.n (WK.n (WK.n (WK.n (WK.s WK.e))))) (J158 _ _ _ hf)
              · replace hf := ite_t c149_9 hf
                refine T_const dX9_readOperand_152 ?_
                refine T_goto dX9_readOperand_154 ?_
                exact X_wk (WK.n (WK.n (WK.n (WK.n (WK.s WK.e))))) (J158 _ _ _ hf)
            · replace hf := ite_t c108_6 hf
              refine T_aload dX9_readOperand_111 rfl ?_
              refine T_const dX9_readOperand_112 ?_
              refine T_iload dX9_readOperand_113 rfl ?_
              refine T_const dX9_readOperand_114 ?_
              refine T_iadd dX9_readOperand_115 ?_
              obtain ⟨q116_10, hc116_10, hf⟩ := bind_t hf
              refine X_Vv (H_X9_readTier _ _ _ hc116_10) (Nat.le_refl _) dX9_readOperand_116 lvX9_33 rfl rfl ob6 (Nat.le_of_ble_eq_true rfl) ?_
              refine T_if_eq dX9_readOperand_119 (fun c119_11 => ?_) (fun c119_11 => ?_)
              · replace hf := ite_t c119_11 hf
                refine T_const dX9_readOperand_133 ?_
                obtain rfl := Option.some.inj hf
                exact X_rz dX9_readOperand_134 (by first | exact Or.inl rfl | exact Or.inr rfl) ⟨rfl, rfl⟩
              · replace hf := ite_f c119_11 hf
                refine T_aload dX9_readOperand_122 rfl ?_
                obtain ⟨q123_12, hc123_12, hf⟩ := bind_t hf
                refine X_Vv (qX9_readClosing Z _ hc123_12) (Nat.le_trans (Nat.le_of_ble_eq_true rfl) hK) dX9_readOperand_123 lvX9_61 rfl rfl ob6 (Nat.le_of_ble_eq_true rfl) ?_
                refine T_if_eq dX9_readOperand_126 (fun c126_13 => ?_) (fun c126_13 => ?_)
                · replace hf := ite_t c126_13 hf
                  refine T_const dX9_readOperand_133 ?_
                  obtain rfl := Option.some.inj hf
                  exact X_rz dX9_readOperand_134 (by first | exact Or.inl rfl | exact Or.inr rfl) ⟨rfl, rfl⟩
                · replace hf := ite_f c126_13 hf
                  refine T_const dX9_readOperand_129 ?_
                  refine T_goto dX9_readOperand_130 ?_
                  obtain rfl := Option.some.inj hf
                  exact X_rz dX9_readOperand_134 (by first | exact Or.inl rfl | exact Or.inr rfl) ⟨rfl, rfl⟩
          refine T_icmp_eq dX9_readOperand_78 (fun c78_14 => ?_) (fun c78_14 => ?_)
          · replace hf := ite_t c78_14 hf
            exact X_wk (WK.s (WK.s (WK.s (WK.n (WK.n WK.e))))) (J95 _ _ _ hf)
          · replace hf := ite_f c78_14 hf
            refine T_iload dX9_readOperand_81 rfl ?_
            refine T_const dX9_readOperand_82 ?_
            refine T_icmp_eq dX9_readOperand_84 (fun c84_15 => ?_) (fun c84_15 => ?_)
            · replace hf := ite_t c84_15 hf
              exact X_wk (WK.s (WK.s (WK.s (WK.n (WK.n WK.e))))) (J95 _ _ _ hf)
            · replace hf := ite_f c84_15 hf
              refine T_iload dX9_readOperand_87 rfl ?_
              refine T_const dX9_readOperand_88 ?_
              refine T_icmp_eq dX9_readOperand_90 (fun c90_16 => ?_) (fun c90_16 => ?_)
              · replace hf := ite_t c90_16 hf
                exact X_wk (WK.s (WK.s (WK.s (WK.n (WK.n WK.e))))) (J95 _ _ _ hf)
              · replace hf := ite_f c90_16 hf
                refine T_const dX9_readOperand_93 ?_
                obtain rfl := Option.some.inj hf
                exact X_rz dX9_readOperand_94 (by first | exact Or.inl rfl | exact Or.inr rfl) ⟨rfl, rfl⟩
      · replace hf := ite_f c48_4 hf
        refine T_aload dX9_readOperand_51 rfl ?_
        refine T_dup dX9_readOperand_52 rfl ?_
        refine X_getf dX9_readOperand_53 lfX9_23 rfl ob6 ?_
        refine T_const dX9_readOperand_56 ?_
        refine T_iadd dX9_readOperand_57 ?_
        refine X_putf dX9_readOperand_58 lfX9_23 rfl rfl ob6 ⟨rfl, rfl⟩ ?_
        refine T_aload dX9_readOperand_61 rfl ?_
        refine T_const dX9_readOperand_62 ?_
        refine T_iload dX9_readOperand_63 rfl ?_
        obtain ⟨q64_17, hc64_17, hf⟩ := bind_t hf
        refine X_Vn (qX9_write Z _ hc64_17) (Nat.le_trans (Nat.le_of_ble_eq_true rfl) hK) dX9_readOperand_64 lvX9_41 rfl rfl ob6 (Nat.le_of_ble_eq_true rfl) ?_
        refine T_const dX9_readOperand_67 ?_
        obtain rfl := Option.some.inj hf
        exact X_rz dX9_readOperand_68 (by first | exact Or.inl rfl | exact Or.inr rfl) ⟨rfl, rfl⟩
    refine T_icmp_lt dX9_readOperand_26 (fun c26_18 => ?_) (fun c26_18 => ?_)
    · replace hf := ite_t c26_18 hf
      exact X_wk (WK.s (WK.s (WK.s (WK.n (WK.n WK.e))))) (J41 _ _ _ hf)
    · replace hf := ite_f c26_18 hf
      refine T_iload dX9_readOperand_29 rfl ?_
      refine T_const dX9_readOperand_30 ?_
      refine T_icmp_gt dX9_readOperand_32 (fun c32_19 => ?_) (fun c32_19 => ?_)
      · replace hf := ite_t c32_19 hf
        exact X_wk (WK.s (WK.s (WK.s (WK.n (WK.n WK.e))))) (J41 _ _ _ hf)
      · replace hf := ite_f c32_19 hf
        refine T_aload dX9_readOperand_35 rfl ?_
        obtain ⟨q36_20, hc36_20, hf⟩ := bind_t hf
        refine X_Vn (qX9_readNumber Z _ hc36_20) (Nat.le_trans (Nat.le_of_ble_eq_true rfl) hK) dX9_readOperand_36 lvX9_55 rfl rfl ob6 (Nat.le_of_ble_eq_true rfl) ?_
        refine T_const dX9_readOperand_39 ?_
        obtain rfl := Option.some.inj hf
        exact X_rz dX9_readOperand_40 (by first | exact Or.inl rfl | exact Or.inr rfl) ⟨rfl, rfl⟩
  · replace hf := ite_f c8_1 hf
    refine T_const dX9_readOperand_11 ?_
    obtain rfl := Option.some.inj hf
    exact X_rz dX9_readOperand_12 (by first | exact Or.inl rfl | exact Or.inr rfl) ⟨rfl, rfl⟩
noncomputable def GX9_readTier : Nat → (aH → Int32 → Int32 → Option (Int32 × aH)) × (aH → Int32 → Int32 → Option (Int32 × aH)) × (aH → Int32 → Option (Int32 × aH))
  | 0 => (fun _ _ _ => none, fun _ _ _ => none, fun _ _ => none)
  | n + 1 => (uX9_readTier ((GX9_readTier n).2.1), uX9_readPart ((GX9_readTier n).1) ((GX9_readTier n).2.2), uX9_readOperand ((GX9_readTier n).1) ((GX9_readTier n).2.1))
noncomputable def fX9_readTier (n : Nat) : aH → Int32 → Int32 → Option (Int32 × aH) := (GX9_readTier n).1
noncomputable def fX9_readPart (n : Nat) : aH → Int32 → Int32 → Option (Int32 × aH) := (GX9_readTier n).2.1
noncomputable def fX9_readOperand (n : Nat) : aH → Int32 → Option (Int32 × aH) := (GX9_readTier n).2.2
theorem fX9_readTier_S (n : Nat) : fX9_readTier (n + 1) = uX9_readTier (fX9_readPart n) := rfl
theorem fX9_readPart_S (n : Nat) : fX9_readPart (n + 1) = uX9_readPart (fX9_readTier n) (fX9_readOperand n) := rfl
theorem fX9_readOperand_S (n : Nat) : fX9_readOperand (n + 1) = uX9_readOperand (fX9_readTier n) (fX9_readPart n) := rfl
theorem qGX9_readTier (Z : aZ) (y : aH) : ∀ n, (∀ (x : aH) (p1 : Int32) (p2 : Int32) {q : (Int32 × aH)}, fX9_readTier n x p1 p2 = some q → CX true Z mX9_readTier (n + 1) [.ref 6, .int p1, .int p2] y x (RV (.int q.1) q.2)) ∧ (∀ (x : aH) (p1 : Int32) (p2 : Int32) {q : (Int32 × aH)}, fX9_readPart n x p1 p2 = some q → CX true Z mX9_readPart (n + 1) [.ref 6, .int p1, .int p2] y x (RV (.int q.1) q.2)) ∧ (∀ (x : aH) (p1 : Int32) {q : (Int32 × aH)}, fX9_readOperand n x p1 = some q → CX true Z mX9_readOperand (n + 1) [.ref 6, .int p1] y x (RV (.int q.1) q.2)) := by
  intro n
  induction n with
  | zero => exact ⟨(by intro _ _ _ q hf; cases hf), (by intro _ _ _ q hf; cases hf), (by intro _ _ q hf; cases hf)⟩
  | succ n ih =>
    obtain ⟨ih_X9_readTier, ih_X9_readPart, ih_X9_readOperand⟩ := ih
    exact ⟨(by intro _ _ _ q hf; exact (pX9_readTier Z y (D := n + 1) (Nat.le_add_left _ _) ih_X9_readPart hf).le (by omega)),
      (by intro _ _ _ q hf; exact (pX9_readPart Z y (D := n + 1) (Nat.le_add_left _ _) ih_X9_readTier ih_X9_readOperand hf).le (by omega)),
      (by intro _ _ q hf; exact (pX9_readOperand Z y (D := n + 1) (Nat.le_add_left _ _) ih_X9_readTier ih_X9_readPart hf).le (by omega))⟩
theorem qX9_readTier (Z : aZ) (y : aH) {x : aH} {p1 : Int32} {p2 : Int32} {q : (Int32 × aH)} (hf : fX9_readTier 128 x p1 p2 = some q) : CX true Z mX9_readTier 129 [.ref 6, .int p1, .int p2] y x (RV (.int q.1) q.2) := (qGX9_readTier Z y 128).1 _ _ _ hf
theorem qX9_readPart (Z : aZ) (y : aH) {x : aH} {p1 : Int32} {p2 : Int32} {q : (Int32 × aH)} (hf : fX9_readPart 128 x p1 p2 = some q) : CX true Z mX9_readPart 129 [.ref 6, .int p1, .int p2] y x (RV (.int q.1) q.2) := (qGX9_readTier Z y 128).2.1 _ _ _ hf
theorem qX9_readOperand (Z : aZ) (y : aH) {x : aH} {p1 : Int32} {q : (Int32 × aH)} (hf : fX9_readOperand 128 x p1 = some q) : CX true Z mX9_readOperand 129 [.ref 6, .int p1] y x (RV (.int q.1) q.2) := (qGX9_readTier Z y 128).2.2 _ _ hf
noncomputable def fX9_readLine (x : aH) : Option (Int32 × aH) := (fX9_readTier 128 x (0 : Int32) (0 : Int32)).bind fun q3_1 => if q3_1.1 = (0 : Int32) then some ((0 : Int32), q3_1.2) else (fX9_isNext q3_1.2 (63 : Int32)).bind fun q14_3 => if q14_3 = (0 : Int32) then (fX9_write q3_1.2 (5 : Int32) (0 : Int32)).bind fun q23_11 => some ((1 : Int32), q23_11) else (fX9_write (sfi q3_1.2 6 2 ((fi q3_1.2 6 2) + (1 : Int32))) (4 : Int32) (0 : Int32)).bind fun q46_5 => (fX9_readTier 128 q46_5 (0 : Int32) (0 : Int32)).bind fun q52_6 => if q52_6.1 = (0 : Int32) then some ((0 : Int32), q52_6.2) else (fX9_write q52_6.2 (5 : Int32) (0 : Int32)).bind fun q63_8 => if (128 : Int32) ≤ (fi (sfi q3_1.2 6 2 ((fi q3_1.2 6 2) + (1 : Int32))) 6 5) then some ((1 : Int32), q63_8) else if (0 : Int32) ≤ (fi (sfi q3_1.2 6 2 ((fi q3_1.2 6 2) + (1 : Int32))) 6 5) ∧ (fi (sfi q3_1.2 6 2 ((fi q3_1.2 6 2) + (1 : Int32))) 6 5) < (128 : Int32) then some ((1 : Int32), (sri q63_8 9 (ix (fi (sfi q3_1.2 6 2 ((fi q3_1.2 6 2) + (1 : Int32))) 6 5)) (fi q63_8 6 5))) else none
theorem qX9_readLine (Z : aZ) (y : aH) {x : aH} {q : (Int32 × aH)} (hf : fX9_readLine x = some q) : CX true Z mX9_readLine 130 [.ref 6] y x (RV (.int q.1) q.2) := by
  refine CX.of mokX9_readLine (Nat.le_of_ble_eq_true rfl) ?_
  show TX _ _ _ _ _ _ _ _ [_, _] _
  delta fX9_readLine at hf
  refine T_aload dX9_readLine_0 rfl ?_
  refine T_const dX9_readLine_1 ?_
  refine T_const dX9_readLine_2 ?_
  obtain ⟨q3_1, hc3_1, hf⟩ := bind_t hf
  refine X_Vv (qX9_readTier Z _ hc3_1) (Nat.le_of_ble_eq_true rfl) dX9_readLine_3 lvX9_33 rfl rfl ob6 (Nat.le_of_ble_eq_true rfl) ?_
  refine T_if_ne dX9_readLine_6 (fun c6_2 => ?_) (fun c6_2 => ?_)
  · replace hf := ite_f c6_2 hf
    refine T_aload dX9_readLine_11 rfl ?_
    refine T_const dX9_readLine_12 ?_
    obtain ⟨q14_3, hc14_3, hf⟩ := bind_t hf
    refine X_Vv (qX9_isNext Z _ hc14_3) (Nat.le_of_ble_eq_true rfl) dX9_readLine_14 lvX9_37 rfl rfl ob6 (Nat.le_of_ble_eq_true rfl) ?_
    refine T_if_ne dX9_readLine_17 (fun c17_4 => ?_) (fun c17_4 => ?_)
    · replace hf := ite_f c17_4 hf
      refine T_aload dX9_readLine_28 rfl ?_
      refine T_dup dX9_readLine_29 rfl ?_
      refine X_getf dX9_readLine_30 lfX9_23 rfl ob6 ?_
      refine T_const dX9_readLine_33 ?_
      refine T_iadd dX9_readLine_34 ?_
      refine X_putf dX9_readLine_35 lfX9_23 rfl rfl ob6 ⟨rfl, rfl⟩ ?_
      refine T_aload dX9_readLine_38 rfl ?_
      refine X_getf dX9_readLine_39 lfX9_26 rfl ob6 ?_
      refine T_istore dX9_readLine_42 ?_
      show TX _ _ _ _ _ _ _ _ [_, _] _
      refine T_aload dX9_readLine_43 rfl ?_
      refine T_const dX9_readLine_44 ?_
      refine T_const dX9_readLine_45 ?_
      obtain ⟨q46_5, hc46_5, hf⟩ := bind_t hf
      refine X_Vn (qX9_write Z _ hc46_5) (Nat.le_of_ble_eq_true rfl) dX9_readLine_46 lvX9_41 rfl rfl ob6 (Nat.le_of_ble_eq_true rfl) ?_
      refine T_aload dX9_readLine_49 rfl ?_
      refine T_const dX9_readLine_50 ?_
      refine T_const dX9_readLine_51 ?_
      obtain ⟨q52_6, hc52_6, hf⟩ := bind_t hf
      refine X_Vv (qX9_readTier Z _ hc52_6) (Nat.le_of_ble_eq_true rfl) dX9_readLine_52 lvX9_33 rfl rfl ob6 (Nat.le_of_ble_eq_true rfl) ?_
      refine T_if_ne dX9_readLine_55 (fun c55_7 => ?_) (fun c55_7 => ?_)
      · replace hf := ite_f c55_7 hf
        refine T_aload dX9_readLine_60 rfl ?_
        refine T_const dX9_readLine_61 ?_
        refine T_const dX9_readLine_62 ?_
        obtain ⟨q63_8, hc63_8, hf⟩ := bind_t hf
        refine X_Vn (qX9_write Z _ hc63_8) (Nat.le_of_ble_eq_true rfl) dX9_readLine_63 lvX9_41 rfl rfl ob6 (Nat.le_of_ble_eq_true rfl) ?_
        refine T_iload dX9_readLine_66 rfl ?_
        refine T_const dX9_readLine_67 ?_
        refine T_icmp_ge dX9_readLine_70 (fun c70_9 => ?_) (fun c70_9 => ?_)
        · replace hf := ite_t c70_9 hf
          refine T_const dX9_readLine_83 ?_
          obtain rfl := Option.some.inj hf
          exact X_rz dX9_readLine_84 (by first | exact Or.inl rfl | exact Or.inr rfl) ⟨rfl, rfl⟩
        · replace hf := ite_f c70_9 hf
          refine T_aload dX9_readLine_73 rfl ?_
          refine X_getr dX9_readLine_74 lfX9_16 rfl ob6 rfl ?_
          refine T_iload dX9_readLine_77 rfl ?_
          refine T_aload dX9_readLine_78 rfl ?_
          refine X_getf dX9_readLine_79 lfX9_26 rfl ob6 ?_
          obtain ⟨hb82_10, hf⟩ := opt_t hf
          refine X_iast (N := 128) dX9_readLine_82 ar9 rfl hb82_10 ?_
          refine T_const dX9_readLine_83 ?_
          obtain rfl := Option.some.inj hf
          exact X_rz dX9_readLine_84 (by first | exact Or.inl rfl | exact Or.inr rfl) ⟨rfl, rfl⟩
      · replace hf := ite_t c55_7 hf
        refine T_const dX9_readLine_58 ?_
        obtain rfl := Option.some.inj hf
        exact X_rz dX9_readLine_59 (by first | exact Or.inl rfl | exact Or.inr rfl) ⟨rfl, rfl⟩
    · replace hf := ite_t c17_4 hf
      refine T_aload dX9_readLine_20 rfl ?_
      refine T_const dX9_readLine_21 ?_
      refine T_const dX9_readLine_22 ?_
      obtain ⟨q23_11, hc23_11, hf⟩ := bind_t hf
      refine X_Vn (qX9_write Z _ hc23_11) (Nat.le_of_ble_eq_true rfl) dX9_readLine_23 lvX9_41 rfl rfl ob6 (Nat.le_of_ble_eq_true rfl) ?_
      refine T_const dX9_readLine_26 ?_
      obtain rfl := Option.some.inj hf
      exact X_rz dX9_readLine_27 (by first | exact Or.inl rfl | exact Or.inr rfl) ⟨rfl, rfl⟩
  · replace hf := ite_t c6_2 hf
    refine T_const dX9_readLine_9 ?_
    obtain rfl := Option.some.inj hf
    exact X_rz dX9_readLine_10 (by first | exact Or.inl rfl | exact Or.inr rfl) ⟨rfl, rfl⟩
noncomputable def sX9_read_15 (ih : aH → Int32 → Option (Int32 × aH)) (x : aH) (l1 : Int32) : Option (Int32 × aH) := if l1 = (0 : Int32) then some (l1, x) else if (fi x 6 1) ≤ (fi x 6 2) then some (l1, x) else if (0 : Int32) ≤ (fi x 6 2) ∧ (fi x 6 2) < (120 : Int32) then if (ri x 7 (ix (fi x 6 2))) = (59 : Int32) then (fX9_readLine (sfi x 6 2 ((fi x 6 2) + (1 : Int32)))).bind fun q55_6 => ih q55_6.2 q55_6.1 else some (l1, x) else none
noncomputable def wX9_read_15 : Nat → aH → Int32 → Option (Int32 × aH)
  | 0 => fun _ _ => none
  | n + 1 => sX9_read_15 (wX9_read_15 n)
noncomputable def fX9_read (x : aH) : Option (Int32 × aH) := (fX9_readLine (sfi (sfi x 6 2 (0 : Int32)) 6 5 (0 : Int32))).bind fun q11_1 => (wX9_read_15 2000 q11_1.2 q11_1.1).bind fun q15_7 => if q15_7.1 = (0 : Int32) then some ((0 : Int32), q15_7.2) else if (fi q15_7.2 6 2) = (fi q15_7.2 6 1) then some ((1 : Int32), q15_7.2) else some ((0 : Int32), q15_7.2)
theorem lX9_read_15 (Z : aZ) (y : aH) {Q : Option Value → aH → Prop} {R : (Int32 × aH)} : ∀ (n : Nat) (x : aH) (l1 : Int32), wX9_read_15 n x l1 = some R → (∀ q, R = q → TX true Z mX9_read 131 y q.2 Q 62 [.ref 6, .int (q.1)] []) → TX true Z mX9_read 131 y x Q 15 [.ref 6, .int l1] [] := by
  intro n
  induction n with
  | zero => intro x l1 hf; cases hf
  | succ n ih =>
    intro x l1 hf ke
    replace hf : sX9_read_15 (wX9_read_15 n) x l1 = some R := hf
    delta sX9_read_15 at hf
    refine T_iload dX9_read_15 rfl ?_
    refine T_if_eq dX9_read_16 (fun c16_2 => ?_) (fun c16_2 => ?_)
    · replace hf := ite_t c16_2 hf
      exact X_wk (WK.s (WK.s WK.e)) (ke (l1, x) (Option.some.inj hf).symm)
    · replace hf := ite_f c16_2 hf
      refine T_aload dX9_read_19 rfl ?_
      refine X_getf dX9_read_20 lfX9_23 rfl ob6 ?_
      refine T_aload dX9_read_23 rfl ?_
      refine X_getf dX9_read_24 lfX9_19 rfl ob6 ?_
      refine T_icmp_ge dX9_read_27 (fun c27_3 => ?_) (fun c27_3 => ?_)
      · replace hf := ite_t c27_3 hf
        exact X_wk (WK.s (WK.s WK.e)) (ke (l1, x) (Option.some.inj hf).symm)
      · replace hf := ite_f c27_3 hf
        refine T_aload dX9_read_30 rfl ?_
        refine X_getr dX9_read_31 lfX9_9 rfl ob6 rfl ?_
        refine T_aload dX9_read_34 rfl ?_
        refine X_getf dX9_read_35 lfX9_23 rfl ob6 ?_
        obtain ⟨hb38_4, hf⟩ := opt_t hf
        refine X_iald (N := 120) dX9_read_38 ar7 rfl hb38_4 ?_
        refine T_const dX9_read_39 ?_
        refine T_icmp_ne dX9_read_41 (fun c41_5 => ?_) (fun c41_5 => ?_)
        · replace hf := ite_f c41_5 hf
          exact X_wk (WK.s (WK.s WK.e)) (ke (l1, x) (Option.some.inj hf).symm)
        · replace hf := ite_t c41_5 hf
          refine T_aload dX9_read_44 rfl ?_
          refine T_dup dX9_read_45 rfl ?_
          refine X_getf dX9_read_46 lfX9_23 rfl ob6 ?_
          refine T_const dX9_read_49 ?_
          refine T_iadd dX9_read_50 ?_
          refine X_putf dX9_read_51 lfX9_23 rfl rfl ob6 ⟨rfl, rfl⟩ ?_
          refine T_aload dX9_read_54 rfl ?_
          obtain ⟨q55_6, hc55_6, hf⟩ := bind_t hf
          refine X_Vv (qX9_readLine Z _ hc55_6) (Nat.le_of_ble_eq_true rfl) dX9_read_55 lvX9_29 rfl rfl ob6 (Nat.le_of_ble_eq_true rfl) ?_
          refine T_istore dX9_read_58 ?_
          show TX _ _ _ _ _ _ _ _ [_, _] _
          refine T_goto dX9_read_59 ?_
          exact X_wk (WK.s (WK.s WK.e)) (ih _ _ hf ke)
theorem qX9_read (Z : aZ) (y : aH) {x : aH} {q : (Int32 × aH)} (hf : fX9_read x = some q) : CX true Z mX9_read 131 [.ref 6] y x (RV (.int q.1) q.2) := by
  refine CX.of mokX9_read (Nat.le_of_ble_eq_true rfl) ?_
  show TX _ _ _ _ _ _ _ _ [_, _] _
  delta fX9_read at hf
  refine T_aload dX9_read_0 rfl ?_
  refine T_const dX9_read_1 ?_
  refine X_putf dX9_read_2 lfX9_23 rfl rfl ob6 ⟨rfl, rfl⟩ ?_
  refine T_aload dX9_read_5 rfl ?_
  refine T_const dX9_read_6 ?_
  refine X_putf dX9_read_7 lfX9_26 rfl rfl ob6 ⟨rfl, rfl⟩ ?_
  refine T_aload dX9_read_10 rfl ?_
  obtain ⟨q11_1, hc11_1, hf⟩ := bind_t hf
  refine X_Vv (qX9_readLine Z _ hc11_1) (Nat.le_of_ble_eq_true rfl) dX9_read_11 lvX9_29 rfl rfl ob6 (Nat.le_of_ble_eq_true rfl) ?_
  refine T_istore dX9_read_14 ?_
  show TX _ _ _ _ _ _ _ _ [_, _] _
  obtain ⟨q15_7, hc15_7, hf⟩ := bind_t hf
  refine X_wk (WK.s (WK.s WK.e)) (lX9_read_15 Z _ 2000 _ _ hc15_7 ?_)
  intro q15_7z hr
  subst hr
  refine T_iload dX9_read_62 rfl ?_
  refine T_if_eq dX9_read_63 (fun c63_8 => ?_) (fun c63_8 => ?_)
  · replace hf := ite_t c63_8 hf
    refine T_const dX9_read_81 ?_
    obtain rfl := Option.some.inj hf
    exact X_rz dX9_read_82 (by first | exact Or.inl rfl | exact Or.inr rfl) ⟨rfl, rfl⟩
  · replace hf := ite_f c63_8 hf
    refine T_aload dX9_read_66 rfl ?_
    refine X_getf dX9_read_67 lfX9_23 rfl ob6 ?_
    refine T_aload dX9_read_70 rfl ?_
    refine X_getf dX9_read_71 lfX9_19 rfl ob6 ?_
    refine T_icmp_ne dX9_read_74 (fun c74_9 => ?_) (fun c74_9 => ?_)
    · replace hf := ite_f c74_9 hf
      refine T_const dX9_read_81 ?_
      obtain rfl := Option.some.inj hf
      exact X_rz dX9_read_82 (by first | exact Or.inl rfl | exact Or.inr rfl) ⟨rfl, rfl⟩
    · replace hf := ite_t c74_9 hf
      refine T_const dX9_read_77 ?_
      refine T_goto dX9_read_78 ?_
      obtain rfl := Option.some.inj hf
      exact X_rz dX9_read_82 (by first | exact Or.inl rfl | exact Or.inr rfl) ⟨rfl, rfl⟩
