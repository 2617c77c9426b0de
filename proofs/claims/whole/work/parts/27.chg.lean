/-! ===== Changes; Acts' small methods ===== -/
theorem c_isKept (Z : aZ) (d : Nat) (h : aH) (i : Int32) : C0 Z mX1_isKept d [.ref 52, .int i] h (PV h (.int (bI (0 ≤ i ∧ i < fi h 52 5)))) := by
  refine C0.of mokX1_isKept (Nat.le_of_ble_eq_true rfl) ?_
  show T0 _ _ _ _ _ _ [_, _] _
  refine T_iload dX1_isKept_0 rfl ?_
  refine T_if_lt dX1_isKept_1 (fun c1 => ?_) (fun c1 => ?_)
  · refine T_const dX1_isKept_16 ?_
    exact T0_iretz dX1_isKept_17 (by first | exact Or.inl rfl | exact Or.inr rfl) ⟨by first | rw [bI_t (And.intro (Int32.not_lt.mp c1) (Int32.not_le.mp c9))] | rw [bI_f (fun (z : _ ∧ _) => Int32.not_le.mpr c1 z.1)] | rw [bI_f (fun (z : _ ∧ _) => Int32.not_lt.mpr c9 z.2)], rfl⟩
  · refine T_iload dX1_isKept_4 rfl ?_
    refine T_aload dX1_isKept_5 rfl ?_
    refine T_getfN (by first | assumption | rfl) dX1_isKept_6 lfX1_22 rfl rfl (by decide) ?_
    refine T_icmp_ge dX1_isKept_9 (fun c9 => ?_) (fun c9 => ?_)
    · refine T_const dX1_isKept_16 ?_
      exact T0_iretz dX1_isKept_17 (by first | exact Or.inl rfl | exact Or.inr rfl) ⟨by first | rw [bI_t (And.intro (Int32.not_lt.mp c1) (Int32.not_le.mp c9))] | rw [bI_f (fun (z : _ ∧ _) => Int32.not_le.mpr c1 z.1)] | rw [bI_f (fun (z : _ ∧ _) => Int32.not_lt.mpr c9 z.2)], rfl⟩
    · refine T_const dX1_isKept_12 ?_
      refine T_goto dX1_isKept_13 ?_
      exact T0_iretz dX1_isKept_17 (by first | exact Or.inl rfl | exact Or.inr rfl) ⟨by first | rw [bI_t (And.intro (Int32.not_lt.mp c1) (Int32.not_le.mp c9))] | rw [bI_f (fun (z : _ ∧ _) => Int32.not_le.mpr c1 z.1)] | rw [bI_f (fun (z : _ ∧ _) => Int32.not_lt.mpr c9 z.2)], rfl⟩
/-- one row of the changes with its first one dropped -/
def dropR (f : Nat → Int32) : Nat → Int32 := va_cpy f f 1 0 39
theorem c_dropOldest (Z : aZ) (d : Nat) (h : aH) : C0 Z mX1_dropOldest d [.ref 52] h (fun r h' => r = none ∧ h' = sfi (srow (srow (srow (srow h 53 (dropR (ri h 53))) 54 (dropR (ri h 54))) 55 (dropR (ri h 55))) 56 (dropR (ri h 56))) 52 4 39) := by
  refine C0.of mokX1_dropOldest (Nat.le_of_ble_eq_true rfl) ?_
  show T0 _ _ _ _ _ _ [_] _
  refine T_aload dX1_dropOldest_0 rfl ?_
  refine T_getr dX1_dropOldest_1 lfX1_9 rfl rfl (by decide) rfl ?_
  refine T_const dX1_dropOldest_4 ?_
  refine T_aload dX1_dropOldest_5 rfl ?_
  refine T_getr dX1_dropOldest_6 lfX1_9 rfl rfl (by decide) rfl ?_
  refine T_const dX1_dropOldest_9 ?_
  refine T_const dX1_dropOldest_10 ?_
  refine T_copyiN (N0 := 40) (N1 := 40) (p := 1) (q := 0) (k := 39) dX1_dropOldest_12 lcX1_32 rfl (by decide) rfl rfl (by decide) rfl rfl rfl rfl (by omega) (by omega) (by decide) (by decide) (Nat.le_of_ble_eq_true rfl) ?_
  refine T_aload dX1_dropOldest_15 rfl ?_
  refine T_getr dX1_dropOldest_16 lfX1_13 rfl rfl (by decide) rfl ?_
  refine T_const dX1_dropOldest_19 ?_
  refine T_aload dX1_dropOldest_20 rfl ?_
  refine T_getr dX1_dropOldest_21 lfX1_13 rfl rfl (by decide) rfl ?_
  refine T_const dX1_dropOldest_24 ?_
  refine T_const dX1_dropOldest_25 ?_
  refine T_copyiN (N0 := 40) (N1 := 40) (p := 1) (q := 0) (k := 39) dX1_dropOldest_27 lcX1_32 rfl (by decide) rfl rfl (by decide) rfl rfl rfl rfl (by omega) (by omega) (by decide) (by decide) (Nat.le_of_ble_eq_true rfl) ?_
  refine T_aload dX1_dropOldest_30 rfl ?_
  refine T_getr dX1_dropOldest_31 lfX1_16 rfl rfl (by decide) rfl ?_
  refine T_const dX1_dropOldest_34 ?_
  refine T_aload dX1_dropOldest_35 rfl ?_
  refine T_getr dX1_dropOldest_36 lfX1_16 rfl rfl (by decide) rfl ?_
  refine T_const dX1_dropOldest_39 ?_
  refine T_const dX1_dropOldest_40 ?_
  refine T_copyiN (N0 := 40) (N1 := 40) (p := 1) (q := 0) (k := 39) dX1_dropOldest_42 lcX1_32 rfl (by decide) rfl rfl (by decide) rfl rfl rfl rfl (by omega) (by omega) (by decide) (by decide) (Nat.le_of_ble_eq_true rfl) ?_
  refine T_aload dX1_dropOldest_45 rfl ?_
  refine T_getr dX1_dropOldest_46 lfX1_19 rfl rfl (by decide) rfl ?_
  refine T_const dX1_dropOldest_49 ?_
  refine T_aload dX1_dropOldest_50 rfl ?_
  refine T_getr dX1_dropOldest_51 lfX1_19 rfl rfl (by decide) rfl ?_
  refine T_const dX1_dropOldest_54 ?_
  refine T_const dX1_dropOldest_55 ?_
  refine T_copyiN (N0 := 40) (N1 := 40) (p := 1) (q := 0) (k := 39) dX1_dropOldest_57 lcX1_32 rfl (by decide) rfl rfl (by decide) rfl rfl rfl rfl (by omega) (by omega) (by decide) (by decide) (Nat.le_of_ble_eq_true rfl) ?_
  refine T_aload dX1_dropOldest_60 rfl ?_
  refine T_const dX1_dropOldest_61 ?_
  refine T_putf dX1_dropOldest_63 lfX1_26 rfl rfl rfl (by decide) ⟨rfl, rfl⟩ ?_
  exact T0_vret dX1_dropOldest_66 ⟨rfl, rfl⟩
theorem c_chAdd0 (Z : aZ) (d : Nat) (h : aH) {k : Nat} (hk : k < 40) (h4 : fi h 52 4 = nI k) (a b c e : Int32) : T0 Z mX1_add (d + 1) h (fun r h' => r = none ∧ fi h' = fi (sfi (sfi h 52 4 (nI (k + 1))) 52 5 (nI (k + 1))) ∧ ri h' = ri (sri (sri (sri (sri h 53 k a) 54 k b) 55 k c) 56 k e) ∧ rj h' = rj h) 13 [.ref 52, .int a, .int b, .int c, .int e] [] := by
  have e1 : fi (sri h 53 k a) 52 4 = nI k := h4
  have e2 : fi (sri (sri h 53 k a) 54 k b) 52 4 = nI k := h4
  have e3 : fi (sri (sri (sri h 53 k a) 54 k b) 55 k c) 52 4 = nI k := h4
  have e4 : fi (sri (sri (sri (sri h 53 k a) 54 k b) 55 k c) 56 k e) 52 4 = nI k := h4
  refine T_aload dX1_add_13 rfl ?_
  refine T_getr dX1_add_14 lfX1_9 rfl rfl (by decide) rfl ?_
  refine T_aload dX1_add_17 rfl ?_
  refine T_getfN (by first | assumption | rfl) dX1_add_18 lfX1_26 rfl rfl (by decide) ?_
  refine T_iload dX1_add_21 rfl ?_
  refine T_iastN (N := 40) dX1_add_22 rfl (by decide) rfl rfl (by omega) (by decide) ?_
  refine T_aload dX1_add_23 rfl ?_
  refine T_getr dX1_add_24 lfX1_13 rfl rfl (by decide) rfl ?_
  refine T_aload dX1_add_27 rfl ?_
  refine T_getfN (by first | assumption | rfl) dX1_add_28 lfX1_26 rfl rfl (by decide) ?_
  refine T_iload dX1_add_31 rfl ?_
  refine T_iastN (N := 40) dX1_add_32 rfl (by decide) rfl rfl (by omega) (by decide) ?_
  refine T_aload dX1_add_33 rfl ?_
  refine T_getr dX1_add_34 lfX1_16 rfl rfl (by decide) rfl ?_
  refine T_aload dX1_add_37 rfl ?_
  refine T_getfN (by first | assumption | rfl) dX1_add_38 lfX1_26 rfl rfl (by decide) ?_
  refine T_iload dX1_add_41 rfl ?_
  refine T_iastN (N := 40) dX1_add_42 rfl (by decide) rfl rfl (by omega) (by decide) ?_
  refine T_aload dX1_add_43 rfl ?_
  refine T_getr dX1_add_44 lfX1_19 rfl rfl (by decide) rfl ?_
  refine T_aload dX1_add_47 rfl ?_
  refine T_getfN (by first | assumption | rfl) dX1_add_48 lfX1_26 rfl rfl (by decide) ?_
  refine T_iload dX1_add_51 rfl ?_
  refine T_iastN (N := 40) dX1_add_53 rfl (by decide) rfl rfl (by omega) (by decide) ?_
  refine T_aload dX1_add_54 rfl ?_
  refine T_dup dX1_add_55 rfl ?_
  refine T_getfN (by first | assumption | rfl) dX1_add_56 lfX1_26 rfl rfl (by decide) ?_
  refine T_const dX1_add_59 ?_
  refine T_iadd dX1_add_60 ?_
  rw [nI_1]
  have e5 : fi (sfi (sri (sri (sri (sri h 53 k a) 54 k b) 55 k c) 56 k e) 52 4 (nI (k + 1))) 52 4 = nI (k + 1) := fi_sfi_at
  refine T_putf dX1_add_61 lfX1_26 rfl rfl rfl (by decide) ⟨rfl, rfl⟩ ?_
  refine T_aload dX1_add_64 rfl ?_
  refine T_aload dX1_add_65 rfl ?_
  refine T_getfN (by first | assumption | rfl) dX1_add_66 lfX1_26 rfl rfl (by decide) ?_
  refine T_putf dX1_add_69 lfX1_22 rfl rfl rfl (by decide) ⟨rfl, rfl⟩ ?_
  exact T0_vret dX1_add_72 ⟨rfl, rfl, rfl, rfl⟩
theorem c_chAdd (Z : aZ) (d : Nat) (h : aH) {k : Nat} (hk : k < 40) (h4 : fi h 52 4 = nI k) (a b c e : Int32) : C0 Z mX1_add (d + 1) [.ref 52, .int a, .int b, .int c, .int e] h (fun r h' => r = none ∧ fi h' = fi (sfi (sfi h 52 4 (nI (k + 1))) 52 5 (nI (k + 1))) ∧ ri h' = ri (sri (sri (sri (sri h 53 k a) 54 k b) 55 k c) 56 k e) ∧ rj h' = rj h) := by
  refine C0.of mokX1_add (Nat.le_of_ble_eq_true rfl) ?_
  show T0 _ _ _ _ _ _ [_, _, _, _, _] _
  refine T_aload dX1_add_0 rfl ?_
  refine T_getfN (by first | assumption | rfl) dX1_add_1 lfX1_26 rfl rfl (by decide) ?_
  refine T_const dX1_add_4 ?_
  refine T_icmp_lt dX1_add_6 (fun c6 => ?_) (fun c6 => by first | exact absurd c6 ((by rw [show (40 : Int32) = nI 40 from rfl, nI_lt' (by omega) (by omega)]; exact hk)) | exact absurd ((by rw [show (40 : Int32) = nI 40 from rfl, nI_lt' (by omega) (by omega)]; exact hk)) c6)
  exact c_chAdd0 Z d h hk h4 a b c e
theorem c_chAddFull (Z : aZ) (d : Nat) (h : aH) (h4 : fi h 52 4 = nI 40) (a b c e : Int32) : C0 Z mX1_add (d + 1) [.ref 52, .int a, .int b, .int c, .int e] h (fun r h' => r = none ∧ fi h' = fi (sfi (sfi (sfi h 52 4 39) 52 4 (nI 40)) 52 5 (nI 40)) ∧ ri h' = ri (sri (sri (sri (sri (srow (srow (srow (srow h 53 (dropR (ri h 53))) 54 (dropR (ri h 54))) 55 (dropR (ri h 55))) 56 (dropR (ri h 56))) 53 39 a) 54 39 b) 55 39 c) 56 39 e) ∧ rj h' = rj h) := by
  refine C0.of mokX1_add (Nat.le_of_ble_eq_true rfl) ?_
  show T0 _ _ _ _ _ _ [_, _, _, _, _] _
  refine T_aload dX1_add_0 rfl ?_
  refine T_getfN (by first | assumption | rfl) dX1_add_1 lfX1_26 rfl rfl (by decide) ?_
  refine T_const dX1_add_4 ?_
  refine T_icmp_lt dX1_add_6 (fun c6 => by first | exact absurd c6 ((by decide)) | exact absurd ((by decide)) c6) (fun c6 => ?_)
  refine T_aload dX1_add_9 rfl ?_
  refine T0_V (c_dropOldest Z d h) dX1_add_10 lvX1_29 rfl rfl rfl (by decide) (Nat.le_of_ble_eq_true rfl) (fun r h1 q => ?_)
  obtain ⟨rfl, rfl⟩ := q
  exact c_chAdd0 Z d _ (k := 39) (by decide) rfl a b c e
theorem c_aIsKind (Z : aZ) (d : Nat) (h : aH) (k : Int32) : C0 Z mX0_isKind d [.ref 57, .int k] h (PV h (.int (bI (0 ≤ k ∧ k < 8)))) := by
  refine C0.of mokX0_isKind (Nat.le_of_ble_eq_true rfl) ?_
  show T0 _ _ _ _ _ _ [_, _] _
  refine T_iload dX0_isKind_0 rfl ?_
  refine T_if_lt dX0_isKind_1 (fun c1 => ?_) (fun c1 => ?_)
  · refine T_const dX0_isKind_14 ?_
    exact T0_iretz dX0_isKind_15 (by first | exact Or.inl rfl | exact Or.inr rfl) ⟨by first | rw [bI_t (And.intro (Int32.not_lt.mp c1) (Int32.not_le.mp c7))] | rw [bI_f (fun (z : _ ∧ _) => Int32.not_le.mpr c1 z.1)] | rw [bI_f (fun (z : _ ∧ _) => Int32.not_lt.mpr c7 z.2)], rfl⟩
  · refine T_iload dX0_isKind_4 rfl ?_
    refine T_const dX0_isKind_5 ?_
    refine T_icmp_ge dX0_isKind_7 (fun c7 => ?_) (fun c7 => ?_)
    · refine T_const dX0_isKind_14 ?_
      exact T0_iretz dX0_isKind_15 (by first | exact Or.inl rfl | exact Or.inr rfl) ⟨by first | rw [bI_t (And.intro (Int32.not_lt.mp c1) (Int32.not_le.mp c7))] | rw [bI_f (fun (z : _ ∧ _) => Int32.not_le.mpr c1 z.1)] | rw [bI_f (fun (z : _ ∧ _) => Int32.not_lt.mpr c7 z.2)], rfl⟩
    · refine T_const dX0_isKind_10 ?_
      refine T_goto dX0_isKind_11 ?_
      exact T0_iretz dX0_isKind_15 (by first | exact Or.inl rfl | exact Or.inr rfl) ⟨by first | rw [bI_t (And.intro (Int32.not_lt.mp c1) (Int32.not_le.mp c7))] | rw [bI_f (fun (z : _ ∧ _) => Int32.not_le.mpr c1 z.1)] | rw [bI_f (fun (z : _ ∧ _) => Int32.not_lt.mpr c7 z.2)], rfl⟩
theorem c_aIsBody (Z : aZ) (d : Nat) (h : aH) (k : Int32) : C0 Z mX0_isBody d [.ref 57, .int k] h (PV h (.int (bI (0 ≤ k ∧ k < fi h 57 1)))) := by
  refine C0.of mokX0_isBody (Nat.le_of_ble_eq_true rfl) ?_
  show T0 _ _ _ _ _ _ [_, _] _
  refine T_iload dX0_isBody_0 rfl ?_
  refine T_if_lt dX0_isBody_1 (fun c1 => ?_) (fun c1 => ?_)
  · refine T_const dX0_isBody_16 ?_
    exact T0_iretz dX0_isBody_17 (by first | exact Or.inl rfl | exact Or.inr rfl) ⟨by first | rw [bI_t (And.intro (Int32.not_lt.mp c1) (Int32.not_le.mp c9))] | rw [bI_f (fun (z : _ ∧ _) => Int32.not_le.mpr c1 z.1)] | rw [bI_f (fun (z : _ ∧ _) => Int32.not_lt.mpr c9 z.2)], rfl⟩
  · refine T_iload dX0_isBody_4 rfl ?_
    refine T_aload dX0_isBody_5 rfl ?_
    refine T_getfN (by first | assumption | rfl) dX0_isBody_6 lfX0_16 rfl rfl (by decide) ?_
    refine T_icmp_ge dX0_isBody_9 (fun c9 => ?_) (fun c9 => ?_)
    · refine T_const dX0_isBody_16 ?_
      exact T0_iretz dX0_isBody_17 (by first | exact Or.inl rfl | exact Or.inr rfl) ⟨by first | rw [bI_t (And.intro (Int32.not_lt.mp c1) (Int32.not_le.mp c9))] | rw [bI_f (fun (z : _ ∧ _) => Int32.not_le.mpr c1 z.1)] | rw [bI_f (fun (z : _ ∧ _) => Int32.not_lt.mpr c9 z.2)], rfl⟩
    · refine T_const dX0_isBody_12 ?_
      refine T_goto dX0_isBody_13 ?_
      exact T0_iretz dX0_isBody_17 (by first | exact Or.inl rfl | exact Or.inr rfl) ⟨by first | rw [bI_t (And.intro (Int32.not_lt.mp c1) (Int32.not_le.mp c9))] | rw [bI_f (fun (z : _ ∧ _) => Int32.not_le.mpr c1 z.1)] | rw [bI_f (fun (z : _ ∧ _) => Int32.not_lt.mpr c9 z.2)], rfl⟩
theorem c_aIsFull (Z : aZ) (d : Nat) (h : aH) : C0 Z mX0_isFull d [.ref 57] h (PV h (.int (bI (50 ≤ fi h 57 1)))) := by
  refine C0.of mokX0_isFull (Nat.le_of_ble_eq_true rfl) ?_
  show T0 _ _ _ _ _ _ [_] _
  refine T_aload dX0_isFull_0 rfl ?_
  refine T_getfN (by first | assumption | rfl) dX0_isFull_1 lfX0_16 rfl rfl (by decide) ?_
  refine T_const dX0_isFull_4 ?_
  refine T_icmp_lt dX0_isFull_6 (fun c6 => ?_) (fun c6 => ?_)
  · refine T_const dX0_isFull_13 ?_
    exact T0_iretz dX0_isFull_14 (by first | exact Or.inl rfl | exact Or.inr rfl) ⟨by first | rw [bI_t (Int32.not_lt.mp c6)] | rw [bI_f (Int32.not_le.mpr c6)], rfl⟩
  · refine T_const dX0_isFull_9 ?_
    refine T_goto dX0_isFull_10 ?_
    exact T0_iretz dX0_isFull_14 (by first | exact Or.inl rfl | exact Or.inr rfl) ⟨by first | rw [bI_t (Int32.not_lt.mp c6)] | rw [bI_f (Int32.not_le.mpr c6)], rfl⟩
theorem c_aIsTraced (Z : aZ) (d : Nat) (h : aH) (i : Int32) : C0 Z mX0_isTraced d [.ref 57, .int i] h (PV h (.int (bI (0 ≤ i ∧ i < fi h 57 3 ∧ i < 24)))) := by
  refine C0.of mokX0_isTraced (Nat.le_of_ble_eq_true rfl) ?_
  show T0 _ _ _ _ _ _ [_, _] _
  refine T_iload dX0_isTraced_0 rfl ?_
  refine T_if_lt dX0_isTraced_1 (fun c1 => ?_) (fun c1 => ?_)
  · refine T_const dX0_isTraced_22 ?_
    exact T0_iretz dX0_isTraced_23 (by first | exact Or.inl rfl | exact Or.inr rfl) ⟨by first | rw [bI_t (And.intro (Int32.not_lt.mp c1) (And.intro (Int32.not_le.mp c9) (Int32.not_le.mp c15)))] | rw [bI_f (fun (z : _ ∧ _) => Int32.not_le.mpr c1 z.1)] | rw [bI_f (fun (z : _ ∧ _ ∧ _) => Int32.not_lt.mpr c9 z.2.1)] | rw [bI_f (fun (z : _ ∧ _ ∧ _) => Int32.not_lt.mpr c15 z.2.2)], rfl⟩
  · refine T_iload dX0_isTraced_4 rfl ?_
    refine T_aload dX0_isTraced_5 rfl ?_
    refine T_getfN (by first | assumption | rfl) dX0_isTraced_6 lfX0_20 rfl rfl (by decide) ?_
    refine T_icmp_ge dX0_isTraced_9 (fun c9 => ?_) (fun c9 => ?_)
    · refine T_const dX0_isTraced_22 ?_
      exact T0_iretz dX0_isTraced_23 (by first | exact Or.inl rfl | exact Or.inr rfl) ⟨by first | rw [bI_t (And.intro (Int32.not_lt.mp c1) (And.intro (Int32.not_le.mp c9) (Int32.not_le.mp c15)))] | rw [bI_f (fun (z : _ ∧ _) => Int32.not_le.mpr c1 z.1)] | rw [bI_f (fun (z : _ ∧ _ ∧ _) => Int32.not_lt.mpr c9 z.2.1)] | rw [bI_f (fun (z : _ ∧ _ ∧ _) => Int32.not_lt.mpr c15 z.2.2)], rfl⟩
    · refine T_iload dX0_isTraced_12 rfl ?_
      refine T_const dX0_isTraced_13 ?_
      refine T_icmp_ge dX0_isTraced_15 (fun c15 => ?_) (fun c15 => ?_)
      · refine T_const dX0_isTraced_22 ?_
        exact T0_iretz dX0_isTraced_23 (by first | exact Or.inl rfl | exact Or.inr rfl) ⟨by first | rw [bI_t (And.intro (Int32.not_lt.mp c1) (And.intro (Int32.not_le.mp c9) (Int32.not_le.mp c15)))] | rw [bI_f (fun (z : _ ∧ _) => Int32.not_le.mpr c1 z.1)] | rw [bI_f (fun (z : _ ∧ _ ∧ _) => Int32.not_lt.mpr c9 z.2.1)] | rw [bI_f (fun (z : _ ∧ _ ∧ _) => Int32.not_lt.mpr c15 z.2.2)], rfl⟩
      · refine T_const dX0_isTraced_18 ?_
        refine T_goto dX0_isTraced_19 ?_
        exact T0_iretz dX0_isTraced_23 (by first | exact Or.inl rfl | exact Or.inr rfl) ⟨by first | rw [bI_t (And.intro (Int32.not_lt.mp c1) (And.intro (Int32.not_le.mp c9) (Int32.not_le.mp c15)))] | rw [bI_f (fun (z : _ ∧ _) => Int32.not_le.mpr c1 z.1)] | rw [bI_f (fun (z : _ ∧ _ ∧ _) => Int32.not_lt.mpr c9 z.2.1)] | rw [bI_f (fun (z : _ ∧ _ ∧ _) => Int32.not_lt.mpr c15 z.2.2)], rfl⟩
theorem c_aAdd (Z : aZ) (d : Nat) (h : aH) {n : Nat} (hn : n < 50) (h1 : fi h 57 1 = nI n) (k : Int32) : C0 Z mX0_add d [.ref 57, .int k] h (fun r h' => r = some (.int (nI n)) ∧ h' = sfi (sri h 58 n k) 57 1 (nI (n + 1))) := by
  refine C0.of mokX0_add (Nat.le_of_ble_eq_true rfl) ?_
  show T0 _ _ _ _ _ _ [_, _] _
  have e1 : fi (sri h 58 n k) 57 1 = nI n := h1
  refine T_aload dX0_add_0 rfl ?_
  refine T_getr dX0_add_1 lfX0_9 rfl rfl (by decide) rfl ?_
  refine T_aload dX0_add_4 rfl ?_
  refine T_getfN (by first | assumption | rfl) dX0_add_5 lfX0_16 rfl rfl (by decide) ?_
  refine T_iload dX0_add_8 rfl ?_
  refine T_iastN (N := 50) dX0_add_9 rfl (by decide) rfl rfl (by omega) (by decide) ?_
  refine T_aload dX0_add_10 rfl ?_
  refine T_dup dX0_add_11 rfl ?_
  refine T_getfN (by first | assumption | rfl) dX0_add_12 lfX0_16 rfl rfl (by decide) ?_
  refine T_const dX0_add_15 ?_
  refine T_iadd dX0_add_16 ?_
  rw [nI_1]
  have e2 : fi (sfi (sri h 58 n k) 57 1 (nI (n + 1))) 57 1 = nI (n + 1) := fi_sfi_at
  refine T_putf dX0_add_17 lfX0_16 rfl rfl rfl (by decide) ⟨rfl, rfl⟩ ?_
  refine T_aload dX0_add_20 rfl ?_
  refine T_getfN (by first | assumption | rfl) dX0_add_21 lfX0_16 rfl rfl (by decide) ?_
  refine T_const dX0_add_24 ?_
  refine T_isub dX0_add_25 ?_
  rw [nI_pred]
  exact T0_ireti dX0_add_26 ⟨rfl, rfl⟩
/-- ABOVE -/
def abvL : List Int := [-1, 0, 0, 2, 1, 3, 0, 4]
/-- k or one above it -/
def undF : Nat → Int → Nat → Bool
  | 0, _, _ => false
  | n + 1, i, k => if 0 ≤ i then (if i = (k : Int) then true else undF n (abvL.getD i.toNat 0) k) else false
theorem roC4 (Z : aZ) (i : Nat) : roC Z 4 i = iI (abvL.getD i 0) := rfl
theorem c_isUnder_loop (Z : aZ) (d : Nat) (h : aH) {kd0 : Int32} {k : Nat} (hk : k < 8) (Q : Option Value → aH → Prop) :
    ∀ n i (x : Int), i + n = 8 → -1 ≤ x → x < 8 → Q (some (.int (bI (undF n x k = true)))) h → T0 Z mX0_isUnder d h Q 5 [.ref 57, .int kd0, .int (nI k), .int (iI x), .int (nI i)] [] := by
  intro n
  induction n with
  | zero =>
    intro i x hi h1 h2 hq
    obtain rfl : i = 8 := by omega
    rw [bI_f (by unfold undF; decide)] at hq
    refine T_iload dX0_isUnder_5 rfl ?_
    refine T_const dX0_isUnder_7 ?_
    refine T_icmp_ge dX0_isUnder_9 (fun c9 => ?_) (fun c9 => by first | exact absurd c9 (by decide) | exact absurd (by decide) c9)
    refine T_const dX0_isUnder_35 ?_
    exact T0_iretz dX0_isUnder_36 (by first | exact Or.inl rfl | exact Or.inr rfl) hq
  | succ n ih =>
    intro i x hi h1 h2 hq
    have hu : undF (n + 1) x k = if 0 ≤ x then (if x = (k : Int) then true else undF n (abvL.getD x.toNat 0) k) else false := rfl
    rw [hu] at hq
    refine T_iload dX0_isUnder_5 rfl ?_
    refine T_const dX0_isUnder_7 ?_
    refine T_icmp_ge dX0_isUnder_9 (fun c9 => by first | exact absurd c9 ((by rw [show (8 : Int32) = nI 8 from rfl, nI_le' (by omega) (by omega)]; omega)) | exact absurd ((by rw [show (8 : Int32) = nI 8 from rfl, nI_le' (by omega) (by omega)]; omega)) c9) (fun c9 => ?_)
    refine T_iload dX0_isUnder_12 rfl ?_
    refine T_if_lt dX0_isUnder_13 (fun c13 => ?_) (fun c13 => ?_)
    · rw [iI_0, iI_lt (by omega) (by omega) (by omega) (by omega)] at c13
      rw [if_neg (by omega), bI_f (by decide)] at hq
      refine T_const dX0_isUnder_35 ?_
      exact T0_iretz dX0_isUnder_36 (by first | exact Or.inl rfl | exact Or.inr rfl) hq
    · rw [iI_0, iI_lt (by omega) (by omega) (by omega) (by omega)] at c13
      rw [if_pos (by omega)] at hq
      refine T_iload dX0_isUnder_16 rfl ?_
      refine T_iload dX0_isUnder_17 rfl ?_
      rw [nI_iI k]
      refine T_icmp_ne dX0_isUnder_18 (fun c18 => ?_) (fun c18 => ?_)
      · rw [iI_eq (by omega) (by omega) (by omega) (by omega)] at c18
        rw [if_neg c18] at hq
        refine T_gets dX0_isUnder_23 lgX0_23 ?_
        refine T_iload dX0_isUnder_26 rfl ?_
        refine T_ialdSN (N := 8) (i := x.toNat) dX0_isUnder_27 (by decide) rfl (iI_nI (by omega)) (by omega) (by decide) ?_
        rw [roC4]
        rw [← nI_iI k]
        have hb : ∀ j : Nat, j < 8 → -1 ≤ abvL.getD j 0 ∧ abvL.getD j 0 < 8 := by decide
        have hb := hb x.toNat (by omega)
        refine T_istore dX0_isUnder_28 ?_
        show TK _ _ _ _ _ _ _ _ _ [_, _, _, _, _] _
        first | refine T_iinc1 dX0_isUnder_29 rfl ?_ | refine T_iinc dX0_isUnder_29 rfl ?_
        show TK _ _ _ _ _ _ _ _ _ [_, _, _, _, _] _
        refine T_goto dX0_isUnder_32 ?_
        exact ih (i + 1) _ (by omega) hb.1 hb.2 hq
      · rw [iI_eq (by omega) (by omega) (by omega) (by omega)] at c18
        rw [if_pos c18, bI_t rfl] at hq
        refine T_const dX0_isUnder_21 ?_
        exact T0_iretz dX0_isUnder_22 (Or.inr rfl) hq
theorem c_isUnder (Z : aZ) (d : Nat) (h : aH) {x k : Nat} (hx : x < 8) (hk : k < 8) : C0 Z mX0_isUnder d [.ref 57, .int (nI x), .int (nI k)] h (PV h (.int (bI (undF 8 x k = true)))) := by
  refine C0.of mokX0_isUnder (Nat.le_of_ble_eq_true rfl) ?_
  show T0 _ _ _ _ _ _ [_, _, _, _, _] _
  refine T_iload dX0_isUnder_0 rfl ?_
  refine T_istore dX0_isUnder_1 ?_
  show TK _ _ _ _ _ _ _ _ _ [_, _, _, _, _] _
  refine T_const dX0_isUnder_2 ?_
  refine T_istore dX0_isUnder_3 ?_
  show TK _ _ _ _ _ _ _ _ _ [_, _, _, _, _] _
  have := c_isUnder_loop Z d h (kd0 := nI x) hk (PV h (.int (bI (undF 8 x k = true)))) 8 0 x (by omega) (by omega) (by omega) ⟨rfl, rfl⟩
  rw [← nI_iI] at this
  exact this
