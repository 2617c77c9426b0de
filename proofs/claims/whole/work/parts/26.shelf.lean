/-! ===== Shelf ===== -/
theorem c_isEmpty (Z : aZ) (d : Nat) (h : aH) {a : Nat} (hA : SH a) : C0 Z mX7_isEmpty d [.ref a] h (PV h (.int (bI (fi h a 1 = -1 ∧ fi h a 3 = -1)))) := by
  refine C0.of mokX7_isEmpty (Nat.le_of_ble_eq_true rfl) ?_
  show T0 _ _ _ _ _ _ [_] _
  refine T_aload dX7_isEmpty_0 rfl ?_
  refine T_getfN (by first | assumption | rfl) dX7_isEmpty_1 lfX7_13 rfl (SH.kd0 hA) (SH.nx0 hA) ?_
  refine T_const dX7_isEmpty_4 ?_
  refine T_icmp_ne dX7_isEmpty_5 (fun c5 => ?_) (fun c5 => ?_)
  · refine T_const dX7_isEmpty_20 ?_
    exact T0_iretz dX7_isEmpty_21 (by first | exact Or.inl rfl | exact Or.inr rfl) ⟨by first | rw [bI_t (And.intro c5 c13)] | rw [bI_f (fun (z : _ ∧ _) => c5 z.1)] | rw [bI_f (fun (z : _ ∧ _) => c13 z.2)], rfl⟩
  · refine T_aload dX7_isEmpty_8 rfl ?_
    refine T_getfN (by first | assumption | rfl) dX7_isEmpty_9 lfX7_17 rfl (SH.kd0 hA) (SH.nx0 hA) ?_
    refine T_const dX7_isEmpty_12 ?_
    refine T_icmp_ne dX7_isEmpty_13 (fun c13 => ?_) (fun c13 => ?_)
    · refine T_const dX7_isEmpty_20 ?_
      exact T0_iretz dX7_isEmpty_21 (by first | exact Or.inl rfl | exact Or.inr rfl) ⟨by first | rw [bI_t (And.intro c5 c13)] | rw [bI_f (fun (z : _ ∧ _) => c5 z.1)] | rw [bI_f (fun (z : _ ∧ _) => c13 z.2)], rfl⟩
    · refine T_const dX7_isEmpty_16 ?_
      refine T_goto dX7_isEmpty_17 ?_
      exact T0_iretz dX7_isEmpty_21 (by first | exact Or.inl rfl | exact Or.inr rfl) ⟨by first | rw [bI_t (And.intro c5 c13)] | rw [bI_f (fun (z : _ ∧ _) => c5 z.1)] | rw [bI_f (fun (z : _ ∧ _) => c13 z.2)], rfl⟩
theorem c_isRow (Z : aZ) (d : Nat) (h : aH) {a : Nat} (hA : SH a) : C0 Z mX7_isRow d [.ref a] h (PV h (.int (bI (fi h a 1 ≠ -1)))) := by
  refine C0.of mokX7_isRow (Nat.le_of_ble_eq_true rfl) ?_
  show T0 _ _ _ _ _ _ [_] _
  refine T_aload dX7_isRow_0 rfl ?_
  refine T_getfN (by first | assumption | rfl) dX7_isRow_1 lfX7_13 rfl (SH.kd0 hA) (SH.nx0 hA) ?_
  refine T_const dX7_isRow_4 ?_
  refine T_icmp_eq dX7_isRow_5 (fun c5 => ?_) (fun c5 => ?_)
  · refine T_const dX7_isRow_12 ?_
    exact T0_iretz dX7_isRow_13 (by first | exact Or.inl rfl | exact Or.inr rfl) ⟨by first | rw [bI_t c5] | rw [bI_f (fun z => z c5)], rfl⟩
  · refine T_const dX7_isRow_8 ?_
    refine T_goto dX7_isRow_9 ?_
    exact T0_iretz dX7_isRow_13 (by first | exact Or.inl rfl | exact Or.inr rfl) ⟨by first | rw [bI_t c5] | rw [bI_f (fun z => z c5)], rfl⟩
theorem c_isRowOfBytes (Z : aZ) (d : Nat) (h : aH) {a : Nat} (hA : SH a) : C0 Z mX7_isRowOfBytes d [.ref a] h (PV h (.int (bI (fi h a 1 = 0)))) := by
  refine C0.of mokX7_isRowOfBytes (Nat.le_of_ble_eq_true rfl) ?_
  show T0 _ _ _ _ _ _ [_] _
  refine T_aload dX7_isRowOfBytes_0 rfl ?_
  refine T_getfN (by first | assumption | rfl) dX7_isRowOfBytes_1 lfX7_13 rfl (SH.kd0 hA) (SH.nx0 hA) ?_
  refine T_if_ne dX7_isRowOfBytes_4 (fun c4 => ?_) (fun c4 => ?_)
  · refine T_const dX7_isRowOfBytes_11 ?_
    exact T0_iretz dX7_isRowOfBytes_12 (by first | exact Or.inl rfl | exact Or.inr rfl) ⟨by first | rw [bI_t c4] | rw [bI_f c4], rfl⟩
  · refine T_const dX7_isRowOfBytes_7 ?_
    refine T_goto dX7_isRowOfBytes_8 ?_
    exact T0_iretz dX7_isRowOfBytes_12 (by first | exact Or.inl rfl | exact Or.inr rfl) ⟨by first | rw [bI_t c4] | rw [bI_f c4], rfl⟩
theorem c_hasPlaces (Z : aZ) (d : Nat) (h : aH) {a : Nat} (hA : SH a) (i n : Int32) : C0 Z mX7_hasPlaces d [.ref a, .int i, .int n] h (PV h (.int (bI (0 ≤ i ∧ 0 ≤ n ∧ n ≤ fi h a 2 ∧ i ≤ fi h a 2 - n)))) := by
  refine C0.of mokX7_hasPlaces (Nat.le_of_ble_eq_true rfl) ?_
  show T0 _ _ _ _ _ _ [_, _, _] _
  refine T_iload dX7_hasPlaces_0 rfl ?_
  refine T_if_lt dX7_hasPlaces_1 (fun c1 => ?_) (fun c1 => ?_)
  · refine T_const dX7_hasPlaces_30 ?_
    exact T0_iretz dX7_hasPlaces_31 (by first | exact Or.inl rfl | exact Or.inr rfl) ⟨by first | rw [bI_t (And.intro (Int32.not_lt.mp c1) (And.intro (Int32.not_lt.mp c5) (And.intro (Int32.not_lt.mp c13) (Int32.not_lt.mp c23))))] | rw [bI_f (fun (z : _ ∧ _) => Int32.not_le.mpr c1 z.1)] | rw [bI_f (fun (z : _ ∧ _ ∧ _) => Int32.not_le.mpr c5 z.2.1)] | rw [bI_f (fun (z : _ ∧ _ ∧ _ ∧ _) => Int32.not_le.mpr c13 z.2.2.1)] | rw [bI_f (fun (z : _ ∧ _ ∧ _ ∧ _) => Int32.not_le.mpr c23 z.2.2.2)], rfl⟩
  · refine T_iload dX7_hasPlaces_4 rfl ?_
    refine T_if_lt dX7_hasPlaces_5 (fun c5 => ?_) (fun c5 => ?_)
    · refine T_const dX7_hasPlaces_30 ?_
      exact T0_iretz dX7_hasPlaces_31 (by first | exact Or.inl rfl | exact Or.inr rfl) ⟨by first | rw [bI_t (And.intro (Int32.not_lt.mp c1) (And.intro (Int32.not_lt.mp c5) (And.intro (Int32.not_lt.mp c13) (Int32.not_lt.mp c23))))] | rw [bI_f (fun (z : _ ∧ _) => Int32.not_le.mpr c1 z.1)] | rw [bI_f (fun (z : _ ∧ _ ∧ _) => Int32.not_le.mpr c5 z.2.1)] | rw [bI_f (fun (z : _ ∧ _ ∧ _ ∧ _) => Int32.not_le.mpr c13 z.2.2.1)] | rw [bI_f (fun (z : _ ∧ _ ∧ _ ∧ _) => Int32.not_le.mpr c23 z.2.2.2)], rfl⟩
    · refine T_iload dX7_hasPlaces_8 rfl ?_
      refine T_aload dX7_hasPlaces_9 rfl ?_
      refine T_getfN (by first | assumption | rfl) dX7_hasPlaces_10 lfX7_20 rfl (SH.kd0 hA) (SH.nx0 hA) ?_
      refine T_icmp_gt dX7_hasPlaces_13 (fun c13 => ?_) (fun c13 => ?_)
      · refine T_const dX7_hasPlaces_30 ?_
        exact T0_iretz dX7_hasPlaces_31 (by first | exact Or.inl rfl | exact Or.inr rfl) ⟨by first | rw [bI_t (And.intro (Int32.not_lt.mp c1) (And.intro (Int32.not_lt.mp c5) (And.intro (Int32.not_lt.mp c13) (Int32.not_lt.mp c23))))] | rw [bI_f (fun (z : _ ∧ _) => Int32.not_le.mpr c1 z.1)] | rw [bI_f (fun (z : _ ∧ _ ∧ _) => Int32.not_le.mpr c5 z.2.1)] | rw [bI_f (fun (z : _ ∧ _ ∧ _ ∧ _) => Int32.not_le.mpr c13 z.2.2.1)] | rw [bI_f (fun (z : _ ∧ _ ∧ _ ∧ _) => Int32.not_le.mpr c23 z.2.2.2)], rfl⟩
      · refine T_iload dX7_hasPlaces_16 rfl ?_
        refine T_aload dX7_hasPlaces_17 rfl ?_
        refine T_getfN (by first | assumption | rfl) dX7_hasPlaces_18 lfX7_20 rfl (SH.kd0 hA) (SH.nx0 hA) ?_
        refine T_iload dX7_hasPlaces_21 rfl ?_
        refine T_isub dX7_hasPlaces_22 ?_
        refine T_icmp_gt dX7_hasPlaces_23 (fun c23 => ?_) (fun c23 => ?_)
        · refine T_const dX7_hasPlaces_30 ?_
          exact T0_iretz dX7_hasPlaces_31 (by first | exact Or.inl rfl | exact Or.inr rfl) ⟨by first | rw [bI_t (And.intro (Int32.not_lt.mp c1) (And.intro (Int32.not_lt.mp c5) (And.intro (Int32.not_lt.mp c13) (Int32.not_lt.mp c23))))] | rw [bI_f (fun (z : _ ∧ _) => Int32.not_le.mpr c1 z.1)] | rw [bI_f (fun (z : _ ∧ _ ∧ _) => Int32.not_le.mpr c5 z.2.1)] | rw [bI_f (fun (z : _ ∧ _ ∧ _ ∧ _) => Int32.not_le.mpr c13 z.2.2.1)] | rw [bI_f (fun (z : _ ∧ _ ∧ _ ∧ _) => Int32.not_le.mpr c23 z.2.2.2)], rfl⟩
        · refine T_const dX7_hasPlaces_26 ?_
          refine T_goto dX7_hasPlaces_27 ?_
          exact T0_iretz dX7_hasPlaces_31 (by first | exact Or.inl rfl | exact Or.inr rfl) ⟨by first | rw [bI_t (And.intro (Int32.not_lt.mp c1) (And.intro (Int32.not_lt.mp c5) (And.intro (Int32.not_lt.mp c13) (Int32.not_lt.mp c23))))] | rw [bI_f (fun (z : _ ∧ _) => Int32.not_le.mpr c1 z.1)] | rw [bI_f (fun (z : _ ∧ _ ∧ _) => Int32.not_le.mpr c5 z.2.1)] | rw [bI_f (fun (z : _ ∧ _ ∧ _ ∧ _) => Int32.not_le.mpr c13 z.2.2.1)] | rw [bI_f (fun (z : _ ∧ _ ∧ _ ∧ _) => Int32.not_le.mpr c23 z.2.2.2)], rfl⟩
theorem c_holdBody (Z : aZ) (d : Nat) (h : aH) {a : Nat} (hA : SH a) (b : Int32) : C0 Z mX7_holdBody d [.ref a, .int b] h (fun r h' => r = none ∧ h' = sfi (sfi (sfi h a 3 b) a 1 (-1)) a 2 0) := by
  refine C0.of mokX7_holdBody (Nat.le_of_ble_eq_true rfl) ?_
  show T0 _ _ _ _ _ _ [_, _] _
  refine T_aload dX7_holdBody_0 rfl ?_
  refine T_iload dX7_holdBody_1 rfl ?_
  refine T_putf dX7_holdBody_2 lfX7_17 rfl rfl (SH.kd0 hA) (SH.nx0 hA) ⟨rfl, rfl⟩ ?_
  refine T_aload dX7_holdBody_5 rfl ?_
  refine T_const dX7_holdBody_6 ?_
  refine T_putf dX7_holdBody_7 lfX7_13 rfl rfl (SH.kd0 hA) (SH.nx0 hA) ⟨rfl, rfl⟩ ?_
  refine T_aload dX7_holdBody_10 rfl ?_
  refine T_const dX7_holdBody_11 ?_
  refine T_putf dX7_holdBody_12 lfX7_20 rfl rfl (SH.kd0 hA) (SH.nx0 hA) ⟨rfl, rfl⟩ ?_
  exact T0_vret dX7_holdBody_15 ⟨rfl, rfl⟩
theorem rj_srowj {h : aH} {a : Nat} {f : Nat → Int64} : rj (srowj h a f) a = f := va_up_self _ _ _
theorem rj_srowj_ne {h : aH} {a b : Nat} {f : Nat → Int64} (hb : b ≠ a) : rj (srowj h a f) b = rj h b := va_up_ne _ _ hb
theorem rj_srj_at {h : aH} {a k : Nat} {v : Int64} : rj (srj h a k v) a k = v := by rw [rj_srj, va_up_self]
theorem rj_srj_off {h : aH} {a k j : Nat} {v : Int64} (hj : j ≠ k) : rj (srj h a k v) a j = rj h a j := by rw [rj_srj, va_up_ne _ _ hj]
theorem rj_srj_ne {h : aH} {a b k : Nat} {v : Int64} (hb : b ≠ a) : rj (srj h a k v) b = rj h b := va_up_ne _ _ hb
theorem c_holdRow_loop (Z : aZ) (d : Nat) {a : Nat} (hA : SH a) {s : Int32} {k : Nat} (hk : k ≤ 60) (Q : Option Value → aH → Prop) (g0 : aH)
    (hQ : ∀ g, fi g = fi g0 → ri g = ri g0 → (∀ b, b ≠ a + 1 → rj g b = rj g0 b) → (∀ i, i < k → rj g (a + 1) i = 0) → Q none g) :
    ∀ n i g, i + n = k → fi g = fi g0 → ri g = ri g0 → (∀ b, b ≠ a + 1 → rj g b = rj g0 b) → (∀ j, j < i → rj g (a + 1) j = 0) → T0 Z mX7_holdRow d g Q 17 [.ref a, .int s, .int (nI k), .int (nI i)] [] := by
  intro n
  induction n with
  | zero =>
    intro i g hi e1 e2 e3 e4
    obtain rfl : i = k := by omega
    refine T_iload dX7_holdRow_17 rfl ?_
    refine T_iload dX7_holdRow_18 rfl ?_
    refine T_icmp_ge dX7_holdRow_19 (fun c19 => ?_) (fun c19 => by first | exact absurd c19 ((by exact Int32.le_refl _)) | exact absurd ((by exact Int32.le_refl _)) c19)
    exact T0_vret dX7_holdRow_35 (hQ g e1 e2 e3 e4)
  | succ n ih =>
    intro i g hi e1 e2 e3 e4
    refine T_iload dX7_holdRow_17 rfl ?_
    refine T_iload dX7_holdRow_18 rfl ?_
    refine T_icmp_ge dX7_holdRow_19 (fun c19 => by first | exact absurd c19 ((by rw [nI_le' (by omega) (by omega)]; omega)) | exact absurd ((by rw [nI_le' (by omega) (by omega)]; omega)) c19) (fun c19 => ?_)
    refine T_aload dX7_holdRow_22 rfl ?_
    refine T_getr dX7_holdRow_23 lfX7_9 rfl (SH.kd0 hA) (SH.nx0 hA) (SH.f0 hA) ?_
    refine T_iload dX7_holdRow_26 rfl ?_
    refine T_constL dX7_holdRow_27 ?_
    refine T_lastN (N := 60) dX7_holdRow_28 (SH.k0 hA) (SH.n0 hA) (SH.l0 hA) rfl (by omega) (by decide) ?_
    first | refine T_iinc1 dX7_holdRow_29 rfl ?_ | refine T_iinc dX7_holdRow_29 rfl ?_
    show TK _ _ _ _ _ _ _ _ _ [_, _, _, _] _
    refine T_goto dX7_holdRow_32 ?_
    refine ih (i + 1) _ (by omega) e1 e2 (fun b hb => (rj_srj_ne hb).trans (e3 b hb)) (fun j hj => ?_)
    by_cases h1 : j = i
    · subst h1; exact rj_srj_at
    · rw [rj_srj_off h1]; exact e4 j (by omega)
theorem c_holdRow (Z : aZ) (d : Nat) (h : aH) {a : Nat} (hA : SH a) (s : Int32) {k : Nat} (hk : k ≤ 60) : C0 Z mX7_holdRow d [.ref a, .int s, .int (nI k)] h (fun r h' => r = none ∧ fi h' = fi (sfi (sfi (sfi h a 3 (-1)) a 1 s) a 2 (nI k)) ∧ ri h' = ri h ∧ (∀ b, b ≠ a + 1 → rj h' b = rj h b) ∧ (∀ i, i < k → rj h' (a + 1) i = 0)) := by
  refine C0.of mokX7_holdRow (Nat.le_of_ble_eq_true rfl) ?_
  show T0 _ _ _ _ _ _ [_, _, _, _] _
  refine T_aload dX7_holdRow_0 rfl ?_
  refine T_const dX7_holdRow_1 ?_
  refine T_putf dX7_holdRow_2 lfX7_17 rfl rfl (SH.kd0 hA) (SH.nx0 hA) ⟨rfl, rfl⟩ ?_
  refine T_aload dX7_holdRow_5 rfl ?_
  refine T_iload dX7_holdRow_6 rfl ?_
  refine T_putf dX7_holdRow_7 lfX7_13 rfl rfl (SH.kd0 hA) (SH.nx0 hA) ⟨rfl, rfl⟩ ?_
  refine T_aload dX7_holdRow_10 rfl ?_
  refine T_iload dX7_holdRow_11 rfl ?_
  refine T_putf dX7_holdRow_12 lfX7_20 rfl rfl (SH.kd0 hA) (SH.nx0 hA) ⟨rfl, rfl⟩ ?_
  refine T_const dX7_holdRow_15 ?_
  refine T_istore dX7_holdRow_16 ?_
  show TK _ _ _ _ _ _ _ _ _ [_, _, _, _] _
  exact c_holdRow_loop Z d hA hk _ _ (fun g e1 e2 e3 e4 => ⟨rfl, e1, e2, e3, e4⟩) k 0 _ (by omega) rfl rfl (fun _ _ => rfl) (fun j hj => absurd hj (Nat.not_lt_zero _))
theorem c_number (Z : aZ) (d : Nat) (h : aH) {a : Nat} (hA : SH a) {i : Nat} (hi : i < 60) : C0 Z mX7_number d [.ref a, .int (nI i)] h (PV h (.int (rj h (a + 1) i).toInt32)) := by
  refine C0.of mokX7_number (Nat.le_of_ble_eq_true rfl) ?_
  show T0 _ _ _ _ _ _ [_, _] _
  refine T_aload dX7_number_0 rfl ?_
  refine T_getr dX7_number_1 lfX7_9 rfl (SH.kd0 hA) (SH.nx0 hA) (SH.f0 hA) ?_
  refine T_iload dX7_number_4 rfl ?_
  refine T_laldN (N := 60) dX7_number_5 (SH.k0 hA) (SH.n0 hA) (SH.l0 hA) rfl (by omega) (by decide) ?_
  refine T_l2i dX7_number_6 ?_
  exact T0_ireti dX7_number_7 ⟨rfl, rfl⟩
/-- what a row keeps -/
def lowF (s : Int32) (v : Int64) : Int64 := if s = 0 then v.toInt32.toInt8.toInt32.toInt64 else if s = 1 then v.toInt32.toInt16.toInt32.toInt64 else if s = 2 then v.toInt32.toInt64 else if s = 3 then v else if v = 0 then 0 else 1
theorem cmp0 (v w : Int64) : lg_cmp v w = 0 ↔ v = w := by
  unfold lg_cmp
  constructor
  · intro h
    split at h
    · exact absurd h (by decide)
    · split at h
      · assumption
      · exact absurd h (by decide)
  · rintro rfl
    have : ¬ v < v := Int64.lt_irrefl
    simp [this]
theorem c_lowestBits (Z : aZ) (d : Nat) (h : aH) {a : Nat} (hA : SH a) {s : Nat} (hs : s < 5) (h1 : fi h a 1 = nI s) (v : Int64) : C0 Z mX7_lowestBits d [.ref a, .long v] h (PV h (.long (lowF (nI s) v))) := by
  refine C0.of mokX7_lowestBits (Nat.le_of_ble_eq_true rfl) ?_
  show T0 _ _ _ _ _ _ [_, _, _] _
  refine T_aload dX7_lowestBits_0 rfl ?_
  refine T_getfN (by first | assumption | rfl) dX7_lowestBits_1 lfX7_13 rfl (SH.kd0 hA) (SH.nx0 hA) ?_
  rcases (show s = 0 ∨ s = 1 ∨ s = 2 ∨ s = 3 ∨ s = 4 by omega) with rfl | rfl | rfl | rfl | rfl
  · refine T_tabIn (off := 32) (tgt := 36) dX7_lowestBits_4 (by decide) (by decide) (by decide) (by decide) ?_
    refine T_lload dX7_lowestBits_36 rfl ?_
    refine T_l2i dX7_lowestBits_37 ?_
    refine T_i2b dX7_lowestBits_38 ?_
    refine T_i2l dX7_lowestBits_39 ?_
    exact T0_lret dX7_lowestBits_40 ⟨rfl, rfl⟩
  · refine T_tabIn (off := 37) (tgt := 41) dX7_lowestBits_4 (by decide) (by decide) (by decide) (by decide) ?_
    refine T_lload dX7_lowestBits_41 rfl ?_
    refine T_l2i dX7_lowestBits_42 ?_
    refine T_i2s dX7_lowestBits_43 ?_
    refine T_i2l dX7_lowestBits_44 ?_
    exact T0_lret dX7_lowestBits_45 ⟨rfl, rfl⟩
  · refine T_tabIn (off := 42) (tgt := 46) dX7_lowestBits_4 (by decide) (by decide) (by decide) (by decide) ?_
    refine T_lload dX7_lowestBits_46 rfl ?_
    refine T_l2i dX7_lowestBits_47 ?_
    refine T_i2l dX7_lowestBits_48 ?_
    exact T0_lret dX7_lowestBits_49 ⟨rfl, rfl⟩
  · refine T_tabIn (off := 46) (tgt := 50) dX7_lowestBits_4 (by decide) (by decide) (by decide) (by decide) ?_
    refine T_lload dX7_lowestBits_50 rfl ?_
    exact T0_lret dX7_lowestBits_51 ⟨rfl, rfl⟩
  · refine T_tabOut (tgt := 52) ⟨dX7_lowestBits_4, by decide⟩ (Or.inr (by decide)) ?_
    refine T_lload dX7_lowestBits_52 rfl ?_
    refine T_constL dX7_lowestBits_53 ?_
    refine T_lcmp dX7_lowestBits_54 ?_
    refine T_if_eq dX7_lowestBits_55 (fun c55 => ?_) (fun c55 => ?_)
    · rw [cmp0] at c55
      refine T_constL dX7_lowestBits_62 ?_
      exact T0_lret dX7_lowestBits_63 ⟨by subst c55; rfl, rfl⟩
    · rw [cmp0] at c55
      refine T_constL dX7_lowestBits_58 ?_
      refine T_goto dX7_lowestBits_59 ?_
      exact T0_lret dX7_lowestBits_63 ⟨by show _ = some (Value.long (if v = 0 then 0 else 1)); rw [if_neg c55], rfl⟩
theorem c_set (Z : aZ) (d : Nat) (h : aH) {a : Nat} (hA : SH a) {s : Nat} (hs : s < 5) (h1 : fi h a 1 = nI s) {i : Nat} (hi : i < 60) (v : Int64) : C0 Z mX7_set (d + 1) [.ref a, .int (nI i), .long v] h (fun r h' => r = none ∧ h' = srj h (a + 1) i (lowF (nI s) v)) := by
  refine C0.of mokX7_set (Nat.le_of_ble_eq_true rfl) ?_
  show T0 _ _ _ _ _ _ [_, _, _, _] _
  refine T_aload dX7_set_0 rfl ?_
  refine T_getr dX7_set_1 lfX7_9 rfl (SH.kd0 hA) (SH.nx0 hA) (SH.f0 hA) ?_
  refine T_iload dX7_set_4 rfl ?_
  refine T_aload dX7_set_5 rfl ?_
  refine T_lload dX7_set_6 rfl ?_
  refine T0_Vp (c_lowestBits Z d h hA hs h1 v) dX7_set_7 lvX7_23 rfl rfl (SH.kd0 hA) (SH.nx0 hA) (Nat.le_of_ble_eq_true rfl) ?_
  refine T_lastN (N := 60) dX7_set_10 (SH.k0 hA) (SH.n0 hA) (SH.l0 hA) rfl (by omega) (by decide) ?_
  exact T0_vret dX7_set_11 ⟨rfl, rfl⟩
