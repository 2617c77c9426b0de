/-! ===== Stand ===== -/
def SEAC (h : aH) (w : SEA) : Prop := fi h 1 4 = nI w.lamp ∧ fi h 1 5 = nI w.burns ∧ fi h 1 6 = nI w.walks ∧ (∀ c, c < 64 → ri h 2 c = nI (w.dp c)) ∧ (∀ c, c < 64 → ri h 3 c = nI (w.df c)) ∧ (∀ i, i < w.lost → ri h 4 i = nI (w.pa i)) ∧ (∀ i, i < w.lost → ri h 5 i = nI (w.ow i)) ∧ LAWC h w.lf
def SDC (h : aH) (a : Nat) (w : SEA) (t : STD) : Prop := fi h a 5 = nI w.lost ∧ (∀ i, i < w.lost → ri h (a + 1) i = nI (t.cell i)) ∧ fi h a 6 = nI (bsum t.home w.lost) ∧ fi h a 7 = nI t.oil
theorem LAWC.keep {h h' : aH} {lf : (Nat → Int32) → Int32} {R F : List Nat} (H : LAWC h lf) (o : Only h h' R F) (h1 : 11 ∉ R) (h2 : 12 ∉ R) (h3 : 10 ∉ F) : LAWC h' lf := by
  obtain ⟨n, a1, a2, a3, a4, a5⟩ := H
  refine ⟨n, a1, by rw [o.2.1 10 h3]; exact a2, ?_, ?_, ?_⟩ <;> rw [o.1 11 h1, o.1 12 h2] <;> assumption
theorem SEAC.keep {h h' : aH} {w : SEA} {R F : List Nat} (H : SEAC h w) (o : Only h h' R F) (hR : ∀ b, b ∈ [2, 3, 4, 5, 11, 12] → b ∉ R) (hF : ∀ b, b ∈ [1, 10] → b ∉ F) : SEAC h' w := by
  obtain ⟨a1, a2, a3, a4, a5, a6, a7, a8⟩ := H
  refine ⟨?_, ?_, ?_, ?_, ?_, ?_, ?_, a8.keep o (hR 11 (by decide)) (hR 12 (by decide)) (hF 10 (by decide))⟩
  · rw [o.2.1 1 (hF 1 (by decide))]; exact a1
  · rw [o.2.1 1 (hF 1 (by decide))]; exact a2
  · rw [o.2.1 1 (hF 1 (by decide))]; exact a3
  · rw [o.1 2 (hR 2 (by decide))]; exact a4
  · rw [o.1 3 (hR 3 (by decide))]; exact a5
  · rw [o.1 4 (hR 4 (by decide))]; exact a6
  · rw [o.1 5 (hR 5 (by decide))]; exact a7
theorem SDC.keep {h h' : aH} {a : Nat} {w : SEA} {t : STD} {R F : List Nat} (H : SDC h a w t) (o : Only h h' R F) (hR : a + 1 ∉ R) (hF : a ∉ F) : SDC h' a w t := by
  obtain ⟨a1, a2, a3, a4⟩ := H
  refine ⟨?_, ?_, ?_, ?_⟩
  · rw [o.2.1 a hF]; exact a1
  · rw [o.1 (a + 1) hR]; exact a2
  · rw [o.2.1 a hF]; exact a3
  · rw [o.2.1 a hF]; exact a4
theorem SD.lo {a : Nat} (h : SD a) : 15 ≤ a ∧ a ≤ 43 := by unfold SD at h; omega
/-- the law looks at its six names alone -/
def LX (lf : (Nat → Int32) → Int32) : Prop := ∀ n1 n2 : Nat → Int32, (∀ k, k < 6 → n1 k = n2 k) → lf n1 = lf n2
theorem workL_congr {st ar : Nat → Int32} {n : Nat} (hA : ∀ j, j < n → st j = 2 → ∃ k, k < 6 ∧ ar j = nI k) {n1 n2 : Nat → Int32} (e : ∀ k, k < 6 → n1 k = n2 k) : ∀ (f : Nat) (P : List Int32) (i : Nat), workL st ar n n1 f P i = workL st ar n n2 f P i := by
  intro f
  induction f with
  | zero => intro P i; rfl
  | succ f ih =>
    intro P i
    rw [workL_eq, workL_eq]
    by_cases h1 : i < n ∧ P.length < 128
    · rw [if_pos h1, if_pos h1]
      by_cases h2 : st i = 1
      · rw [if_pos h2, if_pos h2, ih]
      · rw [if_neg h2, if_neg h2]
        by_cases h3 : st i = 2
        · obtain ⟨k, hk, ek⟩ := hA i h1.1 h3
          rw [if_pos h3, if_pos h3, ek, nI_clamp (by omega), e k hk, ih]
        · rw [if_neg h3, if_neg h3]
          cases P with
          | nil => rfl
          | cons x r =>
            show (if st i = 5 then x else _) = (if st i = 5 then x else _)
            rw [ih, ih, ih]
            cases r with
            | nil => rfl
            | cons y r' =>
              show (if st i = 5 then x else if st i = 4 then _ else if st i = 3 then _ else if st i = 33 then _ else workL st ar n n1 f _ _) = (if st i = 5 then x else if st i = 4 then _ else if st i = 3 then _ else if st i = 33 then _ else workL st ar n n2 f _ _)
              rw [ih (jopF (st i) y x :: r')]
    · rw [if_neg h1, if_neg h1]
theorem LAWC.lx {h : aH} {lf : (Nat → Int32) → Int32} (H : LAWC h lf) : LX lf := by
  obtain ⟨n, a1, a2, a3, a4, a5⟩ := H
  intro n1 n2 e
  rw [a5, a5]
  unfold workF
  rw [e 1 (by decide), e 2 (by decide), workL_congr a3 e]
theorem c_bitCount (Z : aZ) (d : Nat) (h : aH) (x : Int32) : C0 Z mJ6_bitCount_0f7a4 d [.int x] h (PV h (.int (bcI x))) := by
  refine C0.of mokJ6_bitCount_0f7a4 (Nat.le_of_ble_eq_true rfl) ?_
  show T0 _ _ _ _ _ _ [_] _
  refine T_iload dJ6_bitCount_0f7a4_0 rfl ?_
  refine T_iload dJ6_bitCount_0f7a4_1 rfl ?_
  refine T_const dJ6_bitCount_0f7a4_2 ?_
  refine T_iushr dJ6_bitCount_0f7a4_3 ?_
  refine T_const dJ6_bitCount_0f7a4_4 ?_
  refine T_iand dJ6_bitCount_0f7a4_7 ?_
  refine T_isub dJ6_bitCount_0f7a4_8 ?_
  refine T_istore dJ6_bitCount_0f7a4_9 ?_
  show TK _ _ _ _ _ _ _ _ _ [_] _
  refine T_iload dJ6_bitCount_0f7a4_10 rfl ?_
  refine T_const dJ6_bitCount_0f7a4_11 ?_
  refine T_iand dJ6_bitCount_0f7a4_14 ?_
  refine T_iload dJ6_bitCount_0f7a4_15 rfl ?_
  refine T_const dJ6_bitCount_0f7a4_16 ?_
  refine T_iushr dJ6_bitCount_0f7a4_17 ?_
  refine T_const dJ6_bitCount_0f7a4_18 ?_
  refine T_iand dJ6_bitCount_0f7a4_21 ?_
  refine T_iadd dJ6_bitCount_0f7a4_22 ?_
  refine T_istore dJ6_bitCount_0f7a4_23 ?_
  show TK _ _ _ _ _ _ _ _ _ [_] _
  refine T_iload dJ6_bitCount_0f7a4_24 rfl ?_
  refine T_iload dJ6_bitCount_0f7a4_25 rfl ?_
  refine T_const dJ6_bitCount_0f7a4_26 ?_
  refine T_iushr dJ6_bitCount_0f7a4_27 ?_
  refine T_iadd dJ6_bitCount_0f7a4_28 ?_
  refine T_const dJ6_bitCount_0f7a4_29 ?_
  refine T_iand dJ6_bitCount_0f7a4_32 ?_
  refine T_istore dJ6_bitCount_0f7a4_33 ?_
  show TK _ _ _ _ _ _ _ _ _ [_] _
  refine T_iload dJ6_bitCount_0f7a4_34 rfl ?_
  refine T_iload dJ6_bitCount_0f7a4_35 rfl ?_
  refine T_const dJ6_bitCount_0f7a4_36 ?_
  refine T_iushr dJ6_bitCount_0f7a4_38 ?_
  refine T_iadd dJ6_bitCount_0f7a4_39 ?_
  refine T_istore dJ6_bitCount_0f7a4_40 ?_
  show TK _ _ _ _ _ _ _ _ _ [_] _
  refine T_iload dJ6_bitCount_0f7a4_41 rfl ?_
  refine T_iload dJ6_bitCount_0f7a4_42 rfl ?_
  refine T_const dJ6_bitCount_0f7a4_43 ?_
  refine T_iushr dJ6_bitCount_0f7a4_45 ?_
  refine T_iadd dJ6_bitCount_0f7a4_46 ?_
  refine T_istore dJ6_bitCount_0f7a4_47 ?_
  show TK _ _ _ _ _ _ _ _ _ [_] _
  refine T_iload dJ6_bitCount_0f7a4_48 rfl ?_
  refine T_const dJ6_bitCount_0f7a4_49 ?_
  refine T_iand dJ6_bitCount_0f7a4_51 ?_
  exact T0_ireti dJ6_bitCount_0f7a4_52 ⟨rfl, rfl⟩
theorem c_isHome (Z : aZ) (d : Nat) (h : aH) {a : Nat} (hA : SD a) {f : Nat → Nat} {n i : Nat} (hh : fi h a 6 = nI (bsum f n)) (hn : n ≤ 10) (hf : ∀ i, i < n → f i ≤ 1) (hi : i < n) : C0 Z mX8_isHome d [.ref a, .int (nI i)] h (PV h (.int (nI (f i)))) := by
  refine C0.of mokX8_isHome (Nat.le_of_ble_eq_true rfl) ?_
  show T0 _ _ _ _ _ _ [_, _] _
  refine T_aload dX8_isHome_0 rfl ?_
  refine T_getfN (by first | assumption | rfl) dX8_isHome_1 lfX8_33 rfl (SD.kd0 hA) (SD.nx0 hA) ?_
  refine T_iload dX8_isHome_4 rfl ?_
  refine T_ishr dX8_isHome_5 ?_
  refine T_const dX8_isHome_6 ?_
  refine T_iand dX8_isHome_7 ?_
  rw [hb_bit hn hf hi]
  rcases (show f i = 0 ∨ f i = 1 by have := hf i hi; omega) with e | e
  · rw [e]
    refine T_if_eq dX8_isHome_8 (fun c8 => ?_) (fun c8 => by first | exact absurd c8 (by decide) | exact absurd (by decide) c8)
    refine T_const dX8_isHome_15 ?_
    exact T0_iretz dX8_isHome_16 (by first | exact Or.inl rfl | exact Or.inr rfl) ⟨rfl, rfl⟩
  · rw [e]
    refine T_if_eq dX8_isHome_8 (fun c8 => by first | exact absurd c8 (by decide) | exact absurd (by decide) c8) (fun c8 => ?_)
    refine T_const dX8_isHome_11 ?_
    refine T_goto dX8_isHome_12 ?_
    exact T0_iretz dX8_isHome_16 (by first | exact Or.inl rfl | exact Or.inr rfl) ⟨rfl, rfl⟩
theorem c_setHome1 (Z : aZ) (d : Nat) (h : aH) {a : Nat} (hA : SD a) {f : Nat → Nat} {n i : Nat} (hh : fi h a 6 = nI (bsum f n)) (hn : n ≤ 10) (hf : ∀ i, i < n → f i ≤ 1) (hi : i < n) : C0 Z mX8_setHome d [.ref a, .int (nI i), .int 1] h (fun r h' => r = none ∧ h' = sfi h a 6 (nI (bsum (va_up f i 1) n))) := by
  refine C0.of mokX8_setHome (Nat.le_of_ble_eq_true rfl) ?_
  show T0 _ _ _ _ _ _ [_, _, _] _
  refine T_aload dX8_setHome_0 rfl ?_
  refine T_iload dX8_setHome_1 rfl ?_
  refine T_if_eq dX8_setHome_2 (fun c2 => by first | exact absurd c2 (by decide) | exact absurd (by decide) c2) (fun c2 => ?_)
  refine T_aload dX8_setHome_5 rfl ?_
  refine T_getfN (by first | assumption | rfl) dX8_setHome_6 lfX8_33 rfl (SD.kd0 hA) (SD.nx0 hA) ?_
  refine T_const dX8_setHome_9 ?_
  refine T_iload dX8_setHome_10 rfl ?_
  refine T_ishl dX8_setHome_11 ?_
  refine T_ior dX8_setHome_12 ?_
  refine T_goto dX8_setHome_13 ?_
  rw [hb_set hn hf hi]
  refine T_putf dX8_setHome_26 lfX8_33 rfl rfl (SD.kd0 hA) (SD.nx0 hA) ⟨rfl, rfl⟩ ?_
  exact T0_vret dX8_setHome_29 ⟨rfl, rfl⟩
theorem c_setHome0 (Z : aZ) (d : Nat) (h : aH) {a : Nat} (hA : SD a) {f : Nat → Nat} {n i : Nat} (hh : fi h a 6 = nI (bsum f n)) (hn : n ≤ 10) (hf : ∀ i, i < n → f i ≤ 1) (hi : i < n) : C0 Z mX8_setHome d [.ref a, .int (nI i), .int 0] h (fun r h' => r = none ∧ h' = sfi h a 6 (nI (bsum (va_up f i 0) n))) := by
  refine C0.of mokX8_setHome (Nat.le_of_ble_eq_true rfl) ?_
  show T0 _ _ _ _ _ _ [_, _, _] _
  refine T_aload dX8_setHome_0 rfl ?_
  refine T_iload dX8_setHome_1 rfl ?_
  refine T_if_eq dX8_setHome_2 (fun c2 => ?_) (fun c2 => by first | exact absurd c2 (by decide) | exact absurd (by decide) c2)
  refine T_aload dX8_setHome_16 rfl ?_
  refine T_getfN (by first | assumption | rfl) dX8_setHome_17 lfX8_33 rfl (SD.kd0 hA) (SD.nx0 hA) ?_
  refine T_const dX8_setHome_20 ?_
  refine T_iload dX8_setHome_21 rfl ?_
  refine T_ishl dX8_setHome_22 ?_
  refine T_const dX8_setHome_23 ?_
  refine T_ixor dX8_setHome_24 ?_
  refine T_iand dX8_setHome_25 ?_
  rw [hb_clr hn hf hi]
  refine T_putf dX8_setHome_26 lfX8_33 rfl rfl (SD.kd0 hA) (SD.nx0 hA) ⟨rfl, rfl⟩ ?_
  exact T0_vret dX8_setHome_29 ⟨rfl, rfl⟩
