/-! ===== Stand: awayOf, claim, layBack, become ===== -/
theorem T_copyiN {Z : aZ} {M : MD} {d bc bs pc pc' : Nat} {ls st : List Value} {S : aS} {h : aH} {Q : Option Value → aS → aH → Prop} {idx a0 a N0 N1 p q k : Nat} {sp dp n : Int32} (hd : DI M pc (.invokestatic idx) 3 pc') (hL : LnkC M.2.2.2.1 idx) (hk0 : kd S a0 = 20) (ha0 : a0 < nx S) (hl0 : ln S a0 = N0) (hk1 : kd S a = 20) (ha : a < nx S) (hl1 : ln S a = N1) (hp : sp = nI p) (hq : dp = nI q) (hk : n = nI k) (h4 : p + k ≤ N0) (h5 : q + k ≤ N1) (hN0 : N0 ≤ 2000) (hN1 : N1 ≤ 2000) (hr : (st.map fun v => v.category).sum ≤ 8) (kk : TK Z M d bc bs S (srow h a (va_cpy (ri h a0) (ri h a) p q k)) Q pc' ls st) : TK Z M d bc bs S h Q pc ls (.int n :: .int dp :: .ref a :: .int sp :: .ref a0 :: st) := by
  subst hp; subst hq; subst hk
  refine T_copyi hd hL hk0 ha0 hk1 ha (nI_pos (by omega)) (nI_pos (by omega)) (nI_pos (by omega)) ?_ ?_ hr ?_
  · rw [nI_clamp (by omega), nI_clamp (by omega), hl0]; exact h4
  · rw [nI_clamp (by omega), nI_clamp (by omega), hl1]; exact h5
  · rw [nI_clamp (by omega), nI_clamp (by omega), nI_clamp (by omega)]; exact kk
theorem T_copylN {Z : aZ} {M : MD} {d bc bs pc pc' : Nat} {ls st : List Value} {S : aS} {h : aH} {Q : Option Value → aS → aH → Prop} {idx a0 a N0 N1 p q k : Nat} {sp dp n : Int32} (hd : DI M pc (.invokestatic idx) 3 pc') (hL : LnkC M.2.2.2.1 idx) (hk0 : kd S a0 = 21) (ha0 : a0 < nx S) (hl0 : ln S a0 = N0) (hk1 : kd S a = 21) (ha : a < nx S) (hl1 : ln S a = N1) (hp : sp = nI p) (hq : dp = nI q) (hk : n = nI k) (h4 : p + k ≤ N0) (h5 : q + k ≤ N1) (hN0 : N0 ≤ 2000) (hN1 : N1 ≤ 2000) (hr : (st.map fun v => v.category).sum ≤ 8) (kk : TK Z M d bc bs S (srowj h a (va_cpy (rj h a0) (rj h a) p q k)) Q pc' ls st) : TK Z M d bc bs S h Q pc ls (.int n :: .int dp :: .ref a :: .int sp :: .ref a0 :: st) := by
  subst hp; subst hq; subst hk
  refine T_copyl hd hL hk0 ha0 hk1 ha (nI_pos (by omega)) (nI_pos (by omega)) (nI_pos (by omega)) ?_ ?_ hr ?_
  · rw [nI_clamp (by omega), nI_clamp (by omega), hl0]; exact h4
  · rw [nI_clamp (by omega), nI_clamp (by omega), hl1]; exact h5
  · rw [nI_clamp (by omega), nI_clamp (by omega), nI_clamp (by omega)]; exact kk
def awF (w : SEA) (t : STD) (p : Nat) : Nat → Nat := fun i => if t.home i = 0 ∧ w.pa i = p then 1 else 0
def owF (w : SEA) (t : STD) (p : Nat) : Nat → Nat := fun i => if t.home i = 0 ∧ w.pa i = p then w.ow i else 0
def awayF (w : SEA) (t : STD) (p : Nat) : Nat := nsum (awF w t p) w.lost
def claimF (w : SEA) (t : STD) (p : Nat) : Nat := awayF w t p + nsum (owF w t p) w.lost / 3
theorem c_awayOf_loop (Z : aZ) (d : Nat) (h : aH) {a : Nat} (hA : SD a) {w : SEA} {t : STD} (hw : SOK w) (ht : TOK w t) (hs : SEAC h w) (hd : SDC h a w t) {p : Nat} (hp : p < 4) (Q : Option Value → aH → Prop) (hQ : Q (some (.int (nI (awayF w t p)))) h) :
    ∀ n i, i + n = w.lost → T0 Z mX8_awayOf (d + 1) h Q 4 [.ref a, .int (nI p), .int (nI (nsum (awF w t p) i)), .int (nI i)] [] := by
  obtain ⟨w1, w2, w3, w4, w5, w6⟩ := hw
  obtain ⟨d1, d2, d3, d4⟩ := id hd
  obtain ⟨s1, s2, s3, s4, s5, s6, s7, s8⟩ := hs
  have hf : ∀ i, i < w.lost → t.home i ≤ 1 := fun i hi => (ht.1 i hi).2
  intro n
  induction n with
  | zero =>
    intro i hi
    obtain rfl : i = w.lost := by omega
    refine T_iload dX8_awayOf_4 rfl ?_
    refine T_aload dX8_awayOf_5 rfl ?_
    refine T_getfN (by first | assumption | rfl) dX8_awayOf_6 lfX8_36 rfl (SD.kd0 hA) (SD.nx0 hA) ?_
    refine T_icmp_ge dX8_awayOf_9 (fun c9 => ?_) (fun c9 => by first | exact absurd c9 ((by exact Int32.le_refl _)) | exact absurd ((by exact Int32.le_refl _)) c9)
    refine T_iload dX8_awayOf_47 rfl ?_
    exact T0_ireti dX8_awayOf_48 hQ
  | succ n ih =>
    intro i hi
    have hlt : i < w.lost := by omega
    have hpa := (w3 i hlt).1
    have eb : ∀ x, awF w t p i = x → nsum (awF w t p) (i + 1) = nsum (awF w t p) i + x := fun x e => by rw [← e]; rfl
    have zero : awF w t p i = 0 → T0 Z mX8_awayOf (d + 1) h Q 38 [.ref a, .int (nI p), .int (nI (nsum (awF w t p) i)), .int (nI i)] [.int (nI (nsum (awF w t p) i))] := by
      intro e
      refine T_const dX8_awayOf_38 ?_
      refine T_iadd dX8_awayOf_39 ?_
      rw [show (0 : Int32) = nI 0 from rfl, nI_add, ← eb 0 e]
      refine T_istore dX8_awayOf_40 ?_
      show TK _ _ _ _ _ _ _ _ _ [_, _, _, _] _
      first | refine T_iinc1 dX8_awayOf_41 rfl ?_ | refine T_iinc dX8_awayOf_41 rfl ?_
      show TK _ _ _ _ _ _ _ _ _ [_, _, _, _] _
      refine T_goto dX8_awayOf_44 ?_
      exact ih (i + 1) (by omega)
    refine T_iload dX8_awayOf_4 rfl ?_
    refine T_aload dX8_awayOf_5 rfl ?_
    refine T_getfN (by first | assumption | rfl) dX8_awayOf_6 lfX8_36 rfl (SD.kd0 hA) (SD.nx0 hA) ?_
    refine T_icmp_ge dX8_awayOf_9 (fun c9 => by first | exact absurd c9 ((by rw [nI_le' (by omega) (by omega)]; omega)) | exact absurd ((by rw [nI_le' (by omega) (by omega)]; omega)) c9) (fun c9 => ?_)
    refine T_iload dX8_awayOf_12 rfl ?_
    refine T_aload dX8_awayOf_13 rfl ?_
    refine T_iload dX8_awayOf_14 rfl ?_
    refine T0_Vp (c_isHome Z d h hA d3 w1 hf hlt) dX8_awayOf_15 lvX8_54 rfl rfl (SD.kd0 hA) (SD.nx0 hA) (Nat.le_of_ble_eq_true rfl) ?_
    rcases (show t.home i = 0 ∨ t.home i = 1 by have := hf i hlt; omega) with e | e
    · rw [e]
      refine T_if_ne dX8_awayOf_18 (fun c18 => by first | exact absurd c18 ((by decide)) | exact absurd ((by decide)) c18) (fun c18 => ?_)
      refine T_aload dX8_awayOf_21 rfl ?_
      refine T_getr dX8_awayOf_22 lfX8_25 rfl (SD.kd0 hA) (SD.nx0 hA) (SD.f0 hA) ?_
      refine T_getr dX8_awayOf_25 lfX8_87 rfl rfl (by decide) rfl ?_
      refine T_iload dX8_awayOf_28 rfl ?_
      refine T_ialdN (N := 10) dX8_awayOf_29 rfl (by decide) rfl rfl (by omega) (by decide) ?_
      refine T_iload dX8_awayOf_30 rfl ?_
      rw [s6 i hlt]
      refine T_icmp_ne dX8_awayOf_31 (fun c31 => ?_) (fun c31 => ?_)
      · rw [nI_inj (by omega) (by omega)] at c31
        exact zero (by unfold awF; rw [if_neg (fun z => c31 z.2)])
      · rw [nI_inj (by omega) (by omega)] at c31
        refine T_const dX8_awayOf_34 ?_
        refine T_goto dX8_awayOf_35 ?_
        refine T_iadd dX8_awayOf_39 ?_
        rw [nI_1, ← eb 1 (by unfold awF; rw [if_pos ⟨e, c31⟩])]
        refine T_istore dX8_awayOf_40 ?_
        show TK _ _ _ _ _ _ _ _ _ [_, _, _, _] _
        first | refine T_iinc1 dX8_awayOf_41 rfl ?_ | refine T_iinc dX8_awayOf_41 rfl ?_
        show TK _ _ _ _ _ _ _ _ _ [_, _, _, _] _
        refine T_goto dX8_awayOf_44 ?_
        exact ih (i + 1) (by omega)
    · rw [e]
      refine T_if_ne dX8_awayOf_18 (fun c18 => ?_) (fun c18 => by first | exact absurd c18 ((by decide)) | exact absurd ((by decide)) c18)
      exact zero (by unfold awF; rw [if_neg (by omega)])
theorem c_awayOf (Z : aZ) (d : Nat) (h : aH) {a : Nat} (hA : SD a) {w : SEA} {t : STD} (hw : SOK w) (ht : TOK w t) (hs : SEAC h w) (hd : SDC h a w t) {p : Nat} (hp : p < 4) : C0 Z mX8_awayOf (d + 1) [.ref a, .int (nI p)] h (PV h (.int (nI (awayF w t p)))) := by
  refine C0.of mokX8_awayOf (Nat.le_of_ble_eq_true rfl) ?_
  show T0 _ _ _ _ _ _ [_, _, _, _] _
  refine T_const dX8_awayOf_0 ?_
  refine T_istore dX8_awayOf_1 ?_
  show TK _ _ _ _ _ _ _ _ _ [_, _, _, _] _
  refine T_const dX8_awayOf_2 ?_
  refine T_istore dX8_awayOf_3 ?_
  show TK _ _ _ _ _ _ _ _ _ [_, _, _, _] _
  exact c_awayOf_loop Z d h hA hw ht hs hd hp _ ⟨rfl, rfl⟩ w.lost 0 (by omega)
theorem c_claim_loop (Z : aZ) (d : Nat) (h : aH) {a : Nat} (hA : SD a) {w : SEA} {t : STD} (hw : SOK w) (ht : TOK w t) (hs : SEAC h w) (hd : SDC h a w t) {p : Nat} (hp : p < 4) (Q : Option Value → aH → Prop) (hQ : Q (some (.int (nI (claimF w t p)))) h) :
    ∀ n i, i + n = w.lost → T0 Z mX8_claim (d + 2) h Q 4 [.ref a, .int (nI p), .int (nI (nsum (owF w t p) i)), .int (nI i)] [] := by
  obtain ⟨w1, w2, w3, w4, w5, w6⟩ := id hw
  obtain ⟨d1, d2, d3, d4⟩ := id hd
  obtain ⟨s1, s2, s3, s4, s5, s6, s7, s8⟩ := id hs
  have hf : ∀ i, i < w.lost → t.home i ≤ 1 := fun i hi => (ht.1 i hi).2
  intro n
  induction n with
  | zero =>
    intro i hi
    obtain rfl : i = w.lost := by omega
    refine T_iload dX8_claim_4 rfl ?_
    refine T_aload dX8_claim_5 rfl ?_
    refine T_getfN (by first | assumption | rfl) dX8_claim_6 lfX8_36 rfl (SD.kd0 hA) (SD.nx0 hA) ?_
    refine T_icmp_ge dX8_claim_9 (fun c9 => ?_) (fun c9 => by first | exact absurd c9 ((by exact Int32.le_refl _)) | exact absurd ((by exact Int32.le_refl _)) c9)
    refine T_aload dX8_claim_55 rfl ?_
    refine T_iload dX8_claim_56 rfl ?_
    refine T0_Vp (c_awayOf Z d h hA hw ht hs hd hp) dX8_claim_57 lvX8_117 rfl rfl (SD.kd0 hA) (SD.nx0 hA) (Nat.le_of_ble_eq_true rfl) ?_
    have hle : nsum (owF w t p) w.lost ≤ w.lost * 9 := nsum_le (fun i hi => by
      have := (w3 i hi).2
      unfold owF
      split <;> omega)
    refine T_iload dX8_claim_60 rfl ?_
    refine T_const dX8_claim_61 ?_
    refine T_idiv dX8_claim_62 (by decide) ?_
    rw [nI_div (k := 3) (K := 3) rfl (by omega) (by decide) (by decide)]
    refine T_iadd dX8_claim_63 ?_
    rw [nI_add]
    exact T0_ireti dX8_claim_64 hQ
  | succ n ih =>
    intro i hi
    have hlt : i < w.lost := by omega
    have hpa := (w3 i hlt).1
    have eb : ∀ x, owF w t p i = x → nsum (owF w t p) (i + 1) = nsum (owF w t p) i + x := fun x e => by rw [← e]; rfl
    have zero : owF w t p i = 0 → T0 Z mX8_claim (d + 2) h Q 46 [.ref a, .int (nI p), .int (nI (nsum (owF w t p) i)), .int (nI i)] [.int (nI (nsum (owF w t p) i))] := by
      intro e
      refine T_const dX8_claim_46 ?_
      refine T_iadd dX8_claim_47 ?_
      rw [show (0 : Int32) = nI 0 from rfl, nI_add, ← eb 0 e]
      refine T_istore dX8_claim_48 ?_
      show TK _ _ _ _ _ _ _ _ _ [_, _, _, _] _
      first | refine T_iinc1 dX8_claim_49 rfl ?_ | refine T_iinc dX8_claim_49 rfl ?_
      show TK _ _ _ _ _ _ _ _ _ [_, _, _, _] _
      refine T_goto dX8_claim_52 ?_
      exact ih (i + 1) (by omega)
    refine T_iload dX8_claim_4 rfl ?_
    refine T_aload dX8_claim_5 rfl ?_
    refine T_getfN (by first | assumption | rfl) dX8_claim_6 lfX8_36 rfl (SD.kd0 hA) (SD.nx0 hA) ?_
    refine T_icmp_ge dX8_claim_9 (fun c9 => by first | exact absurd c9 ((by rw [nI_le' (by omega) (by omega)]; omega)) | exact absurd ((by rw [nI_le' (by omega) (by omega)]; omega)) c9) (fun c9 => ?_)
    refine T_iload dX8_claim_12 rfl ?_
    refine T_aload dX8_claim_13 rfl ?_
    refine T_iload dX8_claim_14 rfl ?_
    refine T0_Vp (c_isHome Z (d + 1) h hA d3 w1 hf hlt) dX8_claim_15 lvX8_54 rfl rfl (SD.kd0 hA) (SD.nx0 hA) (Nat.le_of_ble_eq_true rfl) ?_
    rcases (show t.home i = 0 ∨ t.home i = 1 by have := hf i hlt; omega) with e | e
    · rw [e]
      refine T_if_ne dX8_claim_18 (fun c18 => by first | exact absurd c18 ((by decide)) | exact absurd ((by decide)) c18) (fun c18 => ?_)
      refine T_aload dX8_claim_21 rfl ?_
      refine T_getr dX8_claim_22 lfX8_25 rfl (SD.kd0 hA) (SD.nx0 hA) (SD.f0 hA) ?_
      refine T_getr dX8_claim_25 lfX8_87 rfl rfl (by decide) rfl ?_
      refine T_iload dX8_claim_28 rfl ?_
      refine T_ialdN (N := 10) dX8_claim_29 rfl (by decide) rfl rfl (by omega) (by decide) ?_
      refine T_iload dX8_claim_30 rfl ?_
      rw [s6 i hlt]
      refine T_icmp_ne dX8_claim_31 (fun c31 => ?_) (fun c31 => ?_)
      · rw [nI_inj (by omega) (by omega)] at c31
        exact zero (by unfold owF; rw [if_neg (fun z => c31 z.2)])
      · rw [nI_inj (by omega) (by omega)] at c31
        refine T_aload dX8_claim_34 rfl ?_
        refine T_getr dX8_claim_35 lfX8_25 rfl (SD.kd0 hA) (SD.nx0 hA) (SD.f0 hA) ?_
        refine T_getr dX8_claim_38 lfX8_101 rfl rfl (by decide) rfl ?_
        refine T_iload dX8_claim_41 rfl ?_
        refine T_ialdN (N := 10) dX8_claim_42 rfl (by decide) rfl rfl (by omega) (by decide) ?_
        refine T_goto dX8_claim_43 ?_
        refine T_iadd dX8_claim_47 ?_
        rw [s7 i hlt, nI_add, ← eb (w.ow i) (by unfold owF; rw [if_pos ⟨e, c31⟩])]
        refine T_istore dX8_claim_48 ?_
        show TK _ _ _ _ _ _ _ _ _ [_, _, _, _] _
        first | refine T_iinc1 dX8_claim_49 rfl ?_ | refine T_iinc dX8_claim_49 rfl ?_
        show TK _ _ _ _ _ _ _ _ _ [_, _, _, _] _
        refine T_goto dX8_claim_52 ?_
        exact ih (i + 1) (by omega)
    · rw [e]
      refine T_if_ne dX8_claim_18 (fun c18 => ?_) (fun c18 => by first | exact absurd c18 ((by decide)) | exact absurd ((by decide)) c18)
      exact zero (by unfold owF; rw [if_neg (by omega)])
theorem c_claim (Z : aZ) (d : Nat) (h : aH) {a : Nat} (hA : SD a) {w : SEA} {t : STD} (hw : SOK w) (ht : TOK w t) (hs : SEAC h w) (hd : SDC h a w t) {p : Nat} (hp : p < 4) : C0 Z mX8_claim (d + 2) [.ref a, .int (nI p)] h (PV h (.int (nI (claimF w t p)))) := by
  refine C0.of mokX8_claim (Nat.le_of_ble_eq_true rfl) ?_
  show T0 _ _ _ _ _ _ [_, _, _, _] _
  refine T_const dX8_claim_0 ?_
  refine T_istore dX8_claim_1 ?_
  show TK _ _ _ _ _ _ _ _ _ [_, _, _, _] _
  refine T_const dX8_claim_2 ?_
  refine T_istore dX8_claim_3 ?_
  show TK _ _ _ _ _ _ _ _ _ [_, _, _, _] _
  exact c_claim_loop Z d h hA hw ht hs hd hp _ ⟨rfl, rfl⟩ w.lost 0 (by omega)
theorem SD.ap {a b : Nat} (hA : SD a) (hB : SD b) (hn : a ≠ b) : ∀ i j, i < 4 → j < 4 → a + i ≠ b + j := by
  unfold SD at hA hB
  intro i j hi hj
  omega
theorem c_layBack (Z : aZ) (d : Nat) (h : aH) {a b : Nat} (hA : SD a) (hB : SD b) (hne : a ≠ b) {s k u o : Nat} (h1 : fi h a 6 = nI s) (hs : s < 1024) (h2 : fi h b 5 = nI k) (hk : k ≤ 10) (h3 : fi h b 6 = nI u) (hu : u < 2 ^ k) (h4 : fi h b 7 = nI o) : C0 Z mX8_layBack d [.ref a, .ref b] h (fun r h' => r = none ∧ fi h' a 5 = fi h a 5 ∧ fi h' a 6 = nI (2 ^ k * (s / 2 ^ k) + u) ∧ fi h' a 7 = nI o ∧ ri h' (a + 1) = va_cpy (ri h (b + 1)) (ri h (a + 1)) 0 0 k ∧ ri h' (a + 2) = va_cpy (ri h (b + 2)) (ri h (a + 2)) 0 0 5 ∧ Only h h' [a + 1, a + 2] [a]) := by
  have ap := hA.ap hB hne
  refine C0.of mokX8_layBack (Nat.le_of_ble_eq_true rfl) ?_
  show T0 _ _ _ _ _ _ [_, _, _] _
  refine T_aload dX8_layBack_0 rfl ?_
  refine T_getfN (by first | assumption | rfl) dX8_layBack_1 lfX8_33 rfl (SD.kd0 hA) (SD.nx0 hA) ?_
  refine T_aload dX8_layBack_4 rfl ?_
  refine T_getfN (by first | assumption | rfl) dX8_layBack_5 lfX8_36 rfl (SD.kd0 hB) (SD.nx0 hB) ?_
  have e0 : (nI s >>> (nI k &&& 31)) <<< (nI k &&& 31) = nI (2 ^ k * (s / 2 ^ k)) := by
    rw [pk_shrN (by omega) _ k (s_l k (by omega)), pk_shlN _ k (s_l k (by omega)) (by have := Nat.div_mul_le_self s (2 ^ k); omega), Nat.mul_comm]
  refine T_ishr dX8_layBack_8 ?_
  refine T_aload dX8_layBack_9 rfl ?_
  refine T_getfN (by first | assumption | rfl) dX8_layBack_10 lfX8_36 rfl (SD.kd0 hB) (SD.nx0 hB) ?_
  refine T_ishl dX8_layBack_13 ?_
  rw [e0]
  refine T_istore dX8_layBack_14 ?_
  show TK _ _ _ _ _ _ _ _ _ [_, _, _] _
  refine T_aload dX8_layBack_15 rfl ?_
  refine T_iload dX8_layBack_16 rfl ?_
  refine T_aload dX8_layBack_17 rfl ?_
  refine T_getfN (by first | assumption | rfl) dX8_layBack_18 lfX8_33 rfl (SD.kd0 hB) (SD.nx0 hB) ?_
  refine T_ior dX8_layBack_21 ?_
  rw [fa_or, ← Nat.two_pow_add_eq_or_of_lt hu]
  have k2 : fi (sfi h a 6 (nI (2 ^ k * (s / 2 ^ k) + u))) b 7 = nI o := by rw [fi_sfi_ne (Ne.symm hne)]; exact h4
  refine T_putf dX8_layBack_22 lfX8_33 rfl rfl (SD.kd0 hA) (SD.nx0 hA) ⟨rfl, rfl⟩ ?_
  refine T_aload dX8_layBack_25 rfl ?_
  refine T_aload dX8_layBack_26 rfl ?_
  refine T_getfN (by first | assumption | rfl) dX8_layBack_27 lfX8_21 rfl (SD.kd0 hB) (SD.nx0 hB) ?_
  refine T_putf dX8_layBack_30 lfX8_21 rfl rfl (SD.kd0 hA) (SD.nx0 hA) ⟨rfl, rfl⟩ ?_
  have k3 : fi (sfi (sfi h a 6 (nI (2 ^ k * (s / 2 ^ k) + u))) a 7 (nI o)) b 5 = nI k := by rw [fi_sfi_ne (Ne.symm hne), fi_sfi_ne (Ne.symm hne)]; exact h2
  refine T_aload dX8_layBack_33 rfl ?_
  refine T_getr dX8_layBack_34 lfX8_9 rfl (SD.kd0 hB) (SD.nx0 hB) (SD.f2 hB) ?_
  refine T_const dX8_layBack_37 ?_
  refine T_aload dX8_layBack_38 rfl ?_
  refine T_getr dX8_layBack_39 lfX8_9 rfl (SD.kd0 hA) (SD.nx0 hA) (SD.f2 hA) ?_
  refine T_const dX8_layBack_42 ?_
  refine T_aload dX8_layBack_43 rfl ?_
  refine T_getfN (by first | assumption | rfl) dX8_layBack_44 lfX8_36 rfl (SD.kd0 hB) (SD.nx0 hB) ?_
  refine T_copyiN (N0 := 10) (N1 := 10) (p := 0) (q := 0) (k := k) dX8_layBack_47 lcX8_43 (SD.k2 hB) (SD.n2 hB) (SD.l2 hB) (SD.k2 hA) (SD.n2 hA) (SD.l2 hA) rfl rfl rfl (by omega) (by omega) (by decide) (by decide) (Nat.le_of_ble_eq_true rfl) ?_
  refine T_aload dX8_layBack_50 rfl ?_
  refine T_getr dX8_layBack_51 lfX8_15 rfl (SD.kd0 hB) (SD.nx0 hB) (SD.f3 hB) ?_
  refine T_const dX8_layBack_54 ?_
  refine T_aload dX8_layBack_55 rfl ?_
  refine T_getr dX8_layBack_56 lfX8_15 rfl (SD.kd0 hA) (SD.nx0 hA) (SD.f3 hA) ?_
  refine T_const dX8_layBack_59 ?_
  refine T_const dX8_layBack_60 ?_
  refine T_copyiN (N0 := 5) (N1 := 5) (p := 0) (q := 0) (k := 5) dX8_layBack_61 lcX8_43 (SD.k3 hB) (SD.n3 hB) (SD.l3 hB) (SD.k3 hA) (SD.n3 hA) (SD.l3 hA) rfl rfl rfl (by omega) (by omega) (by decide) (by decide) (Nat.le_of_ble_eq_true rfl) ?_
  refine T0_vret dX8_layBack_64 ⟨rfl, ?_, ?_, ?_, ?_, ?_, ?_⟩
  · rw [fi_srow, fi_srow, fi_sfi_off (by decide), fi_sfi_off (by decide)]
  · rw [fi_srow, fi_srow, fi_sfi_off (by decide), fi_sfi_at]
  · rw [fi_srow, fi_srow, fi_sfi_at]
  · rw [ri_srow_ne (by omega), ri_srow, ri_sfi, ri_sfi]
  · rw [ri_srow, ri_srow_ne (Ne.symm (ap 1 2 (by decide) (by decide))), ri_srow_ne (by omega), ri_sfi, ri_sfi]
  · exact ((((Only.rf h _ _).sfi (by simp)).sfi (by simp)).srow (by simp)).srow (by simp)
/-- who is home there are no more than are lost -/
def HB (h : aH) (a : Nat) (w : SEA) : Prop := ∃ s, s < 2 ^ w.lost ∧ fi h a 6 = nI s
theorem c_become (Z : aZ) (d : Nat) (h : aH) {a b : Nat} (hA : SD a) (hB : SD b) (hne : a ≠ b) {w : SEA} {t : STD} (hw : SOK w) (ht : TOK w t) (hd : SDC h b w t) (hh : HB h a w) : C0 Z mX8_become (d + 1) [.ref a, .ref b] h (fun r h' => r = none ∧ SDC h' a w t ∧ (∀ k, k < 5 → ri h' (a + 2) k = ri h (b + 2) k) ∧ Only h h' [a + 1, a + 2] [a]) := by
  obtain ⟨w1, -⟩ := id hw
  obtain ⟨d1, d2, d3, d4⟩ := id hd
  obtain ⟨s, hs, h6⟩ := hh
  have hf : ∀ i, i < w.lost → t.home i ≤ 1 := fun i hi => (ht.1 i hi).2
  have hs10 : s < 1024 := Nat.lt_of_lt_of_le hs (Nat.pow_le_pow_right (by decide) w1 (n := 2))
  refine C0.of mokX8_become (Nat.le_of_ble_eq_true rfl) ?_
  show T0 _ _ _ _ _ _ [_, _] _
  refine T_aload dX8_become_0 rfl ?_
  refine T_aload dX8_become_1 rfl ?_
  refine T_getfN (by first | assumption | rfl) dX8_become_2 lfX8_36 rfl (SD.kd0 hB) (SD.nx0 hB) ?_
  refine T_putf dX8_become_5 lfX8_36 rfl rfl (SD.kd0 hA) (SD.nx0 hA) ⟨rfl, rfl⟩ ?_
  refine T_aload dX8_become_8 rfl ?_
  refine T_aload dX8_become_9 rfl ?_
  have g6 : fi (sfi h a 5 (nI w.lost)) a 6 = nI s := by rw [fi_sfi_off (by decide)]; exact h6
  have gb : ∀ k, fi (sfi h a 5 (nI w.lost)) b k = fi h b k := fun k => by rw [fi_sfi_ne (Ne.symm hne)]
  refine T0_V (c_layBack Z d _ hA hB hne g6 hs10 ((gb 5).trans d1) w1 ((gb 6).trans d3) (bsum_lt hf) ((gb 7).trans d4)) dX8_become_10 lvX8_39 rfl rfl (SD.kd0 hA) (SD.nx0 hA) (Nat.le_of_ble_eq_true rfl) (fun r h1 q => ?_)
  obtain ⟨rfl, q1, q2, q3, q4, q5, q6⟩ := q
  refine T0_vret dX8_become_13 ⟨rfl, ⟨?_, ?_, ?_, q3⟩, ?_, ?_⟩
  · rw [q1]; exact fi_sfi_at
  · intro i hi
    rw [q4, pk_cpy_in (Nat.zero_le _) (by omega), ri_sfi, Nat.sub_zero, Nat.zero_add]
    exact d2 i hi
  · rw [q2, Nat.div_eq_of_lt hs, Nat.mul_zero, Nat.zero_add]
  · intro k hk
    rw [q5, pk_cpy_in (Nat.zero_le _) (by omega), ri_sfi, Nat.sub_zero, Nat.zero_add]
  · exact ((Only.rf h _ _).sfi (by simp)).same q6
