/-! ===== heard: the same answer ===== -/
theorem popk {f : Nat → Nat} (hf : ∀ i, i < 64 → f i ≤ 1) {k P : Nat} (hk : k < 8) (hP : P = 2 ^ (8 * k)) : pop8 (bsum f 64 / P % 256) = f (8 * k) + f (8 * k + 1) + f (8 * k + 2) + f (8 * k + 3) + f (8 * k + 4) + f (8 * k + 5) + f (8 * k + 6) + f (8 * k + 7) := by
  have d : ∀ i, i < 8 → bsum f 64 / P / 2 ^ i % 2 = f (8 * k + i) := fun i hi => by
    rw [hP, Nat.div_div_eq_div_mul, ← Nat.pow_add]
    exact bsum_dm hf (by omega)
  generalize bsum f 64 / P = u at d ⊢
  have d0 : u / 1 % 2 = f (8 * k) := d 0 (by omega)
  have d1 : u / 2 % 2 = f (8 * k + 1) := d 1 (by omega)
  have d2 : u / 4 % 2 = f (8 * k + 2) := d 2 (by omega)
  have d3 : u / 8 % 2 = f (8 * k + 3) := d 3 (by omega)
  have d4 : u / 16 % 2 = f (8 * k + 4) := d 4 (by omega)
  have d5 : u / 32 % 2 = f (8 * k + 5) := d 5 (by omega)
  have d6 : u / 64 % 2 = f (8 * k + 6) := d 6 (by omega)
  have d7 : u / 128 % 2 = f (8 * k + 7) := d 7 (by omega)
  rw [← d0, ← d1, ← d2, ← d3, ← d4, ← d5, ← d6, ← d7]
  unfold pop8
  omega
theorem nsum8 (f : Nat → Nat) (n : Nat) : nsum f (n + 8) = nsum f n + (f n + f (n + 1) + f (n + 2) + f (n + 3) + f (n + 4) + f (n + 5) + f (n + 6) + f (n + 7)) := by
  show nsum f n + f n + f (n + 1) + f (n + 2) + f (n + 3) + f (n + 4) + f (n + 5) + f (n + 6) + f (n + 7) = _
  omega
theorem bits_pop {f : Nat → Nat} (hf : ∀ i, i < 64 → f i ≤ 1) : fJ13_bitCount_95d88 (lN (bsum f 64)) = some (nI (nsum f 64)) := by
  have hs : bsum f 64 < 2 ^ 64 := bsum_lt hf
  have e : bsum f 64 = vB [bsum f 64 / 1 % 256, bsum f 64 / 256 % 256, bsum f 64 / 65536 % 256, bsum f 64 / 16777216 % 256, bsum f 64 / 4294967296 % 256, bsum f 64 / 1099511627776 % 256, bsum f 64 / 281474976710656 % 256, bsum f 64 / 72057594037927936 % 256] := by
    simp only [vB]
    omega
  have m : ∀ u : Nat, u % 256 < 256 := fun u => Nat.mod_lt _ (by omega)
  have n1 : nsum f 64 = nsum f 56 + _ := nsum8 f 56
  have n2 : nsum f 56 = nsum f 48 + _ := nsum8 f 48
  have n3 : nsum f 48 = nsum f 40 + _ := nsum8 f 40
  have n4 : nsum f 40 = nsum f 32 + _ := nsum8 f 32
  have n5 : nsum f 32 = nsum f 24 + _ := nsum8 f 24
  have n6 : nsum f 24 = nsum f 16 + _ := nsum8 f 16
  have n7 : nsum f 16 = nsum f 8 + _ := nsum8 f 8
  have n8 : nsum f 8 = nsum f 0 + _ := nsum8 f 0
  have n0 : nsum f 0 = 0 := rfl
  have q := bit_v (m (bsum f 64 / 1)) (m (bsum f 64 / 256)) (m (bsum f 64 / 65536)) (m (bsum f 64 / 16777216)) (m (bsum f 64 / 4294967296)) (m (bsum f 64 / 1099511627776)) (m (bsum f 64 / 281474976710656)) (m (bsum f 64 / 72057594037927936))
  rw [← e, popk hf (k := 0) (by omega) rfl, popk hf (k := 1) (by omega) rfl, popk hf (k := 2) (by omega) rfl, popk hf (k := 3) (by omega) rfl, popk hf (k := 4) (by omega) rfl, popk hf (k := 5) (by omega) rfl, popk hf (k := 6) (by omega) rfl, popk hf (k := 7) (by omega) rfl] at q
  rw [q, n1, n2, n3, n4, n5, n6, n7, n8, n0]
  congr 2
  simp only [Nat.mul_zero, Nat.mul_one, Nat.zero_add, Nat.reduceMul, Nat.reduceAdd]
def litB (w : SEA) (y i : Nat) : Nat := if litF w.lamp y i = true then 1 else 0
def flatB (w : SEA) (i : Nat) : Nat := if w.dp i = 0 then 1 else 0
def bothB (w : SEA) (y i : Nat) : Nat := litB w y i * flatB w i
theorem litB_le (w : SEA) (y i : Nat) : litB w y i ≤ 1 := by unfold litB; split <;> omega
theorem flatB_le (w : SEA) (i : Nat) : flatB w i ≤ 1 := by unfold flatB; split <;> omega
theorem bothB_le (w : SEA) (y i : Nat) : bothB w y i ≤ 1 := by
  have h1 := litB_le w y i
  have h2 := flatB_le w i
  exact Nat.le_trans (Nat.mul_le_mul h1 h2) (by omega)
theorem both_and (w : SEA) (y : Nat) : bsum (litB w y) 64 &&& bsum (flatB w) 64 = bsum (bothB w y) 64 := by
  apply Nat.eq_of_testBit_eq
  intro i
  rw [Nat.testBit_and, bsum_bit (fun i _ => litB_le w y i), bsum_bit (fun i _ => flatB_le w i), bsum_bit (fun i _ => bothB_le w y i)]
  have h1 := litB_le w y i
  have h2 := flatB_le w i
  unfold bothB
  rcases Nat.le_one_iff_eq_zero_or_eq_one.mp h1 with e1 | e1 <;> rcases Nat.le_one_iff_eq_zero_or_eq_one.mp h2 with e2 | e2 <;> rw [e1, e2] <;> simp
theorem lit_xv {x : aH} {w : SEA} {y : Nat} (hl : fi x 1 4 = nI w.lamp) (hla : w.lamp < 64) (hy : y < 4) : fX5_lit x (nI y) = some (lN (bsum (litB w y) 64)) := by
  apply OK.eq
  unfold fX5_lit
  refine OK.bind (P := fun q => q = lN (bsum (litB w y) 64)) ?_ (fun q hq => OK.ret hq)
  refine LOOPUP (fun n (st : Int64) l => wX5_lit_5 x (nI y) n st l) (fun ih st l => sX5_lit_5 x (nI y) ih st l) (fun n => rfl) (fun i st => st = lN (bsum (litB w y) i)) _ 64 ?_ ?_ 2000 0 0 (by omega) (by omega) rfl
  · rintro i st hi rfl ih hk
    unfold sX5_lit_5 jX5_lit_29
    rw [isLit_x hl hla hy hi, nI_1]
    refine OK.f (by rw [leL (by omega) (by omega)]; omega) (OK.r rfl ?_)
    by_cases c : litF w.lamp y i = true
    · rw [if_pos c]
      refine OK.f n10 (hk _ ?_)
      rw [lor_bit hi (bsum_lt (fun i _ => litB_le w y i))]
      show lN _ = lN (bsum (litB w y) i + litB w y i * 2 ^ i)
      rw [show litB w y i = 1 from if_pos c, Nat.one_mul]
    · rw [if_neg c]
      refine OK.t rfl (hk _ ?_)
      show lN _ = lN (bsum (litB w y) i + litB w y i * 2 ^ i)
      rw [show litB w y i = 0 from if_neg c, Nat.zero_mul, Nat.add_zero]
  · rintro st rfl ih
    unfold sX5_lit_5
    exact OK.t (by decide) (OK.ret rfl)
theorem flat_xv {x : aH} {w : SEA} (hs : vSea x w) (hw : SOK w) : fX5_flat x = some (lN (bsum (flatB w) 64)) := by
  apply OK.eq
  unfold fX5_flat
  refine OK.bind (P := fun q => q = lN (bsum (flatB w) 64)) ?_ (fun q hq => OK.ret hq)
  refine LOOPUP (fun n (st : Int64) l => wX5_flat_4 x n st l) (fun ih st l => sX5_flat_4 x ih st l) (fun n => rfl) (fun i st => st = lN (bsum (flatB w) i)) _ 64 ?_ ?_ 2000 0 0 (by omega) (by omega) rfl
  · rintro i st hi rfl ih hk
    have ci : (0 : Int32) ≤ nI i ∧ nI i < (64 : Int32) := inN (by omega) (by omega)
    have hd := (hw.2.1 i hi).1
    unfold sX5_flat_4 jX5_flat_25
    rw [nI_1, ixN (by omega), (hs.1 i hi).1]
    refine OK.f (by rw [leL (by omega) (by omega)]; omega) (OK.t ci ?_)
    by_cases c : w.dp i = 0
    · refine OK.t (by rw [c]; rfl) (hk _ ?_)
      rw [lor_bit hi (bsum_lt (fun i _ => flatB_le w i))]
      show lN _ = lN (bsum (flatB w) i + flatB w i * 2 ^ i)
      rw [show flatB w i = 1 from if_pos c, Nat.one_mul]
    · refine OK.f (by rw [eqR (by omega) (by omega)]; exact c) (hk _ ?_)
      show lN _ = lN (bsum (flatB w) i + flatB w i * 2 ^ i)
      rw [show flatB w i = 0 from if_neg c, Nat.zero_mul, Nat.add_zero]
  · rintro st rfl ih
    unfold sX5_flat_4
    exact OK.t (by decide) (OK.ret rfl)
theorem heard_mv {m : aH} {w : SEA} {y : Nat} (hm : mSea m w) (hw : SOK w) (hy : y < 4) (p2 : Int32) : wX11_heard_34 m (nI y) p2 2000 0 0 0 = some (nI (nsum (litB w y) 64), nI (nsum (bothB w y) 64)) := by
  apply OK.eq
  have hla := hw.2.2.2.1
  refine LOOPUP (fun n (st : Int32 × Int32) l => wX11_heard_34 m (nI y) p2 n st.1 st.2 l) (fun ih st l => sX11_heard_34 m (nI y) p2 (fun a b c => ih (a, b) c) st.1 st.2 l) (fun n => rfl) (fun i st => st = (nI (nsum (litB w y) i), nI (nsum (bothB w y) i))) _ 64 ?_ ?_ 2000 0 (0, 0) (by omega) (by omega) rfl
  · rintro i st hi rfl ih hk
    have ci : (0 : Int32) ≤ (40 : Int32) + nI i ∧ (40 : Int32) + nI i < (172 : Int32) := inAdd (by omega) (by omega)
    have hd := (hw.2.1 i hi).1
    have s1 : nsum (litB w y) (i + 1) = nsum (litB w y) i + litB w y i := rfl
    have s2 : nsum (bothB w y) (i + 1) = nsum (bothB w y) i + litB w y i * flatB w i := rfl
    try dsimp only
    unfold sX11_heard_34 jX11_heard_74 jX11_heard_77
    rw [isSeen_m hm.2.2.1.1 hla hy hi, nI_1, nI_1, addL, ixN (by omega), (hm.1 i hi).1]
    refine OK.f (by rw [leL (by omega) (by omega)]; omega) (OK.r rfl ?_)
    by_cases c : litF w.lamp y i = true
    · have e1 : litB w y i = 1 := if_pos c
      rw [e1] at s1 s2
      rw [if_pos c]
      refine OK.f n10 (OK.t (by rw [← addL]; exact ci) ?_)
      by_cases c2 : w.dp i = 0
      · have e2 : flatB w i = 1 := if_pos c2
        rw [e2] at s2
        refine OK.t (by rw [c2]; rfl) (hk (_, _) ?_)
        rw [s1, s2, addR]
      · have e2 : flatB w i = 0 := if_neg c2
        rw [e2] at s2
        refine OK.f (by rw [eqR (by omega) (by omega)]; exact c2) (hk (_, _) ?_)
        rw [s1, s2]
        show (_, _ + (0 : Int32)) = _
        rw [show ∀ b, nI b + (0 : Int32) = nI b from fun b => nI_add b 0]
        simp
    · have e1 : litB w y i = 0 := if_neg c
      rw [e1] at s1 s2
      rw [if_neg c]
      refine OK.t rfl (hk (_, _) ?_)
      rw [s1, s2]
      simp
  · rintro st rfl ih
    unfold sX11_heard_34
    exact OK.t (by decide) (OK.ret rfl)
theorem div_xv (x : aH) {a n : Nat} (hn : n < 128) (ha : a < 128) (h0 : 1 ≤ n) : fX10_commonDivisor x (nI a) (nI n) = some (nI (Nat.gcd a n)) := by
  apply OK.eq
  have hg : 1 ≤ Nat.gcd a n := Nat.gcd_pos_of_pos_right a h0
  have hga := Nat.gcd_dvd_left a n
  have hgn := Nat.gcd_dvd_right a n
  have hle : Nat.gcd a n ≤ n := Nat.le_of_dvd h0 hgn
  unfold fX10_commonDivisor
  refine OK.bind (P := fun q => (∃ d, q = Sum.inl (nI d) ∧ d = Nat.gcd a n) ∨ (q = Sum.inr () ∧ Nat.gcd a n = 1)) ?_ (fun q hq => ?_)
  · refine LOOP (fun k (st : Int32) => wX10_commonDivisor_2 x (nI a) (nI n) k st) (fun ih st => sX10_commonDivisor_2 x (nI a) (nI n) ih st) (fun n => rfl) (fun k st => st = nI k ∧ k < 128 ∧ Nat.gcd a n ≤ k) _ ?_ 2000 n _ (by omega) ⟨rfl, hn, hle⟩
    rintro k st ⟨rfl, hk, hi⟩ ih hI
    try dsimp only
    unfold sX10_commonDivisor_2 jX10_commonDivisor_21
    by_cases c : k ≤ 1
    · exact OK.t (by rw [leR (by omega) (by omega)]; exact c) (OK.ret (Or.inr ⟨rfl, by omega⟩))
    · refine OK.f (by rw [leR (by omega) (by omega)]; exact c) ?_
      have c0 : ¬ nI k = (0 : Int32) := by rw [eqR (by omega) (by omega)]; omega
      have go : Nat.gcd a n ≠ k → OK (ih (nI k + (-1 : Int32))) (fun q => (∃ d, q = Sum.inl (nI d) ∧ d = Nat.gcd a n) ∨ (q = Sum.inr () ∧ Nat.gcd a n = 1)) := by
        intro hne
        rw [decN (by omega)]
        exact hI (k - 1) _ (by omega) ⟨rfl, by omega, by omega⟩
      have hlt1 := Nat.mod_lt a (show 0 < k by omega)
      have hlt2 := Nat.mod_lt n (show 0 < k by omega)
      rw [nI_rem (k := k) rfl (by omega) (by omega) (by omega), nI_rem (k := k) rfl (by omega) (by omega) (by omega)]
      refine OK.t c0 ?_
      by_cases c1 : a % k = 0
      · refine OK.t (by rw [c1]; rfl) (OK.t c0 ?_)
        by_cases c2 : n % k = 0
        · refine OK.t (by rw [c2]; rfl) (OK.ret (Or.inl ⟨k, rfl, ?_⟩))
          have hd := Nat.dvd_gcd (Nat.dvd_of_mod_eq_zero c1) (Nat.dvd_of_mod_eq_zero c2)
          have := Nat.le_of_dvd hg hd
          omega
        · exact OK.f (by rw [eqR (by omega) (by omega)]; exact c2) (go (fun z => c2 (Nat.mod_eq_zero_of_dvd (by rw [← z]; exact hgn))))
      · exact OK.f (by rw [eqR (by omega) (by omega)]; exact c1) (go (fun z => c1 (Nat.mod_eq_zero_of_dvd (by rw [← z]; exact hga))))
  · rcases hq with ⟨d, rfl, rfl⟩ | ⟨rfl, h1⟩
    · exact OK.ret rfl
    · exact OK.ret (by rw [h1]; rfl)
theorem euclid_mv (m : aH) (p a0 b0 : Int32) {a b : Nat} (ha : a ≤ 64) (hb : b ≤ 64) : wX11_heard_98 m p a0 b0 2000 (nI a) (nI b) = some (nI (Nat.gcd a b)) := by
  apply OK.eq
  refine LOOP (fun k (st : Int32 × Int32) => wX11_heard_98 m p a0 b0 k st.1 st.2) (fun ih st => sX11_heard_98 m p a0 b0 (fun u v => ih (u, v)) st.1 st.2) (fun n => rfl) (fun k st => ∃ c d, c ≤ 64 ∧ d ≤ 64 ∧ Nat.gcd c d = Nat.gcd a b ∧ k = d ∧ st = (nI c, nI d)) _ ?_ 2000 b (nI a, nI b) (by omega) ⟨a, b, ha, hb, rfl, rfl, rfl⟩
  rintro k st ⟨c, d, hc, hd, h, rfl, rfl⟩ ih hI
  try dsimp only
  unfold sX11_heard_98
  by_cases z : k = 0
  · refine OK.t (by rw [z]; rfl) (OK.ret ?_)
    rw [← h, z, Nat.gcd_zero_right]
  · have z0 : ¬ nI k = (0 : Int32) := by rw [eqR (by omega) (by omega)]; exact z
    have hk0 : 0 < k := Nat.pos_of_ne_zero z
    have hlt := Nat.mod_lt c hk0
    refine OK.f z0 (OK.t z0 ?_)
    rw [nI_rem (k := k) rfl (by omega) hk0 (by omega)]
    exact hI (c % k) (nI k, nI (c % k)) hlt ⟨k, c % k, hd, by omega, by rw [← h, Nat.gcd_comm c k, Nat.gcd_rec k c, Nat.gcd_comm], rfl, rfl⟩
theorem op_heardV {x m : aH} (hJ : JJ x m) (p1 p2 : Int32) : OK2 (fX10_heard x p1 p2) (fX11_heard m p1 p2) (fun a b => a = b) := by
  obtain ⟨w, t, hR⟩ := hJ
  obtain ⟨⟨hw, ht⟩, ⟨hs, hv, hh⟩, hms, hmv⟩ := hR.1.1
  have hla := hw.2.2.2.1
  unfold fX10_heard fX11_heard
  rw [isWay_x, w3, w1]
  by_cases hp : 0 ≤ p1 ∧ p1 < 4
  · obtain ⟨y, hy, rfl⟩ := (in_range p1 4 (by omega)).mp hp
    have hp3 : 0 ≤ nI y ∧ nI y ≤ (3 : Int32) := ⟨hp.1, (leR (by omega) (by omega)).mpr (by omega)⟩
    rw [bI_t hp, bI_t hp3]
    simp only [Option.bind_some, if_neg n10]
    by_cases h2 : 0 ≤ p2 ∧ p2 ≤ 1
    · rw [bI_t h2, if_neg (Int32.not_lt.mpr h2.1), if_pos h2.2, if_neg n10, lit_xv hs.2.2.1.1 hla hy]
      simp only [Option.bind_some]
      rw [bits_pop (fun i _ => litB_le w y i)]
      simp only [Option.bind_some]
      rw [flat_xv hs hw]
      simp only [Option.bind_some]
      rw [wb_and (bsum_lt (fun i _ => litB_le w y i)) (bsum_lt (fun i _ => flatB_le w i)), both_and, bits_pop (fun i _ => bothB_le w y i), heard_mv hms hw hy]
      simp only [Option.bind_some]
      have hA : nsum (litB w y) 64 ≤ 64 * 1 := nsum_le (fun i _ => litB_le w y i)
      have hB : nsum (bothB w y) 64 ≤ nsum (litB w y) 64 := nsum_mono (fun i _ => by
        have h1 := flatB_le w i
        exact Nat.le_trans (Nat.mul_le_mul (Nat.le_refl _) h1) (by omega))
      generalize nsum (litB w y) 64 = A at *
      generalize nsum (bothB w y) 64 = B at *
      by_cases hA0 : A = 0
      · have hB0 : B = 0 := by omega
        subst hA0
        subst hB0
        exact OK2.eq rfl rfl rfl
      · have a0 : ¬ nI A = (0 : Int32) := by rw [eqR (by omega) (by omega)]; exact hA0
        rw [if_neg a0]
        unfold jX10_heard_69
        rw [div_xv x (by omega) (by omega) (by omega)]
        simp only [Option.bind_some]
        have hg : 1 ≤ Nat.gcd B A := Nat.gcd_pos_of_pos_right B (by omega)
        have hgl : Nat.gcd B A ≤ A := Nat.le_of_dvd (by omega) (Nat.gcd_dvd_right B A)
        have g0 : ¬ nI (Nat.gcd B A) = (0 : Int32) := by rw [eqR (by omega) (by omega)]; omega
        simp only [g0, not_false_eq_true, if_true]
        by_cases hB0 : B = 0
        · subst hB0
          rw [Nat.gcd_zero_left]
          have q0 : nI 0 / nI A = (0 : Int32) := by rw [nI_div (k := A) rfl (by omega) (by omega) (by omega), Nat.zero_div]; rfl
          have q1 : nI A / nI A = (1 : Int32) := by rw [nI_div (k := A) rfl (by omega) (by omega) (by omega), Nat.div_self (by omega)]; rfl
          rw [q0, q1]
          by_cases hz : p2 = 0
          · subst hz
            exact OK2.eq rfl rfl rfl
          · have hz1 : p2 = 1 := by grind
            subst hz1
            exact OK2.eq rfl rfl rfl
        · have b0 : ¬ nI B = (0 : Int32) := by rw [eqR (by omega) (by omega)]; exact hB0
          rw [if_neg b0, euclid_mv m p2 _ _ (by omega) (by omega)]
          simp only [Option.bind_some, g0, not_false_eq_true, if_true]
          by_cases hz : p2 = 0
          · rw [if_pos hz]
            exact OK2.eq rfl rfl rfl
          · rw [if_neg hz]
            exact OK2.eq rfl rfl rfl
    · rw [bI_f h2]
      refine OK2.eq (a := -9223372036854775808) (b := -9223372036854775808) ?_ rfl rfl
      by_cases h3 : p2 < 0
      · rw [if_pos h3]
      · rw [if_neg h3, if_neg (by grind)]
  · rw [bI_f hp, bI_f (by grind)]
    exact OK2.eq rfl rfl rfl
