/-! ===== lost, losts, oil, led, image, back, count ===== -/
theorem stLH : ∀ wh, wh < 10 → stR 0 wh = nI (lowN wh) ∧ stR 1 wh = nI (highN wh) := by decide +kernel
theorem high_lt (wh : Nat) : lowN wh ≤ 1 ∧ highN wh ≤ 999 := by
  unfold lowN highN
  constructor
  · split <;> omega
  · repeat' split
    all_goals omega
theorem isWithin_x (x : aH) {wh : Nat} (h : wh < 10) (v : Int32) : fX10_isWithin x (nI wh) v = some (bI (nI (lowN wh) ≤ v ∧ v ≤ nI (highN wh))) := by
  have c := in10 h
  unfold fX10_isWithin
  rw [if_pos c, if_pos c, ixN (by omega), (stLH wh h).1, (stLH wh h).2]
  by_cases h1 : v < nI (lowN wh)
  · rw [if_pos h1, bI_f (by grind)]
  · rw [if_neg h1]
    by_cases h2 : nI (highN wh) < v
    · rw [if_pos h2, bI_f (by grind)]
    · rw [if_neg h2, bI_t (by grind)]
theorem isWithin_0 (x : aH) (v : Int32) : fX10_isWithin x 0 v = some (bI (0 ≤ v ∧ v ≤ 63)) := isWithin_x x (wh := 0) (by decide) v
theorem isWithin_1 (x : aH) (v : Int32) : fX10_isWithin x 1 v = some (bI (0 ≤ v ∧ v ≤ 3)) := isWithin_x x (wh := 1) (by decide) v
theorem isWithin_2 (x : aH) (v : Int32) : fX10_isWithin x 2 v = some (bI (0 ≤ v ∧ v ≤ 9)) := isWithin_x x (wh := 2) (by decide) v
theorem isCell_i (a : Int32) : fX11_isCell a.toInt64 = some (bI (0 ≤ a ∧ a ≤ 63)) := by
  unfold fX11_isCell
  rw [show fX11_within a.toInt64 (0 : Int64) (63 : Int64) = _ from within_i a 0 63]
  simp only [Option.bind_some]
  rcases bI_01 (0 ≤ a ∧ a ≤ 63) with e | e
  · rw [e, if_pos (Or.inl rfl)]
  · rw [e, if_pos (Or.inr rfl)]
theorem mayCome_i (a b c : Int32) : fX11_mayCome a.toInt64 b.toInt64 c.toInt64 = some (bI ((0 ≤ a ∧ a ≤ 63) ∧ (0 ≤ b ∧ b ≤ 3) ∧ (0 ≤ c ∧ c ≤ 9))) := by
  unfold fX11_mayCome
  rw [isCell_i, show fX11_within b.toInt64 (0 : Int64) (3 : Int64) = _ from within_i b 0 3, show fX11_within c.toInt64 (0 : Int64) (9 : Int64) = _ from within_i c 0 9]
  simp only [Option.bind_some]
  by_cases h1 : 0 ≤ a ∧ a ≤ 63
  · rw [bI_t h1, if_neg n10]
    by_cases h2 : 0 ≤ b ∧ b ≤ 3
    · rw [bI_t h2, if_neg n10]
      by_cases h3 : 0 ≤ c ∧ c ≤ 9
      · rw [bI_t h3, if_neg n10, bI_t ⟨h1, h2, h3⟩]
      · rw [bI_f h3, if_pos rfl, bI_f (fun z => h3 z.2.2)]
    · rw [bI_f h2, if_pos rfl, bI_f (fun z => h2 z.2.1)]
  · rw [bI_f h1, if_pos rfl, bI_f (fun z => h1 z.1)]
theorem op_lost {x m : aH} (hJ : JJ x m) (p1 p2 : Int32) : OK2 (fX10_lost x p1 p2) (fX11_lost m p1 p2) PJ := by
  obtain ⟨w, t, hR⟩ := hJ
  have hn := hR.1.1.1.1.1
  have hl := hR.1.1.2.1.2.1.1
  have hm := hR.1.1.2.2.1.2.2.2.1
  have hmc : fX11_mayCome p1.toInt64 p2.toInt64 (0 : Int64) = _ := mayCome_i p1 p2 0
  by_cases h1 : 0 ≤ p1 ∧ p1 ≤ 63
  · by_cases h2 : 0 ≤ p2 ∧ p2 ≤ 3
    · rw [bI_t ⟨h1, h2, by decide, by decide⟩] at hmc
      by_cases hf : w.lost = 10
      · refine OK2.bad (v := -3) hR ?_ ?_
        · simp [fX10_lost, isWithin_0, isWithin_1, bI_t h1, bI_t h2, hl, hf, show ¬ (nI 10 < (10 : Int32)) from by decide]
        · simp [fX11_lost, hmc, hm, hf, show nI 10 = (10 : Int32) from rfl]
      · obtain ⟨a, ha, rfl⟩ := le_arg (N := 63) (by omega) rfl h1
        obtain ⟨b, hb, rfl⟩ := le_arg (N := 3) (by omega) rfl h2
        obtain ⟨x', m', e1, e2, hJ', fx, fm⟩ := add_x (o := 0) hR (show w.lost < 10 by omega) (show a < 64 by omega) (show b < 4 by omega) (by omega)
        have c1 : nI w.lost < (10 : Int32) := (ltR (by omega) (by omega)).mpr (by omega)
        have c2 : ¬ nI w.lost = (10 : Int32) := by rw [eqR (by omega) (by omega)]; exact hf
        have e1' : fX10_addLost x (nI a) (nI b) 0 = some (nI w.lost, x') := e1
        have e2' : fX11_adds m (nI a) (nI b) 0 = some m' := e2
        refine ⟨(nI w.lost, x'), (nI w.lost, m'), ?_, ?_, ⟨_, _, hJ'⟩, rfl⟩
        · simp [fX10_lost, isWithin_0, isWithin_1, bI_t h1, bI_t h2, hl, c1, e1']
        · have e6 : fi m' 73 6 = nI (w.lost + 1) := hJ'.1.1.2.2.1.2.2.2.1
          have e7 : nI (w.lost + 1) - 1 = nI w.lost := nI_pred _
          simp [fX11_lost, hmc, hm, c2, e2', e6, e7]
    · rw [bI_f (fun z => h2 z.2.1)] at hmc
      refine OK2.bad (v := -1) hR ?_ ?_
      · simp [fX10_lost, isWithin_0, isWithin_1, bI_t h1, bI_f h2]
      · simp [fX11_lost, hmc]
  · rw [bI_f (fun z => h1 z.1)] at hmc
    refine OK2.bad (v := -1) hR ?_ ?_
    · simp [fX10_lost, isWithin_0, bI_f h1]
    · simp [fX11_lost, hmc]
theorem shR.fr {x m x' m' : aH} {d s n : Nat} {R R' : List Nat} {F F' : List (Nat × Nat)} (h : shR x m d s n) (k : Fr R F x x') (k' : Fr R' F' m m') (hF : ∀ q, q ∈ F → q.1 < 61) (hR' : 94 ∉ R' ∧ 95 ∉ R') : shR x' m' d s n := by
  have e : ∀ k, fi x' (61 + 2 * d) k = fi x (61 + 2 * d) k := fun j => k.f (fun z => by have := hF _ z; dsimp only at this; omega)
  unfold shR
  rw [k'.r hR'.1, k'.r hR'.2, k.j, k'.j]
  simp only [e]
  exact h
theorem losts_loop {d n i q : Nat} (hd : d < 6) (hi : i ≤ 60) (hq : q ≤ 10) : ∀ (r came f f' : Nat) (x m : aH) (w : SEA) (t : STD), JR x m w t → shR x m d 0 n → came + r = q → r + 3 ≤ f → r + 3 ≤ f' → OK2 (wX10_losts_56 (nI q) (61 + 2 * d) f x (nI came) (nI (i + 3 * came))) (wX11_losts_69 (nI d) (nI i) (nI q) f' m (nI came) 1) PJ := by
  intro r
  induction r with
  | zero =>
    intro came f f' x m w t hR hsh hcr hf hf'
    obtain ⟨f, rfl⟩ : ∃ g, f = g + 1 := ⟨f - 1, by omega⟩
    obtain ⟨f', rfl⟩ : ∃ g, f' = g + 1 := ⟨f' - 1, by omega⟩
    have c : nI q ≤ nI came := (leN (by omega) (by omega)).mpr (by omega)
    refine OK2.eq (a := (nI came, x)) (b := (nI came, m)) ?_ ?_ ⟨⟨w, t, hR⟩, rfl⟩
    · show sX10_losts_56 _ _ _ _ _ _ = _
      unfold sX10_losts_56
      rw [if_pos c]
    · show sX11_losts_69 _ _ _ _ _ _ _ = _
      unfold sX11_losts_69
      rw [if_neg n10, if_pos c]
  | succ r ih =>
    intro came f f' x m w t hR hsh hcr hf hf'
    obtain ⟨f, rfl⟩ : ∃ g, f = g + 1 := ⟨f - 1, by omega⟩
    obtain ⟨f', rfl⟩ : ∃ g, f' = g + 2 := ⟨f' - 2, by omega⟩
    have hn := hR.1.1.1.1.1
    have hl := hR.1.1.2.1.2.1.1
    have hm := hR.1.1.2.2.1.2.2.2.1
    have hn60 := hsh.1.2
    have c : ¬ nI q ≤ nI came := by rw [leN (by omega) (by omega)]; omega
    have cd : (0 : Int32) ≤ nI d ∧ nI d < (6 : Int32) := inN (by omega) hd
    have stop : ∀ (o : Option (Int32 × aH)), o = some (nI came, x) → OK2 o (wX11_losts_69 (nI d) (nI i) (nI q) (f' + 1) m (nI came) 0) PJ := by
      rintro o rfl
      refine OK2.eq (a := (nI came, x)) (b := (nI came, m)) rfl ?_ ⟨⟨w, t, hR⟩, rfl⟩
      show sX11_losts_69 _ _ _ _ _ _ _ = _
      unfold sX11_losts_69
      rw [if_pos rfl]
    show OK2 (sX10_losts_56 _ _ _ _ _ _) (sX11_losts_69 _ _ _ (wX11_losts_69 (nI d) (nI i) (nI q) (f' + 1)) _ _ _) PJ
    unfold sX10_losts_56 sX11_losts_69
    rw [if_neg c, if_neg n10, if_neg c, if_pos cd, ixN (show d < 2147483648 by omega), hsh.2.2.1.2, hl, hm]
    unfold jX11_losts_110 jX11_losts_111 jX11_losts_166 jX11_losts_167 jX11_losts_209
    have e3 : ((3 : Int32)) * nI came = nI (3 * came) := mulL 3 came
    have em : nI n - (3 : Int32) - (3 : Int32) * nI came < nI i ↔ n < i + 3 * came + 3 := by
      rw [e3, show (3 : Int32) = nI 3 from rfl, nI_iI n, nI_iI 3, nI_iI (3 * came), nI_iI i, iI_sub, iI_sub, iI_lt (by omega) (by omega) (by omega) (by omega)]
      omega
    unfold fX7_hasPlaces
    have eh : nI n - (3 : Int32) < nI (i + 3 * came) ↔ n < i + 3 * came + 3 := by
      rw [show (3 : Int32) = nI 3 from rfl, nI_iI n, nI_iI 3, nI_iI (i + 3 * came), iI_sub, iI_lt (by omega) (by omega) (by omega) (by omega)]
      omega
    rw [hsh.2.1.2.1]
    by_cases h10 : w.lost = 10
    · have g1 : (10 : Int32) ≤ nI w.lost := (leL (by omega) (by omega)).mpr (by omega)
      rw [if_pos g1]
      by_cases hp : n < i + 3 * came + 3
      · rw [if_pos (em.mpr hp)]
        exact stop _ rfl
      · rw [if_neg (fun z => hp (em.mp z)), if_pos g1]
        exact stop _ rfl
    · have g1 : ¬ (10 : Int32) ≤ nI w.lost := by rw [leL (by omega) (by omega)]; omega
      rw [if_neg g1]
      by_cases hp : n < i + 3 * came + 3
      · rw [if_pos (em.mpr hp)]
        refine stop _ ?_
        rw [if_neg (lt0 (show i + 3 * came < 2147483648 by omega)), if_neg (show ¬ (3 : Int32) < 0 by decide)]
        by_cases h3 : nI n < (3 : Int32)
        · rw [if_pos h3]
          rfl
        · rw [if_neg h3, if_pos (eh.mpr hp)]
          rfl
      · rw [if_neg (fun z => hp (em.mp z)), if_neg g1, if_neg (lt0 (show i + 3 * came < 2147483648 by omega)), if_neg (show ¬ (3 : Int32) < 0 by decide), if_neg (by rw [ltR (by omega) (by omega)]; omega), if_neg (fun z => hp (eh.mp z))]
        simp only [Option.bind_some]
        rw [if_neg n10, if_neg n10]
        have ep : ((60 : Int32) * nI d) + nI i + ((3 : Int32) * nI came) = nI (60 * d + (i + 3 * came)) := by rw [e3, mulL, addN, addN]; congr 1; omega
        obtain ⟨v0, hv0⟩ := (hsh.2.2.2 (i + 3 * came) (by omega)).2 rfl
        obtain ⟨v1, hv1⟩ := (hsh.2.2.2 (i + 3 * came + 1) (by omega)).2 rfl
        obtain ⟨v2, hv2⟩ := (hsh.2.2.2 (i + 3 * came + 2) (by omega)).2 rfl
        have r0 : rj m 96 (ix (nI (60 * d + (i + 3 * came)))) = v0.toInt64 := by rw [ixN (by omega), hv0]
        have r1 : rj m 96 (ix (nI (60 * d + (i + 3 * came)) + (1 : Int32))) = v1.toInt64 := by rw [nI_1, ixN (by omega)]; exact hv1
        have r2 : rj m 96 (ix (nI (60 * d + (i + 3 * came)) + (2 : Int32))) = v2.toInt64 := by rw [addR, ixN (by omega)]; exact hv2
        have q0 : (0 : Int32) ≤ nI (60 * d + (i + 3 * came)) ∧ nI (60 * d + (i + 3 * came)) < (360 : Int32) := inN (by omega) (by omega)
        have q1 : (0 : Int32) ≤ nI (60 * d + (i + 3 * came)) + (1 : Int32) ∧ nI (60 * d + (i + 3 * came)) + (1 : Int32) < (360 : Int32) := by rw [nI_1]; exact inN (by omega) (by omega)
        have q2 : (0 : Int32) ≤ nI (60 * d + (i + 3 * came)) + (2 : Int32) ∧ nI (60 * d + (i + 3 * came)) + (2 : Int32) < (360 : Int32) := by rw [addR]; exact inN (by omega) (by omega)
        rw [ep]
        simp only [if_pos q0, if_pos q1, if_pos q2, r0, r1, r2, mayCome_i, Option.bind_some, ti_tl]
        have m0 : fX7_number x (61 + 2 * d) (nI (i + 3 * came)) = some v0 := by rw [number_x hsh (by omega), hv0, ti_tl]
        have m1 : fX7_number x (61 + 2 * d) (nI (i + 3 * came) + (1 : Int32)) = some v1 := by rw [nI_1, number_x hsh (by omega), hv1, ti_tl]
        have m2 : fX7_number x (61 + 2 * d) (nI (i + 3 * came) + (2 : Int32)) = some v2 := by rw [addR, number_x hsh (by omega), hv2, ti_tl]
        unfold fX10_isLostOne
        simp only [m0, m1, m2, Option.bind_some, isWithin_0, isWithin_1, isWithin_2]
        by_cases b0 : 0 ≤ v0 ∧ v0 ≤ 63
        · rw [bI_t b0, if_neg n10]
          by_cases b1 : 0 ≤ v1 ∧ v1 ≤ 3
          · rw [bI_t b1, if_neg n10]
            by_cases b2 : 0 ≤ v2 ∧ v2 ≤ 9
            · rw [bI_t b2, if_neg n10, bI_t ⟨b0, b1, b2⟩]
              simp only [Option.bind_some]
              rw [if_neg n10, if_neg n10]
              obtain ⟨a0, ha0, rfl⟩ := le_arg (N := 63) (by omega) rfl b0
              obtain ⟨a1, ha1, rfl⟩ := le_arg (N := 3) (by omega) rfl b1
              obtain ⟨a2, ha2, rfl⟩ := le_arg (N := 9) (by omega) rfl b2
              obtain ⟨x', m', e1, e2, hJ', fx, fm⟩ := add_x hR (show w.lost < 10 by omega) (show a0 < 64 by omega) (show a1 < 4 by omega) (show a2 < 10 by omega)
              rw [e1, e2]
              simp only [Option.bind_some]
              rw [nI_1, addR, show i + 3 * came + 3 = i + 3 * (came + 1) by omega]
              exact ih (came + 1) f (f' + 1) x' m' _ _ hJ' (hsh.fr fx fm (by simp) (by simp)) (by omega) (by omega) (by omega)
            · rw [bI_f b2, if_pos rfl, bI_f (fun z => b2 z.2.2), if_pos rfl]
              exact stop _ rfl
          · rw [bI_f b1, if_pos rfl, bI_f (fun z => b1 z.2.1), if_pos rfl]
            exact stop _ rfl
        · rw [bI_f b0, if_pos rfl, bI_f (fun z => b0 z.1), if_pos rfl]
          exact stop _ rfl
