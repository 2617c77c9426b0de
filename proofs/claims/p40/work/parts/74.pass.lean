/-! ===== a night of the class ===== -/
theorem burn_lt {w : SEA} {t : STD} {way : Nat} (hway : way ≤ 4) (h : burnF w t way = true) : way < 4 := by
  unfold burnF at h
  simp only [decide_eq_true_eq] at h
  omega
def gI1 (x : aH) (a : Nat) (w : SEA) (t : STD) (way i : Nat) (y : aH) : Prop := Fr [a + 2, a + 3, 13, 14] [] x y ∧ (∀ j, j < i → ri y (a + 3) j = nI (goalF w t way j)) ∧ (∀ k, k ≠ 2 → ri y (a + 2) k = ri x (a + 2) k) ∧ ri y (a + 2) 2 = ri x (a + 2) 2 + nI (nsum (stepF w t way) i)
theorem gI1.go {x y y' : aH} {a i : Nat} {w : SEA} {t : STD} {way : Nat} {v : Int32} (h : gI1 x a w t way i y) (k : Fr [13, 14] [] y y') (ha : SD a) (hv : v = nI (goalF w t way i)) (hst : walkF w t way i = false) (hi : i < 10) : gI1 x a w t way (i + 1) (sri y' (a + 3) (ix (nI i)) v) := by
  have hal := ha.lt
  obtain ⟨h1, h2, h3, h4⟩ := h
  rw [ixN (by omega)]
  refine ⟨Fr.sri (h1.tr (k.w (by simp) (by simp))) (by simp), fun j hj => ?_, fun q hq => ?_, ?_⟩
  · rw [gr]
    by_cases e : j = i
    · rw [if_pos ⟨rfl, e⟩, e, hv]
    · rw [if_neg (fun z => e z.2), k.r (by simp <;> omega)]; exact h2 j (by omega)
  · rw [gr, if_neg (by omega), k.r (by simp <;> omega)]; exact h3 q hq
  · rw [gr, if_neg (by omega), k.r (by simp <;> omega), h4]
    congr 2
    show _ = nsum (stepF w t way) i + stepF w t way i
    unfold stepF
    rw [hst]
    rfl
theorem gI1.st {x y y' : aH} {a i : Nat} {w : SEA} {t : STD} {way : Nat} {v : Int32} (h : gI1 x a w t way i y) (k : Fr [13, 14] [] y y') (ha : SD a) (hv : v = nI (goalF w t way i)) (hst : walkF w t way i = true) (hi : i < 10) : gI1 x a w t way (i + 1) (sri (sri y' (a + 3) (ix (nI i)) v) (a + 2) (ix (2 : Int32)) ((ri (sri y' (a + 3) (ix (nI i)) v) (a + 2) (ix (2 : Int32))) + (1 : Int32))) := by
  have hal := ha.lt
  obtain ⟨h1, h2, h3, h4⟩ := h
  rw [ixN (by omega), show ix (2 : Int32) = 2 from rfl]
  refine ⟨Fr.sri (Fr.sri (h1.tr (k.w (by simp) (by simp))) (by simp)) (by simp), fun j hj => ?_, fun q hq => ?_, ?_⟩
  · rw [gr, if_neg (by omega), gr]
    by_cases e : j = i
    · rw [if_pos ⟨rfl, e⟩, e, hv]
    · rw [if_neg (fun z => e z.2), k.r (by simp <;> omega)]; exact h2 j (by omega)
  · rw [gr, if_neg (by omega), gr, if_neg (by omega), k.r (by simp <;> omega)]; exact h3 q hq
  · rw [gr, if_pos ⟨rfl, rfl⟩, gr, if_neg (by omega), k.r (by simp <;> omega), h4, show nsum (stepF w t way) (i + 1) = nsum (stepF w t way) i + stepF w t way i from rfl]
    have : stepF w t way i = 1 := by unfold stepF; rw [hst]; rfl
    rw [this, ← nI_1, Int32.add_assoc]
theorem pass_l1 {x : aH} {a way : Nat} {w : SEA} {t : STD} {l2 : Int32} (ha : SD a) (hw : SOK w) (ht : TOK w t) (hs : vSea x w) (hv : vStd x a w.lost t) (hway : way ≤ 4) (hl : l2 = if burnF w t way = true then 1 else 0) : OK (wX8_pass_27 a (nI way) l2 2000 x 0) (gI1 x a w t way w.lost) := by
  have hal := ha.lt
  obtain ⟨hn, hw2⟩ := id hw
  refine LOOPUP (fun n (st : aH) l => wX8_pass_27 a (nI way) l2 n st l) (fun ih st l => sX8_pass_27 a (nI way) l2 ih st l) (fun n => rfl) (gI1 x a w t way) _ w.lost ?_ ?_ 2000 0 x (by omega) (by omega) ⟨Fr.rf _ _ _, fun j hj => by omega, fun _ _ => rfl, (show ri x (a + 2) 2 = ri x (a + 2) 2 + nI 0 by rw [nI_0, Int32.add_zero])⟩
  · intro i y hi hI ih hh
    have hv' : vStd y a w.lost t := hv.fr hI.1 (by simp <;> omega) (by simp) (by simp) (by simp)
    have hs' : vSea y w := hs.fr hI.1 (by simp <;> omega) (by simp)
    have hc := (ht.1 i hi).1
    have h1 := (ht.1 i hi).2
    have c2 : (0 : Int32) ≤ nI i ∧ nI i < (10 : Int32) := ⟨le0 (by omega), (ltR (by omega) (by omega)).mpr (by omega)⟩
    have ec : ri y (a + 1) (ix (nI i)) = nI (t.cell i) := by rw [ixN (by omega), hv'.2.1 i hi]
    try dsimp only
    unfold sX8_pass_27
    refine OK.f (by rw [hv'.1, leN (by omega) (by omega)]; omega) (OK.t c2 ?_)
    rw [ec]
    refine OK.r (isHome_x hn (fun i hi => (ht.1 i hi).2) hv' hi) ?_
    have drift : ∀ y' : aH, Fr [13, 14] [] y y' → t.home i = 0 → walkF w t way i = false → OK (jX8_pass_122 a ih y' (nI way) l2 (nI i) (nI (t.cell i))) (gI1 x a w t way w.lost) := by
      intro y' hf h0 hwk
      have hs2 : vSea y' w := hs'.fr hf (by simp) (by simp)
      unfold jX8_pass_122 jX8_pass_137
      refine OK.r (carried_x (hs2.1 _ hc).2 (hw2.1 _ hc).2 hc) (OK.t c2 ?_)
      rw [nI_1]
      refine hh _ (hI.go hf ha ?_ hwk (by omega))
      unfold goalF
      rw [if_pos h0, hwk]
      rfl
    refine OK.i (fun c => ?_) (fun c => ?_)
    · have h0 : t.home i = 0 := by
        rcases (show t.home i = 0 ∨ t.home i = 1 by omega) with e | e
        · exact e
        · rw [e] at c; exact absurd c (by decide)
      by_cases hb : burnF w t way = true
      · rw [if_pos hb] at hl
        refine OK.f (by rw [hl]; decide) ?_
        refine OK.r (isLit_x hs'.2.2.1.1 hw2.2.2.1 (burn_lt hway hb) hc) ?_
        by_cases hlit : litF w.lamp way (t.cell i) = true
        · rw [if_pos hlit]
          refine OK.f (by decide) ?_
          refine OK.bind (pull_x ha hw ht hs' hv' hi) (fun q hq => ?_)
          obtain ⟨hq1, hq2⟩ := hq
          have hs3 : vSea q.2 w := hs'.fr hq2 (by simp) (by simp)
          rw [hs3.2.2.1.2.2, hq1]
          refine OK.i (fun c3 => ?_) (fun c3 => ?_)
          · refine drift q.2 hq2 h0 ?_
            unfold walkF
            rw [decide_eq_false (Int32.not_le.mpr c3), Bool.and_false]
          · refine OK.r (nearer_x hs3.2.2.1.1 hw2.2.2.1 hc (litF_ne hlit)) (OK.t c2 ?_)
            have hwk : walkF w t way i = true := by
              unfold walkF
              rw [h0, hb, hlit, decide_eq_true (Int32.not_lt.mp c3)]
              rfl
            unfold jX8_pass_137
            rw [nI_1]
            refine hh _ (hI.st hq2 ha ?_ hwk (by omega))
            unfold goalF
            rw [if_pos h0, if_pos hwk]
        · rw [if_neg hlit]
          refine OK.t rfl (drift y (Fr.rf _ _ _) h0 ?_)
          unfold walkF
          rw [Bool.not_eq_true] at hlit
          rw [hlit]
          simp
      · rw [if_neg hb] at hl
        refine OK.t hl (drift y (Fr.rf _ _ _) h0 ?_)
        unfold walkF
        rw [Bool.not_eq_true] at hb
        rw [hb]
        simp
    · have h0 : t.home i = 1 := by
        rcases (show t.home i = 0 ∨ t.home i = 1 by omega) with e | e
        · rw [e] at c; exact absurd rfl c
        · exact e
      refine OK.t c2 ?_
      unfold jX8_pass_137
      rw [nI_1]
      refine hh _ (hI.go (Fr.rf _ _ _) ha ?_ ?_ (by omega))
      · unfold goalF
        rw [if_neg (by omega)]
      · unfold walkF
        rw [h0]
        rfl
  · intro y hI ih
    have hv' : vStd y a w.lost t := hv.fr hI.1 (by simp <;> omega) (by simp) (by simp) (by simp)
    try dsimp only
    unfold sX8_pass_27
    exact OK.t (by rw [hv'.1, leN (by omega) (by omega)]; exact Nat.le_refl _) (OK.ret hI)
def gI2 (z : aH) (a : Nat) (w : SEA) (t : STD) (way i : Nat) (y : aH) : Prop := Fr [a + 1] [(a, 6)] z y ∧ (∀ j, j < i → ri y (a + 1) j = nI (goalF w t way j)) ∧ fi y a 6 = nI (bsum (fun j => if j < i ∧ goalF w t way j = w.lamp then 1 else t.home j) w.lost)
theorem goal_lt {w : SEA} {t : STD} {way i : Nat} (hw : SOK w) (ht : TOK w t) (hi : i < w.lost) : goalF w t way i < 64 := (((passF_ok (way := way) hw ht).1 i hi).1)
theorem pass_l2 {z : aH} {a way : Nat} {w : SEA} {t : STD} {l3 : Int32} (ha : SD a) (hw : SOK w) (ht : TOK w t) (hl : fi z 1 4 = nI w.lamp) (hn5 : fi z a 5 = nI w.lost) (h6 : fi z a 6 = nI (bsum t.home w.lost)) (hg : ∀ j, j < w.lost → ri z (a + 3) j = nI (goalF w t way j)) : OK (wX8_pass_194 a l3 2000 z 0) (gI2 z a w t way w.lost) := by
  have hal := ha.lt
  obtain ⟨hn, hw2⟩ := id hw
  refine LOOPUP (fun n (st : aH) l => wX8_pass_194 a l3 n st l) (fun ih st l => sX8_pass_194 a l3 ih st l) (fun n => rfl) (gI2 z a w t way) _ w.lost ?_ ?_ 2000 0 z (by omega) (by omega) ⟨Fr.rf _ _ _, fun j hj => by omega, by rw [h6]; congr 1⟩
  · intro i y hi hI ih hh
    obtain ⟨k1, k2, k3⟩ := hI
    have c2 : (0 : Int32) ≤ nI i ∧ nI i < (10 : Int32) := ⟨le0 (by omega), (ltR (by omega) (by omega)).mpr (by omega)⟩
    have hgl := goal_lt (way := way) hw ht hi
    try dsimp only
    unfold sX8_pass_194
    refine OK.f (by rw [k1.f (by simp), hn5, leN (by omega) (by omega)]; omega) (OK.t c2 (OK.t c2 (OK.t c2 ?_)))
    have eg : ri y (a + 3) (ix (nI i)) = nI (goalF w t way i) := by rw [ixN (by omega), k1.r (by simp), hg i hi]
    rw [eg, ixN (by omega)]
    have hf1 : Fr [a + 1] [(a, 6)] z (sri y (a + 1) i (nI (goalF w t way i))) := Fr.sri k1 (by simp)
    have hr1 : ∀ j, j < i + 1 → ri (sri y (a + 1) i (nI (goalF w t way i))) (a + 1) j = nI (goalF w t way j) := by
      intro j hj
      rw [gr]
      by_cases e : j = i
      · rw [if_pos ⟨rfl, e⟩, e]
      · rw [if_neg (fun z => e z.2)]; exact k2 j (by omega)
    rw [hr1 i (by omega), gfr, k1.f (by simp), hl]
    have hh1 : ∀ j, j < w.lost → (if j < i ∧ goalF w t way j = w.lamp then 1 else t.home j) ≤ 1 := by
      intro j hj
      have := (ht.1 j hj).2
      split <;> omega
    refine OK.i (fun c => ?_) (fun c => ?_)
    · rw [eqN (by omega) (by omega)] at c
      unfold fX8_setHome
      refine OK.bind (OK.f (by decide) (OK.ret rfl : OK _ (fun q => q = _))) (fun q hq => ?_)
      subst hq
      unfold jX8_pass_241
      rw [nI_1]
      refine hh _ ⟨Fr.sfi hf1 (by simp), fun j hj => by rw [grf]; exact hr1 j hj, ?_⟩
      rw [gf, if_pos ⟨rfl, rfl⟩, gfr, k3, hb_set hn hh1 hi]
      congr 1
      refine bsum_congr (fun j hj => ?_)
      by_cases e : j = i
      · subst e
        rw [va_up_self, if_pos ⟨by omega, c⟩]
      · rw [va_up_ne (j := j) _ _ e]
        by_cases e2 : j < i
        · by_cases e3 : goalF w t way j = w.lamp
          · rw [if_pos ⟨e2, e3⟩, if_pos ⟨by omega, e3⟩]
          · rw [if_neg (fun q => e3 q.2), if_neg (fun q => e3 q.2)]
        · rw [if_neg (fun q => e2 q.1), if_neg (fun q => by omega)]
    · rw [eqN (by omega) (by omega)] at c
      unfold jX8_pass_241
      rw [nI_1]
      refine hh _ ⟨hf1, hr1, ?_⟩
      rw [gfr, k3]
      congr 1
      refine bsum_congr (fun j hj => ?_)
      by_cases e2 : j < i
      · by_cases e3 : goalF w t way j = w.lamp
        · rw [if_pos ⟨e2, e3⟩, if_pos ⟨by omega, e3⟩]
        · rw [if_neg (fun q => e3 q.2), if_neg (fun q => e3 q.2)]
      · rw [if_neg (fun q => e2 q.1)]
        by_cases e : j = i
        · subst e; rw [if_neg (fun q => c q.2)]
        · rw [if_neg (fun q => by omega)]
  · intro y hI ih
    try dsimp only
    unfold sX8_pass_194
    exact OK.t (by rw [hI.1.f (by simp), hn5, leN (by omega) (by omega)]; exact Nat.le_refl _) (OK.ret hI)
theorem bitCount_bc (x : Int32) : fJ6_bitCount_0f7a4 x = some (bcI x) := rfl
theorem bitCount_b {f : Nat → Nat} {n : Nat} (hn : n ≤ 10) (h : ∀ i, i < n → f i ≤ 1) : fJ6_bitCount_0f7a4 (nI (bsum f n)) = some (nI (nsum f n)) := by
  rw [bitCount_bc, bcI_bsum hn h]
theorem nsum_mono {f g : Nat → Nat} {n : Nat} (h : ∀ i, i < n → f i ≤ g i) : nsum f n ≤ nsum g n := by
  induction n with
  | zero => exact Nat.le_refl _
  | succ n ih =>
    have := ih (fun i hi => h i (by omega))
    have := h n (by omega)
    show nsum f n + f n ≤ nsum g n + g n
    omega
theorem pass_home_le {w : SEA} {t : STD} {way i : Nat} (ht : TOK w t) (hi : i < w.lost) : t.home i ≤ (passF w t way).home i := by
  have := (ht.1 i hi).2
  show t.home i ≤ if i < w.lost ∧ goalF w t way i = w.lamp then 1 else t.home i
  split <;> omega
def tallyP (a : Nat) (x y : aH) (w : SEA) (t : STD) (way : Nat) : Prop := ri y (a + 2) 0 = ri x (a + 2) 0 + 1 ∧ ri y (a + 2) 1 = ri x (a + 2) 1 + (if burnF w t way = true then 1 else 0) ∧ ri y (a + 2) 2 = ri x (a + 2) 2 + nI (nsum (stepF w t way) w.lost) ∧ ri y (a + 2) 3 = ri x (a + 2) 3 + nI (cameF w t way) ∧ ri y (a + 2) 4 = ri x (a + 2) 4
def passP (a : Nat) (x y : aH) (w : SEA) (t : STD) (way : Nat) : Prop := vStd y a w.lost (passF w t way) ∧ Fr [a + 1, a + 2, a + 3, 13, 14] [(a, 6), (a, 7)] x y ∧ tallyP a x y w t way
theorem pass_x {x : aH} {a way : Nat} {w : SEA} {t : STD} (ha : SD a) (hw : SOK w) (ht : TOK w t) (hs : vSea x w) (hv : vStd x a w.lost t) (hway : way ≤ 4) : OK (fX8_pass x a (nI way)) (fun q => q.1 = nI (cameF w t way) ∧ passP a x q.2 w t way) := by
  have hal := ha.lt
  obtain ⟨hn, hw2⟩ := id hw
  have hh1 : ∀ i, i < w.lost → t.home i ≤ 1 := fun i hi => (ht.1 i hi).2
  have hh2 : ∀ i, i < w.lost → (passF w t way).home i ≤ 1 := fun i hi => ((passF_ok (way := way) hw ht).1 i hi).2
  have key : ∀ s0 : Int32, s0 = (if burnF w t way = true then 1 else 0) → OK (jX8_pass_24 a x (nI way) s0) (fun q => q.1 = nI (cameF w t way) ∧ passP a x q.2 w t way) := by
    intro s0 hs0
    unfold jX8_pass_24
    refine OK.bind (pass_l1 ha hw ht hs hv hway hs0) (fun y hy => ?_)
    obtain ⟨y1, y2, y3, y4⟩ := hy
    have fin : ∀ z : aH, (∀ b, b ≠ a + 2 → ri z b = ri y b) → (∀ b k, ¬ (b = a ∧ k = 7) → fi z b k = fi y b k) → rj z = rj y → fi z a 7 = nI (passF w t way).oil → ri z (a + 2) 0 = ri x (a + 2) 0 + 1 → ri z (a + 2) 1 = ri x (a + 2) 1 + (if burnF w t way = true then 1 else 0) → ri z (a + 2) 2 = ri y (a + 2) 2 → ri z (a + 2) 3 = ri y (a + 2) 3 → ri z (a + 2) 4 = ri y (a + 2) 4 → OK (jX8_pass_183 a z) (fun q => q.1 = nI (cameF w t way) ∧ passP a x q.2 w t way) := by
      intro z z1 z2 z3 z4 t0 t1 t2 t3 t4
      have zl : fi z 1 4 = nI w.lamp := by rw [z2 _ _ (by omega), y1.f (by simp)]; exact hs.2.2.1.1
      have z5 : fi z a 5 = nI w.lost := by rw [z2 _ _ (by omega), y1.f (by simp)]; exact hv.1
      have z6 : fi z a 6 = nI (bsum t.home w.lost) := by rw [z2 _ _ (by omega), y1.f (by simp)]; exact hv.2.2.1
      have zg : ∀ j, j < w.lost → ri z (a + 3) j = nI (goalF w t way j) := fun j hj => by rw [z1 _ (by omega)]; exact y2 j hj
      unfold jX8_pass_183
      rw [z6]
      refine OK.r (bitCount_b hn hh1) ?_
      refine OK.bind (pass_l2 ha hw ht zl z5 z6 zg) (fun u hu => ?_)
      obtain ⟨u1, u2, u3⟩ := hu
      have u6 : fi u a 6 = nI (bsum (passF w t way).home w.lost) := by
        rw [u3]
        congr 1
      rw [u6]
      refine OK.r (bitCount_b hn hh2) (OK.ret ?_)
      have hle : nsum t.home w.lost ≤ nsum (passF w t way).home w.lost := nsum_mono (fun i hi => pass_home_le ht hi)
      have ecame : nI (nsum (passF w t way).home w.lost) - nI (nsum t.home w.lost) = nI (cameF w t way) := subN hle
      dsimp only
      rw [ecame, show ix (3 : Int32) = 3 from rfl]
      have ur : ∀ b, b ≠ a + 1 → ri u b = ri z b := fun b hb => u1.r (by simp <;> omega)
      refine ⟨rfl, ⟨?_, ?_, ?_, ?_⟩, ?_, ?_, ?_, ?_, ?_, ?_⟩
      · rw [gfr, u1.f (by simp), z5]
      · intro i hi
        rw [gr, if_neg (by omega)]
        exact u2 i hi
      · rw [gfr]; exact u6
      · rw [gfr, u1.f (by simp), z4]
      · refine Fr.sri ?_ (by simp)
        refine ⟨fun b hb => ?_, fun b k hb => ?_, ?_⟩
        · simp at hb
          rw [ur b (by omega), z1 b (by omega), y1.r (by simp <;> omega)]
        · simp at hb
          rw [u1.f (by simp <;> omega), z2 b k (by omega), y1.f (by simp)]
        · rw [u1.j, z3, y1.j]
      · rw [gr, if_neg (by omega), ur _ (by omega), t0]
      · rw [gr, if_neg (by omega), ur _ (by omega), t1]
      · rw [gr, if_neg (by omega), ur _ (by omega), t2, y4]
      · rw [gr, if_pos ⟨rfl, rfl⟩, ur _ (by omega), t3, y3 3 (by decide)]
      · rw [gr, if_neg (by omega), ur _ (by omega), t4, y3 4 (by decide)]
    have y7 : fi y a 7 = nI t.oil := by rw [y1.f (by simp)]; exact hv.2.2.2
    have yb : fi y 1 5 = nI w.burns := by rw [y1.f (by simp)]; exact hs.2.2.1.2.1
    by_cases hb : burnF w t way = true
    · rw [if_pos hb] at hs0
      refine OK.f (by rw [hs0]; decide) ?_
      unfold jX8_pass_173
      simp only [show ix (0 : Int32) = 0 from rfl, show ix (1 : Int32) = 1 from rfl]
      refine fin _ (fun b hb => ?_) (fun b k hb => ?_) ?_ ?_ ?_ ?_ ?_ ?_ ?_
      · simp [ri_sri_ne hb]
        funext j
        rw [grf, gr, if_neg (by omega)]
      · rw [gfr, gf, if_neg hb]; rfl
      · rfl
      · rw [gfr, gf, if_pos ⟨rfl, rfl⟩, gfr, gfr, y7, yb]
        have : w.burns ≤ t.oil := by
          unfold burnF at hb
          simp only [decide_eq_true_eq] at hb
          exact hb.2
        rw [subN this]
        congr 1
        show _ = t.oil - (if burnF w t way = true then w.burns else 0)
        rw [if_pos hb]
      · rw [gr, if_neg (by omega), grf, gr, if_pos ⟨rfl, rfl⟩, y3 0 (by decide)]
      · rw [gr, if_pos ⟨rfl, rfl⟩, grf, gr, if_neg (by omega), y3 1 (by decide), if_pos hb]
      · rw [gr, if_neg (by omega), grf, gr, if_neg (by omega)]
      · rw [gr, if_neg (by omega), grf, gr, if_neg (by omega)]
      · rw [gr, if_neg (by omega), grf, gr, if_neg (by omega)]
    · rw [if_neg hb] at hs0
      refine OK.t hs0 ?_
      simp only [show ix (0 : Int32) = 0 from rfl]
      refine fin _ (fun b hb => ?_) (fun b k hb => ?_) ?_ ?_ ?_ ?_ ?_ ?_ ?_
      · exact ri_sri_ne hb
      · rfl
      · rfl
      · rw [gfr, y7]
        congr 1
        show _ = t.oil - (if burnF w t way = true then w.burns else 0)
        rw [if_neg hb]
        rfl
      · rw [gr, if_pos ⟨rfl, rfl⟩, y3 0 (by decide)]
      · rw [gr, if_neg (by omega), y3 1 (by decide), if_neg hb, Int32.add_zero]
      · rw [gr, if_neg (by omega)]
      · rw [gr, if_neg (by omega)]
      · rw [gr, if_neg (by omega)]
  have ho := ht.2
  unfold fX8_pass jX8_pass_23
  refine OK.i (fun c => ?_) (fun c => ?_)
  · refine key 0 ?_
    rw [if_neg]
    unfold burnF
    simp only [decide_eq_true_eq]
    rw [eqR (by omega) (by omega)] at c
    omega
  · rw [eqR (by omega) (by omega)] at c
    rw [hv.2.2.2, hs.2.2.1.2.1]
    refine OK.i (fun c3 => ?_) (fun c3 => ?_)
    · refine key 0 ?_
      rw [if_neg]
      unfold burnF
      simp only [decide_eq_true_eq]
      rw [ltN (by omega) (by omega)] at c3
      omega
    · refine key 1 ?_
      rw [if_pos]
      unfold burnF
      simp only [decide_eq_true_eq]
      rw [ltN (by omega) (by omega)] at c3
      omega
