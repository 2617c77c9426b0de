/-! ===== by turns ===== -/
def wvF (w : SEA) (t : STD) (q N L : Nat) : Int := (hmF w t N L : Int) - 2 * (nsum (awF w (runF w t (dgF N L) N) q) w.lost : Int)
def b5 (b : Bool) (f : Nat → Int) : Nat → Int
  | 0 => f 0
  | i + 1 => if b = true then (if f (i + 1) ≤ b5 b f i then b5 b f i else f (i + 1)) else (if b5 b f i ≤ f (i + 1) then b5 b f i else f (i + 1))
def mV (w : SEA) (t : STD) (q N : Nat) : Nat → Nat → Int
  | 0, p => wvF w t q N p
  | d + 1, p => b5 ((N - (d + 1)) % 2 == 0) (fun i => mV w t q N d (5 * p + i)) 4
theorem b5_bd {b : Bool} {f : Nat → Int} {lo hi : Int} (h : ∀ i, lo ≤ f i ∧ f i ≤ hi) : ∀ i, lo ≤ b5 b f i ∧ b5 b f i ≤ hi
  | 0 => h 0
  | i + 1 => by
    have h1 := b5_bd (b := b) h i
    have h2 := h (i + 1)
    show lo ≤ (if b = true then (if f (i + 1) ≤ b5 b f i then b5 b f i else f (i + 1)) else (if b5 b f i ≤ f (i + 1) then b5 b f i else f (i + 1))) ∧ _
    show _ ∧ (if b = true then (if f (i + 1) ≤ b5 b f i then b5 b f i else f (i + 1)) else (if b5 b f i ≤ f (i + 1) then b5 b f i else f (i + 1))) ≤ hi
    by_cases hb : b = true
    · rw [if_pos hb]
      split
      · exact h1
      · exact h2
    · rw [if_neg hb]
      split
      · exact h1
      · exact h2
theorem wv_bd {w : SEA} {t : STD} {q N L : Nat} (hw : SOK w) (ht : TOK w t) : -100 ≤ wvF w t q N L ∧ wvF w t q N L ≤ 100 := by
  have h1 := hm_lt (N := N) (L := L) hw ht
  have h2 := nsum_le (f := awF w (runF w t (dgF N L) N) q) (n := w.lost) (b := 1) (fun i hi => by unfold awF; split <;> omega)
  have := hw.1
  unfold wvF
  omega
theorem mV_bd {w : SEA} {t : STD} {q N : Nat} (hw : SOK w) (ht : TOK w t) : ∀ d p, -100 ≤ mV w t q N d p ∧ mV w t q N d p ≤ 100
  | 0, p => wv_bd hw ht
  | d + 1, p => b5_bd (fun i => mV_bd hw ht d (5 * p + i)) 4
/-- the best way, 4 first -/
def boF (b : Bool) (f : Nat → Int) : Nat → Nat
  | 0 => 4
  | i + 1 => if b = true then (if f (boF b f i) < f i then i else boF b f i) else (if f i < f (boF b f i) then i else boF b f i)
theorem bo_lt (b : Bool) (f : Nat → Int) : ∀ i, boF b f i = 4 ∨ boF b f i < i
  | 0 => Or.inl rfl
  | i + 1 => by
    have h := bo_lt b f i
    show (if b = true then (if f (boF b f i) < f i then i else boF b f i) else (if f i < f (boF b f i) then i else boF b f i)) = 4 ∨ (if b = true then (if f (boF b f i) < f i then i else boF b f i) else (if f i < f (boF b f i) then i else boF b f i)) < i + 1
    by_cases hb : b = true
    · rw [if_pos hb]
      split
      · right; omega
      · rcases h with h | h
        · exact Or.inl h
        · right; omega
    · rw [if_neg hb]
      split
      · right; omega
      · rcases h with h | h
        · exact Or.inl h
        · right; omega
theorem b5_t (f : Nat → Int) : ∀ i, (∀ j, j ≤ i → f j ≤ b5 true f i) ∧ ∃ j, j ≤ i ∧ b5 true f i = f j
  | 0 => ⟨fun j hj => (by rw [show j = 0 by omega]; exact Int.le_refl _), 0, Nat.le_refl _, rfl⟩
  | i + 1 => by
    obtain ⟨h1, k, h2, h3⟩ := b5_t f i
    have e : b5 true f (i + 1) = if f (i + 1) ≤ b5 true f i then b5 true f i else f (i + 1) := rfl
    rw [e]
    by_cases c : f (i + 1) ≤ b5 true f i
    · rw [if_pos c]
      refine ⟨fun j hj => ?_, k, by omega, h3⟩
      by_cases ej : j = i + 1
      · subst ej; exact c
      · exact h1 j (by omega)
    · rw [if_neg c]
      refine ⟨fun j hj => ?_, i + 1, Nat.le_refl _, rfl⟩
      by_cases ej : j = i + 1
      · subst ej; exact Int.le_refl _
      · have := h1 j (by omega); omega
theorem b5_f (f : Nat → Int) : ∀ i, (∀ j, j ≤ i → b5 false f i ≤ f j) ∧ ∃ j, j ≤ i ∧ b5 false f i = f j
  | 0 => ⟨fun j hj => (by rw [show j = 0 by omega]; exact Int.le_refl _), 0, Nat.le_refl _, rfl⟩
  | i + 1 => by
    obtain ⟨h1, k, h2, h3⟩ := b5_f f i
    have e : b5 false f (i + 1) = if b5 false f i ≤ f (i + 1) then b5 false f i else f (i + 1) := rfl
    rw [e]
    by_cases c : b5 false f i ≤ f (i + 1)
    · rw [if_pos c]
      refine ⟨fun j hj => ?_, k, by omega, h3⟩
      by_cases ej : j = i + 1
      · subst ej; exact c
      · exact h1 j (by omega)
    · rw [if_neg c]
      refine ⟨fun j hj => ?_, i + 1, Nat.le_refl _, rfl⟩
      by_cases ej : j = i + 1
      · subst ej; exact Int.le_refl _
      · have := h1 j (by omega); omega
theorem bo_t (f : Nat → Int) : ∀ i, f 4 ≤ f (boF true f i) ∧ (∀ j, j < i → f j ≤ f (boF true f i)) ∧ (boF true f i ≠ 4 → f 4 < f (boF true f i) ∧ ∀ j, j < boF true f i → f j < f (boF true f i))
  | 0 => ⟨Int.le_refl _, fun j hj => absurd hj (Nat.not_lt_zero j), fun h => absurd rfl h⟩
  | i + 1 => by
    obtain ⟨h1, h2, h3⟩ := bo_t f i
    have e : boF true f (i + 1) = if f (boF true f i) < f i then i else boF true f i := rfl
    rw [e]
    by_cases c : f (boF true f i) < f i
    · rw [if_pos c]
      refine ⟨by omega, fun j hj => ?_, fun _ => ⟨by omega, fun j hj => ?_⟩⟩
      · by_cases ej : j = i
        · subst ej; exact Int.le_refl _
        · have := h2 j (by omega); omega
      · have := h2 j hj; omega
    · rw [if_neg c]
      refine ⟨h1, fun j hj => ?_, h3⟩
      by_cases ej : j = i
      · subst ej; omega
      · exact h2 j (by omega)
theorem bo_f (f : Nat → Int) : ∀ i, f (boF false f i) ≤ f 4 ∧ ∀ j, j < i → f (boF false f i) ≤ f j
  | 0 => ⟨Int.le_refl _, fun j hj => absurd hj (Nat.not_lt_zero j)⟩
  | i + 1 => by
    obtain ⟨h1, h2⟩ := bo_f f i
    have e : boF false f (i + 1) = if f i < f (boF false f i) then i else boF false f i := rfl
    rw [e]
    by_cases c : f i < f (boF false f i)
    · rw [if_pos c]
      refine ⟨by omega, fun j hj => ?_⟩
      by_cases ej : j = i
      · subst ej; exact Int.le_refl _
      · have := h2 j (by omega); omega
    · rw [if_neg c]
      refine ⟨h1, fun j hj => ?_⟩
      by_cases ej : j = i
      · subst ej; omega
      · exact h2 j (by omega)
theorem bo5 (b : Bool) (f : Nat → Int) : f (boF b f 4) = b5 b f 4 := by
  have hl := bo_lt b f 4
  cases b with
  | true =>
    obtain ⟨h1, h2, -⟩ := bo_t f 4
    obtain ⟨k1, j, k2, k3⟩ := b5_t f 4
    have a1 := k1 (boF true f 4) (by omega)
    have a2 : f j ≤ f (boF true f 4) := by
      by_cases e : j = 4
      · subst e; exact h1
      · exact h2 j (by omega)
    omega
  | false =>
    obtain ⟨h1, h2⟩ := bo_f f 4
    obtain ⟨k1, j, k2, k3⟩ := b5_f f 4
    have a1 := k1 (boF false f 4) (by omega)
    have a2 : f (boF false f 4) ≤ f j := by
      by_cases e : j = 4
      · subst e; exact h1
      · exact h2 j (by omega)
    omega
theorem bestOf_x {x : aH} {from_ : Nat} {b : Bool} {f : Nat → Int} (hfr : from_ + 4 < 625) (hb : ∀ i, i ≤ 4 → -100 ≤ f i ∧ f i ≤ 100) (hx : ∀ i, i ≤ 4 → ri x 25 (from_ + i) = iI (f i)) : fX6_bestOf x (nI from_) (if b = true then 1 else 0) = some (nI (boF b f 4)) := by
  unfold fX6_bestOf
  refine OK.eq (OK.bind (P := fun r => r = nI (boF b f 4)) ?_ (fun r hr => OK.ret hr))
  refine LOOPUP (fun n (st : Int32) l => wX6_bestOf_5 x (nI from_) (if b = true then 1 else 0) n st l) (fun ih st l => sX6_bestOf_5 x (nI from_) (if b = true then 1 else 0) ih st l) (fun n => rfl) (fun i st => st = nI (boF b f i)) _ 4 ?_ ?_ 2000 0 4 (by omega) (by omega) rfl
  · rintro i st hi rfl ih hk
    have hl := bo_lt b f i
    have e : boF b f (i + 1) = if b = true then (if f (boF b f i) < f i then i else boF b f i) else (if f i < f (boF b f i) then i else boF b f i) := rfl
    have c1 : (0 : Int32) ≤ nI (from_ + i) ∧ nI (from_ + i) < (625 : Int32) := inN (by omega) (by omega)
    have c2 : (0 : Int32) ≤ nI (from_ + boF b f i) ∧ nI (from_ + boF b f i) < (625 : Int32) := inN (by omega) (by omega)
    have b1 := hb i (by omega)
    have b2 := hb (boF b f i) (by omega)
    unfold sX6_bestOf_5 jX6_bestOf_48 jX6_bestOf_51
    refine OK.f (by rw [leL (by omega) (by omega)]; omega) ?_
    rw [addN, addN]
    refine OK.t c1 (OK.t c2 ?_)
    rw [ixN (show from_ + i < 2147483648 by omega), ixN (show from_ + boF b f i < 2147483648 by omega), hx i (by omega), hx (boF b f i) (by omega), iI_sub, nI_1]
    by_cases hbt : b = true
    · rw [if_pos hbt] at e ⊢
      refine OK.f n10 (OK.i (fun c => ?_) (fun c => ?_))
      · rw [show (0 : Int32) = iI 0 from rfl, iI_le (by omega) (by omega) (by omega) (by omega)] at c
        exact hk _ (by rw [e, if_neg (by omega)])
      · rw [show (0 : Int32) = iI 0 from rfl, iI_le (by omega) (by omega) (by omega) (by omega)] at c
        exact hk _ (by rw [e, if_pos (by omega)])
    · rw [if_neg hbt] at e ⊢
      refine OK.t rfl (OK.i (fun c => ?_) (fun c => ?_))
      · rw [show (0 : Int32) = iI 0 from rfl, iI_le (by omega) (by omega) (by omega) (by omega)] at c
        exact hk _ (by rw [e, if_neg (by omega)])
      · rw [show (0 : Int32) = iI 0 from rfl, iI_le (by omega) (by omega) (by omega) (by omega)] at c
        exact hk _ (by rw [e, if_pos (by omega)])
  · rintro st rfl ih
    unfold sX6_bestOf_5
    exact OK.t (by decide) (OK.ret rfl)
abbrev TXr : List Nat := [13, 14, 25, 28, 29, 30, 32, 33, 34, 36, 37, 38, 40, 41, 42, 44, 45, 46]
abbrev TXf : List (Nat × Nat) := [(23, 5), (27, 5), (27, 6), (27, 7), (31, 5), (31, 6), (31, 7), (35, 5), (35, 6), (35, 7), (39, 5), (39, 6), (39, 7), (43, 5), (43, 6), (43, 7)]
theorem worths_x {x z : aH} {w : SEA} {t : STD} {q N : Nat} (hw : SOK w) (ht : TOK w t) (hs : vSea x w) (hN : N ≤ 4) (hq : q < 4) (hz : Fr TXr TXf x z ∧ scrH z w.lost ∧ vStd z 27 w.lost t) : OK (wX6_turnAbout_13 15 (nI q) (nI N) 2000 z 0) (fun y => Fr TXr TXf x y ∧ scrH y w.lost ∧ ∀ L, L < 5 ^ N → ri y 25 L = iI (wvF w t q N L)) := by
  have hn := hw.1
  have cN : (0 : Int32) ≤ nI N ∧ nI N < (5 : Int32) := inN (by omega) (by omega)
  obtain ⟨s1, s2, s3⟩ := stLN N (by omega)
  refine LOOPUP (fun n (st : aH) l => wX6_turnAbout_13 15 (nI q) (nI N) n st l) (fun ih st l => sX6_turnAbout_13 15 (nI q) (nI N) ih st l) (fun n => rfl) (fun L y => (Fr TXr TXf x y ∧ scrH y w.lost ∧ vStd y 27 w.lost t) ∧ (0 < L → stds y w t (dgF N (L - 1)) N) ∧ ∀ L', L' < L → ri y 25 L' = iI (wvF w t q N L')) _ (5 ^ N) ?_ ?_ 2000 0 z (by omega) (by omega) ⟨hz, fun h => absurd h (by decide), fun L' h => absurd h (Nat.not_lt_zero _)⟩
  · intro L y hL hI ih hk
    obtain ⟨⟨y1, y2, y3⟩, y4, y5⟩ := hI
    have hys := hs.fr y1 (by simp <;> omega) (by simp <;> omega)
    unfold sX6_turnAbout_13
    rw [ixN (show N < 2147483648 by omega), s1]
    refine OK.t cN (OK.f (by rw [leN (by omega) (by omega)]; omega) ?_)
    refine OK.bind (follow_x (x := y) hw ht hys hN (by omega) (Fr.rf _ _ _) y2 y3 y4) (fun r hr => ?_)
    obtain ⟨r1, r2, r3, r4⟩ := hr
    have hst := r4 N (Nat.le_refl _)
    have hro := runF_ok (f := dgF N L) hw ht N
    have hrs := hys.fr r2 (by simp <;> omega) (by simp <;> omega)
    rw [r1]
    refine OK.t (SDo hN) ?_
    rw [hst.2.2.1, bitCount_b hn (fun i hi => (hro.1 i hi).2)]
    simp only [Option.bind_some]
    rw [away_x hw hro hrs hst hq]
    simp only [Option.bind_some]
    have c1 : (0 : Int32) ≤ nI L ∧ nI L < (625 : Int32) := inN (by omega) (by omega)
    refine OK.t c1 ?_
    have ev : nI (nsum (runF w t (dgF N L) N).home w.lost) - (2 : Int32) * nI (nsum (awF w (runF w t (dgF N L) N) q) w.lost) = iI (wvF w t q N L) := by
      rw [mulL, nI_iI, nI_iI, iI_sub]
      congr 1
    rw [ev, nI_1, ixN (by omega)]
    have f25 : Fr [25] [] r.2 (sri r.2 25 L (iI (wvF w t q N L))) := Fr.sri (Fr.rf _ _ _) (by simp)
    refine hk _ ⟨⟨y1.tr ((r2.w (by simp <;> omega) (by simp <;> omega)).tr (f25.w (by simp) (by simp))), r3.fr f25 (by simp), (r4 0 (Nat.zero_le _)).frA f25 (by simp) (by simp)⟩, fun _ j hj => (r4 j hj).frA f25 (by simp; omega) (by simp), fun L' hL' => ?_⟩
    rw [gr]
    by_cases e : L' = L
    · rw [if_pos ⟨rfl, e⟩, e]
    · rw [if_neg (fun g => e g.2), r2.r (by simp)]; exact y5 L' (by omega)
  · intro y hI ih
    unfold sX6_turnAbout_13
    rw [ixN (by omega), s1]
    exact OK.t cN (OK.t (by rw [leN (by omega) (by omega)]; exact Nat.le_refl _) (OK.ret ⟨hI.1.1, hI.1.2.1, hI.2.2⟩))
/-- one level of the tree -/
theorem level_x {x : aH} {f : Nat → Nat → Int} {k : Nat} (hk : k < 4) (d : Nat) (hb : ∀ d p, -100 ≤ f d p ∧ f d p ≤ 100) (hf : ∀ p, f (d + 1) p = b5 (k % 2 == 0) (fun i => f d (5 * p + i)) 4) (hx : ∀ L, L < 5 ^ (k + 1) → ri x 25 L = iI (f d L)) : OK (wX6_turnAbout_75 15 (nI k) 2000 x 0) (fun y => Fr [25] [(23, 5)] x y ∧ (∀ L, L < 5 ^ k → ri y 25 L = iI (f (d + 1) L)) ∧ (k = 0 → fi y 23 5 = nI (boF (k % 2 == 0) (fun i => f d i) 4))) := by
  have cN : (0 : Int32) ≤ nI k ∧ nI k < (5 : Int32) := inN (by omega) (by omega)
  obtain ⟨s1, s2, s3⟩ := stLN k (by omega)
  obtain ⟨-, s2', -⟩ := stLN (k + 1) (by omega)
  have e5 : 5 ^ (k + 1) = 5 ^ k * 5 := Nat.pow_succ ..
  refine LOOPUP (fun n (st : aH) l => wX6_turnAbout_75 15 (nI k) n st l) (fun ih st l => sX6_turnAbout_75 15 (nI k) ih st l) (fun n => rfl) (fun i y => Fr [25] [(23, 5)] x y ∧ (∀ L, L < i → ri y 25 L = iI (f (d + 1) L)) ∧ (∀ L, i ≤ L → L < 5 ^ (k + 1) → ri y 25 L = iI (f d L)) ∧ (0 < i → fi y 23 5 = nI (boF (k % 2 == 0) (fun j => f d (5 * (i - 1) + j)) 4))) _ (5 ^ k) ?_ ?_ 2000 0 x (by omega) (by omega) ⟨Fr.rf _ _ _, fun L h => absurd h (Nat.not_lt_zero _), fun L _ h => hx L h, fun h => absurd h (by decide)⟩
  · intro i y hi hI ih hh
    obtain ⟨y1, y2, y3, -⟩ := hI
    have er : nI k - nI k / (2 : Int32) * (2 : Int32) = nI (k % 2) := nI_rem (k := 2) rfl (by omega) (by decide) (by decide)
    have hm := Nat.mod_lt k (show 0 < 2 by decide)
    have hbt : ∀ b : Bool, b = (k % 2 == 0) → OK (jX6_turnAbout_104 15 ih y (nI k) (nI i) (nI (5 * i)) (if b = true then 1 else 0)) (fun y => Fr [25] [(23, 5)] x y ∧ (∀ L, L < 5 ^ k → ri y 25 L = iI (f (d + 1) L)) ∧ (k = 0 → fi y 23 5 = nI (boF (k % 2 == 0) (fun i => f d i) 4))) := by
      rintro b rfl
      unfold jX6_turnAbout_104
      refine OK.r (bestOf_x (f := fun j => f d (5 * i + j)) (by omega) (fun j _ => hb d _) (fun j hj => y3 _ (by omega) (by omega))) ?_
      have hl := bo_lt (k % 2 == 0) (fun j => f d (5 * i + j)) 4
      have hbo := bo5 (k % 2 == 0) (fun j => f d (5 * i + j))
      generalize hB : boF (k % 2 == 0) (fun j => f d (5 * i + j)) 4 = B at hl hbo ⊢
      have f5 : fi (sfi y 23 5 (nI B)) 23 5 = nI B := by rw [gf, if_pos ⟨rfl, rfl⟩]
      have c1 : (0 : Int32) ≤ nI (i * 5 + B) ∧ nI (i * 5 + B) < (625 : Int32) := inN (by omega) (by omega)
      have c2 : (0 : Int32) ≤ nI i ∧ nI i < (625 : Int32) := inN (by omega) (by omega)
      rw [f5, mulR, addN]
      refine OK.t c1 (OK.t c2 ?_)
      rw [nI_1, ixN (show i < 2147483648 by omega), ixN (show i * 5 + B < 2147483648 by omega), grf, y3 (i * 5 + B) (by omega) (by omega)]
      refine hh _ ⟨Fr.sri (Fr.sfi y1 (by simp)) (by simp), fun L hL => ?_, fun L h1 h2 => ?_, fun _ => ?_⟩
      · rw [gr]
        by_cases e : L = i
        · subst e
          rw [if_pos ⟨rfl, rfl⟩, hf, ← hbo, Nat.mul_comm L 5]
        · rw [if_neg (fun g => e g.2), grf]; exact y2 L (by omega)
      · rw [gr, if_neg (by omega), grf]; exact y3 L (by omega) h2
      · rw [gfr, f5, Nat.add_sub_cancel, hB]
    unfold sX6_turnAbout_75
    rw [ixN (show k < 2147483648 by omega), s1, er, mulR, Nat.mul_comm i 5]
    refine OK.t cN (OK.f (by rw [leN (by omega) (by omega)]; omega) (OK.i (fun c => hbt true ?_) (fun c => hbt false ?_)))
    · rw [eqR (by omega) (by omega)] at c
      rw [c]; rfl
    · rw [eqR (by omega) (by omega)] at c
      rw [show k % 2 = 1 by omega]; rfl
  · intro y hI ih
    unfold sX6_turnAbout_75
    rw [ixN (by omega), s1]
    refine OK.t cN (OK.t (by rw [leN (by omega) (by omega)]; exact Nat.le_refl _) (OK.ret ⟨hI.1, hI.2.1, fun h0 => ?_⟩))
    subst h0
    have := hI.2.2.2 (by decide)
    rw [this]
    congr 2
    funext i
    simp
theorem turn_x {x : aH} {w : SEA} {t : STD} {q N : Nat} (hw : SOK w) (ht : TOK w t) (hs : vSea x w) (hv : vStd x 15 w.lost t) (hh : scrH x w.lost) (hN1 : 1 ≤ N) (hN : N ≤ 4) (hq : q < 4) : OK (fX6_turnAbout x 15 (nI q) (nI N)) (fun r => r.1 = iI (mV w t q N N 0) ∧ (Fr XSr XSf x r.2 ∧ scrH r.2 w.lost) ∧ fi r.2 23 5 = nI (boF true (fun i => mV w t q N (N - 1) i) 4)) := by
  unfold fX6_turnAbout
  refine OK.bind (become27 hw hv hh) (fun z hz => ?_)
  have hzh := (hz.TH hw ht hh).2
  refine OK.bind (worths_x hw ht hs hN hq ⟨hz.2.w (by simp <;> omega) (by simp <;> omega), hzh, hz.1⟩) (fun y hy => ?_)
  obtain ⟨y1, y2, y3⟩ := hy
  rw [subR (by omega)]
  refine OK.bind (P := fun u => Fr [25] [(23, 5)] y u ∧ ri u 25 0 = iI (mV w t q N N 0) ∧ fi u 23 5 = nI (boF true (fun i => mV w t q N (N - 1) i) 4)) ?_ (fun u hu => OK.ret ⟨hu.2.1, ?_, hu.2.2⟩)
  · refine LOOP (fun n (st : aH × Int32) => wX6_turnAbout_67 15 n st.1 st.2) (fun ih st => sX6_turnAbout_67 15 (fun a b => ih (a, b)) st.1 st.2) (fun n => rfl) (fun k st => k ≤ N ∧ st.2 = iI ((k : Int) - 1) ∧ Fr [25] [(23, 5)] y st.1 ∧ (∀ L, L < 5 ^ k → ri st.1 25 L = iI (mV w t q N (N - k) L)) ∧ (k = 0 → fi st.1 23 5 = nI (boF true (fun i => mV w t q N (N - 1) i) 4))) _ ?_ 2000 N (y, nI (N - 1)) (by omega) ⟨Nat.le_refl _, (show nI (N - 1) = iI ((N : Int) - 1) by rw [nI_iI]; exact congrArg iI (by omega)), Fr.rf _ _ _, fun L hL => by rw [Nat.sub_self]; exact y3 L hL, fun h => absurd h (by omega)⟩
    rintro k ⟨u, l⟩ ⟨h1, h2, h3, h4, h5⟩ ih hk
    dsimp only at h2 h3 h4 h5
    subst h2
    try dsimp only
    unfold sX6_turnAbout_67
    by_cases hk0 : k = 0
    · subst hk0
      refine OK.t (by decide) (OK.ret ⟨h3, ?_, h5 rfl⟩)
      rw [h4 0 (by decide), Nat.sub_zero]
    · have ek : iI ((k : Int) - 1) = nI (k - 1) := by rw [nI_iI]; congr 1; omega
      rw [ek]
      refine OK.f (lt0 (by omega)) ?_
      refine OK.bind (level_x (f := mV w t q N) (show k - 1 < 4 by omega) (N - k) (fun d p => mV_bd hw ht d p) (fun p => ?_) (fun L hL => h4 L (by rw [show k - 1 + 1 = k by omega] at hL; exact hL))) (fun v hv1 => ?_)
      · show b5 ((N - (N - k + 1)) % 2 == 0) _ 4 = _
        rw [show N - (N - k + 1) = k - 1 by omega]
      · obtain ⟨v1, v2, v3⟩ := hv1
        refine hk (k - 1) (v, _) (by omega) ⟨by omega, ?_, h3.tr v1, fun L hL => ?_, fun hz => ?_⟩
        · show nI (k - 1) + (-1 : Int32) = _
          rw [nI_iI, show (-1 : Int32) = iI (-1) from rfl, iI_add]
          congr 1
        · show ri v 25 L = _
          rw [v2 L hL, show N - k + 1 = N - (k - 1) by omega]
        · have e1 : k = 1 := by omega
          subst e1
          exact v3 rfl
  · have f1 : Fr XSr XSf x u := (y1.w (by simp <;> omega) (by simp <;> omega)).tr (hu.1.w (by simp) (by simp))
    exact ⟨f1, y2.fr hu.1 (fun a ha => by have := ha; unfold SD at this; simp <;> omega)⟩
/-! the reference -/
theorem worth_m {m : aH} {q n N L : Nat} {w : SEA} {t : STD} (hw : SOK w) (ht : TOK w t) (h6 : fi m 73 6 = nI w.lost) (h10 : ∀ i, i < 10 → ri m 74 (10 + i) = nI (w.pa i)) (hv : mScr m w.lost (runF w t (dgF N L) N)) (hq : q < 4) : fX11_worthOf m (nI q) = some (iI (wvF w t q N L)) := by
  have hn := hw.1
  have hro := runF_ok (f := dgF N L) hw ht N
  unfold fX11_worthOf
  refine OK.eq (OK.r (homeMany_m hn h6 hv) (OK.bind (P := fun r => r = iI (wvF w t q N L)) ?_ (fun r hr => OK.ret hr)))
  refine LOOPUP (fun n st l => wX11_worthOf_7 m (nI q) n st l) (fun ih st l => sX11_worthOf_7 m (nI q) ih st l) (fun n => rfl) (fun i st => st = iI ((hmF w t N L : Int) - 2 * (nsum (awF w (runF w t (dgF N L) N) q) i : Int))) _ w.lost ?_ ?_ 2000 0 _ (by omega) (by omega) (by rw [nI_iI]; exact congrArg iI (show (nsum (runF w t (dgF N L) N).home w.lost : Int) = (hmF w t N L : Int) - 2 * ((0 : Nat) : Int) by unfold hmF; omega))
  · rintro i st hi rfl ih hk
    have h1 := (hro.1 i hi).2
    have h2 := (hw.2.2.1 i hi).1
    have e1 : nsum (awF w (runF w t (dgF N L) N) q) (i + 1) = nsum (awF w (runF w t (dgF N L) N) q) i + awF w (runF w t (dgF N L) N) q i := rfl
    unfold sX11_worthOf_7 jX11_worthOf_42 jX11_worthOf_43
    refine OK.f (by rw [h6, leN (by omega) (by omega)]; omega) (OK.t (inAdd (by omega) (by omega)) ?_)
    rw [ixA (by omega), h10 i (by omega), nI_1]
    have go : ∀ (b : Nat) (v : Int32), v = iI (2 * (b : Int)) → b = awF w (runF w t (dgF N L) N) q i → OK (ih (iI ((hmF w t N L : Int) - 2 * (nsum (awF w (runF w t (dgF N L) N) q) i : Int)) - v) (nI (i + 1))) (fun r => r = iI (wvF w t q N L)) := by
      rintro b v rfl rfl
      rw [iI_sub]
      refine hk _ ?_
      rw [e1]
      congr 1
      omega
    refine OK.i (fun c => OK.t (in10 (by omega)) ?_) (fun c => go 0 0 rfl ?_)
    · rw [eqN (by omega) (by omega)] at c
      rw [ixN (by omega), (hv.1 i hi).2]
      refine OK.i (fun c2 => go 1 2 rfl ?_) (fun c2 => go 0 0 rfl ?_)
      · rw [eqR (by omega) (by omega)] at c2
        unfold awF; rw [if_pos ⟨c2, c⟩]
      · rw [eqR (by omega) (by omega)] at c2
        unfold awF; rw [if_neg (fun z => c2 z.1)]
    · rw [eqN (by omega) (by omega)] at c
      unfold awF; rw [if_neg (fun z => c z.2)]
  · rintro st rfl ih
    unfold sX11_worthOf_7
    exact OK.t (by rw [h6, leN (by omega) (by omega)]; exact Nat.le_refl _) (OK.ret rfl)
theorem plays_m {m : aH} {w : SEA} {t : STD} {T q : Nat} (hw : SOK w) (ht : TOK w t) (hms : mSea m w) (hmv : mStd m w.lost t) (hT : T ≤ 4) (hq : q < 4) : ∀ (d k p f : Nat) (y : aH), k + d = T → p < 5 ^ k → d + 1 ≤ f → Fr TRr TRf m y → trd y k p → OK (fX11_playsFrom f y (nI q) (nI k) (nI T)) (fun r => r.1 = iI (mV w t q T d p) ∧ Fr TRr TRf m r.2 ∧ trd r.2 k p) := by
  have hn := hw.1
  intro d
  induction d with
  | zero =>
    intro k p f y hkT hp hf y1 y2
    obtain ⟨f, rfl⟩ : ∃ g, f = g + 1 := ⟨f - 1, by omega⟩
    have : k = T := by omega
    subst this
    rw [fX11_playsFrom_S]
    unfold uX11_playsFrom
    refine OK.t rfl ?_
    obtain ⟨z, hz, z1, z2⟩ := run_tried (p := p) hw ht hms hmv hT y1 y2 (fun n st l => wX11_playsFrom_12 (fX11_playsFrom f) (nI q) (nI k) n st l) (fun ih st l => sX11_playsFrom_12 (fX11_playsFrom f) (nI q) (nI k) ih st l) (fun n => rfl) (fun ih x l => rfl)
    obtain ⟨b, hb, hz⟩ := bind_t hz
    have fz : Fr TRr TRf m z := y1.tr (z2.w (by simp <;> omega) (by simp <;> omega))
    refine OK.r hb (OK.r hz (OK.r (worth_m (n := 0) hw ht (by rw [fz.f (by simp)]; exact hms.2.2.2.1) (fun i hi => by rw [fz.r (by simp)]; exact (hms.2.1 i hi).1) z1 hq) (OK.ret ⟨rfl, fz, fun i hi => ?_⟩)))
    show ri z 84 i = _
    rw [z2.r (by simp)]
    exact y2 i hi
  | succ d ih =>
    intro k p f y hkT hp hf y1 y2
    obtain ⟨f, rfl⟩ : ∃ g, f = g + 1 := ⟨f - 1, by omega⟩
    have ck : (0 : Int32) ≤ nI k ∧ nI k < (4 : Int32) := inN (by omega) (by omega)
    have ekT : T - (d + 1) = k := by omega
    rw [fX11_playsFrom_S]
    unfold uX11_playsFrom
    refine OK.f (by rw [eqN (by omega) (by omega)]; omega) ?_
    refine OK.bind (P := fun r => r.1 = iI (mV w t q T (d + 1) p) ∧ Fr TRr TRf m r.2 ∧ trd r.2 k p) ?_ (fun r hr => OK.ret hr)
    refine LOOPUP (fun n (st : aH × Int32) l => wX11_playsFrom_47 (fX11_playsFrom f) (nI q) (nI k) (nI T) n st.1 st.2 l) (fun ih st l => sX11_playsFrom_47 (fX11_playsFrom f) (nI q) (nI k) (nI T) (fun a b c => ih (a, b) c) st.1 st.2 l) (fun n => rfl) (fun i st => (0 < i → st.2 = iI (b5 (k % 2 == 0) (fun j => mV w t q T d (5 * p + j)) (i - 1))) ∧ Fr TRr TRf m st.1 ∧ trd st.1 k p) _ 5 ?_ ?_ 2000 0 (y, 0) (by omega) (by omega) ⟨fun h => absurd h (by decide), y1, y2⟩
    · rintro i ⟨z, best⟩ hi ⟨z0, z1, z2⟩ ih2 hh
      dsimp only at z0 z1 z2
      try dsimp only
      unfold sX11_playsFrom_47 jX11_playsFrom_119
      refine OK.f (by rw [ltL (by omega) (by omega)]; omega) (OK.t ck ?_)
      rw [nI_1, nI_1, ixN (by omega)]
      have hp5 : 5 * p + i < 5 ^ (k + 1) := by rw [Nat.pow_succ]; omega
      refine OK.bind (ih (k + 1) (5 * p + i) f (sri z 84 k (nI i)) (by omega) hp5 (by omega) (Fr.sri z1 (by simp)) (fun j hj => ?_)) (fun u hu => ?_)
      · rw [gr]
        by_cases e : j = k
        · subst e; rw [if_pos ⟨rfl, rfl⟩, pd_at hi]
        · rw [if_neg (fun g => e g.2), pd_up hi (by omega)]; exact z2 j (by omega)
      · obtain ⟨u1, u2, u3⟩ := hu
        have u3' : trd u.2 k p := fun j hj => by rw [u3 j (by omega), pd_up hi hj]
        have bv := mV_bd (q := q) (N := T) hw ht d (5 * p + i)
        rw [u1]
        by_cases hi0 : i = 0
        · subst hi0
          exact OK.t rfl (hh _ ⟨fun _ => rfl, u2, u3'⟩)
        · have zb := z0 (by omega)
          have bb := b5_bd (b := k % 2 == 0) (f := fun j => mV w t q T d (5 * p + j)) (lo := -100) (hi := 100) (fun j => mV_bd hw ht d _) (i - 1)
          have eb : b5 (k % 2 == 0) (fun j => mV w t q T d (5 * p + j)) i = if (k % 2 == 0) = true then (if mV w t q T d (5 * p + i) ≤ b5 (k % 2 == 0) (fun j => mV w t q T d (5 * p + j)) (i - 1) then b5 (k % 2 == 0) (fun j => mV w t q T d (5 * p + j)) (i - 1) else mV w t q T d (5 * p + i)) else (if b5 (k % 2 == 0) (fun j => mV w t q T d (5 * p + j)) (i - 1) ≤ mV w t q T d (5 * p + i) then b5 (k % 2 == 0) (fun j => mV w t q T d (5 * p + j)) (i - 1) else mV w t q T d (5 * p + i)) := by
            obtain ⟨i', rfl⟩ : ∃ j, i = j + 1 := ⟨i - 1, by omega⟩
            rfl
          have er : nI k - nI k / (2 : Int32) * (2 : Int32) = nI (k % 2) := nI_rem (k := 2) rfl (by omega) (by decide) (by decide)
          have hm := Nat.mod_lt k (show 0 < 2 by decide)
          rw [er, zb]
          refine OK.f (by rw [eqR (by omega) (by omega)]; exact hi0) (OK.i (fun c => ?_) (fun c => ?_))
          · rw [eqR (by omega) (by omega)] at c
            have ct : (k % 2 == 0) = true := by rw [c]; rfl
            rw [if_pos ct] at eb
            refine OK.i (fun c2 => ?_) (fun c2 => ?_)
            · rw [iI_le (by omega) (by omega) (by omega) (by omega)] at c2
              rw [if_pos c2] at eb
              exact hh _ ⟨fun _ => by rw [Nat.add_sub_cancel, eb], u2, u3'⟩
            · rw [iI_le (by omega) (by omega) (by omega) (by omega)] at c2
              rw [if_neg c2] at eb
              exact hh _ ⟨fun _ => by rw [Nat.add_sub_cancel, eb], u2, u3'⟩
          · rw [eqR (by omega) (by omega)] at c
            have ct : ¬ (k % 2 == 0) = true := by rw [show k % 2 = 1 by omega]; decide
            rw [if_neg ct] at eb
            refine OK.i (fun c2 => ?_) (fun c2 => ?_)
            · rw [iI_le (by omega) (by omega) (by omega) (by omega)] at c2
              rw [if_pos c2] at eb
              exact hh _ ⟨fun _ => by rw [Nat.add_sub_cancel, eb], u2, u3'⟩
            · rw [iI_le (by omega) (by omega) (by omega) (by omega)] at c2
              rw [if_neg c2] at eb
              exact hh _ ⟨fun _ => by rw [Nat.add_sub_cancel, eb], u2, u3'⟩
    · rintro ⟨z, best⟩ ⟨z0, z1, z2⟩ ih2
      try dsimp only
      unfold sX11_playsFrom_47
      refine OK.t (by decide) (OK.ret ⟨?_, z1, z2⟩)
      dsimp only at z0
      show best = iI _
      rw [z0 (by decide)]
      show _ = iI (b5 ((T - (d + 1)) % 2 == 0) _ 4)
      rw [ekT]
theorem w14 (p : Int32) : fX11_within p.toInt64 (1 : Int64) (4 : Int64) = some (bI (1 ≤ p ∧ p ≤ 4)) := within_i p 1 4
theorem op_byTurns {x m : aH} {w : SEA} {t : STD} (hJ : JN x m w t) (p1 p2 p3 : Int32) : OK2 (fX10_byTurns x p1 p2 p3) (fX11_byTurns m p1 p2 p3) (fun a b => TH w.lost x m a.2 b.2 ∧ a.1 = b.1) := by
  have bad : fX10_byTurns x p1 p2 p3 = some (-2000000000, x) → fX11_byTurns m p1 p2 p3 = some (-2000000000, m) → OK2 (fX10_byTurns x p1 p2 p3) (fX11_byTurns m p1 p2 p3) (fun a b => TH w.lost x m a.2 b.2 ∧ a.1 = b.1) := fun h1 h2 => OK2.eq h1 h2 ⟨TH.rf hJ, rfl⟩
  obtain ⟨⟨hw, ht⟩, ⟨hs, hv, hh⟩, hms, hmv⟩ := id hJ
  by_cases h1 : 0 ≤ p1 ∧ p1 ≤ 3
  · by_cases h2 : 1 ≤ p2 ∧ p2 ≤ 4
    · have a1 := Int32.not_lt.mpr h2.1
      have a2 := Int32.not_lt.mpr h2.2
      by_cases h3 : 0 ≤ p3 ∧ p3 ≤ 1
      · have a3 := Int32.not_lt.mpr h3.1
        obtain ⟨q, hq, rfl⟩ := le_arg (N := 3) (by omega) rfl h1
        obtain ⟨N, hN, rfl⟩ := le_arg (N := 4) (by omega) rfl ⟨(by have := h2.1; grind : (0 : Int32) ≤ p2), h2.2⟩
        have hN1 : 1 ≤ N := by
          have := h2.1
          rw [show (1 : Int32) = nI 1 from rfl, leN (by omega) (by omega)] at this
          exact this
        have ex : OK (fX10_byTurns x (nI q) (nI N) p3) (fun a => (Fr XSr XSf x a.2 ∧ scrH a.2 w.lost) ∧ a.1 = if p3 = 0 then iI (mV w t q N N 0) else nI (boF true (fun i => mV w t q N (N - 1) i) 4)) := by
          unfold fX10_byTurns
          refine OK.r ((isWithin_1 x _).trans (by rw [bI_t h1])) (OK.f n10 (OK.f a1 (OK.f a2 (OK.f a3 (OK.t h3.2 (OK.bind (turn_x hw ht hs hv hh hN1 hN (show q < 4 by omega)) (fun r hr => ?_)))))))
          obtain ⟨r1, r2, r3⟩ := hr
          refine OK.i (fun c => OK.ret ⟨r2, ?_⟩) (fun c => OK.ret ⟨r2, ?_⟩)
          · rw [if_pos c]; exact r1
          · rw [if_neg c]; exact r3
        have em : OK (fX11_byTurns m (nI q) (nI N) p3) (fun a => Fr MSr MSf m a.2 ∧ a.1 = if p3 = 0 then iI (mV w t q N N 0) else nI (boF true (fun i => mV w t q N (N - 1) i) 4)) := by
          unfold fX11_byTurns
          refine OK.r ((w3 _).trans (by rw [bI_t h1])) (OK.f n10 (OK.r ((w14 _).trans (by rw [bI_t h2])) (OK.f n10 (OK.r ((w1 _).trans (by rw [bI_t h3])) (OK.f n10 (OK.bind (plays_m hw ht hms hmv hN (show q < 4 by omega) N 0 0 64 m (by omega) (by decide) (by omega) (Fr.rf _ _ _) (fun i hi => absurd hi (Nat.not_lt_zero i))) (fun r hr => ?_)))))))
          obtain ⟨r1, r2, r3⟩ := hr
          have e0 : mV w t q N N 0 = b5 true (fun i => mV w t q N (N - 1) i) 4 := by
            obtain ⟨d, rfl⟩ : ∃ d, N = d + 1 := ⟨N - 1, by omega⟩
            show b5 ((d + 1 - (d + 1)) % 2 == 0) (fun i => mV w t q (d + 1) d (5 * 0 + i)) 4 = _
            rw [Nat.sub_self, Nat.add_sub_cancel]
            congr 1
            funext i
            rw [Nat.mul_zero, Nat.zero_add]
          have hbo := bo5 true (fun i => mV w t q N (N - 1) i)
          have hbt := bo_t (fun i => mV w t q N (N - 1) i) 4
          have hbl := bo_lt true (fun i => mV w t q N (N - 1) i) 4
          have bd := fun i => mV_bd (q := q) (N := N) hw ht (N - 1) i
          refine OK.i (fun c => OK.ret ⟨r2.w (by simp <;> omega) (by simp <;> omega), by rw [if_pos c]; exact r1⟩) (fun c => ?_)
          rw [if_neg c, r1, e0, ← hbo]
          generalize hB : boF true (fun i => mV w t q N (N - 1) i) 4 = B at hbo hbt hbl
          try dsimp only at hbt
          -- the place of B in the order 4, 0, 1, 2, 3
          have hplace : ∃ j, j ≤ 4 ∧ B = (if j = 0 then 4 else j - 1) := by
            rcases hbl with h | h
            · exact ⟨0, by omega, by rw [if_pos rfl]; exact h⟩
            · exact ⟨B + 1, by omega, by rw [if_neg (by omega)]; omega⟩
          obtain ⟨j, hj, hBj⟩ := hplace
          refine OK.bind (P := fun u => u.1 = nI B ∧ Fr TRr TRf m u.2) ?_ (fun u hu => OK.ret ⟨hu.2.w (by simp <;> omega) (by simp <;> omega), hu.1⟩)
          have c0 : (0 : Int32) ≤ (0 : Int32) ∧ (0 : Int32) < (4 : Int32) := by decide
          have step : ∀ (i : Nat) (z : aH) (ih : aH → Int32 → Int32 → Option (Int32 × aH)) (way : Nat), i < 5 → way = (if i = 0 then 4 else i - 1) → Fr TRr TRf m z → OK (jX11_byTurns_89 ih z (nI q) (nI N) (iI (mV w t q N (N - 1) B)) (nI i) 0 (nI way)) (fun u => u.1 = nI B ∧ Fr TRr TRf m u.2) ∨ True := fun _ _ _ _ _ _ _ => Or.inr trivial
          clear step
          refine LOOPUP (fun n (st : aH × Int32) l => wX11_byTurns_60 (nI q) (nI N) (iI (mV w t q N (N - 1) B)) n st.1 st.2 l) (fun ih st l => sX11_byTurns_60 (nI q) (nI N) (iI (mV w t q N (N - 1) B)) (fun a b c => ih (a, b) c) st.1 st.2 l) (fun n => rfl) (fun i st => Fr TRr TRf m st.1 ∧ ((i ≤ j ∧ st.2 = -1) ∨ (i = j + 1 ∧ st.2 = nI B))) _ (j + 1) ?_ ?_ 2000 0 (r.2, -1) (by omega) (by omega) ⟨r2, Or.inl ⟨by omega, rfl⟩⟩
          · rintro i ⟨z, l5⟩ hi ⟨z1, z2⟩ ih hk
            dsimp only at z1 z2
            obtain ⟨z2a, rfl⟩ : i ≤ j ∧ l5 = -1 := by
              rcases z2 with h | h
              · exact h
              · omega
            try dsimp only
            unfold sX11_byTurns_60
            refine OK.f (by rw [ltL (by omega) (by omega)]; omega) (OK.f (by decide) ?_)
            have way : ∀ (v : Nat), v = (if i = 0 then 4 else i - 1) → OK (jX11_byTurns_89 (fun a b c => ih (a, b) c) z (nI q) (nI N) (iI (mV w t q N (N - 1) B)) (nI i) 0 (nI v)) (fun u => u.1 = nI B ∧ Fr TRr TRf m u.2) := by
              intro v hvv
              have hv5 : v < 5 := by split at hvv <;> omega
              unfold jX11_byTurns_89 jX11_byTurns_119
              refine OK.t c0 ?_
              rw [ix_0, nI_1]
              refine OK.bind (plays_m hw ht hms hmv hN (show q < 4 by omega) (N - 1) 1 v 64 (sri z 84 0 (nI v)) (by omega) (by omega) (by omega) (Fr.sri z1 (by simp)) (fun a ha => ?_)) (fun u hu => ?_)
              · obtain rfl : a = 0 := by omega
                rw [gr, if_pos ⟨rfl, rfl⟩]
                unfold pdF
                rw [show 1 - 1 - 0 = 0 by omega, Nat.pow_zero, Nat.div_one, Nat.mod_eq_of_lt hv5]
              · obtain ⟨u1, u2, -⟩ := hu
                have bv := bd v
                have bB := bd B
                rw [u1]
                by_cases hij : i = j
                · have hvB : v = B := by rw [hvv, hBj, hij]
                  rw [hvB]
                  refine OK.t rfl (OK.i (fun ci => ?_) (fun ci => ?_))
                  · rw [eqR (by omega) (by omega)] at ci
                    refine hk (u.2, 4) ⟨u2, Or.inr ⟨by omega, ?_⟩⟩
                    show (4 : Int32) = nI B
                    rw [hBj, if_pos (by omega)]
                    rfl
                  · rw [eqR (by omega) (by omega)] at ci
                    refine hk (u.2, nI i - 1) ⟨u2, Or.inr ⟨by omega, ?_⟩⟩
                    show nI i - 1 = nI B
                    rw [subR (by omega), hBj, if_neg (by omega), hij]
                · have hne : mV w t q N (N - 1) v < mV w t q N (N - 1) B := by
                    have hB4 : B ≠ 4 := by rw [hBj, if_neg (by omega)]; omega
                    obtain ⟨g1, g2⟩ := hbt.2.2 hB4
                    by_cases hi0 : i = 0
                    · rw [hvv, if_pos hi0]; exact g1
                    · rw [hvv, if_neg hi0]
                      exact g2 _ (by rw [hBj, if_neg (by omega)]; omega)
                  refine OK.f (by rw [iI_eq (by omega) (by omega) (by omega) (by omega)]; omega) ?_
                  exact hk (u.2, -1) ⟨u2, Or.inl ⟨by omega, rfl⟩⟩
            refine OK.i (fun ci => ?_) (fun ci => ?_)
            · rw [eqR (by omega) (by omega)] at ci
              exact way 4 (by rw [if_pos ci])
            · rw [eqR (by omega) (by omega)] at ci
              rw [subR (by omega)]
              exact way (i - 1) (by rw [if_neg ci])
          · rintro ⟨z, l5⟩ ⟨z1, z2⟩ ih
            dsimp only at z1 z2
            obtain ⟨-, rfl⟩ : j + 1 = j + 1 ∧ l5 = nI B := by
              rcases z2 with h | h
              · omega
              · exact h
            try dsimp only
            unfold sX11_byTurns_60
            refine OK.i (fun _ => OK.ret ⟨rfl, z1⟩) (fun _ => OK.t (le0 ?_) (OK.ret ⟨rfl, z1⟩))
            rcases hbl with h | h <;> omega
        exact OK2.mk ex em (fun a b ha hb => ⟨⟨ha.1.1, hb.1, ha.1.2⟩, by rw [ha.2, hb.2]⟩)
      · refine bad ?_ (by simp [fX11_byTurns, w3, w14, w1, bI_t h1, bI_t h2, bI_f h3])
        have e : p3 < 0 ∨ ¬ p3 ≤ 1 := by grind
        rcases e with e | e
        · simp [fX10_byTurns, isWithin_1, bI_t h1, a1, a2, e]
        · simp [fX10_byTurns, isWithin_1, bI_t h1, a1, a2, e]
    · refine bad ?_ (by simp [fX11_byTurns, w3, w14, bI_t h1, bI_f h2])
      by_cases e : p2 < 1
      · simp [fX10_byTurns, isWithin_1, bI_t h1, e]
      · have e2 : (4 : Int32) < p2 := by grind
        simp [fX10_byTurns, isWithin_1, bI_t h1, e, e2]
  · exact bad (by simp [fX10_byTurns, isWithin_1, bI_f h1]) (by simp [fX11_byTurns, w3, bI_f h1])
