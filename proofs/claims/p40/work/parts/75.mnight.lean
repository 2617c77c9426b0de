/-! ===== a night of the reference ===== -/
abbrev LF5 : List (Nat × Nat) := [(73, 11), (73, 12), (73, 13), (73, 14), (73, 15)]
def mLaw (m : aH) (lf : (Nat → Int32) → Int32) : Prop := LFC lf ∧ ((fi m 73 10 < 0 ∧ ∀ f : Nat → Int32, lf f = 6 - f 1 / 2 - f 2 / 3) ∨ (¬ fi m 73 10 < 0 ∧ ∀ y : aH, ri y 79 = ri m 79 → fi y 73 10 = fi m 73 10 → OK (fX11_workOut y 0 (fi y 73 10)) (fun q => q.1 = lf (ri y 80) ∧ Fr [] LF5 y q.2)))
def mSea (m : aH) (w : SEA) : Prop := (∀ c, c < 64 → ri m 74 (40 + c) = nI (w.dp c) ∧ ri m 74 (104 + c) = nI (w.df c)) ∧ (∀ i, i < 10 → ri m 74 (10 + i) = nI (w.pa i) ∧ ri m 74 (20 + i) = nI (w.ow i)) ∧ (ri m 74 168 = nI w.lamp ∧ ri m 74 170 = nI w.burns ∧ ri m 74 171 = nI w.walks) ∧ fi m 73 6 = nI w.lost ∧ mLaw m w.lf
def mStd (m : aH) (n : Nat) (t : STD) : Prop := (∀ i, i < n → ri m 74 i = nI (t.cell i) ∧ ri m 74 (30 + i) = nI (t.home i)) ∧ ri m 74 169 = nI t.oil ∧ (∀ i, n ≤ i → i < 10 → ri m 74 (30 + i) = 0)
def mScr (m : aH) (n : Nat) (t : STD) : Prop := (∀ i, i < n → ri m 81 i = nI (t.cell i) ∧ ri m 82 i = nI (t.home i)) ∧ fi m 73 19 = nI t.oil
theorem mLaw.fr {x y : aH} {lf : (Nat → Int32) → Int32} {R : List Nat} {F : List (Nat × Nat)} (h : mLaw x lf) (k : Fr R F x y) (h1 : 79 ∉ R) (h3 : (73, 10) ∉ F) : mLaw y lf := by
  refine ⟨h.1, ?_⟩
  rw [k.f h3]
  rcases h.2 with h2 | h2
  · exact Or.inl h2
  · exact Or.inr ⟨h2.1, fun z z1 z2 => h2.2 z (z1.trans (k.r h1)) z2⟩
theorem mSea.fr {x y : aH} {w : SEA} {R : List Nat} {F : List (Nat × Nat)} (h : mSea x w) (k : Fr R F x y) (h1 : 79 ∉ R) (h2 : 74 ∉ R) (h3 : (73, 10) ∉ F) (h4 : (73, 6) ∉ F) : mSea y w := by
  obtain ⟨g1, g2, g3, g4, g5⟩ := h
  have e : ri y 74 = ri x 74 := k.r h2
  unfold mSea
  rw [e, k.f h4]
  exact ⟨g1, g2, g3, g4, g5.fr k h1 h3⟩
theorem mStd.fr {x y : aH} {n : Nat} {t : STD} {R : List Nat} {F : List (Nat × Nat)} (h : mStd x n t) (k : Fr R F x y) (h2 : 74 ∉ R) : mStd y n t := by
  unfold mStd
  rw [k.r h2]
  exact h
theorem mScr.fr {x y : aH} {n : Nat} {t : STD} {R : List Nat} {F : List (Nat × Nat)} (h : mScr x n t) (k : Fr R F x y) (h1 : 81 ∉ R) (h2 : 82 ∉ R) (h3 : (73, 19) ∉ F) : mScr y n t := by
  unfold mScr
  rw [k.r h1, k.r h2, k.f h3]
  exact h
theorem in10 {i : Nat} (h : i < 10) : (0 : Int32) ≤ nI i ∧ nI i < (10 : Int32) := ⟨le0 (by omega), (ltR (by omega) (by omega)).mpr h⟩
theorem inAdd {N a i : Nat} (hN : (OfNat.ofNat N : Nat) < 100000) (h : (OfNat.ofNat a : Nat) + i < (OfNat.ofNat N : Nat)) : (0 : Int32) ≤ (OfNat.ofNat a : Int32) + nI i ∧ (OfNat.ofNat a : Int32) + nI i < (OfNat.ofNat N : Int32) := by
  rw [addL]
  have h2 := Nat.lt_trans h hN
  exact ⟨le0 (Nat.lt_trans h2 (by decide)), (ltR (Nat.lt_trans hN (by decide)) (Nat.lt_trans h2 (by decide))).mpr h⟩
theorem inN {N i : Nat} (hN : (OfNat.ofNat N : Nat) < 100000) (h : i < (OfNat.ofNat N : Nat)) : (0 : Int32) ≤ nI i ∧ nI i < (OfNat.ofNat N : Int32) := ⟨le0 (Nat.lt_trans (Nat.lt_trans h hN) (by decide)), (ltR (Nat.lt_trans hN (by decide)) (Nat.lt_trans (Nat.lt_trans h hN) (by decide))).mpr h⟩
theorem ixA {a i : Nat} (h : (OfNat.ofNat a : Nat) + i < 100000) : ix ((OfNat.ofNat a : Int32) + nI i) = (OfNat.ofNat a : Nat) + i := by rw [addL, ixN (Nat.lt_trans h (by decide))]
theorem begins_m {m : aH} {n : Nat} {t : STD} (hn : n ≤ 10) (h6 : fi m 73 6 = nI n) (hv : mStd m n t) : OK (fX11_begins m) (fun q => mScr q n t ∧ Fr [81, 82] [(73, 19)] m q) := by
  unfold fX11_begins
  refine OK.bind (P := fun y => Fr [81, 82] [] m y ∧ ∀ i, i < n → ri y 81 i = nI (t.cell i) ∧ ri y 82 i = nI (t.home i)) ?_ (fun y hy => OK.ret ?_)
  · refine LOOPUP (fun n (st : aH) l => wX11_begins_2 n st l) (fun ih st l => sX11_begins_2 ih st l) (fun n => rfl) (fun i y => Fr [81, 82] [] m y ∧ ∀ j, j < i → ri y 81 j = nI (t.cell j) ∧ ri y 82 j = nI (t.home j)) _ n ?_ ?_ 2000 0 m (by omega) (by omega) ⟨Fr.rf _ _ _, fun j hj => by omega⟩
    · intro i y hi hI ih hh
      try dsimp only
      unfold sX11_begins_2
      have c := in10 (show i < 10 by omega)
      refine OK.f (by rw [hI.1.f (by simp), h6, leN (by omega) (by omega)]; omega) (OK.t (inN (by omega) (by omega)) (OK.t c (OK.t (inAdd (by omega) (by omega)) (OK.t c ?_))))
      rw [nI_1]
      refine hh _ ⟨Fr.sri (Fr.sri hI.1 (by simp)) (by simp), fun j hj => ?_⟩
      rw [ixN (by omega), ixA (by omega)]
      have e74 : ∀ k v, ri (sri y 81 k v) 74 = ri m 74 := fun k v => by rw [ri_sri_ne (by decide)]; exact hI.1.r (by simp)
      rw [e74, hI.1.r (show 74 ∉ [81, 82] by simp), (hv.1 i hi).1, (hv.1 i hi).2]
      simp only [gr]
      by_cases e : j = i
      · subst e; simp
      · simp [e]; exact hI.2 j (by omega)
    · intro y hI ih
      try dsimp only
      unfold sX11_begins_2
      exact OK.t (by rw [hI.1.f (by simp), h6, leN (by omega) (by omega)]; exact Nat.le_refl _) (OK.ret hI)
  · rw [show ix (169 : Int32) = 169 from rfl, hy.1.r (show 74 ∉ [81, 82] by simp), hv.2.1]
    refine ⟨⟨fun i hi => ?_, ?_⟩, Fr.sfi (hy.1.w (by simp) (by simp)) (by simp)⟩
    · simp only [grf]; exact hy.2 i hi
    · rw [gf, if_pos ⟨rfl, rfl⟩]
theorem clampM (x : aH) (v : Int32) : jX11_drawsOf_243 x v = some (clampF v, x) := by
  unfold jX11_drawsOf_243 clampF
  by_cases h : v < 0
  · rw [if_neg (Int32.not_le.mpr h), if_pos h]
  · rw [if_pos (Int32.not_lt.mp h), if_neg h]
    by_cases h2 : v ≤ 9
    · rw [if_pos h2, if_neg (Int32.not_lt.mpr h2)]
    · rw [if_neg h2, if_pos (Int32.not_le.mp h2)]
theorem draws_loop {m : aH} {p : Nat} {w : SEA} {t : STD} (hw : SOK w) (ht : TOK w t) (hs : mSea m w) (hv : mScr m w.lost t) (hp : p < w.lost) : OK (wX11_drawsOf_47 m (nI p) 2000 0 0 0) (fun q => q = (nI (nsum (besF w t p) w.lost), nI (nsum (kinF w t p) w.lost))) := by
  obtain ⟨hn, hw2⟩ := id hw
  refine LOOPUP (fun n (st : Int32 × Int32) l => wX11_drawsOf_47 m (nI p) n st.1 st.2 l) (fun ih st l => sX11_drawsOf_47 m (nI p) (fun l2 l3 l4 => ih (l2, l3) l4) st.1 st.2 l) (fun n => rfl) (fun k st => st = (nI (nsum (besF w t p) k), nI (nsum (kinF w t p) k))) _ w.lost ?_ ?_ 2000 0 (0, 0) (by omega) (by omega) rfl
  · rintro k st hk rfl ih hI
    try dsimp only
    unfold sX11_drawsOf_47
    refine OK.f (by rw [hs.2.2.2.1, leN (by omega) (by omega)]; omega) ?_
    have c1 := in10 (show k < 10 by omega)
    have c2 := in10 (show p < 10 by omega)
    have hh := (ht.1 k hk).2
    have b1 := (ht.1 k hk).1
    have b2 := (ht.1 p hp).1
    have hb : nsum (besF w t p) (k + 1) = nsum (besF w t p) k + besF w t p k := rfl
    have hkn : nsum (kinF w t p) (k + 1) = nsum (kinF w t p) k + kinF w t p k := rfl
    have eb : besF w t p k = if t.home k = 0 ∧ k ≠ p ∧ t.cell k = t.cell p then 1 else 0 := rfl
    have ek : kinF w t p k = if t.home k = 1 ∧ w.pa k = w.pa p then 1 else 0 := rfl
    have par : ∀ b : Nat, b = besF w t p k → OK (jX11_drawsOf_94 (fun l2 l3 l4 => ih (l2, l3) l4) m (nI p) (nI (nsum (kinF w t p) k)) (nI k) (nI (nsum (besF w t p) k)) (nI b)) (fun q => q = (nI (nsum (besF w t p) w.lost), nI (nsum (kinF w t p) w.lost))) := by
      intro b hbb
      unfold jX11_drawsOf_94 jX11_drawsOf_131
      refine OK.t (inAdd (by omega) (by omega)) (OK.t (inAdd (by omega) (by omega)) ?_)
      rw [ixA (by omega), ixA (by omega), (hs.2.1 k (by omega)).1, (hs.2.1 p (by omega)).1]
      have d1 := (hw2.2.1 k hk).1
      have d2 := (hw2.2.1 p hp).1
      rw [addN, nI_1, hbb, ← hb]
      refine OK.i (fun c => ?_) (fun c => ?_)
      · refine OK.t c1 ?_
        rw [ixN (by omega), (hv.1 k hk).2, addN]
        rw [eqN (by omega) (by omega)] at c
        refine hI _ (by rw [hkn, ek]; congr 2; rcases (show t.home k = 0 ∨ t.home k = 1 by omega) with e | e <;> simp [e, c])
      · rw [eqN (by omega) (by omega)] at c
        rw [show (0 : Int32) = nI 0 from rfl, addN]
        refine hI _ (by rw [hkn, ek, if_neg (fun z => c z.2)])
    unfold jX11_drawsOf_93
    by_cases hkp : k = p
    · refine OK.t (by rw [hkp]) (par 0 (by rw [eb, if_neg (by omega)]))
    · refine OK.f (by rw [eqN (by omega) (by omega)]; exact hkp) (OK.t c1 ?_)
      rw [ixN (by omega), ixN (by omega), (hv.1 k hk).2, (hv.1 k hk).1, (hv.1 p hp).1]
      refine OK.i (fun c => ?_) (fun c => ?_)
      · rw [eqR (by omega) (by omega)] at c
        refine OK.t c1 (OK.t c2 (OK.i (fun c3 => ?_) (fun c3 => ?_)))
        · rw [eqN (by omega) (by omega)] at c3
          exact par 1 (by rw [eb, if_pos ⟨c, hkp, c3⟩])
        · rw [eqN (by omega) (by omega)] at c3
          exact par 0 (by rw [eb, if_neg (fun z => c3 z.2.2)])
      · rw [eqR (by omega) (by omega)] at c
        exact par 0 (by rw [eb, if_neg (fun z => c z.1)])
  · rintro st rfl ih
    try dsimp only
    unfold sX11_drawsOf_47
    exact OK.t (by rw [hs.2.2.2.1, leN (by omega) (by omega)]; exact Nat.le_refl _) (OK.ret rfl)
theorem draws_m {m : aH} {p : Nat} {w : SEA} {t : STD} (hw : SOK w) (ht : TOK w t) (hs : mSea m w) (hv : mScr m w.lost t) (hp : p < w.lost) : OK (fX11_drawsOf m (nI p)) (fun q => q.1 = pullF w t p ∧ Fr [80] LF5 m q.2) := by
  obtain ⟨hn, hw2⟩ := id hw
  have hc := (ht.1 p hp).1
  have c2 := in10 (show p < 10 by omega)
  have h40 := (hs.1 _ hc).1
  have h20 := (hs.2.1 p (by omega)).2
  have bd := (hw2.1 _ hc).1
  have bo := (hw2.2.1 p hp).2
  have e1 : ri m 81 (ix (nI p)) = nI (t.cell p) := by rw [ixN (by omega), (hv.1 p hp).1]
  unfold fX11_drawsOf
  rw [e1]
  refine OK.t c2 (OK.t (inAdd (by omega) (by omega)) (OK.t (inAdd (by omega) (by omega)) ?_))
  rw [ixA (by omega), ixA (by omega), h40, h20]
  rcases hs.2.2.2.2.2 with ⟨g1, g2⟩ | ⟨g1, g2⟩
  · refine OK.t g1 ?_
    rw [clampM]
    refine OK.ret ⟨?_, Fr.rf _ _ _⟩
    show clampF _ = clampF _
    rw [g2]
    rfl
  · refine OK.f g1 (OK.bind (draws_loop hw ht hs hv hp) (fun q hq => ?_))
    subst hq
    refine OK.t c2 ?_
    have n80 : ∀ (y : aH) (k : Nat) (v : Int32) (b : Nat), b ≠ 80 → ri (sri y 80 k v) b = ri y b := fun y k v b hb => ri_sri_ne hb
    have hfar := farM_all w.lamp hw2.2.2.1 (t.cell p) hc
    obtain ⟨va, ha1, hfar⟩ := bind_t hfar
    obtain ⟨vb, hb1, hfar⟩ := bind_t hfar
    obtain ⟨vd, hd1, hfar⟩ := bind_t hfar
    obtain ⟨ve, he1, hfar⟩ := bind_t hfar
    have hfe := Option.some.inj hfar
    have el : ri m 74 (ix (168 : Int32)) = nI w.lamp := hs.2.2.1.1
    refine OK.r (by rw [alongX_hp, el]; exact ha1) (OK.r hb1 (OK.t c2 (OK.r (by rw [alongY_hp, el]; exact hd1) (OK.r he1 ?_))))
    rw [hfe]
    simp only [n80 _ _ _ 81 (by decide), n80 _ _ _ 74 (by decide), e1]
    refine OK.t c2 (OK.t (inAdd (by omega) (by omega)) (OK.t (inAdd (by omega) (by omega)) ?_))
    unfold jX11_drawsOf_208
    simp only [gfr]
    refine OK.bind (g2 _ ?_ rfl) (fun q hq => ?_)
    · simp only [n80 _ _ _ 79 (by decide)]
    · rw [clampM]
      refine OK.ret ⟨?_, ?_⟩
      · show clampF _ = clampF _
        rw [hq.1]
        congr 1
        refine hs.2.2.2.2.1 _ _ (fun k hk => ?_)
        simp only [gr, ixA (show 40 + t.cell p < 100000 by omega), ixA (show 20 + p < 100000 by omega), h40, h20]
        match k, hk with
        | 0, _ => simp [namF, ix_0, ix_1, ix_2, ix_3, ix_4, ix_5]
        | 1, _ => simp [namF, ix_0, ix_1, ix_2, ix_3, ix_4, ix_5]
        | 2, _ => simp [namF, ix_0, ix_1, ix_2, ix_3, ix_4, ix_5]
        | 3, _ => simp [namF, ix_0, ix_1, ix_2, ix_3, ix_4, ix_5]
        | 4, _ => simp [namF, ix_0, ix_1, ix_2, ix_3, ix_4, ix_5]
        | 5, _ => simp [namF, ix_0, ix_1, ix_2, ix_3, ix_4, ix_5, hv.2]
      · refine Fr.tr ?_ (hq.2.w (by simp) (by simp))
        repeat' (refine Fr.sri ?_ (by simp))
        exact Fr.rf _ _ _
