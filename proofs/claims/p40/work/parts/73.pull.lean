/-! ===== the class's nights: pull, pass ===== -/
def LFC (lf : (Nat → Int32) → Int32) : Prop := ∀ f g : Nat → Int32, (∀ k, k < 6 → f k = g k) → lf f = lf g
def vLaw (x : aH) (lf : (Nat → Int32) → Int32) : Prop := LFC lf ∧ ∀ y : aH, ri y 11 = ri x 11 → ri y 12 = ri x 12 → fi y 10 2 = fi x 10 2 → OK (fX3_workOut y) (fun q => q.1 = lf (ri y 13) ∧ Fr [14] [] y q.2)
def vSea (x : aH) (w : SEA) : Prop := (∀ c, c < 64 → ri x 2 c = nI (w.dp c) ∧ ri x 3 c = nI (w.df c)) ∧ (∀ i, i < 10 → ri x 4 i = nI (w.pa i) ∧ ri x 5 i = nI (w.ow i)) ∧ (fi x 1 4 = nI w.lamp ∧ fi x 1 5 = nI w.burns ∧ fi x 1 6 = nI w.walks) ∧ vLaw x w.lf
def vStd (x : aH) (a n : Nat) (t : STD) : Prop := fi x a 5 = nI n ∧ (∀ i, i < n → ri x (a + 1) i = nI (t.cell i)) ∧ fi x a 6 = nI (bsum t.home n) ∧ fi x a 7 = nI t.oil
theorem vLaw.fr {x y : aH} {lf : (Nat → Int32) → Int32} {R : List Nat} {F : List (Nat × Nat)} (h : vLaw x lf) (k : Fr R F x y) (h1 : 11 ∉ R) (h2 : 12 ∉ R) (h3 : (10, 2) ∉ F) : vLaw y lf :=
  ⟨h.1, fun z z1 z2 z3 => h.2 z (z1.trans (k.r h1)) (z2.trans (k.r h2)) (z3.trans (k.f h3))⟩
theorem vSea.fr {x y : aH} {w : SEA} {R : List Nat} {F : List (Nat × Nat)} (h : vSea x w) (k : Fr R F x y) (hR : ∀ a, a ∈ R → a ≠ 2 ∧ a ≠ 3 ∧ a ≠ 4 ∧ a ≠ 5 ∧ a ≠ 11 ∧ a ≠ 12) (hF : ∀ a, a ∈ F → a.1 ≠ 1 ∧ a.1 ≠ 10) : vSea y w := by
  obtain ⟨h1, h2, ⟨h3, h4, h5⟩, h6⟩ := h
  have e2 : ri y 2 = ri x 2 := k.r (fun z => (hR _ z).1 rfl)
  have e3 : ri y 3 = ri x 3 := k.r (fun z => (hR _ z).2.1 rfl)
  have e4 : ri y 4 = ri x 4 := k.r (fun z => (hR _ z).2.2.1 rfl)
  have e5 : ri y 5 = ri x 5 := k.r (fun z => (hR _ z).2.2.2.1 rfl)
  refine ⟨fun c hc => ?_, fun i hi => ?_, ⟨?_, ?_, ?_⟩, h6.fr k (fun z => (hR _ z).2.2.2.2.1 rfl) (fun z => (hR _ z).2.2.2.2.2 rfl) (fun z => (hF _ z).2 rfl)⟩
  · rw [e2, e3]; exact h1 c hc
  · rw [e4, e5]; exact h2 i hi
  · rw [k.f (fun z => (hF _ z).1 rfl)]; exact h3
  · rw [k.f (fun z => (hF _ z).1 rfl)]; exact h4
  · rw [k.f (fun z => (hF _ z).1 rfl)]; exact h5
theorem vStd.fr {x y : aH} {a n : Nat} {t : STD} {R : List Nat} {F : List (Nat × Nat)} (h : vStd x a n t) (k : Fr R F x y) (hR : a + 1 ∉ R) (h5 : (a, 5) ∉ F) (h6 : (a, 6) ∉ F) (h7 : (a, 7) ∉ F) : vStd y a n t := by
  obtain ⟨g1, g2, g3, g4⟩ := h
  refine ⟨?_, fun i hi => ?_, ?_, ?_⟩
  · rw [k.f h5]; exact g1
  · rw [k.r hR]; exact g2 i hi
  · rw [k.f h6]; exact g3
  · rw [k.f h7]; exact g4
theorem SD.lt {a : Nat} (h : SD a) : 15 ≤ a ∧ a ≤ 43 := by unfold SD at h; omega
theorem isHome_x {x : aH} {a n i : Nat} {t : STD} (hn : n ≤ 10) (hh : ∀ i, i < n → t.home i ≤ 1) (hv : vStd x a n t) (hi : i < n) : fX8_isHome x a (nI i) = some (nI (t.home i)) := by
  unfold fX8_isHome
  rw [hv.2.2.1, hb_bit hn hh hi]
  have := hh i hi
  rcases (show t.home i = 0 ∨ t.home i = 1 by omega) with e | e
  · rw [e]; rfl
  · rw [e]; rfl
theorem pull_loop {x : aH} {a i : Nat} {w : SEA} {t : STD} (hw : SOK w) (ht : TOK w t) (hs : vSea x w) (hv : vStd x a w.lost t) (hi : i < w.lost) : OK (wX8_pull_7 a x (nI i) 2000 0 0 0) (fun q => q = (nI (nsum (besF w t i) w.lost), nI (nsum (kinF w t i) w.lost))) := by
  obtain ⟨hn, hw2⟩ := id hw
  refine LOOPUP (fun n (st : Int32 × Int32) l => wX8_pull_7 a x (nI i) n st.1 st.2 l) (fun ih st l => sX8_pull_7 a x (nI i) (fun l2 l3 l4 => ih (l2, l3) l4) st.1 st.2 l) (fun n => rfl) (fun k st => st = (nI (nsum (besF w t i) k), nI (nsum (kinF w t i) k))) _ w.lost ?_ ?_ 2000 0 (0, 0) (by omega) (by omega) rfl
  · rintro k st hk rfl ih hI
    try dsimp only
    unfold sX8_pull_7
    refine OK.f (by rw [hv.1, leN (by omega) (by omega)]; omega) ?_
    refine OK.r (isHome_x hn (fun i hi => (ht.1 i hi).2) hv hk) ?_
    have c1 : (0 : Int32) ≤ nI k ∧ nI k < (10 : Int32) := ⟨le0 (by omega), (ltR (by omega) (by omega)).mpr (by omega)⟩
    have c2 : (0 : Int32) ≤ nI i ∧ nI i < (10 : Int32) := ⟨le0 (by omega), (ltR (by omega) (by omega)).mpr (by omega)⟩
    have hh := (ht.1 k hk).2
    have hb : nsum (besF w t i) (k + 1) = nsum (besF w t i) k + besF w t i k := rfl
    have hkn : nsum (kinF w t i) (k + 1) = nsum (kinF w t i) k + kinF w t i k := rfl
    have eb : besF w t i k = if t.home k = 0 ∧ k ≠ i ∧ t.cell k = t.cell i then 1 else 0 := rfl
    have ek : kinF w t i k = if t.home k = 1 ∧ w.pa k = w.pa i then 1 else 0 := rfl
    have hI' : ∀ b d : Nat, b = nsum (besF w t i) (k + 1) → d = nsum (kinF w t i) (k + 1) → OK (ih (nI b, nI d) (nI (k + 1))) (fun q => q = (nI (nsum (besF w t i) w.lost), nI (nsum (kinF w t i) w.lost))) := by
      rintro b d rfl rfl
      exact hI _ rfl
    rcases (show t.home k = 0 ∨ t.home k = 1 by omega) with e | e
    · rw [e]
      refine OK.t rfl ?_
      by_cases hki : k = i
      · refine OK.t (by rw [hki]) ?_
        unfold jX8_pull_83
        rw [nI_1]
        exact hI' _ _ (by rw [hb, eb, if_neg (by omega)]; rfl) (by rw [hkn, ek, if_neg (by omega)]; rfl)
      · refine OK.f (by rw [eqN (by omega) (by omega)]; exact hki) (OK.t c1 (OK.t c2 ?_))
        rw [ixN (by omega), ixN (by omega), hv.2.1 k hk, hv.2.1 i hi]
        have b1 := (ht.1 k hk).1
        have b2 := (ht.1 i hi).1
        refine OK.i (fun c => ?_) (fun c => ?_)
        · rw [eqN (by omega) (by omega)] at c
          unfold jX8_pull_83
          rw [nI_1, nI_1]
          exact hI' _ _ (by rw [hb, eb, if_pos ⟨e, hki, c⟩]) (by rw [hkn, ek, if_neg (by omega)]; rfl)
        · rw [eqN (by omega) (by omega)] at c
          unfold jX8_pull_83
          rw [nI_1]
          exact hI' _ _ (by rw [hb, eb, if_neg (fun z => c z.2.2)]; rfl) (by rw [hkn, ek, if_neg (by omega)]; rfl)
    · rw [e]
      refine OK.f (by decide) (OK.t c1 (OK.t c2 ?_))
      rw [ixN (by omega), ixN (by omega), (hs.2.1 k (by omega)).1, (hs.2.1 i (by omega)).1]
      have b1 := (hw2.2.1 k hk).1
      have b2 := (hw2.2.1 i hi).1
      refine OK.i (fun c => ?_) (fun c => ?_)
      · rw [eqN (by omega) (by omega)] at c
        unfold jX8_pull_53 jX8_pull_83
        rw [nI_1, nI_1]
        exact hI' _ _ (by rw [hb, eb, if_neg (by omega)]; rfl) (by rw [hkn, ek, if_pos ⟨e, c⟩])
      · rw [eqN (by omega) (by omega)] at c
        unfold jX8_pull_53 jX8_pull_83
        rw [nI_1, show (0 : Int32) = nI 0 from rfl, addN]
        exact hI' _ _ (by rw [hb, eb, if_neg (by omega)]; rfl) (by rw [hkn, ek, if_neg (fun z => c z.2)])
  · rintro st rfl ih
    try dsimp only
    unfold sX8_pull_7
    exact OK.t (by rw [hv.1, leN (by omega) (by omega)]; exact Nat.le_refl _) (OK.ret rfl)
theorem pull_x {x : aH} {a i : Nat} {w : SEA} {t : STD} (ha : SD a) (hw : SOK w) (ht : TOK w t) (hs : vSea x w) (hv : vStd x a w.lost t) (hi : i < w.lost) : OK (fX8_pull x a (nI i)) (fun q => q.1 = pullF w t i ∧ Fr [13, 14] [] x q.2) := by
  have hal := ha.lt
  obtain ⟨hn, hw2⟩ := id hw
  have c2 : (0 : Int32) ≤ nI i ∧ nI i < (10 : Int32) := ⟨le0 (by omega), (ltR (by omega) (by omega)).mpr (by omega)⟩
  have hc := (ht.1 i hi).1
  unfold fX8_pull
  refine OK.bind (pull_loop hw ht hs hv hi) (fun q hq => ?_)
  subst hq
  have e1 : ri x (a + 1) (ix (nI i)) = nI (t.cell i) := by rw [ixN (by omega), hv.2.1 i hi]
  rw [e1]
  refine OK.t c2 (OK.r (far_x hs.2.2.1.1 hw2.2.2.1 hc) (OK.t c2 ?_))
  have n13 : ∀ (y : aH) (k : Nat) (v : Int32) (b : Nat), b ≠ 13 → ri (sri y 13 k v) b = ri y b := fun y k v b hb => ri_sri_ne hb
  rw [n13 _ _ _ _ (by omega), e1]
  refine OK.t ⟨le0 (by omega), (ltR (by omega) (by omega)).mpr hc⟩ (OK.t c2 ?_)
  unfold jX8_pull_152
  simp only [gfr]
  refine OK.bind (hs.2.2.2.2 _ (by simp only [n13 _ _ _ 11 (by decide)]) (by simp only [n13 _ _ _ 12 (by decide)]) rfl) (fun q hq => ?_)
  refine OK.ret ⟨?_, ?_⟩
  · dsimp only
    rw [clamp_eq, hq.1]
    unfold pullF
    congr 1
    refine hs.2.2.2.1 _ _ (fun k hk => ?_)
    simp only [gr]
    have h2 : ri x 2 (ix (nI (t.cell i))) = nI (w.dp (t.cell i)) := by rw [ixN (by omega), (hs.1 _ hc).1]
    have h5 : ri x 5 (ix (nI i)) = nI (w.ow i) := by rw [ixN (by omega), (hs.2.1 _ (by omega)).2]
    match k, hk with
    | 0, _ => simp [namF, ix_0, ix_1, ix_2, ix_3, ix_4, ix_5]
    | 1, _ => simp [namF, ix_0, ix_1, ix_2, ix_3, ix_4, ix_5, h2, n13]
    | 2, _ => simp [namF, ix_0, ix_1, ix_2, ix_3, ix_4, ix_5, h5, n13]
    | 3, _ => simp [namF, ix_0, ix_1, ix_2, ix_3, ix_4, ix_5]
    | 4, _ => simp [namF, ix_0, ix_1, ix_2, ix_3, ix_4, ix_5]
    | 5, _ => simp [namF, ix_0, ix_1, ix_2, ix_3, ix_4, ix_5, hv.2.2.2]
  · refine Fr.tr ?_ (hq.2.w (by simp) (by simp))
    repeat' (refine Fr.sri ?_ (by simp))
    exact Fr.rf _ _ _
