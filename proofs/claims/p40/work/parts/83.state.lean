/-! ===== the relation between the two heaps; lost, oil, led, image, back ===== -/
def JI (x m : aH) (n : Nat) : Prop := fi x 0 11 = fi m 73 32 ∧ (fi x 0 11 = 0 ∨ ∃ (k : Nat) (ti : STD), k ≤ n ∧ vStd x 19 k ti ∧ (∀ i, i < k → ti.cell i < 64 ∧ ti.home i ≤ 1) ∧ ti.oil < 1000 ∧ fi m 73 33 = nI k ∧ (∀ i, i < k → ri m 90 i = nI (ti.cell i) ∧ ri m 90 (30 + i) = nI (ti.home i)) ∧ ri m 90 169 = nI ti.oil ∧ ∀ j, j < 5 → ri x 21 j = ri m 91 j)
def lowN (wh : Nat) : Nat := if wh = 8 ∨ wh = 9 then 1 else 0
def highN (wh : Nat) : Nat := if wh = 0 ∨ wh = 6 then 63 else if wh = 1 then 3 else if wh = 3 then 1 else if wh = 5 then 4 else if wh = 7 then 999 else 9
def placeN (nm wh : Nat) : Nat := if wh ≤ 3 then 10 * wh + nm else if wh ≤ 5 then 40 + 64 * (wh - 4) + nm else 162 + wh
def validP (n nm wh : Nat) : Prop := wh ≤ 9 ∧ (wh ≤ 3 → nm < n) ∧ (4 ≤ wh → wh ≤ 5 → nm < 64) ∧ (6 ≤ wh → nm = 0)
def validV (wh v : Nat) : Prop := lowN wh ≤ v ∧ v ≤ highN wh
def JC (x m : aH) (n : Nat) : Prop := ∃ dn al : Nat, (dn ≤ al ∧ al ≤ 40) ∧ (fi x 52 4 = nI dn ∧ fi x 52 5 = nI al ∧ fi m 73 5 = nI dn ∧ fi m 73 4 = nI al) ∧ ∀ j, j < al → ∃ nm wh a b : Nat, (validP n nm wh ∧ validV wh a ∧ validV wh b) ∧ (ri x 53 j = nI nm ∧ ri x 54 j = nI wh ∧ ri x 55 j = nI a ∧ ri x 56 j = nI b) ∧ (ri m 75 j = nI (placeN nm wh) ∧ ri m 76 j = nI a ∧ ri m 77 j = nI b)
def JT (x m : aH) : Prop := ∃ k : Nat, k ≤ 120 ∧ fi x 6 1 = nI k ∧ fi m 73 8 = nI k ∧ ∀ i, i < k → ∃ b : Nat, b < 256 ∧ ri x 7 i = nI b ∧ ri m 78 i = nI b
def JA (x m : aH) : Prop := ∃ b r : Nat, (b ≤ 50 ∧ fi x 57 1 = nI b ∧ fi m 73 36 = nI b ∧ ∀ i, i < b → ∃ k, k < 8 ∧ ri x 58 i = nI k ∧ ri m 92 i = nI k) ∧ (r ≤ 100 ∧ fi x 57 3 = nI r ∧ fi m 73 39 = nI r ∧ ∀ i, i < 24 → i < r → ri x 59 i = ri m 93 i)
/-- all of it -/
def JR (x m : aH) (w : SEA) (t : STD) : Prop := (JN x m w t ∧ JLed x m) ∧ (JI x m w.lost ∧ JC x m w.lost) ∧ (JT x m ∧ JA x m ∧ JS x m)
def JJ (x m : aH) : Prop := ∃ w t, JR x m w t
theorem JI.fr {x m x' m' : aH} {n : Nat} {R R' : List Nat} {F F' : List (Nat × Nat)} (h : JI x m n) (k : Fr R F x x') (k' : Fr R' F' m m') (hR : 20 ∉ R ∧ 21 ∉ R) (hF : ∀ q, q ∈ F → q.1 ≠ 19 ∧ q.1 ≠ 0) (hR' : 90 ∉ R' ∧ 91 ∉ R') (hF' : (73, 32) ∉ F' ∧ (73, 33) ∉ F') : JI x' m' n := by
  obtain ⟨h1, h2⟩ := h
  have e0 : fi x' 0 11 = fi x 0 11 := k.f (fun z => (hF _ z).2 rfl)
  refine ⟨by rw [e0, k'.f hF'.1]; exact h1, ?_⟩
  rcases h2 with h2 | ⟨q, ti, g1, g2, g3, g4, g5, g6, g7, g8⟩
  · left; rw [e0]; exact h2
  · right
    refine ⟨q, ti, g1, g2.frA k hR.1 (fun z hz => (hF _ hz).1), g3, g4, by rw [k'.f hF'.2]; exact g5, ?_, ?_, ?_⟩
    · rw [k'.r hR'.1]; exact g6
    · rw [k'.r hR'.1]; exact g7
    · rw [k'.r hR'.2, k.r hR.2]; exact g8
theorem JI.le {x m : aH} {n n' : Nat} (h : JI x m n) (hn : n ≤ n') : JI x m n' := by
  obtain ⟨h1, h2⟩ := h
  refine ⟨h1, ?_⟩
  rcases h2 with h2 | ⟨q, ti, g1, g2⟩
  · exact Or.inl h2
  · exact Or.inr ⟨q, ti, Nat.le_trans g1 hn, g2⟩
theorem JC.fr {x m x' m' : aH} {n : Nat} {R R' : List Nat} {F F' : List (Nat × Nat)} (h : JC x m n) (k : Fr R F x x') (k' : Fr R' F' m m') (hR : 53 ∉ R ∧ 54 ∉ R ∧ 55 ∉ R ∧ 56 ∉ R) (hF : (52, 4) ∉ F ∧ (52, 5) ∉ F) (hR' : 75 ∉ R' ∧ 76 ∉ R' ∧ 77 ∉ R') (hF' : (73, 4) ∉ F' ∧ (73, 5) ∉ F') : JC x' m' n := by
  unfold JC
  rw [k.f hF.1, k.f hF.2, k'.f hF'.1, k'.f hF'.2, k.r hR.1, k.r hR.2.1, k.r hR.2.2.1, k.r hR.2.2.2, k'.r hR'.1, k'.r hR'.2.1, k'.r hR'.2.2]
  exact h
theorem JC.le {x m : aH} {n n' : Nat} (h : JC x m n) (hn : n ≤ n') : JC x m n' := by
  obtain ⟨dn, al, h1, h2, h3⟩ := h
  refine ⟨dn, al, h1, h2, fun j hj => ?_⟩
  obtain ⟨nm, wh, a, b, ⟨⟨v1, v2, v3⟩, v4⟩, g⟩ := h3 j hj
  exact ⟨nm, wh, a, b, ⟨⟨v1, fun z => Nat.lt_of_lt_of_le (v2 z) hn, v3⟩, v4⟩, g⟩
theorem JT.fr {x m x' m' : aH} {R R' : List Nat} {F F' : List (Nat × Nat)} (h : JT x m) (k : Fr R F x x') (k' : Fr R' F' m m') (hR : 7 ∉ R) (hF : (6, 1) ∉ F) (hR' : 78 ∉ R') (hF' : (73, 8) ∉ F') : JT x' m' := by
  unfold JT
  rw [k.f hF, k'.f hF', k.r hR, k'.r hR']
  exact h
theorem JA.fr {x m x' m' : aH} {R R' : List Nat} {F F' : List (Nat × Nat)} (h : JA x m) (k : Fr R F x x') (k' : Fr R' F' m m') (hR : 58 ∉ R ∧ 59 ∉ R) (hF : (57, 1) ∉ F ∧ (57, 3) ∉ F) (hR' : 92 ∉ R' ∧ 93 ∉ R') (hF' : (73, 36) ∉ F' ∧ (73, 39) ∉ F') : JA x' m' := by
  unfold JA
  rw [k.f hF.1, k.f hF.2, k'.f hF'.1, k'.f hF'.2, k.r hR.1, k.r hR.2, k'.r hR'.1, k'.r hR'.2]
  exact h
theorem JS.fr {x m x' m' : aH} {R R' : List Nat} {F F' : List (Nat × Nat)} (h : JS x m) (k : Fr R F x x') (k' : Fr R' F' m m') (hF : ∀ q, q ∈ F → q.1 < 61) (hR' : 94 ∉ R' ∧ 95 ∉ R') (hF' : (73, 36) ∉ F') : JS x' m' := by
  have e : ∀ d k, fi x' (61 + 2 * d) k = fi x (61 + 2 * d) k := fun d j => k.f (fun z => by have := hF _ z; dsimp only at this; omega)
  intro d hd
  unfold shE shR
  rw [k'.f hF', k'.r hR'.1, k'.r hR'.2, k.j, k'.j]
  simp only [e]
  exact h d hd
theorem JLed.fr {x m x' m' : aH} {R R' : List Nat} {F F' : List (Nat × Nat)} (h : JLed x m) (k : Fr R F x x') (k' : Fr R' F' m m') (hR : 17 ∉ R) (hR' : 89 ∉ R') : JLed x' m' := by
  unfold JLed
  rw [k.r hR, k'.r hR']
  exact h
theorem JR.TH {x m x' m' : aH} {w : SEA} {t : STD} (h : JR x m w t) (k : TH w.lost x m x' m') : JR x' m' w t := by
  obtain ⟨⟨h1, h2⟩, ⟨h3, h4⟩, h5, h6, h7⟩ := h
  exact ⟨⟨TH.JN h1 k, h2.fr k.1 k.2.1 (by simp) (by simp)⟩, ⟨h3.fr k.1 k.2.1 (by simp) (by simp) (by simp) (by simp), h4.fr k.1 k.2.1 (by simp) (by simp) (by simp) (by simp)⟩, h5.fr k.1 k.2.1 (by simp) (by simp) (by simp) (by simp), h6.fr k.1 k.2.1 (by simp) (by simp) (by simp) (by simp), h7.fr k.1 k.2.1 (by simp) (by simp) (by simp)⟩
theorem JR.rest {x m x' m' : aH} {w w' : SEA} {t t' : STD} {R R' : List Nat} {F F' : List (Nat × Nat)} (h : JR x m w t) (hn : JN x' m' w' t') (hl : w.lost ≤ w'.lost) (k : Fr R F x x') (k' : Fr R' F' m m') (hR : ∀ a, a ∈ R → a < 20) (hR7 : 7 ∉ R ∧ 17 ∉ R) (hF : ∀ q, q ∈ F → q.1 = 1 ∨ q.1 = 15) (hR' : ∀ a, a ∈ R' → a = 74 ∨ (80 ≤ a ∧ a < 89)) (hF' : ∀ q, q ∈ F' → q.2 = 6 ∨ (11 ≤ q.2 ∧ q.2 ≤ 27)) : JR x' m' w' t' := by
  obtain ⟨⟨h1, h2⟩, ⟨h3, h4⟩, h5, h6, h7⟩ := h
  have nR : ∀ a, 20 ≤ a → a ∉ R := fun a ha z => by have := hR a z; omega
  have nF : ∀ q : Nat × Nat, q.1 ≠ 1 → q.1 ≠ 15 → q ∉ F := fun q h1 h2 z => by have := hF q z; omega
  have nR' : ∀ a, a ≠ 74 → (a < 80 ∨ 89 ≤ a) → a ∉ R' := fun a g1 g2 z => by have := hR' a z; omega
  have nF' : ∀ q : Nat × Nat, q.2 ≠ 6 → (q.2 < 11 ∨ 27 < q.2) → q ∉ F' := fun q g1 g2 z => by have := hF' q z; omega
  exact ⟨⟨hn, h2.fr k k' hR7.2 (nR' _ (by decide) (by decide))⟩, ⟨(h3.fr k k' ⟨nR _ (by decide), nR _ (by decide)⟩ (fun q hq => by have := hF q hq; omega) ⟨nR' _ (by decide) (by decide), nR' _ (by decide) (by decide)⟩ ⟨nF' _ (by decide) (by decide), nF' _ (by decide) (by decide)⟩).le hl, (h4.fr k k' ⟨nR _ (by decide), nR _ (by decide), nR _ (by decide), nR _ (by decide)⟩ ⟨nF _ (by decide) (by decide), nF _ (by decide) (by decide)⟩ ⟨nR' _ (by decide) (by decide), nR' _ (by decide) (by decide), nR' _ (by decide) (by decide)⟩ ⟨nF' _ (by decide) (by decide), nF' _ (by decide) (by decide)⟩).le hl⟩, h5.fr k k' hR7.1 (nF _ (by decide) (by decide)) (nR' _ (by decide) (by decide)) (nF' _ (by decide) (by decide)), h6.fr k k' ⟨nR _ (by decide), nR _ (by decide)⟩ ⟨nF _ (by decide) (by decide), nF _ (by decide) (by decide)⟩ ⟨nR' _ (by decide) (by decide), nR' _ (by decide) (by decide)⟩ ⟨nF' _ (by decide) (by decide), nF' _ (by decide) (by decide)⟩, h7.fr k k' (fun q hq => by have := hF q hq; omega) ⟨nR' _ (by decide) (by decide), nR' _ (by decide) (by decide)⟩ (nF' _ (by decide) (by decide))⟩
abbrev PJ : Int32 × aH → Int32 × aH → Prop := fun a b => JJ a.2 b.2 ∧ a.1 = b.1
theorem OK2.th {x m : aH} {w : SEA} {t : STD} {o u : Option (Int32 × aH)} (hJ : JR x m w t) (h : OK2 o u (fun a b => TH w.lost x m a.2 b.2 ∧ a.1 = b.1)) : OK2 o u PJ := by
  obtain ⟨a, b, h1, h2, h3, h4⟩ := h
  exact ⟨a, b, h1, h2, ⟨w, t, hJ.TH h3⟩, h4⟩
theorem OK2.bad {x m : aH} {w : SEA} {t : STD} {o u : Option (Int32 × aH)} {v : Int32} (hJ : JR x m w t) (h1 : o = some (v, x)) (h2 : u = some (v, m)) : OK2 o u PJ := ⟨_, _, h1, h2, ⟨w, t, hJ⟩, rfl⟩
/-! adding a lost one -/
def addW (w : SEA) (pa ow : Nat) : SEA := (w.lost + 1, w.dp, w.df, va_up w.pa w.lost pa, va_up w.ow w.lost ow, w.lamp, w.burns, w.walks, w.lf)
def addS (n : Nat) (t : STD) (c : Nat) : STD := (va_up t.cell n c, va_up t.home n 0, t.oil)
theorem add_x {x m : aH} {w : SEA} {t : STD} {c p o : Nat} (hJ : JR x m w t) (hn : w.lost < 10) (hc : c < 64) (hp : p < 4) (ho : o < 10) : ∃ x' m', fX10_addLost x (nI c) (nI p) (nI o) = some (nI w.lost, x') ∧ fX11_adds m (nI c) (nI p) (nI o) = some m' ∧ JR x' m' (addW w p o) (addS w.lost t c) ∧ Fr [4, 5, 16] [(15, 5)] x x' ∧ Fr [74] [(73, 6)] m m' := by
  obtain ⟨⟨hw, ht⟩, ⟨hs, hv, hh⟩, hms, hmv⟩ := id hJ.1.1
  obtain ⟨w1, w2, w3, w4⟩ := id hw
  have fx : Fr [4, 5, 16] [(15, 5)] x (sfi (sri (sri (sri x 16 w.lost (nI c)) 4 w.lost (nI p)) 5 w.lost (nI o)) 15 5 (nI (w.lost + 1))) := Fr.sfi (Fr.sri (Fr.sri (Fr.sri (Fr.rf _ _ _) (by simp)) (by simp)) (by simp)) (by simp)
  have fm : Fr [74] [(73, 6)] m (sfi (sri (sri (sri m 74 w.lost (nI c)) 74 (10 + w.lost) (nI p)) 74 (20 + w.lost) (nI o)) 73 6 (nI (w.lost + 1))) := Fr.sfi (Fr.sri (Fr.sri (Fr.sri (Fr.rf _ _ _) (by simp)) (by simp)) (by simp)) (by simp)
  have c1 := in10 hn
  refine ⟨_, _, ?_, ?_, ?_, fx, fm⟩
  · unfold fX10_addLost
    rw [hv.1, if_pos c1, if_pos c1, if_pos c1, nI_1, ixN (by omega)]
  · unfold fX11_adds
    simp only [gfr, hms.2.2.2.1]
    have i1 : (0 : Int32) ≤ nI w.lost ∧ nI w.lost < (172 : Int32) := inN (by omega) (by omega)
    have i2 : (0 : Int32) ≤ (10 : Int32) + nI w.lost ∧ (10 : Int32) + nI w.lost < (172 : Int32) := inAdd (by omega) (by omega)
    have i3 : (0 : Int32) ≤ (20 : Int32) + nI w.lost ∧ (20 : Int32) + nI w.lost < (172 : Int32) := inAdd (by omega) (by omega)
    rw [if_pos i1, if_pos i2, if_pos i3, nI_1, ixN (by omega), ixA (by omega), ixA (by omega)]
  · have bs : bsum (va_up t.home w.lost 0) (w.lost + 1) = bsum t.home w.lost := by
      show bsum (va_up t.home w.lost 0) w.lost + va_up t.home w.lost 0 w.lost * 2 ^ w.lost = _
      rw [va_up_self, Nat.zero_mul, Nat.add_zero]
      exact bsum_congr (fun i hi => va_up_ne _ _ (by omega))
    refine JR.rest (w' := addW w p o) (t' := addS w.lost t c) hJ ⟨⟨⟨?_, w2, fun i hi => ?_, w4⟩, fun i hi => ?_, ht.2⟩, ⟨⟨fun q hq => ?_, fun i hi => ?_, ?_, ?_⟩, ⟨?_, fun i hi => ?_, ?_, ?_⟩, fun a ha => ?_⟩, ⟨fun q hq => ?_, fun i hi => ?_, ?_, ?_, ?_⟩, fun i hi => ?_, ?_, fun i hi1 hi2 => ?_⟩ (Nat.le_succ _) fx fm (by simp) (by simp) (by simp) (by simp) (by simp)
    · show w.lost + 1 ≤ 10; omega
    · show va_up w.pa w.lost p i < 4 ∧ va_up w.ow w.lost o i < 10
      by_cases e : i = w.lost
      · subst e; rw [va_up_self, va_up_self]; exact ⟨hp, ho⟩
      · rw [va_up_ne _ _ e, va_up_ne _ _ e]; exact w3 i (by have : i < w.lost + 1 := hi; omega)
    · show va_up t.cell w.lost c i < 64 ∧ va_up t.home w.lost 0 i ≤ 1
      by_cases e : i = w.lost
      · subst e; rw [va_up_self, va_up_self]; exact ⟨hc, by omega⟩
      · rw [va_up_ne _ _ e, va_up_ne _ _ e]; exact ht.1 i (by have : i < w.lost + 1 := hi; omega)
    · show _ = nI (w.dp q) ∧ _ = nI (w.df q)
      simp only [grf, gr]; simpa using hs.1 q hq
    · show _ = nI (va_up w.pa w.lost p i) ∧ _ = nI (va_up w.ow w.lost o i)
      simp only [grf, gr]
      by_cases e : i = w.lost
      · subst e; simp [va_up_self]
      · rw [va_up_ne _ _ e, va_up_ne _ _ e]; simpa [e] using hs.2.1 i hi
    · show _ = nI w.lamp ∧ _ = nI w.burns ∧ _ = nI w.walks
      simp only [gf, gfr]; simpa using hs.2.2.1
    · exact hs.2.2.2.fr fx (by simp) (by simp) (by simp)
    · simp [gf]; rfl
    · show _ = nI (va_up t.cell w.lost c i)
      simp only [grf, gr]
      by_cases e : i = w.lost
      · subst e; simp [va_up_self]
      · rw [va_up_ne _ _ e]; simpa [e] using hv.2.1 i (by have : i < w.lost + 1 := hi; omega)
    · show _ = nI (bsum (va_up t.home w.lost 0) (w.lost + 1))
      rw [bs]; simp [gf, gfr]; exact hv.2.2.1
    · simp [gf, gfr]; exact hv.2.2.2
    · obtain ⟨h, h1, h2⟩ := hh a ha
      refine ⟨h, by simp [gf, gfr]; exact h1, ?_⟩
      show h < 2 ^ (w.lost + 1)
      rw [Nat.pow_succ]; omega
    · show _ = nI (w.dp q) ∧ _ = nI (w.df q)
      simp only [grf, gr]; simpa [show ¬ 40 + q = w.lost by omega, show ¬ 40 + q = 10 + w.lost by omega, show ¬ 40 + q = 20 + w.lost by omega, show ¬ 104 + q = w.lost by omega, show ¬ 104 + q = 10 + w.lost by omega, show ¬ 104 + q = 20 + w.lost by omega] using hms.1 q hq
    · show _ = nI (va_up w.pa w.lost p i) ∧ _ = nI (va_up w.ow w.lost o i)
      simp only [grf, gr]
      by_cases e : i = w.lost
      · subst e
        rw [va_up_self, va_up_self, if_neg (by omega), if_pos (by simp), if_pos (by simp)]
        exact ⟨rfl, rfl⟩
      · rw [va_up_ne _ _ e, va_up_ne _ _ e, if_neg (by omega), if_neg (by omega), if_neg (by omega), if_neg (by omega), if_neg (by omega), if_neg (by omega)]; exact hms.2.1 i hi
    · simp only [grf, gr]
      rw [if_neg (by omega), if_neg (by omega), if_neg (by omega), if_neg (by omega), if_neg (by omega), if_neg (by omega), if_neg (by omega), if_neg (by omega), if_neg (by omega)]
      exact hms.2.2.1
    · simp [gf]; rfl
    · exact hms.2.2.2.2.fr fm (by simp) (by simp)
    · show _ = nI (va_up t.cell w.lost c i) ∧ _ = nI (va_up t.home w.lost 0 i)
      simp only [grf, gr]
      by_cases e : i = w.lost
      · subst e
        rw [va_up_self, va_up_self, if_neg (by omega), if_neg (by omega), if_pos (by simp), if_neg (by omega), if_neg (by omega), if_neg (by omega)]
        exact ⟨rfl, hmv.2.2 _ (Nat.le_refl _) hn⟩
      · have hi' : i < w.lost := by have : i < w.lost + 1 := hi; omega
        rw [va_up_ne _ _ e, va_up_ne _ _ e, if_neg (by omega), if_neg (by omega), if_neg (by omega), if_neg (by omega), if_neg (by omega), if_neg (by omega)]; exact hmv.1 i hi'
    · simp only [grf, gr]
      rw [if_neg (by omega), if_neg (by omega), if_neg (by omega)]
      exact hmv.2.1
    · simp only [grf, gr]
      rw [if_neg (by omega), if_neg (by omega), if_neg (by omega)]
      exact hmv.2.2 i (by have : w.lost + 1 ≤ i := hi1; omega) hi2
