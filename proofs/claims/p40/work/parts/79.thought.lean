/-! ===== calls in thought: what both sides share; later, home, since, draws ===== -/
def OK2 {α β : Type} (o : Option α) (u : Option β) (P : α → β → Prop) : Prop := ∃ qx qm, o = some qx ∧ u = some qm ∧ P qx qm
theorem OK2.mk {α β : Type} {o : Option α} {u : Option β} {A : α → Prop} {B : β → Prop} {P : α → β → Prop} (h : OK o A) (k : OK u B) (hp : ∀ a b, A a → B b → P a b) : OK2 o u P := by
  obtain ⟨a, h1, h2⟩ := h
  obtain ⟨b, k1, k2⟩ := k
  exact ⟨a, b, h1, k1, hp a b h2 k2⟩
theorem OK2.eq {α β : Type} {o : Option α} {u : Option β} {a : α} {b : β} {P : α → β → Prop} (h : o = some a) (k : u = some b) (hp : P a b) : OK2 o u P := ⟨a, b, h, k, hp⟩
abbrev XSr : List Nat := [13, 14, 25, 26, 28, 29, 30, 32, 33, 34, 36, 37, 38, 40, 41, 42, 44, 45, 46, 49, 50, 51]
abbrev XSf : List (Nat × Nat) := [(27, 5), (27, 6), (27, 7), (31, 5), (31, 6), (31, 7), (35, 5), (35, 6), (35, 7), (39, 5), (39, 6), (39, 7), (43, 5), (43, 6), (43, 7), (23, 2), (23, 3), (23, 4), (23, 5), (48, 2), (48, 3)]
abbrev MSr : List Nat := [80, 81, 82, 83, 84, 85, 86, 87, 88]
abbrev MSf : List (Nat × Nat) := [(73, 11), (73, 12), (73, 13), (73, 14), (73, 15), (73, 19), (73, 20), (73, 21), (73, 22), (73, 26), (73, 27)]
def TH (n : Nat) (x m x' m' : aH) : Prop := Fr XSr XSf x x' ∧ Fr MSr MSf m m' ∧ scrH x' n
def JN (x m : aH) (w : SEA) (t : STD) : Prop := (SOK w ∧ TOK w t) ∧ (vSea x w ∧ vStd x 15 w.lost t ∧ scrH x w.lost) ∧ (mSea m w ∧ mStd m w.lost t)
theorem TH.rf {x m : aH} {w : SEA} {t : STD} (h : JN x m w t) : TH w.lost x m x m := ⟨Fr.rf _ _ _, Fr.rf _ _ _, h.2.1.2.2⟩
theorem TH.x {n : Nat} {x m x' : aH} (h : Fr XSr XSf x x') (k : scrH x' n) : TH n x m x' m := ⟨h, Fr.rf _ _ _, k⟩
theorem scrH.fr {x y : aH} {n : Nat} {R : List Nat} {F : List (Nat × Nat)} (h : scrH x n) (k : Fr R F x y) (hF : ∀ a, SD a → (a, 6) ∉ F) : scrH y n := fun a ha => by
  rw [k.f (hF a ha)]
  exact h a ha
theorem scrH.at {x y : aH} {n b : Nat} {R : List Nat} {F : List (Nat × Nat)} (h : scrH x n) (k : Fr R F x y) (hb : ∃ v, fi y b 6 = nI v ∧ v < 2 ^ n) (hF : ∀ a, a ≠ b → SD a → (a, 6) ∉ F) : scrH y n := fun a ha => by
  by_cases e : a = b
  · subst e; exact hb
  · rw [k.f (hF a e ha)]
    exact h a ha
theorem TH.JN {x m x' m' : aH} {w : SEA} {t : STD} (h : JN x m w t) (k : TH w.lost x m x' m') : JN x' m' w t := by
  obtain ⟨h1, ⟨h2, h3, h4⟩, h5, h6⟩ := h
  exact ⟨h1, ⟨h2.fr k.1 (by simp <;> omega) (by simp <;> omega), h3.fr k.1 (by simp) (by simp) (by simp) (by simp), k.2.2⟩, h5.fr k.2.1 (by simp) (by simp) (by simp) (by simp), h6.fr k.2.1 (by simp)⟩
theorem behP.TH {x y : aH} {w : SEA} {u : STD} (h : behP x w u y) (hw : SOK w) (hu : TOK w u) (hh : scrH x w.lost) : Fr XSr XSf x y ∧ scrH y w.lost :=
  ⟨h.2.w (by simp <;> omega) (by simp <;> omega), hh.at h.2 ⟨_, h.1.2.2.1, bsum_lt (fun i hi => (hu.1 i hi).2)⟩ (fun a ha _ => by simp <;> omega)⟩
/-! who is lost, ways, counts -/
theorem isLost2 {x m : aH} {w : SEA} {t : STD} (hJ : JN x m w t) (p : Int32) : (∃ i, i < w.lost ∧ p = nI i ∧ fX10_isLost x p = some 1 ∧ fX11_isLost m p.toInt64 = some 1) ∨ (¬ (0 ≤ p ∧ p < nI w.lost) ∧ fX10_isLost x p = some 0 ∧ fX11_isLost m p.toInt64 = some 0) := by
  have hn := hJ.1.1.1
  have ex : fX10_isLost x p = some (bI (0 ≤ p ∧ p < nI w.lost)) := by
    unfold fX10_isLost
    rw [hJ.2.1.2.1.1]
    by_cases h1 : p < 0
    · rw [if_pos h1, bI_f (by grind)]
    · rw [if_neg h1]
      by_cases h2 : nI w.lost ≤ p
      · rw [if_pos h2, bI_f (by grind)]
      · rw [if_neg h2, bI_t (by grind)]
  have em : fX11_isLost m p.toInt64 = some (bI (0 ≤ p ∧ p < nI w.lost)) := by
    unfold fX11_isLost
    rw [hJ.2.2.1.2.2.2.1, show fX11_within p.toInt64 (0 : Int64) (nI w.lost - 1).toInt64 = _ from within_i p 0 (nI w.lost - 1)]
    have h0 := le0 (n := w.lost) (by omega)
    have h10 : nI w.lost ≤ (10 : Int32) := (leR (by omega) (by omega)).mpr (by omega)
    simp only [Option.bind_some]
    by_cases h : 0 ≤ p ∧ p < nI w.lost
    · rw [bI_t h, bI_t (by grind), if_pos (Or.inr rfl)]
    · rw [bI_f h, bI_f (by grind), if_pos (Or.inl rfl)]
  rw [ex, em]
  rcases argIn p w.lost (by omega) with ⟨i, hi, rfl⟩ | h
  · left
    have c : (0 : Int32) ≤ nI i ∧ nI i < nI w.lost := ⟨le0 (by omega), (ltN (by omega) (by omega)).mpr hi⟩
    exact ⟨i, hi, rfl, by rw [bI_t c], by rw [bI_t c]⟩
  · right
    exact ⟨h, by rw [bI_f h], by rw [bI_f h]⟩
theorem goesNights_m {x m : aH} {w : SEA} {t : STD} {d n c p : Nat} {f : Nat → Nat} (hJ : JN x m w t) (hd : d < 6) (h : shR x m d 0 n) (hN : nightsAt m d n c f) (hp : p ≤ 40) {y0 : aH} (hy0 : Fr [80, 81, 82, 83] GF2 m y0) : OK (fX11_goesNights y0 (nI d) (nI p)) (fun q => mScr q w.lost (runF w t f (if p < c then p else c)) ∧ Fr [80, 81, 82, 83] GF2 m q) := by
  obtain ⟨⟨hw, ht⟩, -, hs, hv⟩ := hJ
  have hc40 := hN.1.1
  have hn := h.1.2
  have hs0 : mSea y0 w := hs.fr hy0 (by simp) (by simp) (by simp) (by simp)
  unfold fX11_goesNights
  refine OK.bind (begins_m hw.1 hs0.2.2.2.1 (hv.fr hy0 (by simp))) (fun z hz => ?_)
  obtain ⟨z1, z2⟩ := hz
  have z3 : Fr [80, 81, 82, 83] GF2 m z := hy0.tr (z2.w (by simp <;> omega) (by simp <;> omega))
  refine OK.r (nightMany_m hd h hN (z3.r (by simp)) z3.j) ?_
  refine OK.bind (P := fun q => mScr q w.lost (runF w t f (if p < c then p else c)) ∧ Fr [80, 81, 82, 83] GF2 m q) ?_ (fun q hq => OK.ret hq)
  refine LOOPUP (fun n (st : aH) l => wX11_goesNights_13 (nI d) (nI p) (nI c) n st l) (fun ih st l => sX11_goesNights_13 (nI d) (nI p) (nI c) ih st l) (fun n => rfl) (fun i y => mScr y w.lost (runF w t f i) ∧ Fr [80, 81, 82, 83] GF2 m y) _ (if p < c then p else c) ?_ ?_ 2000 0 z (by split <;> omega) (by omega) ⟨z1, z3⟩
  · intro i y hi hI ih hk
    have hic : i < c ∧ i < p := by split at hi <;> omega
    have := hN.1.2
    unfold sX11_goesNights_13
    refine OK.f (by rw [leN (by omega) (by omega)]; omega) (OK.f (by rw [leN (by omega) (by omega)]; omega) ?_)
    rw [mulL, addN]
    refine OK.t (inN (by omega) (by omega)) ?_
    rw [ixN (by omega), hI.2.j, (hN.2.1 i hic.1).2, ti_tl]
    refine OK.bind (goes_m hw (runF_ok hw ht i) (hs.fr hI.2 (by simp) (by simp) (by simp) (by simp)) hI.1 (hN.2.1 i hic.1).1) (fun q hq => ?_)
    rw [nI_1]
    exact hk _ ⟨hq.1, hI.2.tr hq.2.1⟩
  · intro y hI ih
    unfold sX11_goesNights_13
    by_cases hpc : p < c
    · rw [if_pos hpc] at hI ⊢
      exact OK.t (by rw [leN (by omega) (by omega)]; omega) (OK.ret hI)
    · rw [if_neg hpc] at hI ⊢
      by_cases hpc2 : p = c
      · exact OK.t (by rw [leN (by omega) (by omega)]; omega) (OK.ret hI)
      · exact OK.f (by rw [leN (by omega) (by omega)]; omega) (OK.t (by rw [leN (by omega) (by omega)]; omega) (OK.ret hI))
