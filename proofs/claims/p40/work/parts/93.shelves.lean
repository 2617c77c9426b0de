/-! ===== shelves: keep, row, put, element, shift, taken ===== -/
theorem JR.shelf {x m x' m' : aH} {w : SEA} {t : STD} {d : Nat} (h : JR x m w t) (hxr : ∀ a, ri x' a = ri x a) (hxf : ∀ a k, a ≠ 61 + 2 * d → fi x' a k = fi x a k) (hmr : ∀ a, a ≠ 94 → a ≠ 95 → ri m' a = ri m a) (hmf : ∀ k, fi m' 73 k = fi m 73 k) (hS : JS x' m') : JR x' m' w t := by
  obtain ⟨⟨⟨h1, ⟨⟨s1, s2, s3, s4⟩, ⟨v1, v2, v3, v4⟩, h4⟩, ⟨g1, g2, g3, g4, g5⟩, h6⟩, hL⟩, ⟨hI, hC⟩, hT, hA, -⟩ := h
  have e1 : ∀ k, fi x' 1 k = fi x 1 k := fun k => hxf 1 k (by omega)
  have e10 : ∀ k, fi x' 10 k = fi x 10 k := fun k => hxf 10 k (by omega)
  have e15 : ∀ k, fi x' 15 k = fi x 15 k := fun k => hxf 15 k (by omega)
  have e74 : ri m' 74 = ri m 74 := hmr _ (by decide) (by decide)
  have e79 : ri m' 79 = ri m 79 := hmr _ (by decide) (by decide)
  refine ⟨⟨⟨h1, ⟨⟨?_, ?_, ?_, ?_⟩, ⟨?_, ?_, ?_, ?_⟩, ?_⟩, ⟨?_, ?_, ?_, ?_, ?_⟩, ?_⟩, ?_⟩, ⟨?_, ?_⟩, ?_, ?_, hS⟩
  · simp only [hxr]; exact s1
  · simp only [hxr]; exact s2
  · rw [e1, e1, e1]; exact s3
  · exact ⟨s4.1, fun y y1 y2 y3 => s4.2 y (y1.trans (hxr _)) (y2.trans (hxr _)) (y3.trans (e10 _))⟩
  · rw [e15]; exact v1
  · simp only [hxr]; exact v2
  · rw [e15]; exact v3
  · rw [e15]; exact v4
  · intro a ha
    rw [hxf a 6 (by have := ha.lt; omega)]
    exact h4 a ha
  · rw [e74]; exact g1
  · rw [e74]; exact g2
  · rw [e74]; exact g3
  · rw [hmf]; exact g4
  · refine ⟨g5.1, ?_⟩
    rw [hmf]
    rcases g5.2 with q | ⟨q1, q2⟩
    · exact Or.inl q
    · exact Or.inr ⟨q1, fun y y1 y2 => q2 y (y1.trans e79) y2⟩
  · unfold mStd; rw [e74]; exact h6
  · unfold JLed; rw [hxr, hmr _ (by decide) (by decide)]; exact hL
  · obtain ⟨i1, i2⟩ := hI
    refine ⟨by rw [hxf _ _ (by omega), hmf]; exact i1, ?_⟩
    rcases i2 with i2 | ⟨q, ti, q1, ⟨r1, r2, r3, r4⟩, q3, q4, q5, q6, q7, q8⟩
    · left; rw [hxf _ _ (by omega)]; exact i2
    · right
      refine ⟨q, ti, q1, ⟨by rw [hxf _ _ (by omega)]; exact r1, by simp only [hxr]; exact r2, by rw [hxf _ _ (by omega)]; exact r3, by rw [hxf _ _ (by omega)]; exact r4⟩, q3, q4, by rw [hmf]; exact q5, ?_, ?_, ?_⟩
      · rw [hmr 90 (by decide) (by decide)]; exact q6
      · rw [hmr 90 (by decide) (by decide)]; exact q7
      · rw [hxr, hmr 91 (by decide) (by decide)]; exact q8
  · unfold JC
    simp only [hxr]
    rw [hxf 52 4 (by omega), hxf 52 5 (by omega), hmf, hmf, hmr 75 (by decide) (by decide), hmr 76 (by decide) (by decide), hmr 77 (by decide) (by decide)]
    exact hC
  · unfold JT
    simp only [hxr]
    rw [hxf 6 1 (by omega), hmf, hmr 78 (by decide) (by decide)]
    exact hT
  · unfold JA
    simp only [hxr]
    rw [hxf 57 1 (by omega), hxf 57 3 (by omega), hmf, hmf, hmr 92 (by decide) (by decide), hmr 93 (by decide) (by decide)]
    exact hA
theorem JS.one {x m x' m' : aH} {d : Nat} (h : JS x m) (hxf : ∀ a k, a ≠ 61 + 2 * d → fi x' a k = fi x a k) (hmf : fi m' 73 36 = fi m 73 36) (h9 : ∀ e, e ≠ d → ri m' 94 e = ri m 94 e ∧ ri m' 95 e = ri m 95 e) (hxj : ∀ e, e ≠ d → rj x' (61 + 2 * e + 1) = rj x (61 + 2 * e + 1)) (hmj : ∀ e k, e ≠ d → k < 60 → rj m' 96 (60 * e + k) = rj m 96 (60 * e + k)) (hd : shE x' m' d ∨ ∃ s n, shR x' m' d s n) : JS x' m' := by
  intro e he
  by_cases hed : e = d
  · subst hed; exact hd
  · have ef : ∀ k, fi x' (61 + 2 * e) k = fi x (61 + 2 * e) k := fun k => hxf _ _ (by omega)
    rcases h e he with ⟨s1, s2⟩ | ⟨s, n, ⟨r1, r2, r3, r4⟩⟩
    · left
      unfold shE
      rw [ef, ef, ef, (h9 e hed).1, (h9 e hed).2, hmf]
      exact ⟨s1, s2⟩
    · right
      refine ⟨s, n, r1, ?_, ?_, fun k hk => ?_⟩
      · rw [ef, ef, ef]; exact r2
      · rw [(h9 e hed).1, (h9 e hed).2]; exact r3
      · rw [hxj e hed, hmj e k hed (by omega)]; exact r4 k hk
theorem op_keep {x m : aH} (hJ : JJ x m) (p1 p2 : Int32) : OK2 (fX10_keep x p1 p2) (fX11_keep m p1 p2) PJ := by
  obtain ⟨w, t, hR⟩ := hJ
  obtain ⟨b, r, ⟨b1, b2, b3, b4⟩, -⟩ := id hR.2.2.2.1
  rcases argIn p1 6 (by omega) with ⟨d, hd, rfl⟩ | hp
  · have cd : (0 : Int32) ≤ nI d ∧ nI d < (6 : Int32) := inN (by omega) hd
    have go : ∀ (p : Int32), (p = -1 ∨ ∃ i, i < b ∧ p = nI i) → OK2 (jX10_keep_26 x (nI d) p) (jX11_keep_22 m (nI d) p) PJ := by
      intro p hpp
      unfold jX10_keep_26 jX11_keep_22 fX7_holdBody
      rw [if_pos cd, if_pos cd, if_pos cd, ixN (by omega)]
      simp only [Option.bind_some]
      refine OK2.eq rfl rfl ⟨⟨w, t, hR.shelf (d := d) (fun a => rfl) (fun a k ha => ?_) (fun a h4 h5 => ?_) (fun k => rfl) (hR.2.2.2.2.one (d := d) (fun a k ha => ?_) rfl (fun e he => ?_) (fun e he => rfl) (fun e k he hk => rfl) (Or.inl ⟨⟨?_, ?_, ?_⟩, ?_⟩))⟩, rfl⟩
      · simp [gf, ha]
      · simp only [ri_sri_ne h5, ri_sri_ne h4]
      · simp [gf, ha]
      · simp [gr, he]
      · simp [gf]
      · simp [gf]
      · simp [gr]
      · simp [gf, gr]
        rcases hpp with rfl | ⟨i, hi, rfl⟩
        · exact Or.inl rfl
        · right
          refine ⟨i, by omega, ?_, rfl⟩
          rw [gfr, gfr, b3]
          exact (ltN (by omega) (by omega)).mpr hi
    by_cases h1 : p2 = -1
    · have ex : fX10_keep x (nI d) p2 = jX10_keep_26 x (nI d) p2 := by simp [fX10_keep, isShelf_in hd, h1]
      have em : fX11_keep m (nI d) p2 = jX11_keep_22 m (nI d) p2 := by simp [fX11_keep, isShelf_inM hd, h1]
      rw [ex, em]
      exact go p2 (Or.inl h1)
    · rcases isBody2 b1 b2 b3 p2 with ⟨i, hi, rfl, e1, e2⟩ | ⟨-, e1, e2⟩
      · have ex : fX10_keep x (nI d) (nI i) = jX10_keep_26 x (nI d) (nI i) := by simp [fX10_keep, isShelf_in hd, h1, e1]
        have em : fX11_keep m (nI d) (nI i) = jX11_keep_22 m (nI d) (nI i) := by simp [fX11_keep, isShelf_inM hd, h1, e2]
        rw [ex, em]
        exact go (nI i) (Or.inr ⟨i, hi, rfl⟩)
      · refine OK2.bad (v := -1) hR ?_ ?_
        · simp [fX10_keep, isShelf_in hd, h1, e1]
        · simp [fX11_keep, isShelf_inM hd, h1, e2]
  · have hp6 : ¬ (0 ≤ p1 ∧ p1 < 6) := hp
    refine OK2.bad (v := -1) hR ?_ ?_
    · simp [fX10_keep, isShelf_out hp6]
    · simp [fX11_keep, isShelf_outM hp6]
/-! a row laid -/
def zP (a : Nat) (x : aH) (lo hi : Nat) (y : aH) : Prop := (∀ b, ri y b = ri x b) ∧ (∀ b k, fi y b k = fi x b k) ∧ ∀ b k, rj y b k = if b = a ∧ lo ≤ k ∧ k < hi then 0 else rj x b k
theorem zP.up {a : Nat} {x y : aH} {lo hi : Nat} (h : zP a x lo hi y) (hl : lo ≤ hi) : zP a x lo (hi + 1) (srj y a hi 0) := by
  obtain ⟨h1, h2, h3⟩ := h
  refine ⟨fun b => by rw [← h1 b]; rfl, fun b k => by rw [← h2 b k]; rfl, fun b k => ?_⟩
  rw [gjj, h3]
  by_cases e : b = a ∧ k = hi
  · rw [if_pos e, if_pos ⟨e.1, by omega, by omega⟩]
  · rw [if_neg e]
    by_cases e2 : b = a ∧ lo ≤ k ∧ k < hi
    · rw [if_pos e2, if_pos ⟨e2.1, e2.2.1, by omega⟩]
    · rw [if_neg e2, if_neg (fun z => e2 ⟨z.1, z.2.1, by have := z.1; have := z.2.2; by_cases q : k = hi; exact absurd ⟨z.1, q⟩ e; omega⟩)]
theorem zP.rf (a : Nat) (x : aH) (lo : Nat) : zP a x lo lo x := ⟨fun _ => rfl, fun _ _ => rfl, fun b k => by rw [if_neg (by omega)]⟩
theorem zero_x {x : aH} {a n : Nat} (hn : n ≤ 60) : OK (wX7_holdRow_17 a (nI n) 2000 x 0) (zP (a + 1) x 0 n) := by
  refine LOOPUP (fun n' (st : aH) l => wX7_holdRow_17 a (nI n) n' st l) (fun ih st l => sX7_holdRow_17 a (nI n) ih st l) (fun n => rfl) (fun i y => zP (a + 1) x 0 i y) _ n ?_ ?_ 2000 0 x (by omega) (by omega) (zP.rf _ _ _)
  · intro i y hi hI ih hk
    have c : (0 : Int32) ≤ nI i ∧ nI i < (60 : Int32) := inN (by omega) (by omega)
    unfold sX7_holdRow_17
    refine OK.f (by rw [leN (by omega) (by omega)]; omega) (OK.t c ?_)
    rw [nI_1, ixN (by omega)]
    exact hk _ (hI.up (by omega))
  · intro y hI ih
    unfold sX7_holdRow_17
    exact OK.t (by rw [leN (by omega) (by omega)]; exact Nat.le_refl _) (OK.ret hI)
theorem zero_m {m : aH} {d : Nat} (hd : d < 6) : OK (wX11_row_57 (nI d) 2000 m (nI (60 * d))) (zP 96 m (60 * d) (60 * d + 60)) := by
  refine LOOPUP (fun n' (st : aH) l => wX11_row_57 (nI d) n' st l) (fun ih st l => sX11_row_57 (nI d) ih st l) (fun n => rfl) (fun i y => 60 * d ≤ i ∧ zP 96 m (60 * d) i y) _ (60 * d + 60) ?_ ?_ 2000 (60 * d) m (by omega) (by omega) ⟨Nat.le_refl _, zP.rf _ _ _⟩
  · intro i y hi hI ih hk
    have c : (0 : Int32) ≤ nI i ∧ nI i < (360 : Int32) := inN (by omega) (by omega)
    unfold sX11_row_57
    refine OK.f (by rw [mulL, addR, leN (by omega) (by omega)]; omega) (OK.t c ?_)
    rw [nI_1, ixN (by omega)]
    exact hk _ ⟨by omega, hI.2.up hI.1⟩
  · intro y hI ih
    unfold sX11_row_57
    exact OK.t (by rw [mulL, addR, leN (by omega) (by omega)]; omega) (OK.ret hI.2)
theorem op_row {x m : aH} (hJ : JJ x m) (p1 p2 p3 : Int32) : OK2 (fX10_row x p1 p2 p3) (fX11_row m p1 p2 p3) PJ := by
  obtain ⟨w, t, hR⟩ := hJ
  rcases argIn p1 6 (by omega) with ⟨d, hd, rfl⟩ | hp
  · have cd : (0 : Int32) ≤ nI d ∧ nI d < (6 : Int32) := inN (by omega) hd
    by_cases h2 : 0 ≤ p2 ∧ p2 ≤ 4
    · have a1 := Int32.not_lt.mpr h2.1
      have a2 := Int32.not_lt.mpr h2.2
      by_cases h60 : p3 ≤ 60
      · by_cases h0 : 0 ≤ p3
        · obtain ⟨s, hs, rfl⟩ := le_arg (N := 4) (by omega) rfl h2
          obtain ⟨n, hn, rfl⟩ := le_arg (N := 60) (by omega) rfl ⟨h0, h60⟩
          have ed : ix (nI d) = d := ixN (by omega)
          have ex : OK (fX10_row x (nI d) (nI s) (nI n)) (fun q => q.1 = 1 ∧ zP (61 + 2 * d + 1) (sfi (sfi (sfi x (61 + 2 * d) 3 (-1)) (61 + 2 * d) 1 (nI s)) (61 + 2 * d) 2 (nI n)) 0 n q.2) := by
            unfold fX10_row
            refine OK.r (isShelf_in hd) (OK.f n10 (OK.f a1 (OK.f a2 (OK.t h60 (OK.t h0 (OK.t cd ?_))))))
            rw [ed]
            unfold fX7_holdRow
            exact OK.bind (OK.bind (zero_x hn) (fun q hq => OK.ret hq)) (fun q hq => OK.ret ⟨rfl, hq⟩)
          have em : OK (fX11_row m (nI d) (nI s) (nI n)) (fun q => q.1 = 1 ∧ zP 96 (sri (sri m 94 d (nI (50 + s))) 95 d (nI n)) (60 * d) (60 * d + 60) q.2) := by
            unfold fX11_row
            refine OK.r (isShelf_inM hd) (OK.f n10 (OK.r ((w4 _).trans (by rw [bI_t h2])) (OK.f n10 (OK.t h60 (OK.t h0 (OK.t cd (OK.t cd ?_)))))))
            rw [ed, addL, mulL]
            exact OK.bind (zero_m hd) (fun q hq => OK.ret ⟨rfl, hq⟩)
          refine OK2.mk ex em (fun a b ha hb => ?_)
          obtain ⟨a1, a2, a3, a4⟩ := ha
          obtain ⟨c1, c2, c3, c4⟩ := hb
          have hxf : ∀ q k, q ≠ 61 + 2 * d → fi a.2 q k = fi x q k := fun q k hq => by rw [a3]; simp [gf, hq]
          refine ⟨⟨w, t, hR.shelf (d := d) (fun q => a2 q) hxf (fun q h4 h5 => ?_) (fun k => by rw [c3]; rfl) (hR.2.2.2.2.one (d := d) hxf (by rw [c3]; rfl) (fun e he => ?_) (fun e he => ?_) (fun e k he hk => ?_) (Or.inr ⟨s, n, ⟨hs, hn⟩, ⟨?_, ?_, ?_⟩, ⟨?_, ?_⟩, fun k hk => ?_⟩))⟩, by rw [a1, c1]⟩
          · rw [c2, ri_sri_ne h5, ri_sri_ne h4]
          · rw [c2, c2]; simp [gr, he]
          · funext k
            rw [a4, if_neg (by omega)]
            rfl
          · rw [c4, if_neg (by omega)]
            rfl
          · rw [a3]; simp [gf]
          · rw [a3]; simp [gf]
          · rw [a3]; simp [gf]
          · rw [c2]; simp [gr]
          · rw [c2]; simp [gr]
          · rw [a4, c4, if_pos ⟨rfl, by omega, hk⟩, if_pos ⟨rfl, by omega, by omega⟩]
            exact ⟨rfl, fun _ => ⟨0, rfl⟩⟩
        · refine OK2.bad (v := -14) hR ?_ ?_
          · simp [fX10_row, isShelf_in hd, a1, a2, h60, h0]
          · simp [fX11_row, isShelf_inM hd, w4, bI_t h2, h60, h0]
      · refine OK2.bad (v := -1) hR ?_ ?_
        · simp [fX10_row, isShelf_in hd, a1, a2, h60]
        · simp [fX11_row, isShelf_inM hd, w4, bI_t h2, h60]
    · refine OK2.bad (v := -1) hR ?_ ?_
      · by_cases e : p2 < 0
        · simp [fX10_row, isShelf_in hd, e]
        · have e2 : (4 : Int32) < p2 := by grind
          simp [fX10_row, isShelf_in hd, e, e2]
      · simp [fX11_row, isShelf_inM hd, w4, bI_f h2]
  · have hp6 : ¬ (0 ≤ p1 ∧ p1 < 6) := hp
    refine OK2.bad (v := -1) hR ?_ ?_
    · simp [fX10_row, isShelf_out hp6]
    · simp [fX11_row, isShelf_outM hp6]
/-! places -/
theorem place2 {x m : aH} (hS : JS x m) (p1 p2 : Int32) : (∃ v : Int32, v ≠ 0 ∧ fX10_refusalOfPlace x p1 p2 = some v ∧ fX11_refusal m p1 p2 = some v) ∨ (∃ d s n i, d < 6 ∧ shR x m d s n ∧ i < n ∧ p1 = nI d ∧ p2 = nI i ∧ fX10_refusalOfPlace x p1 p2 = some 0 ∧ fX11_refusal m p1 p2 = some 0) := by
  rcases argIn p1 6 (by omega) with ⟨d, hd, rfl⟩ | hp
  · have cd : (0 : Int32) ≤ nI d ∧ nI d < (6 : Int32) := inN (by omega) hd
    have ed : ix (nI d) = d := ixN (by omega)
    unfold fX10_refusalOfPlace fX11_refusal
    rw [isShelf_in hd, isShelf_inM hd]
    simp only [Option.bind_some, ed, if_pos cd, if_neg n10]
    unfold fX7_isEmpty fX7_isRow
    rcases hS d hd with ⟨⟨s1, s2, s5⟩, h⟩ | ⟨s, n, h⟩
    · left
      rw [s1]
      rcases h with ⟨s3, s4⟩ | ⟨b, hb, hb2, s3, s4⟩
      · rw [s3, s4]
        exact ⟨-11, by decide, rfl, rfl⟩
      · rw [s3, s4, if_pos rfl, if_neg (m1_ne (by omega)), if_pos (le0 (by omega))]
        simp only [Option.bind_some]
        refine ⟨-12, by decide, rfl, ?_⟩
        rw [if_neg (by rw [leL (by omega) (by omega)]; omega)]
    · obtain ⟨⟨hs4, hn⟩, ⟨s1, s2, s3⟩, ⟨s4, s5⟩, s6⟩ := id h
      rw [s1, s4, s5, if_neg (m1_ne (by omega)), if_pos (le0 (by omega))]
      simp only [Option.bind_some]
      rw [if_pos trivial, if_neg (m1_ne (by omega))]
      simp only [Option.bind_some]
      rw [if_neg n10, if_pos (by rw [leL (by omega) (by omega)]; omega)]
      unfold fX7_hasPlaces
      rw [s2]
      by_cases h0 : p2 < 0
      · left
        rw [if_pos h0, if_pos h0]
        exact ⟨-13, by decide, rfl, rfl⟩
      · rw [if_neg h0, if_neg h0, if_neg (show ¬ (1 : Int32) < 0 by decide)]
        obtain ⟨i, hi, rfl⟩ : ∃ i, i < 2147483648 ∧ p2 = nI i := by
          rcases i_cases p2 with q | ⟨i, q1, q2⟩
          · exact absurd q h0
          · exact ⟨i, q1, q2⟩
        by_cases hin : i < n
        · right
          refine ⟨d, s, n, i, hd, h, hin, rfl, rfl, ?_, ?_⟩
          · rw [if_neg (by rw [ltR (by omega) (by omega)]; omega), subR (by omega), if_neg (by rw [ltN (by omega) (by omega)]; omega)]
            rfl
          · rw [if_neg (by rw [leN (by omega) (by omega)]; omega)]
        · left
          refine ⟨-13, by decide, ?_, ?_⟩
          · by_cases hn1 : n < 1
            · rw [if_pos (by rw [ltR (by omega) (by omega)]; exact hn1)]
              rfl
            · rw [if_neg (by rw [ltR (by omega) (by omega)]; exact hn1), subR (by omega), if_pos (by rw [ltN (by omega) (by omega)]; omega)]
              rfl
          · rw [if_pos (by rw [leN (by omega) (by omega)]; omega)]
  · left
    have hp6 : ¬ (0 ≤ p1 ∧ p1 < 6) := hp
    refine ⟨-1, by decide, ?_, ?_⟩
    · unfold fX10_refusalOfPlace; rw [isShelf_out hp6]; rfl
    · unfold fX11_refusal; rw [isShelf_outM hp6]; rfl
theorem op_element {x m : aH} (hJ : JJ x m) (p1 p2 : Int32) : OK2 (fX10_element x p1 p2) (fX11_element m p1 p2) (fun a b => a = b) := by
  obtain ⟨w, t, hR⟩ := hJ
  unfold fX10_element fX11_element
  rcases place2 hR.2.2.2.2 p1 p2 with ⟨v, h0, h1, h2⟩ | ⟨d, s, n, i, hd, h, hin, rfl, rfl, h1, h2⟩
  · rw [h1, h2]
    simp only [Option.bind_some]
    rw [if_neg h0, if_neg h0]
    exact OK2.eq rfl rfl rfl
  · have hn := h.1.2
    have cd : (0 : Int32) ≤ nI d ∧ nI d < (6 : Int32) := inN (by omega) hd
    have ci : (0 : Int32) ≤ nI i ∧ nI i < (60 : Int32) := inN (by omega) (by omega)
    have ck : (0 : Int32) ≤ nI (60 * d + i) ∧ nI (60 * d + i) < (360 : Int32) := inN (by omega) (by omega)
    rw [h1, h2]
    simp only [Option.bind_some]
    rw [if_pos trivial, if_pos trivial, if_pos cd, if_pos ci, mulL, addN, if_pos ck, ixN (show d < 2147483648 by omega), ixN (show i < 2147483648 by omega), ixN (by omega)]
    exact OK2.eq rfl rfl (h.2.2.2 i hin).1
def lowB (s : Nat) (v : Int64) : Int64 := if s = 0 then Int32.toInt64 (Int8.toInt32 (Int32.toInt8 (Int64.toInt32 v))) else if s = 1 then Int32.toInt64 (Int16.toInt32 (Int32.toInt16 (Int64.toInt32 v))) else if s = 2 then Int32.toInt64 (Int64.toInt32 v) else if s = 3 then v else if lg_cmp v 0 = 0 then 0 else 1
theorem lowB_x {x : aH} {a s : Nat} (h : fi x a 1 = nI s) (hs : s ≤ 4) (v : Int64) : fX7_lowestBits x a v = some (lowB s v) := by
  unfold fX7_lowestBits lowB
  rw [h]
  rcases (show s = 0 ∨ s = 1 ∨ s = 2 ∨ s = 3 ∨ s = 4 by omega) with rfl | rfl | rfl | rfl | rfl
  · rw [if_pos (by decide)]; rfl
  · rw [if_neg (by decide), if_pos (by decide)]; rfl
  · rw [if_neg (by decide), if_neg (by decide), if_pos (by decide)]; rfl
  · rw [if_neg (by decide), if_neg (by decide), if_neg (by decide), if_pos (by decide)]; rfl
  · rw [if_neg (by decide), if_neg (by decide), if_neg (by decide), if_neg (by decide)]
    show (if lg_cmp v 0 = 0 then some 0 else some 1) = some (if lg_cmp v 0 = 0 then 0 else 1)
    split <;> rfl
theorem lowB_m {s : Nat} (hs : s ≤ 4) (v : Int64) : fX11_asSort (nI s) v = some (lowB s v) := by
  unfold fX11_asSort lowB
  rcases (show s = 0 ∨ s = 1 ∨ s = 2 ∨ s = 3 ∨ s = 4 by omega) with rfl | rfl | rfl | rfl | rfl
  · rw [if_pos (by decide)]; rfl
  · rw [if_neg (by decide), if_pos (by decide)]; rfl
  · rw [if_neg (by decide), if_neg (by decide), if_pos (by decide)]; rfl
  · rw [if_neg (by decide), if_neg (by decide), if_neg (by decide), if_neg (by decide)]; rfl
  · rw [if_neg (by decide), if_neg (by decide), if_neg (by decide), if_pos (by decide)]
    show (if lg_cmp v 0 = 0 then some 0 else some 1) = some (if lg_cmp v 0 = 0 then 0 else 1)
    split <;> rfl
theorem op_put {x m : aH} (hJ : JJ x m) (p1 p2 : Int32) (p3 : Int64) : OK2 (fX10_put x p1 p2 p3) (fX11_put m p1 p2 p3) PJ := by
  obtain ⟨w, t, hR⟩ := hJ
  unfold fX10_put fX11_put jX11_put_37
  rcases place2 hR.2.2.2.2 p1 p2 with ⟨v, h0, h1, h2⟩ | ⟨d, s, n, i, hd, h, hin, rfl, rfl, h1, h2⟩
  · rw [h1, h2]
    simp only [Option.bind_some]
    rw [if_neg h0, if_neg h0]
    exact OK2.bad (v := v) hR rfl (by rw [if_neg h0])
  · obtain ⟨⟨hs4, hn⟩, ⟨s1, s2, s3⟩, ⟨s4, s5⟩, s6⟩ := id h
    have cd : (0 : Int32) ≤ nI d ∧ nI d < (6 : Int32) := inN (by omega) hd
    have ci : (0 : Int32) ≤ nI i ∧ nI i < (60 : Int32) := inN (by omega) (by omega)
    have ck : (0 : Int32) ≤ nI (60 * d + i) ∧ nI (60 * d + i) < (360 : Int32) := inN (by omega) (by omega)
    rw [h1, h2]
    simp only [Option.bind_some]
    rw [if_pos trivial, if_pos trivial, if_pos cd, if_pos cd, ixN (show d < 2147483648 by omega), s4, subR (by omega), show 50 + s - 50 = s by omega, lowB_m hs4]
    unfold fX7_set
    rw [lowB_x s1 hs4]
    simp only [Option.bind_some]
    rw [if_pos ci, mulL, addN, if_pos ck, ixN (show i < 2147483648 by omega), ixN (show 60 * d + i < 2147483648 by omega)]
    simp only [Option.bind_some]
    rw [if_pos trivial]
    refine OK2.eq rfl rfl ⟨⟨w, t, hR.shelf (d := d) (fun q => rfl) (fun q k hq => rfl) (fun q h4 h5 => rfl) (fun k => rfl) (hR.2.2.2.2.one (d := d) (fun q k hq => rfl) rfl (fun e he => ⟨rfl, rfl⟩) (fun e he => ?_) (fun e k he hk => ?_) (Or.inr ⟨s, n, ⟨hs4, hn⟩, ⟨s1, s2, s3⟩, ⟨s4, s5⟩, fun k hk => ?_⟩))⟩, rfl⟩
    · funext k
      rw [gjj, if_neg (by omega)]
    · rw [gjj, if_neg (by omega)]
    · rw [gjj, gjj]
      by_cases e : k = i
      · subst e
        rw [if_pos ⟨rfl, rfl⟩, if_pos ⟨rfl, rfl⟩]
        refine ⟨rfl, fun z => ?_⟩
        subst z
        exact ⟨_, rfl⟩
      · rw [if_neg (fun z => e z.2), if_neg (by omega)]
        exact s6 k hk
