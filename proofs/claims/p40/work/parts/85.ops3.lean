/-! ===== losts, oil, led, image, back, count ===== -/
theorem w110 (p : Int32) : fX11_within p.toInt64 (1 : Int64) (10 : Int64) = some (bI (1 ≤ p ∧ p ≤ 10)) := within_i p 1 10
theorem w1999 (p : Int32) : fX11_within p.toInt64 (1 : Int64) (999 : Int64) = some (bI (1 ≤ p ∧ p ≤ 999)) := within_i p 1 999
theorem m1_ne {b : Nat} (hb : b < 2147483648) : ¬ nI b = (-1 : Int32) := by
  intro z
  have := le0 (n := b) hb
  rw [z] at this
  exact absurd this (by decide)
theorem op_losts {x m : aH} (hJ : JJ x m) (p1 p2 p3 : Int32) : OK2 (fX10_losts x p1 p2 p3) (fX11_losts m p1 p2 p3) PJ := by
  obtain ⟨w, t, hR⟩ := hJ
  have hS := hR.2.2.2.2
  rcases argIn p1 6 (by omega) with ⟨d, hd, rfl⟩ | hp
  · have cd : (0 : Int32) ≤ nI d ∧ nI d < (6 : Int32) := inN (by omega) hd
    by_cases h3 : 1 ≤ p3 ∧ p3 ≤ 10
    · have n31 : ¬ p3 < 1 := Int32.not_lt.mpr h3.1
      have ed : ix (nI d) = d := ixN (by omega)
      rcases hS d hd with ⟨⟨s1, s2, s5⟩, h⟩ | ⟨s, n, h⟩
      · rcases h with ⟨s3, s4⟩ | ⟨b, hb, hb2, s3, s4⟩
        · refine OK2.bad (v := 0) hR ?_ ?_
          · simp [fX10_losts, isShelf_in hd, n31, h3.2, cd, ed, fX7_isEmpty, s1, s3]
          · have e : ri m 94 d = -1 := s4
            simp [fX11_losts, isShelf_inM hd, w110, bI_t h3, cd, ed, e, jX11_losts_44, jX11_losts_66, jX11_losts_67, wX11_losts_69, sX11_losts_69]
        · have nb := m1_ne (b := b) (by omega)
          have nb2 : ¬ nI b < 0 := lt0 (by omega)
          have nb3 : ¬ nI b = (50 : Int32) := by rw [eqR (by omega) (by omega)]; omega
          refine OK2.bad (v := -12) hR ?_ ?_
          · simp [fX10_losts, isShelf_in hd, n31, h3.2, cd, ed, fX7_isEmpty, s1, s3, nb, fX7_isRowOfBytes]
          · simp [fX11_losts, isShelf_inM hd, w110, bI_t h3, cd, ed, s4, nb2, nb3]
      · obtain ⟨⟨hs4, hn⟩, ⟨s1, s2, s3⟩, ⟨s4, s5⟩, s6⟩ := id h
        have nb := m1_ne (b := s) (by omega)
        have nb2 : ¬ nI (50 + s) < 0 := lt0 (by omega)
        by_cases hs0 : s = 0
        · subst hs0
          obtain ⟨q, hq, rfl⟩ := le_arg (N := 10) (by omega) rfl ⟨by have := h3.1; exact (show (0 : Int32) ≤ p3 by grind), h3.2⟩
          have ex : fX10_losts x (nI d) p2 (nI q) = (wX10_losts_56 (nI q) (61 + 2 * d) 2000 x (0 : Int32) p2).bind fun q => some (q.1, q.2) := by
            simp [fX10_losts, isShelf_in hd, n31, h3.2, cd, ed, fX7_isEmpty, s1, nb, fX7_isRowOfBytes, show nI 0 = (0 : Int32) from rfl]
          have ebind : ∀ o : Option (Int32 × aH), (o.bind fun q => some (q.1, q.2)) = o := fun o => by cases o <;> rfl
          have em : fX11_losts m (nI d) p2 (nI q) = if p2 < (0 : Int32) then wX11_losts_69 (nI d) p2 (nI q) 2000 m 0 0 else wX11_losts_69 (nI d) p2 (nI q) 2000 m 0 1 := by
            simp only [fX11_losts, isShelf_inM hd, w110, bI_t h3, if_pos cd, ed, s4, if_neg nb2, show nI (50 + 0) = (50 : Int32) from rfl, jX11_losts_44, jX11_losts_66, jX11_losts_67, Option.bind_some, if_neg n10, ebind]
            rfl
          rw [ex, em, ebind]
          rcases i_cases p2 with hneg | ⟨i, hi, rfl⟩
          · rw [if_pos hneg]
            refine OK2.bad (v := 0) hR ?_ ?_
            · show sX10_losts_56 _ _ _ _ _ _ = _
              unfold sX10_losts_56
              rw [if_neg (by have := h3.1; grind), hR.1.1.2.1.2.1.1]
              by_cases h10 : (10 : Int32) ≤ nI w.lost
              · rw [if_pos h10]
              · rw [if_neg h10]
                unfold fX7_hasPlaces
                rw [if_pos hneg]
                rfl
            · show sX11_losts_69 _ _ _ _ _ _ _ = _
              unfold sX11_losts_69
              rw [if_pos rfl]
          · rw [if_neg (lt0 hi)]
            by_cases hi60 : i ≤ 60
            · have hq1 : 1 ≤ q := by
                have := h3.1
                rw [show (1 : Int32) = nI 1 from rfl, leN (by omega) (by omega)] at this
                exact this
              exact losts_loop hd hi60 (show q ≤ 10 by omega) q 0 2000 2000 x m w t hR h (by omega) (by omega) (by omega)
            · have hlo := hR.1.1.2.1.2.1.1
              have hlm := hR.1.1.2.2.1.2.2.2.1
              have h31 : ¬ nI q ≤ (0 : Int32) := by have := h3.1; grind
              refine OK2.bad (v := 0) hR ?_ ?_
              · show sX10_losts_56 _ _ _ _ _ _ = _
                unfold sX10_losts_56
                rw [if_neg h31, hlo]
                by_cases h10 : (10 : Int32) ≤ nI w.lost
                · rw [if_pos h10]
                · rw [if_neg h10]
                  unfold fX7_hasPlaces
                  rw [if_neg (lt0 hi), if_neg (show ¬ (3 : Int32) < 0 by decide), s2]
                  by_cases h3n : nI n < (3 : Int32)
                  · rw [if_pos h3n]
                    rfl
                  · rw [if_neg h3n]
                    rw [ltR (by omega) (by omega)] at h3n
                    rw [if_pos (by rw [subR (by omega), ltN (by omega) (by omega)]; omega)]
                    rfl
              · show sX11_losts_69 _ _ _ _ _ _ _ = _
                unfold sX11_losts_69
                have g : (nI n - (3 : Int32)) - (3 : Int32) * (0 : Int32) < nI i := by
                  rw [show (3 : Int32) * (0 : Int32) = nI 0 from rfl, show (3 : Int32) = nI 3 from rfl, nI_iI n, nI_iI 3, nI_iI 0, nI_iI i, iI_sub, iI_sub, iI_lt (by omega) (by omega) (by omega) (by omega)]
                  omega
                rw [if_neg n10, if_neg h31, if_pos cd, ed, s5, if_pos g]
                unfold jX11_losts_110 jX11_losts_111
                rw [if_pos rfl]
                unfold jX11_losts_166 jX11_losts_167
                rw [if_pos rfl]
                unfold jX11_losts_209
                show sX11_losts_69 _ _ _ _ _ _ _ = _
                unfold sX11_losts_69
                rw [if_pos rfl]
        · have g1 : ¬ nI s = (0 : Int32) := by rw [eqR (by omega) (by omega)]; exact hs0
          have g2 : ¬ nI (50 + s) = (50 : Int32) := by rw [eqR (by omega) (by omega)]; omega
          refine OK2.bad (v := -12) hR ?_ ?_
          · simp [fX10_losts, isShelf_in hd, n31, h3.2, cd, ed, fX7_isEmpty, s1, nb, fX7_isRowOfBytes, g1]
          · simp [fX11_losts, isShelf_inM hd, w110, bI_t h3, cd, ed, s4, nb2, g2]
    · refine OK2.bad (v := -1) hR ?_ ?_
      · by_cases e : p3 < 1
        · simp [fX10_losts, isShelf_in hd, e]
        · have e2 : ¬ p3 ≤ 10 := by grind
          simp [fX10_losts, isShelf_in hd, e, e2]
      · simp [fX11_losts, isShelf_inM hd, w110, bI_f h3]
  · have hp6 : ¬ (0 ≤ p1 ∧ p1 < 6) := hp
    refine OK2.bad (v := -1) hR ?_ ?_
    · simp [fX10_losts, isShelf_out hp6]
    · simp [fX11_losts, isShelf_outM hp6]
theorem op_led {x m : aH} (hJ : JJ x m) (p1 : Int32) : OK2 (fX10_led x p1) (fX11_led m p1) (fun a b => a = b) := by
  obtain ⟨w, t, hR⟩ := hJ
  rcases argIn p1 5 (by omega) with ⟨i, hi, rfl⟩ | hp
  · have ci : (0 : Int32) ≤ nI i ∧ nI i < (5 : Int32) := inN (by omega) hi
    have c4 : (0 : Int32) ≤ nI i ∧ nI i ≤ (4 : Int32) := ⟨le0 (by omega), (leR (by omega) (by omega)).mpr (by omega)⟩
    refine OK2.eq (a := ri x 17 i) (b := ri m 89 i) ?_ ?_ (hR.1.2 i hi)
    · unfold fX10_led
      rw [if_neg (lt0 (by omega)), if_pos ci.2, if_pos ci, ixN (by omega)]
    · unfold fX11_led
      rw [w4, bI_t c4]
      simp only [Option.bind_some]
      rw [if_neg n10, if_pos ci, ixN (by omega)]
  · have hp5 : ¬ (0 ≤ p1 ∧ p1 < 5) := hp
    refine OK2.eq (a := -1) (b := -1) ?_ ?_ rfl
    · unfold fX10_led
      by_cases h : p1 < 0
      · rw [if_pos h]
      · rw [if_neg h, if_neg (by grind)]
    · unfold fX11_led
      rw [w4, bI_f (by grind)]
      rfl
theorem op_oil {x m : aH} (hJ : JJ x m) (p1 : Int32) : OK2 (fX10_oil x p1) (fX11_oil m p1) PJ := by
  obtain ⟨w, t, hR⟩ := hJ
  by_cases hp : 1 ≤ p1 ∧ p1 ≤ 999
  · obtain ⟨k, hk, rfl⟩ := le_arg (N := 999) (by omega) rfl ⟨(by have := hp.1; grind : (0 : Int32) ≤ p1), hp.2⟩
    obtain ⟨⟨⟨⟨hw, ht⟩, ⟨hs, hv, hh⟩, hms, hmv⟩, hL⟩, ⟨hI, hC⟩, hT, hA, hS⟩ := id hR
    have ho := ht.2
    have key : ∀ v : Nat, v < 1000 → JJ (sri (sfi x 15 7 (nI v)) 17 4 (ri x 17 4 + nI k)) (sri (sri m 74 169 (nI v)) 89 4 (ri m 89 4 + nI k)) := by
      intro v hv1
      have fx : Fr [17] [(15, 7)] x (sri (sfi x 15 7 (nI v)) 17 4 (ri x 17 4 + nI k)) := Fr.sri (Fr.sfi (Fr.rf _ _ _) (by simp)) (by simp)
      have fm : Fr [74, 89] [] m (sri (sri m 74 169 (nI v)) 89 4 (ri m 89 4 + nI k)) := Fr.sri (Fr.sri (Fr.rf _ _ _) (by simp)) (by simp)
      refine ⟨w, (t.cell, t.home, v), ⟨⟨⟨⟨hw, ht.1, hv1⟩, ⟨hs.fr fx (by simp) (by simp), ⟨hv.1, hv.2.1, hv.2.2.1, ?_⟩, hh.fr fx (by simp)⟩, ⟨?_, ?_, ?_, hms.2.2.2.1, hms.2.2.2.2.fr fm (by simp) (by simp)⟩, ?_, ?_, ?_⟩, ?_⟩, ⟨hI.fr fx fm (by simp) (by simp) (by simp) (by simp), hC.fr fx fm (by simp) (by simp) (by simp) (by simp)⟩, hT.fr fx fm (by simp) (by simp) (by simp) (by simp), hA.fr fx fm (by simp) (by simp) (by simp) (by simp), hS.fr fx fm (by simp) (by simp) (by simp)⟩⟩
      · simp [gfr, gf]; rfl
      · intro c hc
        simp only [gr]
        simpa [show ¬ 40 + c = 169 by omega, show ¬ 104 + c = 169 by omega] using hms.1 c hc
      · intro i hi
        simp only [gr]
        simpa [show ¬ 10 + i = 169 by omega, show ¬ 20 + i = 169 by omega] using hms.2.1 i hi
      · simp only [gr]
        simpa using hms.2.2.1
      · intro i hi
        have := hw.1
        show _ = nI (t.cell i) ∧ _ = nI (t.home i)
        simp only [gr]
        simpa [show ¬ i = 169 by omega, show ¬ 30 + i = 169 by omega] using hmv.1 i hi
      · simp [gr]; rfl
      · intro i h1 h2
        simp only [gr]
        simpa [show ¬ 30 + i = 169 by omega] using hmv.2.2 i h1 h2
      · intro j hj
        simp only [gr, grf]
        by_cases e : j = 4
        · subst e; simp; exact hL 4 (by decide)
        · simp [e]; exact hL j hj
    have ex : ∀ v : Nat, (if nI t.oil + nI k < (999 : Int32) then nI t.oil + nI k else (999 : Int32)) = nI v → fX10_oil x (nI k) = some (nI v, sri (sfi x 15 7 (nI v)) 17 4 (ri x 17 4 + nI k)) := by
      intro v hv1
      have n1 : ¬ nI k < 1 := Int32.not_lt.mpr hp.1
      unfold fX10_oil
      rw [if_neg n1, if_pos hp.2, hv.2.2.2, hv1]
      simp [gfr, gf, grf, ix_4]
    have em : ∀ v : Nat, ((nI t.oil + nI k ≤ (999 : Int32) ∧ nI v = nI t.oil + nI k) ∨ (¬ nI t.oil + nI k ≤ (999 : Int32) ∧ nI v = 999)) → fX11_oil m (nI k) = some (nI v, sri (sri m 74 169 (nI v)) 89 4 (ri m 89 4 + nI k)) := by
      intro v hv1
      unfold fX11_oil
      rw [w1999, bI_t hp]
      simp only [Option.bind_some]
      rw [if_neg n10, ix_169, hmv.2.1]
      unfold jX11_oil_53
      have c : (0 : Int32) ≤ (169 : Int32) ∧ (169 : Int32) < (172 : Int32) := by decide
      rcases hv1 with ⟨h1, h2⟩ | ⟨h1, h2⟩
      · rw [if_pos h1, if_pos c, ← h2, ix_169, ix_4]
        simp [gr]
      · rw [if_neg h1, if_pos c, ← h2, ix_169, ix_4]
        simp [gr]
    have hle : nI t.oil + nI k ≤ (999 : Int32) ↔ t.oil + k ≤ 999 := by rw [addN, leR (by omega) (by omega)]
    have hlt : nI t.oil + nI k < (999 : Int32) ↔ t.oil + k < 999 := by rw [addN, ltR (by omega) (by omega)]
    by_cases hs1 : t.oil + k ≤ 999
    · refine ⟨_, _, ex (t.oil + k) ?_, em (t.oil + k) (Or.inl ⟨hle.mpr hs1, (addN _ _).symm⟩), key _ (by omega), rfl⟩
      by_cases e : t.oil + k < 999
      · rw [if_pos (hlt.mpr e), addN]
      · rw [if_neg (fun z => e (hlt.mp z)), show t.oil + k = 999 by omega]; rfl
    · refine ⟨_, _, ex 999 ?_, em 999 (Or.inr ⟨fun z => hs1 (hle.mp z), rfl⟩), key _ (by omega), rfl⟩
      rw [if_neg (fun z => hs1 (by have := hlt.mp z; omega))]
      rfl
  · refine OK2.bad (v := -1) hR ?_ ?_
    · unfold fX10_oil
      by_cases h : p1 < 1
      · rw [if_pos h]
      · rw [if_neg h, if_neg (by grind)]
    · simp [fX11_oil, w1999, bI_f hp]
