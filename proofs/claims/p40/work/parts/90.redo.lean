/-! ===== undo, redo, feed ===== -/
theorem isKept_x {x : aH} {al : Nat} (h5 : fi x 52 5 = nI al) (p : Int32) : fX1_isKept x p = some (bI (0 ≤ p ∧ p < nI al)) := by
  unfold fX1_isKept
  rw [h5]
  by_cases h1 : p < 0
  · rw [if_pos h1, bI_f (by grind)]
  · rw [if_neg h1]
    by_cases h2 : nI al ≤ p
    · rw [if_pos h2, bI_f (by grind)]
    · rw [if_neg h2, bI_t (by grind)]
/-- telling a kept change, the changes' counter moved to e -/
theorem tellC {x m : aH} {w : SEA} {t : STD} {nm wh v dn al e : Nat} (hR : JR x m w t) (hp : validP w.lost nm wh) (hv : validV wh v) (hd : dn ≤ al ∧ al ≤ 40) (h4 : fi x 52 4 = nI dn) (h5 : fi x 52 5 = nI al) (he : e ≤ al) :
    ∃ y, fX10_tell x (nI nm) (nI wh) (nI v) = some y ∧ fi y 52 5 = nI al ∧ JJ (sfi y 52 4 (nI e)) (sri (sfi m 73 5 (nI e)) 74 (placeN nm wh) (nI v)) := by
  obtain ⟨y, ty, hNy, fy⟩ := tell2 hR.1.1 hp hv
  obtain ⟨⟨-, hL⟩, ⟨hI, hC⟩, hT, hA, hS⟩ := hR
  refine ⟨y, ty, by rw [fy.f (by simp)]; exact h5, tellW w nm wh v, tellS t nm wh v, ?_⟩
  have fx : Fr [2, 3, 4, 5, 16] [(1, 4), (1, 5), (1, 6), (15, 6), (15, 7), (52, 4)] x (sfi y 52 4 (nI e)) := Fr.sfi (fy.w (by simp <;> omega) (by simp <;> omega)) (by simp)
  have fm : Fr [74] [(73, 5)] m (sri (sfi m 73 5 (nI e)) 74 (placeN nm wh) (nI v)) := Fr.sri (Fr.sfi (Fr.rf _ _ _) (by simp)) (by simp)
  have hNf : JN (sfi y 52 4 (nI e)) (sri (sfi m 73 5 (nI e)) 74 (placeN nm wh) (nI v)) (tellW w nm wh v) (tellS t nm wh v) := by
    have h1 : JN (sfi y 52 4 (nI e)) (sri m 74 (placeN nm wh) (nI v)) (tellW w nm wh v) (tellS t nm wh v) := hNy.frx (Fr.sfi (Fr.rf [] [(52, 4)] y) (by simp)) (by simp) (by simp)
    have f1 : Fr [] [(73, 5)] (sri m 74 (placeN nm wh) (nI v)) (sri (sfi m 73 5 (nI e)) 74 (placeN nm wh) (nI v)) := ⟨fun a _ => rfl, fun a k h => by
      rw [gfr, gfr, gf, if_neg (fun z => h (by simp [z.1, z.2]))], rfl⟩
    obtain ⟨g1, g2, g3, g4⟩ := h1
    exact ⟨g1, g2, g3.fr f1 (by simp) (by simp) (by simp) (by simp), g4.fr f1 (by simp)⟩
  refine ⟨⟨hNf, hL.fr fx fm (by simp) (by simp)⟩, ⟨hI.fr fx fm (by simp) (by simp) (by simp) (by simp), ?_⟩, hT.fr fx fm (by simp) (by simp) (by simp) (by simp), hA.fr fx fm (by simp) (by simp) (by simp) (by simp), hS.fr fx fm (by simp) (by simp) (by simp)⟩
  obtain ⟨dn', al', hd', ⟨c1, c2, c3, c4⟩, c5⟩ := hC
  have e1 : al' = al := by
    rw [h5] at c2
    exact (eqN (by omega) (by omega)).mp c2.symm
  subst e1
  refine ⟨e, al', ⟨he, hd.2⟩, ⟨by rw [gf, if_pos ⟨rfl, rfl⟩], by rw [fx.f (by simp)]; exact h5, by rw [gfr, gf, if_pos ⟨rfl, rfl⟩], by rw [fm.f (by simp)]; exact c4⟩, fun j hj => ?_⟩
  obtain ⟨nm', wh', a', b', v1, v2, v3⟩ := c5 j hj
  refine ⟨nm', wh', a', b', v1, ?_, ?_⟩
  · rw [fx.r (show 53 ∉ _ by simp), fx.r (show 54 ∉ _ by simp), fx.r (show 55 ∉ _ by simp), fx.r (show 56 ∉ _ by simp)]; exact v2
  · rw [fm.r (show 75 ∉ _ by simp), fm.r (show 76 ∉ _ by simp), fm.r (show 77 ∉ _ by simp)]; exact v3
theorem op_undo {x m : aH} (hJ : JJ x m) : OK2 (fX10_undo x) (fX11_undo m) PJ := by
  obtain ⟨w, t, hR⟩ := hJ
  have hn := hR.1.1.1.1.1
  obtain ⟨dn, al, hd, ⟨d1, d2, d3, d4⟩, h3⟩ := id hR.2.1.2
  by_cases h0 : dn = 0
  · subst h0
    refine OK2.bad (v := -5) hR ?_ ?_
    · unfold fX10_undo
      rw [d1, isKept_x d2, bI_f (by intro z; exact absurd z.1 (by decide))]
      rfl
    · unfold fX11_undo
      rw [d3]
      rfl
  · obtain ⟨nm, wh, a, b, ⟨v1, v2, v3⟩, ⟨r1, r2, r3, r4⟩, q1, q2, q3⟩ := h3 (dn - 1) (by omega)
    have hpl := place_lt hn v1
    obtain ⟨y, ty, y5, hJ'⟩ := tellC (e := dn - 1) hR v1 v2 hd d1 d2 (by omega)
    have ci : (0 : Int32) ≤ nI (dn - 1) ∧ nI (dn - 1) < (40 : Int32) := inN (by omega) (by omega)
    have cp : (0 : Int32) ≤ nI (placeN nm wh) ∧ nI (placeN nm wh) < (172 : Int32) := inN (by omega) hpl
    have e1 : nI dn - (1 : Int32) = nI (dn - 1) := subR (by omega)
    have ei : ix (nI (dn - 1)) = dn - 1 := ixN (by omega)
    have ck : (0 : Int32) ≤ nI (dn - 1) ∧ nI (dn - 1) < nI al := ⟨ci.1, (ltN (by omega) (by omega)).mpr (by omega)⟩
    refine ⟨(nI (dn - 1), sfi y 52 4 (nI (dn - 1))), (nI (dn - 1), sri (sfi m 73 5 (nI (dn - 1))) 74 (placeN nm wh) (nI a)), ?_, ?_, hJ', rfl⟩
    · unfold fX10_undo
      rw [d1, e1, isKept_x d2, bI_t ck]
      simp only [Option.bind_some]
      rw [if_neg n10, if_pos ci, if_pos ci, if_pos ci, ei, r1, r2, r3, ty]
      rfl
    · unfold fX11_undo jX11_undo_43
      rw [d3, if_neg (by rw [eqR (by omega) (by omega)]; exact h0), e1]
      have f5 : fi (sfi m 73 5 (nI (dn - 1))) 73 5 = nI (dn - 1) := by rw [gf, if_pos ⟨rfl, rfl⟩]
      have p5 : ri (sfi m 73 5 (nI (dn - 1))) 75 (dn - 1) = nI (placeN nm wh) := q1
      have p6 : ri (sfi m 73 5 (nI (dn - 1))) 76 (dn - 1) = nI a := q2
      rw [f5, if_pos ci, if_pos ci, ei, p5, if_pos cp, ixN (by omega), p6, gfr, f5]
theorem op_redo {x m : aH} (hJ : JJ x m) : OK2 (fX10_redo x) (fX11_redo m) PJ := by
  obtain ⟨w, t, hR⟩ := hJ
  have hn := hR.1.1.1.1.1
  obtain ⟨dn, al, hd, ⟨d1, d2, d3, d4⟩, h3⟩ := id hR.2.1.2
  by_cases h0 : dn = al
  · subst h0
    refine OK2.bad (v := -5) hR ?_ ?_
    · unfold fX10_redo
      rw [d1, isKept_x d2, bI_f (by intro z; exact absurd z.2 Int32.lt_irrefl)]
      rfl
    · unfold fX11_redo
      rw [d3, d4, if_pos rfl]
  · obtain ⟨nm, wh, a, b, ⟨v1, v2, v3⟩, ⟨r1, r2, r3, r4⟩, q1, q2, q3⟩ := h3 dn (by omega)
    have hpl := place_lt hn v1
    obtain ⟨y, ty, y5, hJ'⟩ := tellC (e := dn + 1) hR v1 v3 hd d1 d2 (by omega)
    have ci : (0 : Int32) ≤ nI dn ∧ nI dn < (40 : Int32) := inN (by omega) (by omega)
    have cp : (0 : Int32) ≤ nI (placeN nm wh) ∧ nI (placeN nm wh) < (172 : Int32) := inN (by omega) hpl
    have ei : ix (nI dn) = dn := ixN (by omega)
    have ck : (0 : Int32) ≤ nI dn ∧ nI dn < nI al := ⟨ci.1, (ltN (by omega) (by omega)).mpr (by omega)⟩
    refine ⟨(nI al - nI (dn + 1), sfi y 52 4 (nI (dn + 1))), (nI al - nI (dn + 1), sfi (sri m 74 (placeN nm wh) (nI b)) 73 5 (nI (dn + 1))), ?_, ?_, hJ', rfl⟩
    · unfold fX10_redo
      rw [d1, isKept_x d2, bI_t ck]
      simp only [Option.bind_some]
      rw [if_neg n10, if_pos ci, if_pos ci, if_pos ci, ei, r1, r2, r4, ty]
      simp only [Option.bind_some]
      rw [nI_1]
      simp [gf, y5]
    · unfold fX11_redo
      rw [d3, d4, if_neg (by rw [eqN (by omega) (by omega)]; exact h0), if_pos ci, if_pos ci, ei, q1, if_pos cp, ixN (by omega), q3]
      simp [gf, gfr, d3, d4, nI_1]
theorem w255 (p : Int32) : fX11_within p.toInt64 (0 : Int64) (255 : Int64) = some (bI (0 ≤ p ∧ p ≤ 255)) := within_i p 0 255
theorem op_feed {x m : aH} (hJ : JJ x m) (p1 : Int32) : OK2 (fX10_feed x p1) (fX11_feed m p1) PJ := by
  obtain ⟨w, t, hR⟩ := hJ
  obtain ⟨k, hk, t1, t2, t3⟩ := id hR.2.2.1
  by_cases hp : 0 ≤ p1 ∧ p1 ≤ 255
  · obtain ⟨b, hb, rfl⟩ := le_arg (N := 255) (by omega) rfl hp
    have hx : fX10_feed x (nI b) = (fX9_take x (nI b)).bind fun q18_3 => if q18_3.1 = (0 : Int32) then some ((-3 : Int32), q18_3.2) else some ((fi q18_3.2 6 1), q18_3.2) := by
      unfold fX10_feed
      rw [if_neg (Int32.not_lt.mpr hp.1), if_pos hp.2]
    rw [hx]
    unfold fX9_take fX11_feed
    rw [w255, bI_t hp, t1, t2]
    simp only [Option.bind_some]
    rw [if_neg n10]
    by_cases hf : k = 120
    · subst hf
      exact OK2.bad (v := -3) hR rfl rfl
    · have ci : (0 : Int32) ≤ nI k ∧ nI k < (120 : Int32) := inN (by omega) (by omega)
      rw [if_pos ci.2, if_pos ci, if_neg (by rw [eqR (by omega) (by omega)]; exact hf), if_pos ci, ixN (by omega)]
      simp only [Option.bind_some]
      rw [if_neg n10, gfr, t1, gfr, t2, nI_1]
      obtain ⟨⟨hN, hL⟩, ⟨hI, hC⟩, hT, hA, hS⟩ := id hR
      have fx : Fr [7] [(6, 1)] x (sfi (sri x 7 k (nI b)) 6 1 (nI (k + 1))) := Fr.sfi (Fr.sri (Fr.rf _ _ _) (by simp)) (by simp)
      have fm : Fr [78] [(73, 8)] m (sfi (sri m 78 k (nI b)) 73 8 (nI (k + 1))) := Fr.sfi (Fr.sri (Fr.rf _ _ _) (by simp)) (by simp)
      obtain ⟨h1, ⟨h2, h3, h4⟩, h5, h6⟩ := hN
      refine ⟨_, _, rfl, rfl, ⟨w, t, ⟨⟨h1, ⟨h2.fr fx (by simp) (by simp), h3.fr fx (by simp) (by simp) (by simp) (by simp), h4.fr fx (by simp)⟩, h5.fr fm (by simp) (by simp) (by simp) (by simp), h6.fr fm (by simp)⟩, hL.fr fx fm (by simp) (by simp)⟩, ⟨hI.fr fx fm (by simp) (by simp) (by simp) (by simp), hC.fr fx fm (by simp) (by simp) (by simp) (by simp)⟩, ⟨k + 1, by omega, by simp [gf], by simp [gf], fun i hi => ?_⟩, hA.fr fx fm (by simp) (by simp) (by simp) (by simp), hS.fr fx fm (by simp) (by simp) (by simp)⟩, ?_⟩
      · simp only [grf, gr]
        by_cases e : i = k
        · exact ⟨b, by omega, by simp [e], by simp [e]⟩
        · simp [e]
          exact t3 i (by omega)
      · simp [gf]
  · refine OK2.bad (v := -1) hR ?_ ?_
    · unfold fX10_feed
      by_cases h : p1 < 0
      · rw [if_pos h]
      · rw [if_neg h, if_neg (by grind)]
    · simp [fX11_feed, w255, bI_f hp]
