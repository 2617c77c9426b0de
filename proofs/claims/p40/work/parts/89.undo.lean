/-! ===== changes: kept, undone, done again ===== -/
def eN (dn : Nat) : Nat := if dn < 40 then dn else 39
def sN (dn : Nat) : Nat := if dn < 40 then 0 else 1
theorem drop_x (x : aH) : OK (fX1_dropOldest x) (fun y => Fr [53, 54, 55, 56] [(52, 4)] x y ∧ fi y 52 4 = nI 39 ∧ ∀ j, j < 39 → ri y 53 j = ri x 53 (j + 1) ∧ ri y 54 j = ri x 54 (j + 1) ∧ ri y 55 j = ri x 55 (j + 1) ∧ ri y 56 j = ri x 56 (j + 1)) := by
  have e1 : ix (1 : Int32) = 1 := rfl
  have e0 : ix (0 : Int32) = 0 := rfl
  have e39 : ix (39 : Int32) = 39 := rfl
  have c : ¬ (1 : Int32) < 0 ∧ ¬ (0 : Int32) < 0 ∧ ¬ (39 : Int32) < 0 ∧ ix (1 : Int32) + ix (39 : Int32) ≤ 40 ∧ ix (0 : Int32) + ix (39 : Int32) ≤ 40 := by decide
  unfold fX1_dropOldest jX1_dropOldest_30 jX1_dropOldest_60
  refine OK.t c (OK.t c (OK.t c (OK.t c (OK.ret ?_))))
  rw [e1, e0, e39]
  refine ⟨?_, by rw [gf, if_pos ⟨rfl, rfl⟩]; rfl, fun j hj => ⟨?_, ?_, ?_, ?_⟩⟩
  · exact Fr.sfi (Fr.srow (Fr.srow (Fr.srow (Fr.srow (Fr.rf _ _ _) (by simp)) (by simp)) (by simp)) (by simp)) (by simp)
  · simp only [grf, grw]
    simp [pk_cpy_in (show 0 ≤ j by omega) (show j < 0 + 39 by omega), Nat.add_comm]
  · simp only [grf, grw]
    simp [pk_cpy_in (show 0 ≤ j by omega) (show j < 0 + 39 by omega), Nat.add_comm]
  · simp only [grf, grw]
    simp [pk_cpy_in (show 0 ≤ j by omega) (show j < 0 + 39 by omega), Nat.add_comm]
  · simp only [grf, grw]
    simp [pk_cpy_in (show 0 ≤ j by omega) (show j < 0 + 39 by omega), Nat.add_comm]
def addP (x : aH) (dn : Nat) (a b c d : Int32) (y : aH) : Prop := Fr [53, 54, 55, 56] [(52, 4), (52, 5)] x y ∧ (fi y 52 4 = nI (eN dn + 1) ∧ fi y 52 5 = nI (eN dn + 1)) ∧ (∀ j, j < eN dn → ri y 53 j = ri x 53 (j + sN dn) ∧ ri y 54 j = ri x 54 (j + sN dn) ∧ ri y 55 j = ri x 55 (j + sN dn) ∧ ri y 56 j = ri x 56 (j + sN dn)) ∧ (ri y 53 (eN dn) = a ∧ ri y 54 (eN dn) = b ∧ ri y 55 (eN dn) = c ∧ ri y 56 (eN dn) = d)
theorem add_ch {x : aH} {dn : Nat} (a b c d : Int32) (hd : dn ≤ 40) (h4 : fi x 52 4 = nI dn) : OK (fX1_add x a b c d) (addP x dn a b c d) := by
  have key : ∀ z : aH, Fr [53, 54, 55, 56] [(52, 4)] x z → fi z 52 4 = nI (eN dn) → (∀ j, j < eN dn → ri z 53 j = ri x 53 (j + sN dn) ∧ ri z 54 j = ri x 54 (j + sN dn) ∧ ri z 55 j = ri x 55 (j + sN dn) ∧ ri z 56 j = ri x 56 (j + sN dn)) → OK (jX1_add_13 z a b c d) (addP x dn a b c d) := by
    intro z z1 z2 z3
    have he : eN dn < 40 := by unfold eN; split <;> omega
    have ci : (0 : Int32) ≤ nI (eN dn) ∧ nI (eN dn) < (40 : Int32) := inN (by omega) he
    unfold jX1_add_13 jX1_add_54
    simp only [gfr, z2, ixN (show eN dn < 2147483648 by omega), if_pos ci, nI_1]
    refine OK.ret ⟨?_, ⟨by simp [gf], by simp [gf]⟩, fun j hj => ?_, ?_⟩
    · exact Fr.sfi (Fr.sfi (Fr.sri (Fr.sri (Fr.sri (Fr.sri (z1.w (by simp) (by simp)) (by simp)) (by simp)) (by simp)) (by simp)) (by simp)) (by simp)
    · simp only [grf, gr]
      simp [show ¬ j = eN dn by omega]
      exact z3 j hj
    · simp [grf, gr]
  unfold fX1_add
  rw [h4]
  by_cases h : dn < 40
  · refine OK.t ((ltR (by omega) (by omega)).mpr h) (key x (Fr.rf _ _ _) ?_ (fun j hj => ?_))
    · unfold eN; rw [if_pos h]; exact h4
    · unfold sN; rw [if_pos h]; exact ⟨rfl, rfl, rfl, rfl⟩
  · refine OK.f (by rw [ltR (by omega) (by omega)]; exact h) (OK.bind (drop_x x) (fun z hz => ?_))
    refine key z hz.1 ?_ (fun j hj => ?_)
    · unfold eN; rw [if_neg h]; exact hz.2.1
    · unfold sN; rw [if_neg h]
      exact hz.2.2 j (by unfold eN at hj; rw [if_neg h] at hj; exact hj)
def becP (m : aH) (dn : Nat) (p : Nat) (a v : Int32) (y : aH) : Prop := Fr [74, 75, 76, 77] [(73, 4), (73, 5)] m y ∧ (fi y 73 5 = nI (eN dn + 1) ∧ fi y 73 4 = nI (eN dn + 1)) ∧ (∀ j, j < eN dn → ri y 75 j = ri m 75 (j + sN dn) ∧ ri y 76 j = ri m 76 (j + sN dn) ∧ ri y 77 j = ri m 77 (j + sN dn)) ∧ (ri y 75 (eN dn) = nI p ∧ ri y 76 (eN dn) = a ∧ ri y 77 (eN dn) = v) ∧ ri y 74 = ri (sri m 74 p v) 74
theorem bec_m {m : aH} {dn p : Nat} {a v : Int32} (hd : dn ≤ 40) (hp : p < 172) (h5 : fi m 73 5 = nI dn) (ha : ri m 74 p = a) (hne : a ≠ v) : OK (fX11_becomes m (nI p) v) (fun q => q.1 = a ∧ becP m dn p a v q.2) := by
  have cp : (0 : Int32) ≤ nI p ∧ nI p < (172 : Int32) := inN (by omega) hp
  have key : ∀ z : aH, Fr [75, 76, 77] [(73, 5)] m z → fi z 73 5 = nI (eN dn) → (∀ j, j < eN dn → ri z 75 j = ri m 75 (j + sN dn) ∧ ri z 76 j = ri m 76 (j + sN dn) ∧ ri z 77 j = ri m 77 (j + sN dn)) → OK (jX11_becomes_97 z (nI p) v a) (fun q => q.1 = a ∧ becP m dn p a v q.2) := by
    intro z z1 z2 z3
    have he : eN dn < 40 := by unfold eN; split <;> omega
    have ci : (0 : Int32) ≤ nI (eN dn) ∧ nI (eN dn) < (40 : Int32) := inN (by omega) he
    unfold jX11_becomes_97 jX11_becomes_137
    simp only [gfr, z2, ixN (show eN dn < 2147483648 by omega), ixN (show p < 2147483648 by omega), if_pos ci, if_pos cp, nI_1]
    refine OK.ret ⟨rfl, ?_, ⟨by simp [gf, gfr], by simp [gf, gfr]⟩, fun j hj => ?_, ?_, ?_⟩
    · exact Fr.sri (Fr.sfi (Fr.sfi (Fr.sri (Fr.sri (Fr.sri (z1.w (by simp) (by simp)) (by simp)) (by simp)) (by simp)) (by simp)) (by simp)) (by simp)
    · simp only [grf, gr]
      simp [show ¬ j = eN dn by omega]
      exact z3 j hj
    · simp [grf, gr]
    · funext k
      simp only [grf, gr]
      simp
      rw [z1.r (show 74 ∉ [75, 76, 77] by simp)]
  unfold fX11_becomes
  refine OK.t cp ?_
  rw [ixN (by omega), ha, h5]
  refine OK.f hne ?_
  by_cases h : dn < 40
  · refine OK.f (by rw [eqR (by omega) (by omega)]; omega) (key m (Fr.rf _ _ _) ?_ (fun j hj => ?_))
    · unfold eN; rw [if_pos h]; exact h5
    · unfold sN; rw [if_pos h]; exact ⟨rfl, rfl, rfl⟩
  · refine OK.t (by rw [eqR (by omega) (by omega)]; omega) ?_
    refine OK.bind (P := fun y => Fr [75, 76, 77] [] m y ∧ ∀ j, j < 39 → ri y 75 j = ri m 75 (j + 1) ∧ ri y 76 j = ri m 76 (j + 1) ∧ ri y 77 j = ri m 77 (j + 1)) ?_ (fun z hz => ?_)
    · refine OK.mono (P := fun y => Fr [75, 76, 77] [] m y ∧ (∀ j, j + 1 < 40 → ri y 75 j = ri m 75 (j + 1) ∧ ri y 76 j = ri m 76 (j + 1) ∧ ri y 77 j = ri m 77 (j + 1)) ∧ ∀ j, 40 ≤ j → ri y 75 j = ri m 75 j ∧ ri y 76 j = ri m 76 j ∧ ri y 77 j = ri m 77 j) ?_ (fun y hy => ⟨hy.1, fun j hj => hy.2.1 j (by omega)⟩)
      refine LOOPUP (fun n (st : aH) l => wX11_becomes_26 (nI p) v a n st l) (fun ih st l => sX11_becomes_26 (nI p) v a ih st l) (fun n => rfl) (fun k y => 1 ≤ k ∧ Fr [75, 76, 77] [] m y ∧ (∀ j, j + 1 < k → ri y 75 j = ri m 75 (j + 1) ∧ ri y 76 j = ri m 76 (j + 1) ∧ ri y 77 j = ri m 77 (j + 1)) ∧ ∀ j, k ≤ j → 1 ≤ j → ri y 75 j = ri m 75 j ∧ ri y 76 j = ri m 76 j ∧ ri y 77 j = ri m 77 j) _ 40 ?_ ?_ 2000 1 m (by omega) (by omega) ⟨Nat.le_refl _, Fr.rf _ _ _, fun j hj => by omega, fun j _ _ => ⟨rfl, rfl, rfl⟩⟩
      · intro k y hk hI ih hh
        obtain ⟨hk1, y1, y2, y3⟩ := hI
        unfold sX11_becomes_26 jX11_becomes_81
        · have c1 : (0 : Int32) ≤ nI k ∧ nI k < (40 : Int32) := inN (by omega) hk
          have e1 : nI k - (1 : Int32) = nI (k - 1) := subR (by omega)
          have c2 : (0 : Int32) ≤ nI (k - 1) ∧ nI (k - 1) < (40 : Int32) := inN (by omega) (by omega)
          refine OK.f (by rw [leL (by omega) (by omega)]; omega) ?_
          rw [e1]
          simp only [if_pos c1, if_pos c2, nI_1, ixN (show k < 2147483648 by omega), ixN (show k - 1 < 2147483648 by omega)]
          have g := y3 k (Nat.le_refl _) (by omega)
          refine hh _ ⟨by omega, Fr.sri (Fr.sri (Fr.sri y1 (by simp)) (by simp)) (by simp), fun j hj => ?_, fun j hj1 hj2 => ?_⟩
          · simp only [gr]
            by_cases e : j = k - 1
            · subst e
              simp [show k - 1 + 1 = k by omega]
              exact g
            · simp [e]
              exact y2 j (by omega)
          · simp only [gr]
            simp [show ¬ j = k - 1 by omega]
            exact y3 j (by omega) hj2
      · intro y hI ih
        unfold sX11_becomes_26
        exact OK.t (by decide) (OK.ret ⟨hI.2.1, hI.2.2.1, fun j hj => hI.2.2.2 j hj (by omega)⟩)
    · refine key _ (Fr.sfi (hz.1.w (by simp) (by simp)) (by simp)) ?_ (fun j hj => ?_)
      · rw [gf, if_pos ⟨rfl, rfl⟩, hz.1.f (by simp), h5, subR (by omega)]
        unfold eN
        rw [if_neg h]
        congr 1
        omega
      · unfold sN
        rw [if_neg h]
        exact hz.2 j (by unfold eN at hj; rw [if_neg h] at hj; exact hj)
theorem vlN {wh : Nat} (v : Int32) : (nI (lowN wh) ≤ v ∧ v ≤ nI (highN wh)) ↔ ∃ k, validV wh k ∧ v = nI k := by
  have hb := high_lt wh
  constructor
  · intro h
    obtain ⟨k, hk, rfl⟩ := le_arg (N := highN wh) (by omega) rfl ⟨Int32.le_trans (le0 (show lowN wh < 2147483648 by omega)) h.1, h.2⟩
    refine ⟨k, ⟨?_, hk⟩, rfl⟩
    have := h.1
    rw [leN (by omega) (by omega)] at this
    exact this
  · rintro ⟨k, ⟨h1, h2⟩, rfl⟩
    exact ⟨(leN (by omega) (by omega)).mpr h1, (leN (by omega) (by omega)).mpr h2⟩
theorem w09 (p : Int32) : fX11_within p.toInt64 (0 : Int64) (9 : Int64) = some (bI (0 ≤ p ∧ p ≤ 9)) := within_i p 0 9
theorem w0999 (p : Int32) : fX11_within p.toInt64 (0 : Int64) (999 : Int64) = some (bI (0 ≤ p ∧ p ≤ 999)) := within_i p 0 999
theorem w19 (p : Int32) : fX11_within p.toInt64 (1 : Int64) (9 : Int64) = some (bI (1 ≤ p ∧ p ≤ 9)) := within_i p 1 9
theorem b01f {b : Int32} (h : b = 0 ∨ b = 1) : (if b = (0 : Int32) ∨ b = (1 : Int32) then some b else none) = some b := if_pos h
theorem mayBecome_m {wh : Nat} (h : wh ≤ 9) (v : Int32) : fX11_mayBecome (nI wh) v = some (bI (nI (lowN wh) ≤ v ∧ v ≤ nI (highN wh))) := by
  have hfin : wh = 0 ∨ wh = 1 ∨ wh = 2 ∨ wh = 3 ∨ wh = 4 ∨ wh = 5 ∨ wh = 6 ∨ wh = 7 ∨ wh = 8 ∨ wh = 9 := by omega
  unfold fX11_mayBecome
  rw [isCell_i, w03, w09, w1, w4, w0999, w19]
  simp only [Option.bind_some, b01f (bI_01 _)]
  rcases hfin with rfl | rfl | rfl | rfl | rfl | rfl | rfl | rfl | rfl | rfl
  · rw [if_pos (by decide)]; rfl
  · rw [if_neg (by decide), if_pos (by decide)]; rfl
  · rw [if_neg (by decide), if_neg (by decide), if_pos (by decide)]; rfl
  · rw [if_neg (by decide), if_neg (by decide), if_neg (by decide), if_pos (by decide)]; rfl
  · rw [if_neg (by decide), if_neg (by decide), if_neg (by decide), if_neg (by decide), if_pos (by decide)]; rfl
  · rw [if_neg (by decide), if_neg (by decide), if_neg (by decide), if_neg (by decide), if_neg (by decide), if_pos (by decide)]; rfl
  · rw [if_neg (by decide), if_neg (by decide), if_neg (by decide), if_neg (by decide), if_neg (by decide), if_neg (by decide), if_pos (by decide)]; rfl
  · rw [if_neg (by decide), if_neg (by decide), if_neg (by decide), if_neg (by decide), if_neg (by decide), if_neg (by decide), if_neg (by decide), if_pos (by decide)]; rfl
  · rw [if_neg (by decide), if_neg (by decide), if_neg (by decide), if_neg (by decide), if_neg (by decide), if_neg (by decide), if_neg (by decide), if_neg (by decide), if_pos (by decide)]; rfl
  · rw [if_neg (by decide), if_neg (by decide), if_neg (by decide), if_neg (by decide), if_neg (by decide), if_neg (by decide), if_neg (by decide), if_neg (by decide), if_neg (by decide), if_pos (by decide)]; rfl
theorem JC.add {x m x1 m1 : aH} {n dn al nm wh a b : Nat} (hd : dn ≤ al ∧ al ≤ 40) (h3 : ∀ j, j < al → ∃ nm wh a b : Nat, (validP n nm wh ∧ validV wh a ∧ validV wh b) ∧ (ri x 53 j = nI nm ∧ ri x 54 j = nI wh ∧ ri x 55 j = nI a ∧ ri x 56 j = nI b) ∧ (ri m 75 j = nI (placeN nm wh) ∧ ri m 76 j = nI a ∧ ri m 77 j = nI b)) (hp : validP n nm wh) (ha : validV wh a) (hb : validV wh b) (hx : addP x dn (nI nm) (nI wh) (nI a) (nI b) x1) (hm : becP m dn (placeN nm wh) (nI a) (nI b) m1) : JC x1 m1 n := by
  obtain ⟨x2, x3, x4, x5⟩ := hx
  obtain ⟨m2, m3, m4, m5, m6⟩ := hm
  have he : eN dn < 40 := by unfold eN; split <;> omega
  refine ⟨eN dn + 1, eN dn + 1, ⟨Nat.le_refl _, by omega⟩, ⟨x3.1, x3.2, m3.1, m3.2⟩, fun j hj => ?_⟩
  by_cases e : j = eN dn
  · subst e
    exact ⟨nm, wh, a, b, ⟨hp, ha, hb⟩, x5, m5⟩
  · have hjs : j + sN dn < al := by
      unfold eN at e hj
      unfold sN
      by_cases h : dn < 40
      · rw [if_pos h] at e hj ⊢; omega
      · rw [if_neg h] at e hj ⊢; omega
    obtain ⟨nm', wh', a', b', v1, v2, v3⟩ := h3 _ hjs
    have g1 := x4 j (by omega)
    have g2 := m4 j (by omega)
    exact ⟨nm', wh', a', b', v1, by rw [g1.1, g1.2.1, g1.2.2.1, g1.2.2.2]; exact v2, by rw [g2.1, g2.2.1, g2.2.2]; exact v3⟩
theorem JN.frx {x m x' : aH} {w : SEA} {t : STD} {R : List Nat} {F : List (Nat × Nat)} (h : JN x m w t) (k : Fr R F x x') (hR : ∀ a, a ∈ R → 46 < a) (hF : ∀ q, q ∈ F → 46 < q.1) : JN x' m w t := by
  obtain ⟨h1, ⟨h2, h3, h4⟩, h5⟩ := h
  have nF : ∀ q : Nat × Nat, q.1 ≤ 46 → q ∉ F := fun q hq z => by have := hF q z; omega
  exact ⟨h1, ⟨h2.fr k (fun a ha => by have := hR a ha; omega) (fun a ha => by have := hF a ha; omega), h3.fr k (fun z => by have := hR _ z; omega) (nF _ (by decide)) (nF _ (by decide)) (nF _ (by decide)), h4.fr k (fun a ha => nF _ (by have := ha.lt; dsimp only; omega))⟩, h5⟩
theorem op_mend {x m : aH} (hJ : JJ x m) (p1 p2 p3 : Int32) : OK2 (fX10_mend x p1 p2 p3) (fX11_mend m p1 p2 p3) PJ := by
  obtain ⟨w, t, hR⟩ := hJ
  have hN := hR.1.1
  have hn := hN.1.1.1
  rcases numbered hN p1 p2 with ⟨nm, wh, hp, rfl, rfl, h1, h2⟩ | ⟨h1, h2⟩
  · have hpl := place_lt hn hp
    have nn : ¬ nI (placeN nm wh) < 0 := lt0 (by omega)
    by_cases hv : nI (lowN wh) ≤ p3 ∧ p3 ≤ nI (highN wh)
    · obtain ⟨b, hb, rfl⟩ := (vlN p3).mp hv
      obtain ⟨a, ha, t1, t2⟩ := told_x hN hp
      have hab : a < 2147483648 ∧ b < 2147483648 := by
        have := high_lt wh
        have := ha.2
        have := hb.2
        omega
      have hx0 : fX10_mend x (nI nm) (nI wh) (nI b) = if nI a = nI b then some (nI a, x) else (fX1_add x (nI nm) (nI wh) (nI a) (nI b)).bind fun q43_7 => (fX10_tell q43_7 (nI nm) (nI wh) (nI b)).bind fun q50_8 => some (nI a, q50_8) := by
        unfold fX10_mend
        rw [h1]
        simp only [Option.bind_some]
        rw [if_neg n10, isWithin_x x (by have := hp.1; omega), bI_t hv]
        simp only [Option.bind_some]
        rw [if_neg n10, t1]
        rfl
      have hm0 : fX11_mend m (nI nm) (nI wh) (nI b) = (fX11_becomes m (nI (placeN nm wh)) (nI b)).bind fun q25_5 => some (q25_5.1, q25_5.2) := by
        unfold fX11_mend
        rw [h2]
        simp only [Option.bind_some]
        rw [if_neg nn, mayBecome_m hp.1, bI_t hv]
        simp only [Option.bind_some]
        rw [if_neg n10]
      rw [hx0, hm0]
      by_cases hab2 : nI a = nI b
      · rw [if_pos hab2]
        refine OK2.bad (v := nI a) hR rfl ?_
        unfold fX11_becomes
        have cp : (0 : Int32) ≤ nI (placeN nm wh) ∧ nI (placeN nm wh) < (172 : Int32) := inN (by omega) hpl
        rw [if_pos cp, ixN (by omega), t2, if_pos hab2]
        rfl
      · rw [if_neg hab2]
        obtain ⟨dn, al, hd, ⟨d1, d2, d3, d4⟩, h3⟩ := hR.2.1.2
        obtain ⟨x1, ex1, hx1⟩ := add_ch (nI nm) (nI wh) (nI a) (nI b) (show dn ≤ 40 by omega) d1
        obtain ⟨q, em1, hq1, hm1⟩ := bec_m (show dn ≤ 40 by omega) hpl d3 t2 hab2
        rw [ex1, em1]
        simp only [Option.bind_some]
        have hN1 : JN x1 m w t := hN.frx hx1.1 (by simp) (by simp)
        obtain ⟨y, ty, hNy, fy⟩ := tell2 hN1 hp hb
        rw [ty]
        have fxx : Fr [2, 3, 4, 5, 16, 53, 54, 55, 56] [(1, 4), (1, 5), (1, 6), (15, 6), (15, 7), (52, 4), (52, 5)] x y := (hx1.1.w (by simp <;> omega) (by simp <;> omega)).tr (fy.w (by simp <;> omega) (by simp <;> omega))
        have hC1 : JC x1 q.2 w.lost := JC.add hd h3 hp ha hb hx1 hm1
        have hCy : JC y q.2 w.lost := hC1.fr fy (Fr.rf [] [] q.2) (by simp) (by simp) (by simp) (by simp)
        obtain ⟨⟨-, hL⟩, ⟨hI, -⟩, hT, hA, hS⟩ := hR
        have fm := hm1.1
        have hNf : JN y q.2 (tellW w nm wh b) (tellS t nm wh b) := by
          obtain ⟨g1, g2, g3, g4⟩ := hNy
          have e74 := hm1.2.2.2.2
          have f6 : fi q.2 73 6 = fi (sri m 74 (placeN nm wh) (nI b)) 73 6 := fm.f (by simp)
          refine ⟨g1, g2, ?_, ?_⟩
          · unfold mSea at g3 ⊢
            rw [e74, f6]
            exact ⟨g3.1, g3.2.1, g3.2.2.1, g3.2.2.2.1, (hN.2.2.1.2.2.2.2.fr fm (by simp) (by simp))⟩
          · unfold mStd at g4 ⊢
            rw [e74]
            exact g4
        refine ⟨_, _, rfl, rfl, ⟨_, _, ⟨⟨hNf, hL.fr fxx fm (by simp) (by simp)⟩, ⟨hI.fr fxx fm (by simp) (by simp <;> omega) (by simp) (by simp), hCy⟩, hT.fr fxx fm (by simp) (by simp) (by simp) (by simp), hA.fr fxx fm (by simp) (by simp) (by simp) (by simp), hS.fr fxx fm (by simp <;> omega) (by simp) (by simp)⟩⟩, hq1.symm⟩
    · refine OK2.bad (v := -1) hR ?_ ?_
      · unfold fX10_mend
        rw [h1]
        simp only [Option.bind_some]
        rw [if_neg n10, isWithin_x x (by have := hp.1; omega), bI_f hv]
        rfl
      · unfold fX11_mend
        rw [h2]
        simp only [Option.bind_some]
        rw [if_neg nn, mayBecome_m hp.1, bI_f hv]
        rfl
  · refine OK2.bad (v := -1) hR ?_ ?_
    · unfold fX10_mend
      rw [h1]
      rfl
    · unfold fX11_mend
      rw [h2]
      rfl
