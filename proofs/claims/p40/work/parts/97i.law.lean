/-! ===== law ===== -/
theorem becomes_law {x : aH} {s : Nat} (hs : fi x 6 5 = nI s) (h8 : s ≤ 128) : ∃ y, fX3_become x = some y ∧ Fr [11, 12] [(10, 2)] x y ∧ fi y 10 2 = nI s ∧ ∀ i, i < s → ri y 11 i = ri x 8 i ∧ ri y 12 i = ri x 9 i := by
  have e1 : fi (sfi x 10 2 (fi x 6 5)) 10 2 = nI s := by rw [gf, if_pos ⟨rfl, rfl⟩]; exact hs
  have es : ix (nI s) = s := ixN (by omega)
  have c1 : ¬ (0 : Int32) < 0 ∧ ¬ (0 : Int32) < 0 ∧ ¬ nI s < 0 ∧ ix (0 : Int32) + ix (nI s) ≤ 128 ∧ ix (0 : Int32) + ix (nI s) ≤ 128 := ⟨by decide, by decide, lt0 (by omega), by rw [es, ix_0]; omega, by rw [es, ix_0]; omega⟩
  unfold fX3_become
  simp only [gfw, e1]
  rw [if_pos c1, if_pos c1]
  refine ⟨_, rfl, Fr.srow (Fr.srow (Fr.sfi (Fr.rf _ _ _) (by simp)) (by simp)) (by simp), ?_, fun i hi => ⟨?_, ?_⟩⟩
  · rw [gfw, gfw, e1]
  · rw [grw, if_neg (by simp), grw, if_pos rfl, pk_cpy_in (by rw [ix_0]; omega) (by rw [ix_0, es]; omega), ix_0, Nat.zero_add, Nat.sub_zero, grf]
  · rw [grw, if_pos rfl, pk_cpy_in (by rw [ix_0]; omega) (by rw [ix_0, es]; omega), ix_0, Nat.zero_add, Nat.sub_zero, grw, if_neg (by simp), grf]
def m0F (m : aH) (b : Int32) (L : Nat) : aH := sfi (sfi (sfi (sfi (sfi m 73 11 b) 73 12 (0 : Int32)) 73 13 (nI L)) 73 14 (-1 : Int32)) 73 15 (0 : Int32)
theorem m0_f (m : aH) (b : Int32) (L : Nat) : Fr [] LF5 m (m0F m b L) := Fr.sfi (Fr.sfi (Fr.sfi (Fr.sfi (Fr.sfi (Fr.rf _ _ _) (by simp)) (by simp)) (by simp)) (by simp)) (by simp)
theorem m0_p {g : Nat → Nat} {L : Nat} {m : aH} {b : Int32} (hL : L ≤ 120) (hg : ∀ i, i < L → g i < 256) (h : (b = -1 ∧ ∀ i, i < L → ri m 78 i = nI (g i)) ∨ (b = 0 ∧ ∀ i, i < L → ri m 79 i = nI (g i))) : MP g L (m0F m b L) 0 0 := by
  have e11 : fi (m0F m b L) 73 11 = b := by
    unfold m0F
    rw [gf, if_neg (by simp), gf, if_neg (by simp), gf, if_neg (by simp), gf, if_neg (by simp), gf, if_pos ⟨rfl, rfl⟩]
  have e12 : fi (m0F m b L) 73 12 = 0 := by
    unfold m0F
    rw [gf, if_neg (by simp), gf, if_neg (by simp), gf, if_neg (by simp), gf, if_pos ⟨rfl, rfl⟩]
  have e13 : fi (m0F m b L) 73 13 = nI L := by
    unfold m0F
    rw [gf, if_neg (by simp), gf, if_neg (by simp), gf, if_pos ⟨rfl, rfl⟩]
  have e14 : fi (m0F m b L) 73 14 = -1 := by
    unfold m0F
    rw [gf, if_neg (by simp), gf, if_pos ⟨rfl, rfl⟩]
  have e15 : fi (m0F m b L) 73 15 = 0 := by
    unfold m0F
    rw [gf, if_pos ⟨rfl, rfl⟩]
  exact ⟨⟨⟨Nat.zero_le _, hL, hg⟩, ⟨e13, e12⟩, by rw [e11]; exact h⟩, e14, e15⟩
theorem wo_m (m : aH) (b : Int32) (L : Nat) : fX11_workOut m b (nI L) = (wX11_workOut_33 2000 (m0F m b L) 0 0 1).bind fun q => if (0 : Int32) ≤ fi q.2 73 14 then some (q.1, q.2) else if fi q.2 73 13 ≤ fi q.2 73 12 then some (q.1, q.2) else (fX11_wrong q.2).bind fun u => some (u.1, u.2) := rfl
theorem PFm.lf5 {m m' : aH} (h : PFm m m') : Fr [] LF5 m m' := h.w (by simp) (by simp)
theorem wo_q {g : Nat → Nat} {L p : Nat} {m m' : aH} {b v : Int32} (h : wX11_workOut_33 2000 (m0F m b L) 0 0 1 = some (v, m')) (hf : PFm (m0F m b L) m') (hq : MQF g L m' p) : ∃ v' m2, fX11_workOut m b (nI L) = some (v', m2) ∧ Fr [] LF5 m m2 ∧ fi m2 73 14 = nI p := by
  refine ⟨v, m', ?_, (m0_f m b L).tr hf.lf5, hq.2⟩
  rw [wo_m, h]
  simp only [Option.bind_some]
  rw [if_pos hq.ge]
theorem wo_w {g : Nat → Nat} {L p : Nat} {m m' : aH} {b v : Int32} (h : wX11_workOut_33 2000 (m0F m b L) 0 0 1 = some (v, m')) (hf : PFm (m0F m b L) m') (hp : MP g L m' p 0) (hl : p < L) : ∃ v' m2, fX11_workOut m b (nI L) = some (v', m2) ∧ Fr [] LF5 m m2 ∧ fi m2 73 14 = nI p := by
  obtain ⟨m2, e1, e2, e3⟩ := wrong_p hp
  have := hp.1.1
  refine ⟨0, m2, ?_, (m0_f m b L).tr (PFm.lf5 (hf.tr e2)), e3.2⟩
  rw [wo_m, h]
  simp only [Option.bind_some]
  rw [if_neg hp.f, hp.1.2.1.1, hp.1.2.1.2, if_neg (by rw [leN (by omega) (by omega)]; omega), e1]
  rfl
theorem wo_g {g : Nat → Nat} {L : Nat} {m m' : aH} {b v : Int32} (h : wX11_workOut_33 2000 (m0F m b L) 0 0 1 = some (v, m')) (hf : PFm (m0F m b L) m') (hp : MP g L m' L 0) : fX11_workOut m b (nI L) = some (v, m') ∧ Fr [] LF5 m m' ∧ fi m' 73 14 = -1 := by
  have := hp.1.1
  refine ⟨?_, (m0_f m b L).tr hf.lf5, hp.2.1⟩
  rw [wo_m, h]
  simp only [Option.bind_some]
  rw [if_neg hp.f, hp.1.2.1.1, hp.1.2.1.2, if_pos (by rw [leN (by omega) (by omega)]; exact Nat.le_refl _)]
theorem copy_m {m : aH} {L : Nat} (hL : L ≤ 120) : OK (wX11_law_37 (nI L) 2000 m 0) (fun y => Fr [79] [] m y ∧ ∀ i, i < L → ri y 79 i = ri m 78 i) := by
  refine (LOOPUP (fun n (st : aH) l => wX11_law_37 (nI L) n st l) (fun ih st l => sX11_law_37 (nI L) ih st l) (fun n => rfl) (fun i y => Fr [79] [] m y ∧ ∀ j, j < i → ri y 79 j = ri m 78 j) _ L ?_ ?_ 2000 0 m (by omega) (by omega) ⟨Fr.rf _ _ _, fun j hj => absurd hj (Nat.not_lt_zero _)⟩)
  · rintro i y hi ⟨h1, h2⟩ ih hk
    have ci : (0 : Int32) ≤ nI i ∧ nI i < (120 : Int32) := inN (by omega) (by omega)
    unfold sX11_law_37
    rw [nI_1, ixN (by omega)]
    refine OK.f (by rw [leN (by omega) (by omega)]; omega) (OK.t ci (OK.t ci (hk _ ⟨Fr.sri h1 (by simp), fun j hj => ?_⟩)))
    by_cases e : j = i
    · subst e
      rw [gr, if_pos ⟨rfl, rfl⟩, h1.r (by simp)]
    · rw [gr, if_neg (fun z => e z.2)]
      exact h2 j (by omega)
  · rintro y h ih
    unfold sX11_law_37
    exact OK.t (by rw [leN (by omega) (by omega)]; exact Nat.le_refl _) (OK.ret h)
def lawW (w : SEA) (lf : (Nat → Int32) → Int32) : SEA := (w.lost, w.dp, w.df, w.pa, w.ow, w.lamp, w.burns, w.walks, lf)
theorem law_bad {x m x' m' : aH} {w : SEA} {t : STD} {p : Nat} {v : Int32} (hR : JR x m w t) (h1 : fX9_read x = some (0, x')) (h2 : PFx x x') (h3 : fi x' 6 2 = nI p) (h4 : fX11_workOut m (-1) (fi m 73 8) = some (v, m')) (h5 : Fr [] LF5 m m') (h6 : fi m' 73 14 = nI p) (hp : p < 1000) : OK2 (fX10_law x) (fX11_law m) PJ := by
  have kx : Fr [8, 9] [(6, 2), (6, 5), (6, 1)] x (sfi x' 6 1 0) := Fr.sfi (h2.w (by simp) (by simp)) (by simp)
  have km : Fr [] [(73, 11), (73, 12), (73, 13), (73, 14), (73, 15), (73, 8)] m (sfi m' 73 8 0) := Fr.sfi (h5.w (by simp) (by simp)) (by simp)
  have e14 : fi (sfi m' 73 8 0) 73 14 = nI p := by rw [gf, if_neg (by simp)]; exact h6
  refine OK2.eq (a := ((-100 : Int32) - nI p, sfi x' 6 1 0)) (b := ((-100 : Int32) - nI p, sfi m' 73 8 0)) ?_ ?_ ⟨⟨w, t, ?_⟩, rfl⟩
  · unfold fX10_law jX10_law_31
    rw [h1]
    simp only [Option.bind_some]
    rw [if_pos trivial, if_pos trivial, h3]
  · unfold fX11_law
    rw [h4]
    simp only [Option.bind_some]
    rw [e14, if_neg (lt0 (by omega))]
  · obtain ⟨⟨⟨hw, ⟨hs, hv, hh⟩, hms, hmv⟩, hl⟩, ⟨hi, hc⟩, ht, ha, hS⟩ := hR
    refine ⟨⟨⟨hw, ⟨hs.fr kx (by simp) (by simp), hv.fr kx (by simp) (by simp) (by simp) (by simp), hh.fr kx (fun a ha => by have := ha.lt; simp <;> omega)⟩, hms.fr km (by simp) (by simp) (by simp) (by simp), hmv.fr km (by simp)⟩, hl.fr kx km (by simp) (by simp)⟩, ⟨hi.fr kx km (by simp) (by simp) (by simp) (by simp), hc.fr kx km (by simp) (by simp) (by simp) (by simp)⟩, ⟨0, by omega, by rw [gf, if_pos ⟨rfl, rfl⟩]; rfl, by rw [gf, if_pos ⟨rfl, rfl⟩]; rfl, fun i hi => absurd hi (Nat.not_lt_zero _)⟩, ha.fr kx km (by simp) (by simp) (by simp) (by simp), hS.fr kx km (by simp) (by simp) (by simp)⟩
theorem op_law {x m : aH} (hJ : JJ x m) : OK2 (fX10_law x) (fX11_law m) PJ := by
  obtain ⟨w, t, hR⟩ := hJ
  obtain ⟨L, hL, hx1, hm8, hb⟩ := id hR.2.2.1
  obtain ⟨g, hg⟩ : ∃ g : Nat → Nat, ∀ i, i < L → g i < 256 ∧ ri x 7 i = nI (g i) ∧ ri m 78 i = nI (g i) := by
    refine ⟨fun i => ix (ri m 78 i), fun i hi => ?_⟩
    obtain ⟨b, b1, b2, b3⟩ := hb i hi
    have e : ix (ri m 78 i) = b := by rw [b3]; exact ixN (by omega)
    dsimp only
    rw [e]
    exact ⟨b1, b2, b3⟩
  have fx0 : PFx x (sfi (sfi x 6 2 0) 6 5 0) := Fr.sfi (Fr.sfi (Fr.rf _ _ _) (by simp)) (by simp)
  have hX : XP g L (sfi (sfi x 6 2 0) 6 5 0) 0 0 := ⟨⟨Nat.zero_le _, hL, Nat.le_refl _, fun i hi => (hg i hi).1⟩, ⟨(fx0.f (by simp)).trans hx1, fun i hi => by rw [fx0.r (by simp)]; exact (hg i hi).2.1⟩, by rw [gf, if_neg (by simp), gf, if_pos ⟨rfl, rfl⟩]; rfl, by rw [gf, if_pos ⟨rfl, rfl⟩]; rfl⟩
  have er : fX9_read x = ((fX9_readLine (sfi (sfi x 6 2 0) 6 5 0)).bind fun q => wX9_read_15 2000 q.2 q.1).bind fun q => if q.1 = (0 : Int32) then some ((0 : Int32), q.2) else if fi q.2 6 2 = fi q.2 6 1 then some ((1 : Int32), q.2) else some ((0 : Int32), q.2) := by
    rw [Option.bind_assoc]
    rfl
  have hM : MP g L (m0F m (-1) L) 0 0 := m0_p hL (fun i hi => (hg i hi).1) (Or.inl ⟨rfl, fun i hi => (hg i hi).2.2⟩)
  rcases lines_RES 120 2000 2000 (sfi (sfi x 6 2 0) 6 5 0) 0 0 (fun _ => none) hX (by omega) (by omega) (by omega) (PRG.nil _ _) with ⟨x', p', s', fd, b1, ⟨b2, b3, b4⟩, b5, b7⟩ | ⟨x', p', b1, ⟨b2, b3⟩, b7⟩
  · have hp' := b3.1
    rw [b1] at er
    simp only [Option.bind_some] at er
    rw [if_neg n10, b3.2.1.1, b3.2.2.1] at er
    by_cases hp : p' = L
    · subst hp
      rw [if_pos rfl] at er
      obtain ⟨m1, d1, d2, d3⟩ := b7 _ hM
      replace d1 : wX11_workOut_33 2000 (m0F m (-1) p') 0 0 1 = some ((fd (ri (m0F m (-1) p') 80)).getD 0, m1) := d1
      obtain ⟨d4, d5, d6⟩ := wo_g d1 d2 d3
      obtain ⟨y, y1, y2, y3, y4⟩ := becomes_law b3.2.2.2 (by omega)
      have e8 : fi m1 73 8 = nI p' := (d5.f (by simp)).trans hm8
      have f8 : Fr [] [(73, 8)] m1 (sfi m1 73 8 0) := Fr.sfi (Fr.rf _ _ _) (by simp)
      obtain ⟨m2, c1, c2, c3⟩ := copy_m (m := sfi m1 73 8 0) hL
      have r78 : ri (sfi m1 73 8 0) 78 = ri m 78 := (f8.r (by simp)).trans (d5.r (by simp))
      have kx : Fr [8, 9, 11, 12] [(6, 2), (6, 5), (10, 2), (6, 1)] x (sfi y 6 1 0) := Fr.sfi (((fx0.tr b2).w (by simp) (by simp)).tr (y2.w (by simp) (by simp))) (by simp)
      have km : Fr [79] [(73, 11), (73, 12), (73, 13), (73, 14), (73, 15), (73, 8), (73, 10)] m (sfi m2 73 10 (nI p')) := Fr.sfi (((d5.w (by simp) (by simp)).tr (f8.w (by simp) (by simp))).tr (c2.w (by simp) (by simp))) (by simp)
      have hlf : LFC (fun f => (fd f).getD 0) := fun f f' e => by
        dsimp only
        rw [b5.1 f f' e]
      refine OK2.eq (a := ((1 : Int32), sfi y 6 1 0)) (b := ((1 : Int32), sfi m2 73 10 (nI p'))) ?_ ?_ ⟨⟨lawW w (fun f => (fd f).getD 0), t, ?_⟩, rfl⟩
      · unfold fX10_law jX10_law_31
        rw [er]
        simp only [Option.bind_some]
        rw [if_neg n10, y1]
        simp only [Option.bind_some]
        rw [if_neg n10]
      · unfold fX11_law
        rw [hm8, d4]
        simp only [Option.bind_some]
        rw [show fi (sfi m1 73 8 0) 73 14 = -1 from (f8.f (by simp)).trans d6, if_pos (by decide), e8, c1]
        rfl
      · obtain ⟨⟨⟨⟨hw, hto⟩, ⟨hs, hv, hh⟩, hms, hmv⟩, hl⟩, ⟨hi, hc⟩, ht, ha, hS⟩ := hR
        obtain ⟨a1, a2, ⟨a3, a4, a5⟩, -⟩ := hs
        obtain ⟨q1, q2, ⟨q3, q4, q5⟩, q6, -⟩ := hms
        have vl : vLaw (sfi y 6 1 0) (fun f => (fd f).getD 0) := by
          refine ⟨hlf, fun z z1 z2 z3 => ?_⟩
          exact PRG.fin b5 b4 (by omega) (z3.trans (by rw [gf, if_neg (by simp)]; exact y3)) (fun i hi => by rw [z1, z2, grf, grf]; exact y4 i hi)
        have ml : mLaw (sfi m2 73 10 (nI p')) (fun f => (fd f).getD 0) := by
          have e10 : fi (sfi m2 73 10 (nI p')) 73 10 = nI p' := by rw [gf, if_pos ⟨rfl, rfl⟩]
          refine ⟨hlf, Or.inr ⟨by rw [e10]; exact lt0 (by omega), fun z z1 z2 => ?_⟩⟩
          rw [z2, e10]
          have hZ : MP g p' (m0F z 0 p') 0 0 := m0_p hL (fun i hi => (hg i hi).1) (Or.inr ⟨rfl, fun i hi => by rw [z1, grf, c3 i hi, r78]; exact (hg i hi).2.2⟩)
          obtain ⟨n1, k1, k2, k3⟩ := b7 _ hZ
          replace k1 : wX11_workOut_33 2000 (m0F z 0 p') 0 0 1 = some ((fd (ri (m0F z 0 p') 80)).getD 0, n1) := k1
          obtain ⟨k4, k5, k6⟩ := wo_g k1 k2 k3
          rw [k4]
          exact OK.ret ⟨by rw [(m0_f z 0 p').r (by simp)], k5⟩
        refine ⟨⟨⟨⟨hw, hto⟩, ⟨⟨?_, ?_, ⟨(kx.f (by simp)).trans a3, (kx.f (by simp)).trans a4, (kx.f (by simp)).trans a5⟩, vl⟩, hv.fr kx (by simp) (by simp) (by simp) (by simp), hh.fr kx (fun a ha => by have := ha.lt; simp <;> omega)⟩, ⟨?_, ?_, ⟨?_, ?_, ?_⟩, (km.f (by simp)).trans q6, ml⟩, hmv.fr km (by simp)⟩, hl.fr kx km (by simp) (by simp)⟩, ⟨hi.fr kx km (by simp) (by simp) (by simp) (by simp), hc.fr kx km (by simp) (by simp) (by simp) (by simp)⟩, ⟨0, by omega, by rw [gf, if_pos ⟨rfl, rfl⟩]; rfl, ?_, fun i hi => absurd hi (Nat.not_lt_zero _)⟩, ha.fr kx km (by simp) (by simp) (by simp) (by simp), hS.fr kx km (by simp) (by simp) (by simp)⟩
        · rw [kx.r (by simp), kx.r (by simp)]; exact a1
        · rw [kx.r (by simp), kx.r (by simp)]; exact a2
        · rw [km.r (by simp)]; exact q1
        · rw [km.r (by simp)]; exact q2
        · rw [km.r (by simp)]; exact q3
        · rw [km.r (by simp)]; exact q4
        · rw [km.r (by simp)]; exact q5
        · rw [gf, if_neg (by simp), c2.f (by simp), gf, if_pos ⟨rfl, rfl⟩]; rfl
    · rw [if_neg (by rw [eqN (by omega) (by omega)]; exact hp)] at er
      obtain ⟨m1, d1, d2, d3⟩ := b7 _ hM
      replace d1 : wX11_workOut_33 2000 (m0F m (-1) L) 0 0 1 = some ((fd (ri (m0F m (-1) L) 80)).getD 0, m1) := d1
      obtain ⟨v, m2, d4, d5, d6⟩ := wo_w d1 d2 d3 (by omega)
      exact law_bad hR er (fx0.tr b2) b3.2.2.1 (by rw [hm8]; exact d4) d5 d6 (by omega)
  · rw [b1] at er
    simp only [Option.bind_some] at er
    rw [if_pos trivial] at er
    obtain ⟨m1, v, d1, d2, d3⟩ := b7 _ hM
    replace d1 : wX11_workOut_33 2000 (m0F m (-1) L) 0 0 1 = some (v, m1) := d1
    obtain ⟨v', m2, d4, d5, d6⟩ := wo_q d1 d2 d3
    have := b3.1
    exact law_bad hR er (fx0.tr b2) b3.2.1 (by rw [hm8]; exact d4) d5 d6 (by omega)
