/-! ===== night, drawn ===== -/
def JLed (x m : aH) : Prop := ∀ k, k < 5 → ri x 17 k = ri m 89 k
abbrev NXr : List Nat := [13, 14, 16, 17, 18]
abbrev NXf : List (Nat × Nat) := [(15, 6), (15, 7)]
abbrev NMr : List Nat := [74, 80, 81, 82, 83, 89]
theorem w4 (p : Int32) : fX11_within p.toInt64 (0 : Int64) (4 : Int64) = some (bI (0 ≤ p ∧ p ≤ 4)) := within_i p 0 4
theorem isWay_x (x : aH) (p : Int32) : fX10_isWay x p = some (bI (0 ≤ p ∧ p < 4)) := by
  unfold fX10_isWay
  by_cases h1 : p < 0
  · rw [if_pos h1, bI_f (by grind)]
  · rw [if_neg h1]
    by_cases h2 : (4 : Int32) ≤ p
    · rw [if_pos h2, bI_f (by grind)]
    · rw [if_neg h2, bI_t (by grind)]
theorem night_back {m z : aH} {w : SEA} {u : STD} (hw : SOK w) (h6 : fi z 73 6 = nI w.lost) (hz : mScr z w.lost u) (he : ri z 74 = ri m 74) (h0 : ∀ i, w.lost ≤ i → i < 10 → ri m 74 (30 + i) = 0) : OK (wX11_night_25 2000 z 0) (fun y => Fr [74] [] z y ∧ (∀ i, i < w.lost → ri y 74 i = nI (u.cell i) ∧ ri y 74 (30 + i) = nI (u.home i)) ∧ (∀ k, 10 ≤ k → (k < 30 ∨ 30 + w.lost ≤ k) → ri y 74 k = ri m 74 k)) := by
  have hn := hw.1
  refine LOOPUP (fun n (st : aH) l => wX11_night_25 n st l) (fun ih st l => sX11_night_25 ih st l) (fun n => rfl) (fun j y => Fr [74] [] z y ∧ (∀ i, i < j → ri y 74 i = nI (u.cell i) ∧ ri y 74 (30 + i) = nI (u.home i)) ∧ (∀ k, 10 ≤ k → (k < 30 ∨ 30 + w.lost ≤ k) → ri y 74 k = ri m 74 k)) _ w.lost ?_ ?_ 2000 0 z (by omega) (by omega) ⟨Fr.rf _ _ _, fun i hi => by omega, fun k _ _ => by rw [he]⟩
  · intro j y hj hI ih hh
    obtain ⟨h1, h2, h3⟩ := hI
    unfold sX11_night_25
    refine OK.f (by rw [h1.f (by simp), h6, leN (by omega) (by omega)]; omega) (OK.t (in10 (by omega)) (OK.t (inN (by omega) (by omega)) (OK.t (in10 (by omega)) (OK.t (inAdd (by omega) (by omega)) ?_))))
    rw [nI_1, ixN (by omega), ixA (by omega), ri_sri_ne (show 82 ≠ 74 by decide), h1.r (show 81 ∉ [74] by simp), h1.r (show 82 ∉ [74] by simp), (hz.1 j hj).1, (hz.1 j hj).2]
    refine hh _ ⟨Fr.sri (Fr.sri h1 (by simp)) (by simp), fun i hi => ?_, fun k hk1 hk2 => ?_⟩
    · by_cases e : i = j
      · subst e
        constructor
        · rw [gr, if_neg (by omega), gr, if_pos ⟨rfl, rfl⟩]
        · rw [gr, if_pos ⟨rfl, rfl⟩]
      · constructor
        · rw [gr, if_neg (by omega), gr, if_neg (by omega)]; exact (h2 i (by omega)).1
        · rw [gr, if_neg (by omega), gr, if_neg (by omega)]; exact (h2 i (by omega)).2
    · rw [gr, if_neg (by omega), gr, if_neg (by omega)]; exact h3 k hk1 hk2
  · intro y hI ih
    unfold sX11_night_25
    exact OK.t (by rw [hI.1.f (by simp), h6, leN (by omega) (by omega)]; exact Nat.le_refl _) (OK.ret hI)
def NG (x m x' m' : aH) : Prop := Fr NXr NXf x x' ∧ Fr NMr MSf m m'
def nightQ (m : aH) (w : SEA) (t : STD) (j : Nat) (q : Int32 × aH) : Prop := q.1 = nI (cameF w t j) ∧ Fr NMr MSf m q.2 ∧ mStd q.2 w.lost (passF w t j) ∧ (∀ k, (10 ≤ k ∧ k < 30) ∨ (40 ≤ k ∧ k ≠ 169) → ri q.2 74 k = ri m 74 k) ∧ (ri q.2 89 0 = ri m 89 0 + 1 ∧ ri q.2 89 1 = ri m 89 1 + (if burnF w t j = true then 1 else 0) ∧ ri q.2 89 2 = ri m 89 2 + nI (nsum (stepF w t j) w.lost) ∧ ri q.2 89 3 = ri m 89 3 + nI (cameF w t j) ∧ ri q.2 89 4 = ri m 89 4)
theorem op_night {x m : aH} {w : SEA} {t : STD} (hJ : JN x m w t) (hL : JLed x m) (p1 : Int32) : OK2 (fX10_night x p1) (fX11_night m p1) (fun a b => (NG x m a.2 b.2 ∧ JLed a.2 b.2 ∧ ∃ t', JN a.2 b.2 w t') ∧ a.1 = b.1) := by
  by_cases hA : 0 ≤ p1 ∧ p1 ≤ 4
  · obtain ⟨j, hj, rfl⟩ := le_arg (N := 4) (by omega) rfl hA
    obtain ⟨⟨hw, ht⟩, ⟨hs, hv, hh⟩, hms, hmv⟩ := id hJ
    have hn := hw.1
    have hp := passF_ok (way := j) hw ht
    have ex : OK (fX10_night x (nI j)) (fun q => q.1 = nI (cameF w t j) ∧ passP 15 x q.2 w t j) := by
      have e : OK (jX10_night_13 x (nI j)) (fun q => q.1 = nI (cameF w t j) ∧ passP 15 x q.2 w t j) := by
        unfold jX10_night_13
        exact OK.bind (pass_x sd15 hw ht hs hv hj) (fun q hq => OK.ret hq)
      unfold fX10_night
      refine OK.i (fun _ => e) (fun c => OK.r (isWay_x x _) ?_)
      have : j < 4 := by rw [eqR (by omega) (by omega)] at c; omega
      rw [bI_t ⟨le0 (by omega), (ltR (by omega) (by omega)).mpr this⟩]
      exact OK.f n10 e
    have em : OK (fX11_night m (nI j)) (nightQ m w t j) := by
      unfold fX11_night
      refine OK.r ((w4 _).trans (by rw [bI_t hA])) (OK.f n10 (OK.bind (begins_m hn hms.2.2.2.1 hmv) (fun z hz => ?_)))
      obtain ⟨z1, z2⟩ := hz
      have hzs : mSea z w := hms.fr z2 (by simp) (by simp) (by simp) (by simp)
      refine OK.bind (goes_m hw ht hzs z1 hj) (fun y hy => ?_)
      obtain ⟨y1, y2, y3, y4, y5⟩ := hy
      have e74 : ri y 74 = ri m 74 := by rw [y2.r (by simp), z2.r (by simp)]
      refine OK.bind (night_back (m := m) hw (by rw [y2.f (by simp)]; exact hzs.2.2.2.1) y1 e74 hmv.2.2) (fun u hu => ?_)
      obtain ⟨u1, u2, u3⟩ := hu
      have f20 : fi u 73 20 = (if burnF w t j = true then 1 else 0) := by rw [u1.f (by simp), y3]
      have f21 : fi u 73 21 = nI (nsum (stepF w t j) w.lost) := by rw [u1.f (by simp), y4]
      have f22 : fi u 73 22 = nI (cameF w t j) := by rw [u1.f (by simp), y5]
      have f19 : fi u 73 19 = nI (passF w t j).oil := by rw [u1.f (by simp), y1.2]
      have e89 : ri u 89 = ri m 89 := by rw [u1.r (by simp), y2.r (by simp), z2.r (by simp)]
      have fr : Fr NMr MSf m u := (z2.w (by simp <;> omega) (by simp)).tr ((y2.w (by simp <;> omega) (by simp <;> omega)).tr (u1.w (by simp) (by simp)))
      simp only [gfr, f20, f19, ix_169, ix_0, ix_1]
      have fin : ∀ v : Int32, v = (if burnF w t j = true then 1 else 0) → OK (jX11_night_107 (sri (sri u 74 169 (nI (passF w t j).oil)) 89 0 (ri (sri u 74 169 (nI (passF w t j).oil)) 89 0 + 1)) 1 (ri (sri (sri u 74 169 (nI (passF w t j).oil)) 89 0 (ri (sri u 74 169 (nI (passF w t j).oil)) 89 0 + 1)) 89 1) v) (nightQ m w t j) := by
        intro v hvv
        unfold jX11_night_107 jX11_night_135
        refine OK.t (by decide) ?_
        simp only [gfr, f21, f22, ix_1, ix_2, ix_3]
        have k74 : ∀ k, ri (sri (sri (sri (sri (sri u 74 169 (nI (passF w t j).oil)) 89 0 (ri (sri u 74 169 (nI (passF w t j).oil)) 89 0 + 1)) 89 1 (ri (sri (sri u 74 169 (nI (passF w t j).oil)) 89 0 (ri (sri u 74 169 (nI (passF w t j).oil)) 89 0 + 1)) 89 1 + v)) 89 2 (ri (sri (sri (sri u 74 169 (nI (passF w t j).oil)) 89 0 (ri (sri u 74 169 (nI (passF w t j).oil)) 89 0 + 1)) 89 1 (ri (sri (sri u 74 169 (nI (passF w t j).oil)) 89 0 (ri (sri u 74 169 (nI (passF w t j).oil)) 89 0 + 1)) 89 1 + v)) 89 2 + nI (nsum (stepF w t j) w.lost))) 89 3 (ri (sri (sri (sri (sri u 74 169 (nI (passF w t j).oil)) 89 0 (ri (sri u 74 169 (nI (passF w t j).oil)) 89 0 + 1)) 89 1 (ri (sri (sri u 74 169 (nI (passF w t j).oil)) 89 0 (ri (sri u 74 169 (nI (passF w t j).oil)) 89 0 + 1)) 89 1 + v)) 89 2 (ri (sri (sri (sri u 74 169 (nI (passF w t j).oil)) 89 0 (ri (sri u 74 169 (nI (passF w t j).oil)) 89 0 + 1)) 89 1 (ri (sri (sri u 74 169 (nI (passF w t j).oil)) 89 0 (ri (sri u 74 169 (nI (passF w t j).oil)) 89 0 + 1)) 89 1 + v)) 89 2 + nI (nsum (stepF w t j) w.lost))) 89 3 + nI (cameF w t j))) 74 k = if k = 169 then nI (passF w t j).oil else ri u 74 k := by
          intro k
          simp [gr]
        refine OK.ret (And.intro rfl ⟨?_, ⟨fun i hi => ?_, ?_, fun i hi1 hi2 => ?_⟩, fun k hk => ?_, ?_, ?_, ?_, ?_, ?_⟩)
        · exact Fr.sri (Fr.sri (Fr.sri (Fr.sri (Fr.sri fr (by simp)) (by simp)) (by simp)) (by simp)) (by simp)
        · rw [k74, k74, if_neg (by omega), if_neg (by omega)]; exact u2 i hi
        · rw [k74, if_pos rfl]
        · rw [k74, if_neg (by omega), u3 _ (by omega) (by omega)]; exact hmv.2.2 i hi1 hi2
        · rw [k74, if_neg (by omega), u3 _ (by omega) (by omega)]
        · simp [gr, e89]
        · simp [gr, e89, hvv]
        · simp [gr, e89]
        · simp [gr, e89]
        · simp [gr, e89]
      by_cases hb : burnF w t j = true
      · rw [if_pos hb]
        exact OK.f n10 (fin 1 (by rw [if_pos hb]))
      · rw [if_neg hb]
        exact OK.t rfl (fin 0 (by rw [if_neg hb]))
    refine OK2.mk ex em (fun a b ha hb => ?_)
    obtain ⟨a1, a2, a3, a4⟩ := ha
    obtain ⟨b1, b2, b3, b4, b5⟩ := hb
    have fx : Fr NXr NXf x a.2 := a3.w (by simp <;> omega) (by simp)
    refine ⟨⟨⟨fx, b2⟩, fun k hk => ?_, passF w t j, ⟨hw, hp⟩, ⟨hs.fr fx (by simp) (by simp), a2, ?_⟩, ⟨fun c hc => ?_, fun i hi => ?_, ?_, ?_, hms.2.2.2.2.fr b2 (by simp) (by simp)⟩, b3⟩, by rw [a1, b1]⟩
    · obtain ⟨d0, d1, d2, d3, d4⟩ := a4
      obtain ⟨e0, e1, e2, e3, e4⟩ := b5
      match k, hk with
      | 0, _ => rw [d0, e0, hL 0 (by decide)]
      | 1, _ => rw [d1, e1, hL 1 (by decide)]
      | 2, _ => rw [d2, e2, hL 2 (by decide)]
      | 3, _ => rw [d3, e3, hL 3 (by decide)]
      | 4, _ => rw [d4, e4, hL 4 (by decide)]
    · exact hh.at fx ⟨_, a2.2.2.1, bsum_lt (fun i hi => (hp.1 i hi).2)⟩ (fun b hb _ => by simp; omega)
    · rw [b4 _ (by omega), b4 _ (by omega)]; exact hms.1 c hc
    · rw [b4 _ (by omega), b4 _ (by omega)]; exact hms.2.1 i hi
    · rw [b4 _ (by omega), b4 _ (by omega), b4 _ (by omega)]; exact hms.2.2.1
    · rw [b2.f (by simp)]; exact hms.2.2.2.1
  · have e : ¬ p1 = 4 := by grind
    refine OK2.eq (a := (-1, x)) (b := (-1, m)) ?_ (by simp [fX11_night, w4, bI_f hA]) ⟨⟨⟨Fr.rf _ _ _, Fr.rf _ _ _⟩, hL, t, hJ⟩, rfl⟩
    have hB : ¬ (0 ≤ p1 ∧ p1 < 4) := by grind
    simp [fX10_night, e, isWay_x, bI_f hB]
