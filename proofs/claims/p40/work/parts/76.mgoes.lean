/-! ===== a night of the reference: goesNight ===== -/
abbrev GF : List (Nat × Nat) := [(73, 11), (73, 12), (73, 13), (73, 14), (73, 15), (73, 21)]
def mI1 (m : aH) (w : SEA) (t : STD) (way i : Nat) (y : aH) : Prop := Fr [80, 83] GF m y ∧ (∀ j, j < i → ri y 83 j = nI (goalF w t way j)) ∧ fi y 73 21 = nI (nsum (stepF w t way) i)
theorem mI1.w {m y y' : aH} {w : SEA} {t : STD} {way i : Nat} (h : mI1 m w t way i y) (k : Fr [80] LF5 y y') : Fr [80, 83] GF m y' ∧ (∀ j, j < i → ri y' 83 j = nI (goalF w t way j)) ∧ fi y' 73 21 = nI (nsum (stepF w t way) i) :=
  ⟨h.1.tr (k.w (by simp) (by simp <;> omega)), fun j hj => by rw [k.r (by simp)]; exact h.2.1 j hj, by rw [k.f (by simp)]; exact h.2.2⟩
theorem goes_l1 {m : aH} {way : Nat} {w : SEA} {t : STD} (hw : SOK w) (ht : TOK w t) (hs : mSea m w) (hv : mScr m w.lost t) (hway : way ≤ 4) (hb : fi m 73 20 = if burnF w t way = true then 1 else 0) (h21 : fi m 73 21 = 0) : OK (wX11_goesNight_41 (nI way) 2000 m 0) (mI1 m w t way w.lost) := by
  obtain ⟨hn, hw2⟩ := id hw
  refine LOOPUP (fun n (st : aH) l => wX11_goesNight_41 (nI way) n st l) (fun ih st l => sX11_goesNight_41 (nI way) ih st l) (fun n => rfl) (mI1 m w t way) _ w.lost ?_ ?_ 2000 0 m (by omega) (by omega) ⟨Fr.rf _ _ _, fun j hj => by omega, h21⟩
  · intro i y hi hI ih hh
    have hc := (ht.1 i hi).1
    have h1 := (ht.1 i hi).2
    have c2 := in10 (show i < 10 by omega)
    -- the heap with the goal laid
    have hI' : mI1 m w t way i (sri y 83 (ix (nI i)) (ri y 81 (ix (nI i)))) := by
      refine ⟨Fr.sri hI.1 (by simp), fun j hj => ?_, hI.2.2⟩
      rw [ixN (by omega), gr, if_neg (by omega)]
      exact hI.2.1 j hj
    have e81 : ri (sri y 83 (ix (nI i)) (ri y 81 (ix (nI i)))) 81 (ix (nI i)) = nI (t.cell i) := by
      rw [ri_sri_ne (by decide), ixN (by omega), hI.1.r (by simp), (hv.1 i hi).1]
    have e82 : ri (sri y 83 (ix (nI i)) (ri y 81 (ix (nI i)))) 82 (ix (nI i)) = nI (t.home i) := by
      rw [ri_sri_ne (by decide), ixN (by omega), hI.1.r (by simp), (hv.1 i hi).2]
    have e83 : ri (sri y 83 (ix (nI i)) (ri y 81 (ix (nI i)))) 83 i = nI (t.cell i) := by
      rw [ixN (by omega), gr, if_pos ⟨rfl, rfl⟩, hI.1.r (by simp), (hv.1 i hi).1]
    try dsimp only
    unfold sX11_goesNight_41
    refine OK.f (by rw [hI.1.f (by simp), hs.2.2.2.1, leN (by omega) (by omega)]; omega) (OK.t c2 (OK.t c2 (OK.t c2 ?_)))
    generalize sri y 83 (ix (nI i)) (ri y 81 (ix (nI i))) = z at hI' e81 e82 e83 ⊢
    rw [e82]
    have hzs : mSea z w := hs.fr hI'.1 (by simp) (by simp) (by simp) (by simp)
    have hzv : mScr z w.lost t := hv.fr hI'.1 (by simp) (by simp) (by simp)
    have zb : fi z 73 20 = if burnF w t way = true then 1 else 0 := by rw [hI'.1.f (by simp)]; exact hb
    -- the end of the step for one who is not home
    have drift : ∀ z' : aH, Fr [80] LF5 z z' → t.home i = 0 → walkF w t way i = false → OK (jX11_goesNight_111 ih z' (nI way) (nI i)) (mI1 m w t way w.lost) := by
      intro z' hf h0 hwk
      obtain ⟨k1, k2, k3⟩ := hI'.w hf
      have hs2 : mSea z' w := hs.fr k1 (by simp) (by simp) (by simp) (by simp)
      have e : ri z' 81 (ix (nI i)) = nI (t.cell i) := by rw [hf.r (by simp)]; exact e81
      unfold jX11_goesNight_111 jX11_goesNight_112
      refine OK.t rfl (OK.t c2 ?_)
      rw [e]
      refine OK.r (driftsTo_m (hs2.1 _ hc).2 (hw2.1 _ hc).2 hc) ?_
      unfold jX11_goesNight_145 jX11_goesNight_160 jX11_goesNight_164
      refine OK.t c2 (OK.t rfl ?_)
      rw [nI_1]
      refine hh _ ⟨Fr.sfi (Fr.sri k1 (by simp)) (by simp), fun j hj => ?_, ?_⟩
      · rw [grf, ixN (by omega), gr]
        by_cases ej : j = i
        · rw [if_pos ⟨rfl, ej⟩, ej]
          unfold goalF
          rw [if_pos h0, hwk]
          rfl
        · rw [if_neg (fun q => ej q.2)]; exact k2 j (by omega)
      · rw [gf, if_pos ⟨rfl, rfl⟩, gfr, k3, Int32.add_zero]
        congr 1
        show _ = nsum (stepF w t way) i + stepF w t way i
        unfold stepF
        rw [hwk]
        rfl
    refine OK.i (fun c => ?_) (fun c => ?_)
    · have h0 : t.home i = 0 := by
        rw [eqR (by omega) (by omega)] at c
        exact c
      rw [zb]
      by_cases hbn : burnF w t way = true
      · rw [if_pos hbn]
        refine OK.f (by decide) (OK.t c2 ?_)
        rw [e81]
        refine OK.r (isSeen_m hzs.2.2.1.1 hw2.2.2.1 (burn_lt hway hbn) hc) ?_
        by_cases hlit : litF w.lamp way (t.cell i) = true
        · rw [if_pos hlit]
          refine OK.f (by decide) ?_
          refine OK.bind (draws_m hw ht hzs hzv hi) (fun q hq => ?_)
          obtain ⟨hq1, hq2⟩ := hq
          obtain ⟨k1, k2, k3⟩ := hI'.w hq2
          have hs3 : mSea q.2 w := hs.fr k1 (by simp) (by simp) (by simp) (by simp)
          rw [hq1, show ix (171 : Int32) = 171 from rfl, hs3.2.2.1.2.2]
          refine OK.i (fun c3 => ?_) (fun c3 => ?_)
          · refine drift q.2 hq2 h0 ?_
            unfold walkF
            rw [decide_eq_false (Int32.not_le.mpr c3), Bool.and_false]
          · have hwk : walkF w t way i = true := by
              unfold walkF
              rw [h0, hbn, hlit, decide_eq_true (Int32.not_lt.mp c3)]
              rfl
            have e : ri q.2 81 (ix (nI i)) = nI (t.cell i) := by rw [hq2.r (by simp)]; exact e81
            unfold jX11_goesNight_112
            refine OK.f (by decide) (OK.t c2 ?_)
            rw [e]
            refine OK.r (walksTo_m hs3.2.2.1.1 hw2.2.2.1 hc (litF_ne hlit)) ?_
            unfold jX11_goesNight_145 jX11_goesNight_160 jX11_goesNight_164
            refine OK.t c2 (OK.f (by decide) ?_)
            rw [nI_1]
            refine hh _ ⟨Fr.sfi (Fr.sri k1 (by simp)) (by simp), fun j hj => ?_, ?_⟩
            · rw [grf, ixN (by omega), gr]
              by_cases ej : j = i
              · rw [if_pos ⟨rfl, ej⟩, ej]
                unfold goalF
                rw [if_pos h0, if_pos hwk]
              · rw [if_neg (fun q => ej q.2)]; exact k2 j (by omega)
            · rw [gf, if_pos ⟨rfl, rfl⟩, gfr, k3, nI_1]
              congr 1
              show _ = nsum (stepF w t way) i + stepF w t way i
              unfold stepF
              rw [hwk]
              rfl
        · rw [if_neg hlit]
          refine OK.t rfl (drift z (Fr.rf _ _ _) h0 ?_)
          unfold walkF
          rw [Bool.not_eq_true] at hlit
          rw [hlit]
          simp
      · rw [if_neg hbn]
        refine OK.t rfl (drift z (Fr.rf _ _ _) h0 ?_)
        unfold walkF
        rw [Bool.not_eq_true] at hbn
        rw [hbn]
        simp
    · have h0 : t.home i = 1 := by
        rw [eqR (by omega) (by omega)] at c
        omega
      have hwk : walkF w t way i = false := by
        unfold walkF
        rw [h0]
        rfl
      unfold jX11_goesNight_164
      rw [nI_1]
      refine hh _ ⟨hI'.1, fun j hj => ?_, ?_⟩
      · by_cases ej : j = i
        · rw [ej, e83]
          unfold goalF
          rw [if_neg (by omega)]
        · exact hI'.2.1 j (by omega)
      · rw [hI'.2.2]
        congr 1
        show _ = nsum (stepF w t way) i + stepF w t way i
        unfold stepF
        rw [hwk]
        rfl
  · intro y hI ih
    try dsimp only
    unfold sX11_goesNight_41
    exact OK.t (by rw [hI.1.f (by simp), hs.2.2.2.1, leN (by omega) (by omega)]; exact Nat.le_refl _) (OK.ret hI)
def newF (w : SEA) (t : STD) (way i : Nat) : Nat := (passF w t way).home i - t.home i
theorem came_new {w : SEA} {t : STD} {way n : Nat} (h : ∀ i, i < n → t.home i ≤ (passF w t way).home i) : nsum (newF w t way) n + nsum t.home n = nsum (passF w t way).home n := by
  induction n with
  | zero => rfl
  | succ n ih =>
    have h1 := ih (fun i hi => h i (by omega))
    have h2 := h n (by omega)
    have e1 : nsum (newF w t way) (n + 1) = nsum (newF w t way) n + newF w t way n := rfl
    have e2 : nsum t.home (n + 1) = nsum t.home n + t.home n := rfl
    have e3 : nsum (passF w t way).home (n + 1) = nsum (passF w t way).home n + (passF w t way).home n := rfl
    have e4 : newF w t way n = (passF w t way).home n - t.home n := rfl
    omega
def mI2 (m : aH) (w : SEA) (t : STD) (way i : Nat) (y : aH) : Prop := Fr [81, 82] [(73, 22)] m y ∧ (∀ j, j < i → ri y 81 j = nI (goalF w t way j)) ∧ (∀ j, j < w.lost → ri y 82 j = nI (if j < i then (passF w t way).home j else t.home j)) ∧ fi y 73 22 = nI (nsum (newF w t way) i)
theorem goes_l2 {m : aH} {way : Nat} {w : SEA} {t : STD} (hw : SOK w) (ht : TOK w t) (hs : mSea m w) (hg : ∀ j, j < w.lost → ri m 83 j = nI (goalF w t way j)) (hh8 : ∀ j, j < w.lost → ri m 82 j = nI (t.home j)) (h22 : fi m 73 22 = 0) : OK (wX11_goesNight_172 2000 m 0) (mI2 m w t way w.lost) := by
  obtain ⟨hn, hw2⟩ := id hw
  refine LOOPUP (fun n (st : aH) l => wX11_goesNight_172 n st l) (fun ih st l => sX11_goesNight_172 ih st l) (fun n => rfl) (mI2 m w t way) _ w.lost ?_ ?_ 2000 0 m (by omega) (by omega) ⟨Fr.rf _ _ _, fun j hj => by omega, fun j hj => by rw [hh8 j hj, if_neg (by omega)], h22⟩
  · intro i y hi hI ih hh
    obtain ⟨k1, k2, k3, k4⟩ := hI
    have h1 := (ht.1 i hi).2
    have c2 := in10 (show i < 10 by omega)
    have hgl := goal_lt (way := way) hw ht hi
    have hple := pass_home_le (way := way) ht hi
    have php : (passF w t way).home i = if i < w.lost ∧ goalF w t way i = w.lamp then 1 else t.home i := rfl
    try dsimp only
    unfold sX11_goesNight_172
    refine OK.f (by rw [k1.f (by simp), hs.2.2.2.1, leN (by omega) (by omega)]; omega) (OK.t c2 (OK.t c2 (OK.t c2 ?_)))
    have eg : ri y 83 (ix (nI i)) = nI (goalF w t way i) := by rw [ixN (by omega), k1.r (by simp), hg i hi]
    rw [eg, ixN (by omega)]
    have z1 : Fr [81, 82] [(73, 22)] m (sri y 81 i (nI (goalF w t way i))) := Fr.sri k1 (by simp)
    have z2 : ∀ j, j < i + 1 → ri (sri y 81 i (nI (goalF w t way i))) 81 j = nI (goalF w t way j) := by
      intro j hj
      rw [gr]
      by_cases e : j = i
      · rw [if_pos ⟨rfl, e⟩, e]
      · rw [if_neg (fun z => e z.2)]; exact k2 j (by omega)
    have z3 : ∀ j, j < w.lost → ri (sri y 81 i (nI (goalF w t way i))) 82 j = nI (if j < i then (passF w t way).home j else t.home j) := by
      intro j hj
      rw [gr, if_neg (by omega)]; exact k3 j hj
    have z4 : fi (sri y 81 i (nI (goalF w t way i))) 73 22 = nI (nsum (newF w t way) i) := k4
    generalize sri y 81 i (nI (goalF w t way i)) = z at z1 z2 z3 z4 ⊢
    have zi : ri z 82 i = nI (t.home i) := by rw [z3 i hi, if_neg (by omega)]
    have e1 : nsum (newF w t way) (i + 1) = nsum (newF w t way) i + newF w t way i := rfl
    have e4 : newF w t way i = (passF w t way).home i - t.home i := rfl
    have same : (passF w t way).home i = t.home i → OK (jX11_goesNight_235 ih z (nI i)) (mI2 m w t way w.lost) := by
      intro he
      unfold jX11_goesNight_235
      rw [nI_1]
      refine hh _ ⟨z1, z2, fun j hj => ?_, ?_⟩
      · rw [z3 j hj]
        congr 1
        by_cases e : j < i
        · rw [if_pos e, if_pos (by omega)]
        · rw [if_neg e]
          by_cases e2 : j = i
          · subst e2; rw [if_pos (by omega), he]
          · rw [if_neg (by omega)]
      · rw [z4]; congr 1; omega
    rw [zi, z2 i (by omega), z1.r (show 74 ∉ [81, 82] by simp), show ix (168 : Int32) = 168 from rfl, hs.2.2.1.1]
    refine OK.i (fun c => ?_) (fun c => ?_)
    · rw [eqR (by omega) (by omega)] at c
      refine OK.t c2 (OK.i (fun c3 => ?_) (fun c3 => ?_))
      · rw [eqN (by omega) (by omega)] at c3
        refine OK.t c2 ?_
        unfold jX11_goesNight_235
        rw [nI_1]
        rw [if_pos ⟨hi, c3⟩] at php
        refine hh _ ⟨Fr.sfi (Fr.sri z1 (by simp)) (by simp), fun j hj => by rw [grf, gr, if_neg (by omega)]; exact z2 j hj, fun j hj => ?_, ?_⟩
        · rw [grf, gr]
          by_cases e2 : j = i
          · subst e2; rw [if_pos ⟨rfl, rfl⟩, if_pos (by omega), php]; rfl
          · rw [if_neg (fun q => e2 q.2), z3 j hj]
            congr 1
            by_cases e : j < i
            · rw [if_pos e, if_pos (by omega)]
            · rw [if_neg e, if_neg (by omega)]
        · rw [gf, if_pos ⟨rfl, rfl⟩, gfr, z4, nI_1]; congr 1; omega
      · rw [eqN (by omega) (by omega)] at c3
        exact same (by rw [php, if_neg (fun q => c3 q.2)])
    · rw [eqR (by omega) (by omega)] at c
      refine same ?_
      rw [php]
      split <;> omega
  · intro y hI ih
    try dsimp only
    unfold sX11_goesNight_172
    exact OK.t (by rw [hI.1.f (by simp), hs.2.2.2.1, leN (by omega) (by omega)]; exact Nat.le_refl _) (OK.ret hI)
abbrev GF2 : List (Nat × Nat) := [(73, 11), (73, 12), (73, 13), (73, 14), (73, 15), (73, 19), (73, 20), (73, 21), (73, 22)]
def goesP (m q : aH) (w : SEA) (t : STD) (way : Nat) : Prop := mScr q w.lost (passF w t way) ∧ Fr [80, 81, 82, 83] GF2 m q ∧ fi q 73 20 = (if burnF w t way = true then 1 else 0) ∧ fi q 73 21 = nI (nsum (stepF w t way) w.lost) ∧ fi q 73 22 = nI (cameF w t way)
theorem goes_m {m : aH} {way : Nat} {w : SEA} {t : STD} (hw : SOK w) (ht : TOK w t) (hs : mSea m w) (hv : mScr m w.lost t) (hway : way ≤ 4) : OK (fX11_goesNight m (nI way)) (fun q => goesP m q w t way) := by
  obtain ⟨hn, hw2⟩ := id hw
  have key : ∀ s1 : Int32, s1 = (if burnF w t way = true then 1 else 0) → OK (jX11_goesNight_26 m (nI way) s1) (fun q => goesP m q w t way) := by
    intro s1 hs1
    unfold jX11_goesNight_26
    refine OK.t (by rw [hs1]; split; exact Or.inr rfl; exact Or.inl rfl) ?_
    have zf : Fr [] [(73, 20), (73, 21), (73, 22)] m (sfi (sfi (sfi m 73 20 s1) 73 21 (0 : Int32)) 73 22 (0 : Int32)) := Fr.sfi (Fr.sfi (Fr.sfi (Fr.rf _ _ _) (by simp)) (by simp)) (by simp)
    have z20 : fi (sfi (sfi (sfi m 73 20 s1) 73 21 (0 : Int32)) 73 22 (0 : Int32)) 73 20 = s1 := by simp [gf]
    have z21 : fi (sfi (sfi (sfi m 73 20 s1) 73 21 (0 : Int32)) 73 22 (0 : Int32)) 73 21 = 0 := by simp [gf]
    have z22 : fi (sfi (sfi (sfi m 73 20 s1) 73 21 (0 : Int32)) 73 22 (0 : Int32)) 73 22 = 0 := by simp [gf]
    generalize sfi (sfi (sfi m 73 20 s1) 73 21 (0 : Int32)) 73 22 (0 : Int32) = z at zf z20 z21 z22 ⊢
    have hzs : mSea z w := hs.fr zf (by simp) (by simp) (by simp) (by simp)
    have hzv : mScr z w.lost t := hv.fr zf (by simp) (by simp) (by simp)
    refine OK.bind (goes_l1 hw ht hzs hzv hway (by rw [z20, hs1]) z21) (fun y hy => ?_)
    obtain ⟨y1, y2, y3⟩ := hy
    have hys : mSea y w := hzs.fr y1 (by simp) (by simp) (by simp) (by simp)
    refine OK.bind (goes_l2 hw ht hys y2 (fun j hj => by rw [y1.r (by simp)]; exact (hzv.1 j hj).2) (by rw [y1.f (by simp), z22])) (fun u hu => ?_)
    obtain ⟨u1, u2, u3, u4⟩ := hu
    have ub : fi u 73 20 = s1 := by rw [u1.f (by simp), y1.f (by simp), z20]
    have u19 : fi u 73 19 = nI t.oil := by rw [u1.f (by simp), y1.f (by simp)]; exact hzv.2
    have u21 : fi u 73 21 = nI (nsum (stepF w t way) w.lost) := by rw [u1.f (by simp), y3]
    have hle := came_new (w := w) (t := t) (way := way) (n := w.lost) (fun i hi => pass_home_le ht hi)
    have u22 : fi u 73 22 = nI (cameF w t way) := by
      rw [u4]
      congr 1
      unfold cameF
      omega
    have fin : ∀ v : Int32, v = nI (passF w t way).oil → goesP m (sfi u 73 19 v) w t way := by
      intro v hvv
      refine ⟨⟨fun i hi => ⟨?_, ?_⟩, ?_⟩, ?_, ?_, ?_, ?_⟩
      · rw [grf]; exact u2 i hi
      · rw [grf, u3 i hi, if_pos hi]
      · rw [gf, if_pos ⟨rfl, rfl⟩]; exact hvv
      · refine Fr.sfi ?_ (by simp)
        refine (zf.w (by simp) (by simp <;> omega)).tr ((y1.w (by simp <;> omega) (by simp <;> omega)).tr (u1.w (by simp <;> omega) (by simp)))
      · rw [gf, if_neg (by simp), ub, hs1]
      · rw [gf, if_neg (by simp), u21]
      · rw [gf, if_neg (by simp), u22]
    rw [ub, u19, show ix (170 : Int32) = 170 from rfl, u1.r (show 74 ∉ [81, 82] by simp), hys.2.2.1.2.1]
    by_cases hb : burnF w t way = true
    · rw [if_pos hb] at hs1
      refine OK.f (by rw [hs1]; decide) (OK.ret (fin _ ?_))
      have : w.burns ≤ t.oil := by
        unfold burnF at hb
        simp only [decide_eq_true_eq] at hb
        exact hb.2
      rw [subN this]
      congr 1
      show _ = t.oil - (if burnF w t way = true then w.burns else 0)
      rw [if_pos hb]
    · rw [if_neg hb] at hs1
      refine OK.t hs1 (OK.ret (fin _ ?_))
      rw [Int32.sub_zero]
      congr 1
      show _ = t.oil - (if burnF w t way = true then w.burns else 0)
      rw [if_neg hb]
      rfl
  have ho := ht.2
  unfold fX11_goesNight jX11_goesNight_25
  refine OK.i (fun c => ?_) (fun c => ?_)
  · refine key 0 ?_
    rw [if_neg]
    unfold burnF
    simp only [decide_eq_true_eq]
    rw [eqR (by omega) (by omega)] at c
    omega
  · rw [eqR (by omega) (by omega)] at c
    rw [hv.2, show ix (170 : Int32) = 170 from rfl, hs.2.2.1.2.1]
    refine OK.i (fun c3 => ?_) (fun c3 => ?_)
    · refine key 0 ?_
      rw [if_neg]
      unfold burnF
      simp only [decide_eq_true_eq]
      rw [ltN (by omega) (by omega)] at c3
      omega
    · refine key 1 ?_
      rw [if_pos]
      unfold burnF
      simp only [decide_eq_true_eq]
      rw [ltN (by omega) (by omega)] at c3
      omega
