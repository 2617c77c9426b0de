/-! ===== mend, of, undo, redo ===== -/
abbrev TLr : List Nat := [2, 3, 4, 5, 16]
abbrev TLf : List (Nat × Nat) := [(1, 4), (1, 5), (1, 6), (15, 6), (15, 7)]
theorem up_r {x : aH} {a k : Nat} {f : Nat → Nat} {v i : Nat} (h : ri x a i = nI (f i)) : ri (sri x a k (nI v)) a i = nI (va_up f k v i) := by
  rw [gr]
  by_cases e : i = k
  · subst e; rw [if_pos ⟨rfl, rfl⟩, va_up_self]
  · rw [if_neg (fun z => e z.2), va_up_ne _ _ e]; exact h
theorem xtell {x : aH} {w : SEA} {t : STD} {nm wh v : Nat} (hw : SOK w) (ht : TOK w t) (hs : vSea x w) (hvs : vStd x 15 w.lost t) (hh : scrH x w.lost) (hp : validP w.lost nm wh) (hv : validV wh v) : OK (fX10_tell x (nI nm) (nI wh) (nI v)) (fun y => (vSea y (tellW w nm wh v) ∧ vStd y 15 w.lost (tellS t nm wh v) ∧ scrH y w.lost) ∧ Fr TLr TLf x y) := by
  obtain ⟨v0, v1, v2, v3⟩ := hp
  have hn := hw.1
  have hfin : wh = 0 ∨ wh = 1 ∨ wh = 2 ∨ wh = 3 ∨ wh = 4 ∨ wh = 5 ∨ wh = 6 ∨ wh = 7 ∨ wh = 8 ∨ wh = 9 := by omega
  have hnm : nm < 64 := by
    by_cases h : wh ≤ 3
    · have := v1 h; omega
    · by_cases h2 : wh ≤ 5
      · exact v2 (by omega) h2
      · have := v3 (by omega); omega
  have c64 : (0 : Int32) ≤ nI nm ∧ nI nm < (64 : Int32) := inN (by omega) hnm
  have e : ix (nI nm) = nm := ixN (by omega)
  obtain ⟨s1, s2, s3, s4⟩ := id hs
  obtain ⟨u1, u2, u3, u4⟩ := id hvs
  have hh15 : ∀ y : aH, Fr TLr TLf x y → (∃ q, fi y 15 6 = nI q ∧ q < 2 ^ w.lost) → scrH y w.lost := fun y hf hq => hh.at hf hq (fun b hb hs => by have := hs.lt; simp; omega)
  have old6 := hh 15 sd15
  unfold fX10_tell
  rcases hfin with rfl | rfl | rfl | rfl | rfl | rfl | rfl | rfl | rfl | rfl
  · have h := v1 (by omega)
    have c := in10 (show nm < 10 by omega)
    rw [if_pos (by decide), if_pos c, e]
    have hf : Fr TLr TLf x (sri x 16 nm (nI v)) := Fr.sri (Fr.rf _ _ _) (by simp)
    exact OK.ret ⟨⟨⟨fun q hq => by simp [gr]; exact s1 q hq, fun i hi => by simp [gr]; exact s2 i hi, s3, s4.fr hf (by simp) (by simp) (by simp)⟩, ⟨u1, fun i hi => up_r (u2 i hi), u3, u4⟩, hh15 _ hf old6⟩, hf⟩
  · have h := v1 (by omega)
    have c := in10 (show nm < 10 by omega)
    rw [if_neg (by decide), if_pos (by decide), if_pos c, e]
    have hf : Fr TLr TLf x (sri x 4 nm (nI v)) := Fr.sri (Fr.rf _ _ _) (by simp)
    exact OK.ret ⟨⟨⟨fun q hq => by simp [gr]; exact s1 q hq, fun i hi => ⟨up_r (s2 i hi).1, by rw [gr, if_neg (by omega)]; exact (s2 i hi).2⟩, s3, s4.fr hf (by simp) (by simp) (by simp)⟩, ⟨u1, fun i hi => by rw [gr, if_neg (by omega)]; exact u2 i hi, u3, u4⟩, hh15 _ hf old6⟩, hf⟩
  · have h := v1 (by omega)
    have c := in10 (show nm < 10 by omega)
    rw [if_neg (by decide), if_neg (by decide), if_pos (by decide), if_pos c, e]
    have hf : Fr TLr TLf x (sri x 5 nm (nI v)) := Fr.sri (Fr.rf _ _ _) (by simp)
    exact OK.ret ⟨⟨⟨fun q hq => by simp [gr]; exact s1 q hq, fun i hi => ⟨by rw [gr, if_neg (by omega)]; exact (s2 i hi).1, up_r (s2 i hi).2⟩, s3, s4.fr hf (by simp) (by simp) (by simp)⟩, ⟨u1, fun i hi => by rw [gr, if_neg (by omega)]; exact u2 i hi, u3, u4⟩, hh15 _ hf old6⟩, hf⟩
  · have h := v1 (by omega)
    have hv1 : v ≤ 1 := hv.2
    have hb : ∀ i, i < w.lost → t.home i ≤ 1 := fun i hi => (ht.1 i hi).2
    rw [if_neg (by decide), if_neg (by decide), if_neg (by decide), if_pos (by decide)]
    have fin : ∀ s : Int32, s = nI v → OK (jX10_tell_106 x (nI nm) s) (fun y => (vSea y (tellW w nm 3 v) ∧ vStd y 15 w.lost (tellS t nm 3 v) ∧ scrH y w.lost) ∧ Fr TLr TLf x y) := by
      rintro s rfl
      unfold jX10_tell_106 fX8_setHome
      have key : ∀ g : Int32, g = nI (bsum (va_up t.home nm v) w.lost) → (vSea (sfi x 15 6 g) (tellW w nm 3 v) ∧ vStd (sfi x 15 6 g) 15 w.lost (tellS t nm 3 v) ∧ scrH (sfi x 15 6 g) w.lost) ∧ Fr TLr TLf x (sfi x 15 6 g) := by
        rintro g rfl
        have hf : Fr TLr TLf x (sfi x 15 6 (nI (bsum (va_up t.home nm v) w.lost))) := Fr.sfi (Fr.rf _ _ _) (by simp)
        refine ⟨⟨⟨s1, s2, by simp [gf]; exact s3, s4.fr hf (by simp) (by simp) (by simp)⟩, ⟨by simp [gf]; exact u1, u2, by simp [gf]; rfl, by simp [gf]; exact u4⟩, hh15 _ hf ⟨_, by rw [gf, if_pos ⟨rfl, rfl⟩], bsum_lt (fun i hi => ?_)⟩⟩, hf⟩
        have := up_lt (f := t.home) (k := nm) (v := v) (i := i) (b := 2) (by omega) (by have := hb i hi; omega)
        omega
      rcases (show v = 0 ∨ v = 1 by omega) with rfl | rfl
      · refine OK.bind (P := fun y => y = _) (OK.t rfl (OK.ret rfl)) (fun q hq => OK.ret ?_)
        subst hq
        exact key _ (by rw [u3, hb_clr hn hb h])
      · refine OK.bind (P := fun y => y = _) (OK.f (by decide) (OK.ret rfl)) (fun q hq => OK.ret ?_)
        subst hq
        exact key _ (by rw [u3, hb_set hn hb h])
    rcases (show v = 0 ∨ v = 1 by omega) with rfl | rfl
    · exact OK.f (by decide) (fin 0 rfl)
    · exact OK.t rfl (fin 1 rfl)
  · rw [if_neg (by decide), if_neg (by decide), if_neg (by decide), if_neg (by decide), if_pos (by decide), if_pos c64, e]
    have hf : Fr TLr TLf x (sri x 2 nm (nI v)) := Fr.sri (Fr.rf _ _ _) (by simp)
    exact OK.ret ⟨⟨⟨fun q hq => ⟨up_r (s1 q hq).1, by rw [gr, if_neg (by omega)]; exact (s1 q hq).2⟩, fun i hi => by simp [gr]; exact s2 i hi, s3, s4.fr hf (by simp) (by simp) (by simp)⟩, ⟨u1, fun i hi => by rw [gr, if_neg (by omega)]; exact u2 i hi, u3, u4⟩, hh15 _ hf old6⟩, hf⟩
  · rw [if_neg (by decide), if_neg (by decide), if_neg (by decide), if_neg (by decide), if_neg (by decide), if_pos (by decide), if_pos c64, e]
    have hf : Fr TLr TLf x (sri x 3 nm (nI v)) := Fr.sri (Fr.rf _ _ _) (by simp)
    exact OK.ret ⟨⟨⟨fun q hq => ⟨by rw [gr, if_neg (by omega)]; exact (s1 q hq).1, up_r (s1 q hq).2⟩, fun i hi => by simp [gr]; exact s2 i hi, s3, s4.fr hf (by simp) (by simp) (by simp)⟩, ⟨u1, fun i hi => by rw [gr, if_neg (by omega)]; exact u2 i hi, u3, u4⟩, hh15 _ hf old6⟩, hf⟩
  · have hf : Fr TLr TLf x (sfi x 1 4 (nI v)) := Fr.sfi (Fr.rf _ _ _) (by simp)
    exact OK.ret ⟨⟨⟨s1, s2, ⟨by simp [gf]; rfl, by simp [gf]; exact s3.2.1, by simp [gf]; exact s3.2.2⟩, s4.fr hf (by simp) (by simp) (by simp)⟩, ⟨by simp [gf]; exact u1, u2, by simp [gf]; exact u3, by simp [gf]; exact u4⟩, hh15 _ hf (by simp [gf]; exact old6)⟩, hf⟩
  · have hf : Fr TLr TLf x (sfi x 15 7 (nI v)) := Fr.sfi (Fr.rf _ _ _) (by simp)
    exact OK.ret ⟨⟨⟨s1, s2, by simp [gf]; exact s3, s4.fr hf (by simp) (by simp) (by simp)⟩, ⟨by simp [gf]; exact u1, u2, by simp [gf]; exact u3, by simp [gf]; rfl⟩, hh15 _ hf (by simp [gf]; exact old6)⟩, hf⟩
  · have hf : Fr TLr TLf x (sfi x 1 5 (nI v)) := Fr.sfi (Fr.rf _ _ _) (by simp)
    exact OK.ret ⟨⟨⟨s1, s2, ⟨by simp [gf]; exact s3.1, by simp [gf]; rfl, by simp [gf]; exact s3.2.2⟩, s4.fr hf (by simp) (by simp) (by simp)⟩, ⟨by simp [gf]; exact u1, u2, by simp [gf]; exact u3, by simp [gf]; exact u4⟩, hh15 _ hf (by simp [gf]; exact old6)⟩, hf⟩
  · have hf : Fr TLr TLf x (sfi x 1 6 (nI v)) := Fr.sfi (Fr.rf _ _ _) (by simp)
    exact OK.ret ⟨⟨⟨s1, s2, ⟨by simp [gf]; exact s3.1, by simp [gf]; exact s3.2.1, by simp [gf]; rfl⟩, s4.fr hf (by simp) (by simp) (by simp)⟩, ⟨by simp [gf]; exact u1, u2, by simp [gf]; exact u3, by simp [gf]; exact u4⟩, hh15 _ hf (by simp [gf]; exact old6)⟩, hf⟩
/-- both sides tell the same number -/
theorem tell2 {x m : aH} {w : SEA} {t : STD} {nm wh v : Nat} (hJ : JN x m w t) (hp : validP w.lost nm wh) (hv : validV wh v) : ∃ y, fX10_tell x (nI nm) (nI wh) (nI v) = some y ∧ JN y (sri m 74 (placeN nm wh) (nI v)) (tellW w nm wh v) (tellS t nm wh v) ∧ Fr TLr TLf x y := by
  obtain ⟨⟨hw, ht⟩, ⟨hs, hvs, hh⟩, hms, hmv⟩ := hJ
  obtain ⟨y, h1, h2, h3⟩ := xtell hw ht hs hvs hh hp hv
  obtain ⟨m1, m2⟩ := mtell (nm := nm) (wh := wh) (v := v) hw hms hmv hp
  exact ⟨y, h1, ⟨tell_ok hw ht hp hv, h2, m1, m2⟩, h3⟩
theorem place_lt {n nm wh : Nat} (hn : n ≤ 10) (hp : validP n nm wh) : placeN nm wh < 172 := by
  obtain ⟨v0, v1, v2, v3⟩ := hp
  unfold placeN
  by_cases h : wh ≤ 3
  · have := v1 h; rw [if_pos h]; omega
  · rw [if_neg h]
    by_cases h2 : wh ≤ 5
    · have := v2 (by omega) h2; rw [if_pos h2]; omega
    · rw [if_neg h2]; omega
/-! who may be told: numbers and whats -/
theorem w03 (p : Int32) : fX11_within p.toInt64 (0 : Int64) (3 : Int64) = some (bI (0 ≤ p ∧ p ≤ 3)) := within_i p 0 3
theorem w45 (p : Int32) : fX11_within p.toInt64 (4 : Int64) (5 : Int64) = some (bI (4 ≤ p ∧ p ≤ 5)) := within_i p 4 5
theorem w69 (p : Int32) : fX11_within p.toInt64 (6 : Int64) (9 : Int64) = some (bI (6 ≤ p ∧ p ≤ 9)) := within_i p 6 9
theorem numbered {x m : aH} {w : SEA} {t : STD} (hJ : JN x m w t) (p1 p2 : Int32) :
    (∃ nm wh, validP w.lost nm wh ∧ p1 = nI nm ∧ p2 = nI wh ∧ fX10_isNumbered x p1 p2 = some 1 ∧ fX11_placeOf m p1 p2 = some (nI (placeN nm wh))) ∨ (fX10_isNumbered x p1 p2 = some 0 ∧ fX11_placeOf m p1 p2 = some (-1)) := by
  have hn := hJ.1.1.1
  unfold fX10_isNumbered fX11_placeOf
  rw [w03, w45, w69, isCell_i]
  by_cases h03 : 0 ≤ p2 ∧ p2 ≤ 3
  · rw [bI_t h03, if_neg (Int32.not_lt.mpr h03.1), if_pos (by have := h03.2; grind : p2 ≤ 9), if_neg (by have := h03.2; grind)]
    simp only [Option.bind_some]
    rw [if_neg n10]
    rcases isLost2 hJ p1 with ⟨i, hi, rfl, l1, l2⟩ | ⟨-, l1, l2⟩
    · left
      obtain ⟨wh, hwh, rfl⟩ := le_arg (N := 3) (by omega) rfl h03
      refine ⟨i, wh, ⟨by omega, fun _ => hi, fun h => by omega, fun h => by omega⟩, rfl, rfl, ?_, ?_⟩
      · rw [l1]; rfl
      · rw [l2]
        simp only [Option.bind_some]
        rw [if_neg n10, mulL, addN]
        unfold placeN
        rw [if_pos hwh]
    · right
      rw [l1, l2]
      exact ⟨rfl, rfl⟩
  · rw [bI_f h03]
    simp only [Option.bind_some]
    rw [if_pos trivial]
    by_cases h45 : 4 ≤ p2 ∧ p2 ≤ 5
    · rw [bI_t h45, if_neg (by have := h45.1; grind), if_pos (by have := h45.2; grind : p2 ≤ 9), if_pos (by have := h45.1; grind : 3 < p2), if_neg (by have := h45.2; grind)]
      try simp only [Option.bind_some]
      rw [if_neg n10]
      by_cases hc : 0 ≤ p1 ∧ p1 ≤ 63
      · left
        obtain ⟨nm, hnm, rfl⟩ := le_arg (N := 63) (by omega) rfl hc
        obtain ⟨wh, hwh, rfl⟩ := le_arg (N := 5) (by omega) rfl ⟨(by have := h45.1; grind : (0 : Int32) ≤ p2), h45.2⟩
        have h4 : 4 ≤ wh := by
          have := h45.1
          rw [leL (by omega) (by omega)] at this
          exact this
        refine ⟨nm, wh, ⟨by omega, fun _ => by omega, fun _ _ => by omega, fun h => by omega⟩, rfl, rfl, ?_, ?_⟩
        · rw [if_neg (lt0 (by omega)), if_neg (by rw [leL (by omega) (by omega)]; omega)]
        · rw [bI_t hc, if_neg n10, subR h4, mulL, addL, addN]
          unfold placeN
          rw [if_neg (by omega), if_pos hwh]
      · right
        rw [bI_f hc]
        refine ⟨?_, rfl⟩
        by_cases h : p1 < 0
        · rw [if_pos h]
        · rw [if_neg h, if_pos (by grind)]
    · rw [bI_f h45]
      simp only [Option.bind_some]
      rw [if_pos trivial]
      by_cases h69 : 6 ≤ p2 ∧ p2 ≤ 9
      · rw [bI_t h69, if_neg (by have := h69.1; grind), if_pos h69.2, if_pos (by have := h69.1; grind : 3 < p2), if_pos (by have := h69.1; grind : 5 < p2)]
        by_cases hz : p1 = 0
        · left
          obtain ⟨wh, hwh, rfl⟩ := le_arg (N := 9) (by omega) rfl ⟨(by have := h69.1; grind : (0 : Int32) ≤ p2), h69.2⟩
          have h6 : 6 ≤ wh := by
            have := h69.1
            rw [leL (by omega) (by omega)] at this
            exact this
          refine ⟨0, wh, ⟨by omega, fun _ => by omega, fun _ _ => by omega, fun h => rfl⟩, hz, rfl, ?_, ?_⟩
          · rw [if_pos hz]
          · rw [if_pos hz]
            try simp only [Option.bind_some]
            rw [if_neg n10, addL, subR (by omega)]
            unfold placeN
            rw [if_neg (by omega), if_neg (by omega)]
            congr 2
            omega
        · right
          rw [if_neg hz, if_neg hz]
          exact ⟨rfl, rfl⟩
      · right
        constructor
        · by_cases h : p2 < 0
          · rw [if_pos h]
          · rw [if_neg h, if_neg (by grind)]
        · rw [bI_f h69]
          by_cases hz : p1 = 0
          · rw [if_pos hz]
            rfl
          · rw [if_neg hz]
theorem op_of {x m : aH} (hJ : JJ x m) (p1 p2 : Int32) : OK2 (fX10_of x p1 p2) (fX11_of m p1 p2) (fun a b => a = b) := by
  obtain ⟨w, t, hR⟩ := hJ
  have hN := hR.1.1
  have hn := hN.1.1.1
  unfold fX10_of fX11_of
  rcases numbered hN p1 p2 with ⟨nm, wh, hp, rfl, rfl, h1, h2⟩ | ⟨h1, h2⟩
  · obtain ⟨v, hv, t1, t2⟩ := told_x hN hp
    have hpl := place_lt hn hp
    have c : (0 : Int32) ≤ nI (placeN nm wh) ∧ nI (placeN nm wh) < (172 : Int32) := inN (by omega) hpl
    rw [h1, h2]
    simp only [Option.bind_some]
    rw [if_neg n10, t1, if_neg (lt0 (by omega)), if_pos c, ixN (by omega), t2]
    exact OK2.eq rfl rfl rfl
  · rw [h1, h2]
    exact OK2.eq rfl rfl rfl
