/-! ===== nights one behind another: later, home, since ===== -/
def runF (w : SEA) (t : STD) (f : Nat → Nat) : Nat → STD
  | 0 => t
  | k + 1 => passF w (runF w t f k) (f k)
theorem runF_ok {w : SEA} {t : STD} {f : Nat → Nat} (hw : SOK w) (ht : TOK w t) : ∀ k, TOK w (runF w t f k)
  | 0 => ht
  | k + 1 => passF_ok hw (runF_ok hw ht k)
/-- the leading nights of a row -/
theorem lead_ex (g : Nat → Prop) (lim : Nat) : ∃ c, c ≤ lim ∧ (∀ j, j < c → g j) ∧ (c < lim → ¬ g c) := by
  induction lim with
  | zero => exact ⟨0, Nat.le_refl _, fun j hj => by omega, fun h => by omega⟩
  | succ n ih =>
    obtain ⟨c, h1, h2, h3⟩ := ih
    by_cases hc : c < n
    · exact ⟨c, by omega, h2, fun _ => h3 hc⟩
    · have e : c = n := by omega
      subst e
      by_cases hg : g c
      · exact ⟨c + 1, by omega, fun j hj => by
          by_cases e : j = c
          · subst e; exact hg
          · exact h2 j (by omega), fun h => by omega⟩
      · exact ⟨c, by omega, h2, fun _ => hg⟩
/-- the nights of the row on SHELF d: c of them, f their ways -/
def nightsAt (m : aH) (d n c : Nat) (f : Nat → Nat) : Prop := (c ≤ 40 ∧ c ≤ n) ∧ (∀ j, j < c → f j ≤ 4 ∧ rj m 96 (60 * d + j) = (nI (f j)).toInt64) ∧ (c < 40 → c < n → ¬ ((0 : Int64) ≤ rj m 96 (60 * d + c) ∧ rj m 96 (60 * d + c) ≤ 4))
theorem nights_ex {x m : aH} {d n : Nat} (h : shR x m d 0 n) : ∃ c f, nightsAt m d n c f := by
  obtain ⟨⟨hs, hn⟩, h1, h2, h6⟩ := h
  obtain ⟨c, c1, c2, c3⟩ := lead_ex (fun j => (0 : Int64) ≤ rj m 96 (60 * d + j) ∧ rj m 96 (60 * d + j) ≤ 4) (if n < 40 then n else 40)
  have key : ∀ j, j < c → ∃ v : Nat, v ≤ 4 ∧ rj m 96 (60 * d + j) = (nI v).toInt64 := by
    intro j hj
    have hjn : j < n := by split at c1 <;> omega
    obtain ⟨v, hv⟩ := (h6 j hjn).2 rfl
    have hg := c2 j hj
    try dsimp only at hg
    rw [hv, show (0 : Int64) = (0 : Int32).toInt64 from rfl, show (4 : Int64) = (4 : Int32).toInt64 from rfl, tl_le, tl_le] at hg
    obtain ⟨k, hk, rfl⟩ := (in_range v 5 (by omega)).mp ⟨hg.1, by have h4 := hg.2; show v < (5 : Int32); grind⟩
    exact ⟨k, by omega, hv⟩
  refine ⟨c, fun j => if hj : j < c then Classical.choose (key j hj) else 0, ⟨by split at c1 <;> omega, by split at c1 <;> omega⟩, fun j hj => ?_, fun h40 hcn => c3 (by split <;> omega)⟩
  simp only [dif_pos hj]
  exact Classical.choose_spec (key j hj)
theorem ti_tl (v : Int32) : v.toInt64.toInt32 = v := by simp
theorem number_x {x m : aH} {d s n k : Nat} (h : shR x m d s n) (hk : k < n) : fX7_number x (61 + 2 * d) (nI k) = some (rj m 96 (60 * d + k)).toInt32 := by
  have hn := h.1.2
  unfold fX7_number
  have c : (0 : Int32) ≤ nI k ∧ nI k < (60 : Int32) := inN (by omega) (by omega)
  rw [if_pos c, ixN (by omega), (h.2.2.2 k hk).1]
theorem isNight_x {x m : aH} {d n c k : Nat} {f : Nat → Nat} (h : shR x m d 0 n) (hN : nightsAt m d n c f) (hk : k ≤ c) (hk4 : k < 40) : fX6_isNight x (61 + 2 * d) (nI k) = some (if k < c then 1 else 0) := by
  have hn := h.1.2
  unfold fX6_isNight
  rw [h.2.1.2.1]
  by_cases hkn : n ≤ k
  · rw [if_pos (by rw [leN (by omega) (by omega)]; exact hkn), if_neg (by have := hN.1.2; omega)]
  · rw [if_neg (by rw [leN (by omega) (by omega)]; exact hkn), number_x h (by omega)]
    simp only [Option.bind_some]
    by_cases hkc : k < c
    · rw [(hN.2.1 k hkc).2, ti_tl, if_neg (lt0 (by have := (hN.2.1 k hkc).1; omega)), if_neg (by rw [ltL (by omega) (by have := (hN.2.1 k hkc).1; omega)]; have := (hN.2.1 k hkc).1; omega), if_pos hkc]
    · have e : k = c := by omega
      subst e
      obtain ⟨v, hv⟩ := (h.2.2.2 k (by omega)).2 rfl
      have hg := hN.2.2 hk4 (by omega)
      rw [hv, show (0 : Int64) = (0 : Int32).toInt64 from rfl, show (4 : Int64) = (4 : Int32).toInt64 from rfl, tl_le, tl_le] at hg
      rw [hv, ti_tl, if_neg (Nat.lt_irrefl k)]
      by_cases h0 : v < 0
      · rw [if_pos h0]
      · rw [if_neg h0, if_pos (by grind)]
theorem nightMany_m {x m : aH} {d n c : Nat} {f : Nat → Nat} (hd : d < 6) (h : shR x m d 0 n) (hN : nightsAt m d n c f) {y : aH} (e95 : ri y 95 = ri m 95) (ej : rj y = rj m) : fX11_nightMany y (nI d) = some (nI c) := by
  have hn := h.1.2
  have hc40 := hN.1.1
  have c6 : (0 : Int32) ≤ nI d ∧ nI d < (6 : Int32) := inN (by omega) hd
  unfold fX11_nightMany
  refine OK.eq (OK.bind (P := fun r => r = nI c) ?_ (fun q hq => OK.ret hq))
  refine LOOPUP (fun n (_ : Unit) l => wX11_nightMany_2 y (nI d) n l) (fun ih _ l => sX11_nightMany_2 y (nI d) (ih ()) l) (fun n => rfl) (fun _ _ => True) _ c ?_ ?_ 2000 0 () (by omega) (by omega) trivial
  · intro i _ hi _ ih hh
    unfold sX11_nightMany_2
    have hj := hN.2.1 i hi
    refine OK.f (by rw [leL (by omega) (by omega)]; omega) (OK.t c6 ?_)
    rw [ixN (by omega), e95, h.2.2.1.2, addR, mulL, addN, ixN (by omega), ej, hj.2]
    refine OK.f (by rw [leN (by omega) (by omega)]; have := hN.1.2; omega) (OK.t (inN (by omega) (by have := hN.1.2; omega)) ?_)
    refine OK.r (within_i (nI (f i)) 0 4) ?_
    rw [bI_t ⟨le0 (by omega), (leR (by omega) (by omega)).mpr hj.1⟩]
    refine OK.f n10 (hh () trivial)
  · intro _ _ ih
    unfold sX11_nightMany_2
    by_cases h40 : c = 40
    · exact OK.t (by rw [leL (by omega) (by omega)]; omega) (OK.ret rfl)
    · refine OK.f (by rw [leL (by omega) (by omega)]; omega) (OK.t c6 ?_)
      rw [ixN (by omega), e95, h.2.2.1.2, mulL, addN, ixN (by omega), ej]
      by_cases hcn : c = n
      · exact OK.t (by rw [leN (by omega) (by omega)]; omega) (OK.ret rfl)
      · have := hN.1.2
        refine OK.f (by rw [leN (by omega) (by omega)]; omega) (OK.t (inN (by omega) (by omega)) ?_)
        refine OK.r (within_l _ 0 4) ?_
        rw [bI_f (hN.2.2 (by omega) (by omega))]
        exact OK.t rfl (OK.ret rfl)
theorem SD.far {a p : Nat} (ha : SD a) (hp : SD p) (h : a ≠ p) : a + 4 ≤ p ∨ p + 4 ≤ a := by unfold SD at ha hp; omega
theorem shr_n {h q : Nat} (hh : h < 1024) (hq : q ≤ 10) : (nI h >>> (nI q &&& 31)) <<< (nI q &&& 31) = nI (h / 2 ^ q * 2 ^ q) := by
  rw [pk_shrN (by omega) _ q (s_l q (by omega)), pk_shlN _ q (s_l q (by omega)) (Nat.lt_of_le_of_lt (Nat.div_mul_le_self h (2 ^ q)) (by omega))]
def layP (x : aH) (a p q : Nat) (v : Int32) (y : aH) : Prop := Fr [a + 1, a + 2] [(a, 6), (a, 7)] x y ∧ fi y a 6 = v ∧ fi y a 7 = fi x p 7 ∧ (∀ j, ri y (a + 1) j = if j < q then ri x (p + 1) j else ri x (a + 1) j) ∧ (∀ j, ri y (a + 2) j = if j < 5 then ri x (p + 2) j else ri x (a + 2) j)
theorem layBack_x {x : aH} {a p q h g : Nat} (ha : SD a) (hp : SD p) (hne : a ≠ p) (h6 : fi x a 6 = nI h) (hh : h < 1024) (h5 : fi x p 5 = nI q) (hq : q ≤ 10) (hg : fi x p 6 = nI g) : OK (fX8_layBack x a p) (layP x a p q (nI (h / 2 ^ q * 2 ^ q ||| g))) := by
  have hf := ha.far hp hne
  have hal := ha.lt
  have hpl := hp.lt
  unfold fX8_layBack jX8_layBack_50
  rw [h6, h5, hg, shr_n hh hq, fa_or]
  generalize nI (h / 2 ^ q * 2 ^ q ||| g) = v
  have e5 : ∀ u, fi (sfi (sfi x a 6 v) a 7 u) p 5 = nI q := fun u => by rw [gf, if_neg (by omega), gf, if_neg (by omega), h5]
  have eo : fi (sfi x a 6 v) p 7 = fi x p 7 := by rw [gf, if_neg (by omega)]
  rw [e5, eo, ixN (by omega), ix_0, ix_5]
  refine OK.t ⟨by decide, by decide, lt0 (by omega), by omega, by omega⟩ (OK.t ⟨by decide, by decide, by decide, by omega, by omega⟩ (OK.ret ⟨?_, ?_, ?_, ?_, ?_⟩))
  · exact Fr.srow (Fr.srow (Fr.sfi (Fr.sfi (Fr.rf _ _ _) (by simp)) (by simp)) (by simp)) (by simp)
  · rw [gfw, gfw, gf, if_neg (by omega), gf, if_pos ⟨rfl, rfl⟩]
  · rw [gfw, gfw, gf, if_pos ⟨rfl, rfl⟩]
  · intro j
    rw [grw, if_neg (by omega), grw, if_pos rfl]
    by_cases hj : j < q
    · rw [pk_cpy_in (by omega) (by omega), if_pos hj, grf, grf]
      congr 1
      omega
    · rw [pk_cpy_out (by omega), if_neg hj, grf, grf]
  · intro j
    rw [grw, if_pos rfl]
    by_cases hj : j < 5
    · rw [pk_cpy_in (by omega) (by omega), if_pos hj, grw, if_neg (by omega), grf, grf]
      congr 1
      omega
    · rw [pk_cpy_out (by omega), if_neg hj, grw, if_neg (by omega), grf, grf]
def scrH (x : aH) (n : Nat) : Prop := ∀ a, SD a → ∃ h, fi x a 6 = nI h ∧ h < 2 ^ n
theorem pow10 {n : Nat} (h : n ≤ 10) : 2 ^ n ≤ 1024 := Nat.pow_le_pow_right (n := 2) (by decide) h
theorem become_x {x : aH} {a p n : Nat} {t : STD} (ha : SD a) (hp : SD p) (hne : a ≠ p) (hn : n ≤ 10) (hh : ∃ h, fi x a 6 = nI h ∧ h < 2 ^ n) (hv : vStd x p n t) : OK (fX8_become x a p) (fun y => vStd y a n t ∧ Fr [a + 1, a + 2] [(a, 5), (a, 6), (a, 7)] x y ∧ ∀ j, j < 5 → ri y (a + 2) j = ri x (p + 2) j) := by
  obtain ⟨h, h1, h2⟩ := hh
  have h3 := pow10 hn
  have hf := ha.far hp hne
  unfold fX8_become
  rw [hv.1]
  refine OK.bind (layBack_x (q := n) (g := bsum t.home n) ha hp hne (by rw [gf, if_neg (by omega), h1]) (by omega) (by rw [gf, if_neg (by omega), hv.1]) hn (by rw [gf, if_neg (by omega), hv.2.2.1])) (fun y hy => OK.ret ?_)
  obtain ⟨y1, y2, y3, y4, y5⟩ := hy
  refine ⟨⟨?_, fun i hi => ?_, ?_, ?_⟩, ?_, fun j hj => ?_⟩
  · rw [y1.f (by simp), gf, if_pos ⟨rfl, rfl⟩]
  · rw [y4, if_pos hi, grf]; exact hv.2.1 i hi
  · rw [y2, Nat.div_eq_of_lt h2, Nat.zero_mul, Nat.zero_or]
  · rw [y3, gf, if_neg (by omega)]; exact hv.2.2.2
  · exact (Fr.sfi (Fr.rf _ _ _) (by simp)).tr (y1.w (by simp) (by simp))
  · rw [y5, if_pos hj, grf]
theorem vStd.frA {x y : aH} {b n : Nat} {t : STD} {R : List Nat} {F : List (Nat × Nat)} (h : vStd x b n t) (k : Fr R F x y) (hR : b + 1 ∉ R) (hF : ∀ q, q ∈ F → q.1 ≠ b) : vStd y b n t := h.fr k hR (fun z => hF _ z rfl) (fun z => hF _ z rfl) (fun z => hF _ z rfl)
/-- the search's first stand behind the first c nights -/
def behP (x : aH) (w : SEA) (t : STD) (y : aH) : Prop := vStd y 27 w.lost t ∧ Fr [28, 29, 30, 13, 14] [(27, 5), (27, 6), (27, 7)] x y
theorem sd27' : SD 27 := sd27
theorem behind_step {x y : aH} {w : SEA} {t : STD} {way : Nat} (hw : SOK w) (ht : TOK w t) (hs : vSea x w) (hb : behP x w t y) (hway : way ≤ 4) : OK (fX8_pass y 27 (nI way)) (fun q => behP x w (passF w t way) q.2) := by
  have hs' : vSea y w := hs.fr hb.2 (by simp) (by simp)
  refine OK.mono (pass_x sd27 hw ht hs' hb.1 hway) (fun q hq => ⟨hq.2.1, hb.2.tr (hq.2.2.1.w (by simp) (by simp))⟩)
theorem become27 {x : aH} {w : SEA} {t : STD} (hw : SOK w) (hv : vStd x 15 w.lost t) (hh : scrH x w.lost) : OK (fX8_become x (27 + 4 * ix (0 : Int32)) 15) (behP x w t) := by
  rw [ix_0]
  exact OK.mono (become_x sd27 sd15 (by decide) hw.1 (hh 27 sd27) hv) (fun y hy => ⟨hy.1, hy.2.1.w (by simp <;> omega) (by simp)⟩)
theorem behind_x {x m : aH} {w : SEA} {t : STD} {d n c p : Nat} {f : Nat → Nat} (hw : SOK w) (ht : TOK w t) (hs : vSea x w) (hv : vStd x 15 w.lost t) (hh : scrH x w.lost) (hd : d < 6) (h : shR x m d 0 n) (hN : nightsAt m d n c f) (hp : p ≤ 40) : OK (fX6_behind x 15 (61 + 2 * d) (nI p)) (fun q => q.1 = 27 ∧ behP x w (runF w t f (if p < c then p else c)) q.2) := by
  unfold fX6_behind
  refine OK.bind (become27 hw hv hh) (fun z hz => ?_)
  rw [ix_0]
  refine OK.bind (P := behP x w (runF w t f (if p < c then p else c))) ?_ (fun q hq => OK.ret ⟨rfl, hq⟩)
  have hc40 := hN.1.1
  refine LOOPUP (fun n (st : aH) l => wX6_behind_17 15 (61 + 2 * d) (nI p) (27 + 4 * 0) n st l) (fun ih st l => sX6_behind_17 15 (61 + 2 * d) (nI p) (27 + 4 * 0) ih st l) (fun n => rfl) (fun i y => behP x w (runF w t f i) y) _ (if p < c then p else c) ?_ ?_ 2000 0 z (by split <;> omega) (by omega) hz
  · intro i y hi hI ih hk
    have hic : i < c ∧ i < p := by split at hi <;> omega
    have hy : shR y m d 0 n := ⟨h.1, by rw [hI.2.f (by simp <;> omega), hI.2.f (by simp <;> omega), hI.2.f (by simp <;> omega)]; exact h.2.1, h.2.2.1, by rw [hI.2.j]; exact h.2.2.2⟩
    unfold sX6_behind_17
    refine OK.f (by rw [leN (by omega) (by omega)]; omega) (OK.r (isNight_x hy hN (by omega) (by omega)) ?_)
    rw [if_pos hic.1]
    refine OK.f n10 (OK.r (number_x hy (by have := hN.1.2; omega)) ?_)
    rw [(hN.2.1 i hic.1).2, ti_tl]
    refine OK.bind (behind_step hw (runF_ok hw ht i) hs hI (hN.2.1 i hic.1).1) (fun q hq => ?_)
    rw [nI_1]
    exact hk _ hq
  · intro y hI ih
    have hy : shR y m d 0 n := ⟨h.1, by rw [hI.2.f (by simp <;> omega), hI.2.f (by simp <;> omega), hI.2.f (by simp <;> omega)]; exact h.2.1, h.2.2.1, by rw [hI.2.j]; exact h.2.2.2⟩
    unfold sX6_behind_17
    by_cases hpc : p < c
    · rw [if_pos hpc] at hI ⊢
      exact OK.t (by rw [leN (by omega) (by omega)]; omega) (OK.ret hI)
    · rw [if_neg hpc] at hI ⊢
      by_cases hpc2 : p = c
      · exact OK.t (by rw [leN (by omega) (by omega)]; omega) (OK.ret hI)
      · refine OK.f (by rw [leN (by omega) (by omega)]; omega) (OK.r (isNight_x hy hN (by omega) (by omega)) ?_)
        rw [if_neg (Nat.lt_irrefl c)]
        exact OK.t rfl (OK.ret hI)
