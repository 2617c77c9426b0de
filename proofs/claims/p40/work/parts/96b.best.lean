/-! ===== best: all lines, the reference's way ===== -/
def pdF (k p i : Nat) : Nat := p / 5 ^ (k - 1 - i) % 5
theorem pd_dg (T p i : Nat) : pdF T p i = dgF T p i := rfl
theorem pd_up {k p q i : Nat} (hq : q < 5) (hi : i < k) : pdF (k + 1) (5 * p + q) i = pdF k p i := by
  unfold pdF
  have e : k + 1 - 1 - i = (k - 1 - i) + 1 := by omega
  rw [e, Nat.pow_succ, Nat.mul_comm (5 ^ (k - 1 - i)) 5, ← Nat.div_div_eq_div_mul]
  congr 2
  omega
theorem pd_at {k p q : Nat} (hq : q < 5) : pdF (k + 1) (5 * p + q) k = q := by
  unfold pdF
  rw [show k + 1 - 1 - k = 0 by omega, Nat.pow_zero, Nat.div_one]
  omega
abbrev TRr : List Nat := [80, 81, 82, 83, 84, 85]
abbrev TRf : List (Nat × Nat) := [(73, 11), (73, 12), (73, 13), (73, 14), (73, 15), (73, 19), (73, 20), (73, 21), (73, 22), (73, 26), (73, 27)]
/-- the ways told so far -/
def trd (y : aH) (k p : Nat) : Prop := ∀ i, i < k → ri y 84 i = nI (pdF k p i)
def tI (m : aH) (w : SEA) (t : STD) (T k p L : Nat) (y : aH) : Prop := Fr TRr TRf m y ∧ trd y k p ∧ fi y 73 26 = iI (BB w t T L).1 ∧ fi y 73 27 = iI (BB w t T L).2.1 ∧ (0 < L → ∀ i, i < T → ri y 85 i = nI (dgF T (BB w t T L).2.2 i))
theorem run_tried {m y : aH} {w : SEA} {t : STD} {T p : Nat} (hw : SOK w) (ht : TOK w t) (hms : mSea m w) (hmv : mStd m w.lost t) (hT : T ≤ 4) (hy : Fr TRr TRf m y) (htr : trd y T p) (W : Nat → aH → Int32 → Option aH) (S : (aH → Int32 → Option aH) → aH → Int32 → Option aH) (hW : ∀ n, W (n + 1) = S (W n)) (hS : ∀ ih x l, S ih x l = if nI T ≤ l then some x else if (0 : Int32) ≤ l ∧ l < (4 : Int32) then (fX11_goesNight x (ri x 84 (ix l))).bind fun q => ih q (l + (1 : Int32)) else none) : OK ((fX11_begins y).bind fun z => W 2000 z 0) (fun z => mScr z w.lost (runF w t (dgF T p) T) ∧ Fr [80, 81, 82, 83] GF2 y z) := by
  have hys : mSea y w := hms.fr hy (by simp) (by simp) (by simp) (by simp)
  refine OK.bind (begins_m hw.1 hys.2.2.2.1 (hmv.fr hy (by simp))) (fun z hz => ?_)
  refine LOOPUP W S hW (fun k u => mScr u w.lost (runF w t (dgF T p) k) ∧ Fr [80, 81, 82, 83] GF2 y u) _ T ?_ ?_ 2000 0 z (by omega) (by omega) ⟨hz.1, hz.2.w (by simp <;> omega) (by simp <;> omega)⟩
  · intro k u hk hI ih hh
    have c : (0 : Int32) ≤ nI k ∧ nI k < (4 : Int32) := inN (by omega) (by omega)
    rw [hS]
    refine OK.f (by rw [leN (by omega) (by omega)]; omega) (OK.t c ?_)
    rw [ixN (by omega), hI.2.r (show 84 ∉ _ by simp), htr k hk, nI_1]
    have hd := dg_lt T p k
    refine OK.bind (goes_m hw (runF_ok hw ht k) (hys.fr hI.2 (by simp) (by simp) (by simp) (by simp)) hI.1 (by show dgF T p k ≤ 4; omega)) (fun q hq => ?_)
    exact hh _ ⟨hq.1, hI.2.tr hq.2.1⟩
  · intro u hI ih
    rw [hS]
    exact OK.t (by rw [leN (by omega) (by omega)]; exact Nat.le_refl _) (OK.ret hI)
theorem tries_m {m : aH} {w : SEA} {t : STD} {T : Nat} (hw : SOK w) (ht : TOK w t) (hms : mSea m w) (hmv : mStd m w.lost t) (hT : T ≤ 4) : ∀ (d k p f : Nat) (y : aH), k + d = T → p < 5 ^ k → d + 1 ≤ f → tI m w t T k p (p * 5 ^ d) y → OK (fX11_triesWays f y (nI k) (nI T)) (tI m w t T k p ((p + 1) * 5 ^ d)) := by
  have hn := hw.1
  have h5 : ∀ k, k ≤ 4 → 5 ^ k ≤ 625 := fun k hk => (stLN k (by omega)).2.1
  intro d
  induction d with
  | zero =>
    intro k p f y hkT hp hf hI
    obtain ⟨f, rfl⟩ : ∃ g, f = g + 1 := ⟨f - 1, by omega⟩
    have : k = T := by omega
    subst this
    have h625 := h5 k hT
    rw [Nat.pow_zero, Nat.mul_one] at hI ⊢
    obtain ⟨y1, y2, y3, y4, y5⟩ := hI
    rw [fX11_triesWays_S]
    unfold uX11_triesWays
    refine OK.t rfl ?_
    have hrun := run_tried (p := p) hw ht hms hmv hT y1 y2 (fun n st l => wX11_triesWays_11 (fX11_triesWays f) (nI k) n st l) (fun ih st l => sX11_triesWays_11 (fX11_triesWays f) (nI k) ih st l) (fun n => rfl) (fun ih x l => rfl)
    obtain ⟨z, hz, z1, z2⟩ := hrun
    obtain ⟨b, hb, hz⟩ := bind_t hz
    refine OK.r hb (OK.r hz ?_)
    have z6 : fi z 73 6 = nI w.lost := by rw [z2.f (by simp), y1.f (by simp)]; exact hms.2.2.2.1
    have hhm : fX11_homeMany z = some (iI (hmF w t k p : Int)) := by rw [homeMany_m hn z6 z1, nI_iI]; rfl
    have ho : fi z 73 19 = iI (olF w t k p : Int) := by rw [z1.2, nI_iI]; rfl
    have e26 : fi z 73 26 = iI (BB w t k p).1 := by rw [z2.f (by simp)]; exact y3
    have e27 : fi z 73 27 = iI (BB w t k p).2.1 := by rw [z2.f (by simp)]; exact y4
    have bb := hm_lt (N := k) (L := p) hw ht
    have hbb := BB_b (N := k) hw ht p
    have eBB : BB w t k (p + 1) = if (BB w t k p).1 < hmF w t k p ∨ ((hmF w t k p : Int) = (BB w t k p).1 ∧ (BB w t k p).2.1 < olF w t k p) then ((hmF w t k p : Int), (olF w t k p : Int), p) else BB w t k p := rfl
    have fz : Fr TRr TRf m z := y1.tr (z2.w (by simp <;> omega) (by simp <;> omega))
    have ztr : trd z k p := fun i hi => by rw [z2.r (by simp)]; exact y2 i hi
    have yes : ((BB w t k p).1 < hmF w t k p ∨ ((hmF w t k p : Int) = (BB w t k p).1 ∧ (BB w t k p).2.1 < olF w t k p)) → OK (jX11_triesWays_65 (fX11_triesWays f) z (nI k)) (tI m w t k k p (p + 1)) := by
      intro c
      rw [if_pos c] at eBB
      unfold jX11_triesWays_65
      refine OK.r hhm ?_
      have f19 : fi (sfi z 73 26 (iI (hmF w t k p : Int))) 73 19 = iI (olF w t k p : Int) := by rw [gf, if_neg (by simp)]; exact ho
      rw [f19]
      have fu : Fr [] [(73, 26), (73, 27)] z (sfi (sfi z 73 26 (iI (hmF w t k p : Int))) 73 27 (iI (olF w t k p : Int))) := Fr.sfi (Fr.sfi (Fr.rf _ _ _) (by simp)) (by simp)
      have u26 : fi (sfi (sfi z 73 26 (iI (hmF w t k p : Int))) 73 27 (iI (olF w t k p : Int))) 73 26 = iI (hmF w t k p : Int) := by simp [gf]
      have u27 : fi (sfi (sfi z 73 26 (iI (hmF w t k p : Int))) 73 27 (iI (olF w t k p : Int))) 73 27 = iI (olF w t k p : Int) := by simp [gf]
      generalize sfi (sfi z 73 26 (iI (hmF w t k p : Int))) 73 27 (iI (olF w t k p : Int)) = u at fu u26 u27 ⊢
      refine OK.bind (P := fun v => Fr [85] [] u v ∧ ∀ i, i < k → ri v 85 i = ri u 84 i) ?_ (fun v hv => OK.ret ?_)
      · refine LOOPUP (fun n (st : aH) l => wX11_triesWays_83 (fX11_triesWays f) (nI k) n st l) (fun ih st l => sX11_triesWays_83 (fX11_triesWays f) (nI k) ih st l) (fun n => rfl) (fun j v => Fr [85] [] u v ∧ ∀ i, i < j → ri v 85 i = ri u 84 i) _ k ?_ ?_ 2000 0 u (by omega) (by omega) ⟨Fr.rf _ _ _, fun i hi => by omega⟩
        · intro j v hj hI ih hh
          have cj : (0 : Int32) ≤ nI j ∧ nI j < (4 : Int32) := inN (by omega) (by omega)
          unfold sX11_triesWays_83
          refine OK.f (by rw [leN (by omega) (by omega)]; omega) (OK.t cj (OK.t cj ?_))
          rw [nI_1, ixN (by omega), hI.1.r (show 84 ∉ [85] by simp)]
          refine hh _ ⟨Fr.sri hI.1 (by simp), fun i hi => ?_⟩
          rw [gr]
          by_cases e : i = j
          · rw [if_pos ⟨rfl, e⟩, e]
          · rw [if_neg (fun q => e q.2)]; exact hI.2 i (by omega)
        · intro v hI ih
          unfold sX11_triesWays_83
          exact OK.t (by rw [leN (by omega) (by omega)]; exact Nat.le_refl _) (OK.ret hI)
      · refine ⟨fz.tr ((fu.w (by simp) (by simp)).tr (hv.1.w (by simp) (by simp))), fun i hi => ?_, ?_, ?_, fun _ i hi => ?_⟩
        · rw [hv.1.r (by simp), fu.r (by simp)]; exact ztr i hi
        · rw [hv.1.f (by simp), u26, eBB]
        · rw [hv.1.f (by simp), u27, eBB]
        · rw [hv.2 i hi, fu.r (by simp), eBB]; exact ztr i hi
    have no : ¬ ((BB w t k p).1 < hmF w t k p ∨ ((hmF w t k p : Int) = (BB w t k p).1 ∧ (BB w t k p).2.1 < olF w t k p)) → OK (some z) (tI m w t k k p (p + 1)) := by
      intro c
      rw [if_neg c] at eBB
      refine OK.ret ⟨fz, ztr, by rw [eBB]; exact e26, by rw [eBB]; exact e27, fun _ i hi => ?_⟩
      by_cases hp0 : 0 < p
      · rw [eBB, z2.r (by simp)]; exact y5 hp0 i hi
      · have : p = 0 := by omega
        subst this
        exfalso
        apply c
        left
        show (-1 : Int) < _
        omega
    refine OK.r hhm ?_
    rw [e26, ho, e27]
    refine OK.i (fun c => yes ?_) (fun c => OK.r hhm ?_)
    · rw [iI_lt (by omega) (by omega) (by omega) (by omega)] at c
      exact Or.inl c
    · rw [iI_lt (by omega) (by omega) (by omega) (by omega)] at c
      refine OK.i (fun c2 => ?_) (fun c2 => no ?_)
      · rw [iI_eq (by omega) (by omega) (by omega) (by omega)] at c2
        refine OK.i (fun c3 => no ?_) (fun c3 => yes ?_)
        · rw [iI_le (by omega) (by omega) (by omega) (by omega)] at c3
          omega
        · rw [iI_le (by omega) (by omega) (by omega) (by omega)] at c3
          exact Or.inr ⟨c2, by omega⟩
      · rw [iI_eq (by omega) (by omega) (by omega) (by omega)] at c2
        omega
  | succ d ih =>
    intro k p f y hkT hp hf hI
    obtain ⟨f, rfl⟩ : ∃ g, f = g + 1 := ⟨f - 1, by omega⟩
    have ck : (0 : Int32) ≤ nI k ∧ nI k < (4 : Int32) := inN (by omega) (by omega)
    have hk5 := h5 k (by omega)
    have e1 : ∀ q, (5 * p + q) * 5 ^ d = p * 5 ^ (d + 1) + q * 5 ^ d := fun q => by rw [Nat.pow_succ, Nat.add_mul, Nat.mul_comm 5 p, Nat.mul_assoc, Nat.mul_comm 5]
    rw [fX11_triesWays_S]
    unfold uX11_triesWays
    refine OK.f (by rw [eqN (by omega) (by omega)]; omega) ?_
    refine OK.bind (P := tI m w t T k p ((p + 1) * 5 ^ (d + 1))) ?_ (fun q hq => OK.ret hq)
    refine LOOPUP (fun n (st : aH) l => wX11_triesWays_109 (fX11_triesWays f) (nI k) (nI T) n st l) (fun ih st l => sX11_triesWays_109 (fX11_triesWays f) (nI k) (nI T) ih st l) (fun n => rfl) (fun q z => tI m w t T k p ((5 * p + q) * 5 ^ d) z) _ 5 ?_ ?_ 2000 0 y (by omega) (by omega) (by rw [e1, Nat.zero_mul, Nat.add_zero]; exact hI)
    · intro q z hq hz ih2 hh
      obtain ⟨z1, z2, z3, z4, z5⟩ := hz
      unfold sX11_triesWays_109
      refine OK.f (by rw [ltL (by omega) (by omega)]; omega) (OK.t ck ?_)
      rw [nI_1, ixN (by omega)]
      have hp5 : 5 * p + q < 5 ^ (k + 1) := by rw [Nat.pow_succ]; omega
      refine OK.bind (ih (k + 1) (5 * p + q) f (sri z 84 k (nI q)) (by omega) hp5 (by omega) ⟨Fr.sri z1 (by simp), fun i hi => ?_, z3, z4, fun h i hi => ?_⟩) (fun u hu => ?_)
      · rw [gr]
        by_cases e : i = k
        · subst e; rw [if_pos ⟨rfl, rfl⟩, pd_at hq]
        · rw [if_neg (fun g => e g.2), pd_up hq (by omega)]; exact z2 i (by omega)
      · rw [gr, if_neg (by omega)]; exact z5 h i hi
      · rw [nI_1]
        obtain ⟨u1, u2, u3, u4, u5⟩ := hu
        refine hh _ ⟨u1, fun i hi => ?_, u3, u4, u5⟩
        rw [u2 i (by omega), pd_up hq hi]
    · intro z hz ih2
      unfold sX11_triesWays_109
      refine OK.t (by decide) (OK.ret ?_)
      rw [show (p + 1) * 5 ^ (d + 1) = (5 * p + 5) * 5 ^ d by rw [e1, Nat.pow_succ, Nat.add_mul, Nat.one_mul, Nat.mul_comm (5 ^ d) 5]]
      exact hz
theorem wm2 (p q : Int32) : fX11_within p.toInt64 (-2 : Int64) q.toInt64 = some (bI (-2 ≤ p ∧ p ≤ q)) := within_i p (-2) q
theorem op_best {x m : aH} {w : SEA} {t : STD} (hJ : JN x m w t) (p1 p2 : Int32) : OK2 (fX10_best x p1 p2) (fX11_best m p1 p2) (fun a b => TH w.lost x m a.2 b.2 ∧ a.1 = b.1) := by
  have bad : fX10_best x p1 p2 = some (-1, x) → fX11_best m p1 p2 = some (-1, m) → OK2 (fX10_best x p1 p2) (fX11_best m p1 p2) (fun a b => TH w.lost x m a.2 b.2 ∧ a.1 = b.1) := fun h1 h2 => OK2.eq h1 h2 ⟨TH.rf hJ, rfl⟩
  obtain ⟨⟨hw, ht⟩, ⟨hs, hv, hh⟩, hms, hmv⟩ := id hJ
  by_cases h1 : 0 ≤ p1 ∧ p1 ≤ 4
  · obtain ⟨T, hT, rfl⟩ := le_arg (N := 4) (by omega) rfl h1
    obtain ⟨s1, s2, s3⟩ := stLN T (by omega)
    have a1 := Int32.not_lt.mpr h1.1
    have a2 := Int32.not_lt.mpr h1.2
    by_cases h2 : -2 ≤ p2 ∧ p2 < nI T
    · have h2' : -2 ≤ p2 ∧ p2 ≤ nI T - 1 := by
        have t0 := h1.1
        have t4 := h1.2
        have := h2.1
        have := h2.2
        grind
      have a3 := Int32.not_lt.mpr h2.1
      have ex : OK (fX10_best x (nI T) p2) (fun a => (Fr XSr XSf x a.2 ∧ scrH a.2 w.lost) ∧ a.1 = if p2 = -1 then iI (BB w t T (5 ^ T)).1 else if p2 = -2 then iI (BB w t T (5 ^ T)).2.1 else nI (dgF T (BB w t T (5 ^ T)).2.2 (ix p2))) := by
        unfold fX10_best
        refine OK.f a1 (OK.f a2 (OK.f a3 (OK.t h2.2 (OK.bind (best_x hw ht hs hv hh hT) (fun y hy => ?_)))))
        obtain ⟨y1, y2, y3, y4, y5, y6, y7⟩ := hy
        have fy : Fr XSr XSf x y := y1.w (by simp <;> omega) (by simp <;> omega)
        refine OK.i (fun c => OK.ret ⟨⟨fy, y2⟩, ?_⟩) (fun c => OK.i (fun c2 => OK.ret ⟨⟨fy, y2⟩, ?_⟩) (fun c2 => ?_))
        · rw [if_pos c]; exact y5
        · rw [if_neg c, if_pos c2]; exact y6
        · have hp0 : 0 ≤ p2 := by have := h2.1; grind
          obtain ⟨k, hk, rfl⟩ := (in_range p2 T (by omega)).mp ⟨hp0, h2.2⟩
          have hb := (BB_b (N := T) hw ht (5 ^ T)).2.2.2
          rw [y7 (by omega), wayOf_x y hT hk (by omega)]
          refine OK.ret ⟨⟨fy, y2⟩, ?_⟩
          rw [if_neg c, if_neg c2, ixN (by omega)]
      have em : OK (fX11_best m (nI T) p2) (fun a => Fr MSr MSf m a.2 ∧ a.1 = if p2 = -1 then iI (BB w t T (5 ^ T)).1 else if p2 = -2 then iI (BB w t T (5 ^ T)).2.1 else nI (dgF T (BB w t T (5 ^ T)).2.2 (ix p2))) := by
        unfold fX11_best
        refine OK.r ((w4 _).trans (by rw [bI_t h1])) (OK.f n10 (OK.r ((wm2 _ _).trans (by rw [bI_t h2'])) (OK.f n10 ?_)))
        have f0 : Fr [] [(73, 26), (73, 27)] m (sfi (sfi m 73 26 (-1)) 73 27 (-1)) := Fr.sfi (Fr.sfi (Fr.rf _ _ _) (by simp)) (by simp)
        refine OK.bind (tries_m (T := T) hw ht hms hmv hT T 0 0 64 (sfi (sfi m 73 26 (-1)) 73 27 (-1)) (by omega) (by decide) (by omega) ⟨f0.w (by simp) (by simp), fun i hi => by omega, ?_, ?_, fun h => ?_⟩) (fun y hy => ?_)
        · rw [Nat.zero_mul]; simp [gf] <;> rfl
        · rw [Nat.zero_mul]; simp [gf] <;> rfl
        · rw [Nat.zero_mul] at h; exact absurd h (by decide)
        · rw [Nat.zero_add, Nat.one_mul] at hy
          obtain ⟨y1, y2, y3, y4, y5⟩ := hy
          have fy : Fr MSr MSf m y := y1.w (by simp <;> omega) (by simp <;> omega)
          refine OK.i (fun c => OK.ret ⟨fy, ?_⟩) (fun c => OK.i (fun c2 => OK.ret ⟨fy, ?_⟩) (fun c2 => ?_))
          · rw [if_pos c]; exact y3
          · rw [if_neg c, if_pos c2]; exact y4
          · have hp0 : 0 ≤ p2 := by have := h2.1; grind
            obtain ⟨k, hk, rfl⟩ := (in_range p2 T (by omega)).mp ⟨hp0, h2.2⟩
            refine OK.t (inN (by omega) (by omega)) (OK.ret ⟨fy, ?_⟩)
            rw [if_neg c, if_neg c2]
            show ri y 85 (ix (nI k)) = _
            rw [ixN (by omega)]
            exact y5 (by omega) k hk
      exact OK2.mk ex em (fun a b ha hb => ⟨⟨ha.1.1, hb.1, ha.1.2⟩, by rw [ha.2, hb.2]⟩)
    · have h2' : ¬ (-2 ≤ p2 ∧ p2 ≤ nI T - 1) := by
        have t0 := h1.1
        have t4 := h1.2
        intro z
        apply h2
        have z1 := z.1
        have z2 := z.2
        constructor <;> grind
      refine bad ?_ (by simp [fX11_best, w4, bI_t h1, wm2, bI_f h2'])
      unfold fX10_best
      rw [if_neg a1, if_neg a2]
      by_cases h3 : p2 < -2
      · rw [if_pos h3]
      · rw [if_neg h3, if_neg (fun z => h2 ⟨Int32.not_lt.mp h3, z⟩)]
  · refine bad ?_ (by simp [fX11_best, w4, bI_f h1])
    unfold fX10_best
    by_cases h3 : p1 < 0
    · rw [if_pos h3]
    · rw [if_neg h3, if_pos (by grind)]
