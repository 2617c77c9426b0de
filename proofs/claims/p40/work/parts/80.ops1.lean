/-! ===== later, home, since, draws ===== -/
theorem isCount_x (x : aH) (p : Int32) : fX10_isCountOfNights x p = some (bI (0 ≤ p ∧ p ≤ 40)) := by
  unfold fX10_isCountOfNights
  by_cases h1 : p < 0
  · rw [if_pos h1, bI_f (by grind)]
  · rw [if_neg h1]
    by_cases h2 : (40 : Int32) < p
    · rw [if_pos h2, bI_f (by grind)]
    · rw [if_neg h2, bI_t (by grind)]
theorem w40 (p : Int32) : fX11_within p.toInt64 (0 : Int64) (40 : Int64) = some (bI (0 ≤ p ∧ p ≤ 40)) := within_i p 0 40
theorem w1 (p : Int32) : fX11_within p.toInt64 (0 : Int64) (1 : Int64) = some (bI (0 ≤ p ∧ p ≤ 1)) := within_i p 0 1
theorem p01 {p : Int32} (h : 0 ≤ p ∧ p ≤ 1) : p = 0 ∨ p = 1 := by
  obtain ⟨j, hj, rfl⟩ := (in_range p 2 (by omega)).mp ⟨h.1, by have := h.2; show p < (2 : Int32); grind⟩
  rcases (show j = 0 ∨ j = 1 by omega) with rfl | rfl
  · exact Or.inl rfl
  · exact Or.inr rfl
theorem le_arg {p : Int32} {N : Nat} (hN : N < 2147483647) {K : Int32} (hK : K = nI N) (h : 0 ≤ p ∧ p ≤ K) : ∃ j, j ≤ N ∧ p = nI j := by
  subst hK
  rcases i_cases p with h1 | ⟨j, hj, rfl⟩
  · exact absurd h.1 (Int32.not_le.mpr h1)
  · exact ⟨j, (leN (by omega) (by omega)).mp h.2, rfl⟩
theorem isHome27 {x y : aH} {w : SEA} {u : STD} {i : Nat} (hw : SOK w) (hu : TOK w u) (hb : behP x w u y) (hi : i < w.lost) : fX8_isHome y 27 (nI i) = some (nI (u.home i)) := isHome_x hw.1 (fun i hi => (hu.1 i hi).2) hb.1 hi
theorem op_later {x m : aH} {w : SEA} {t : STD} (hJ : JN x m w t) (hS : JS x m) (p1 p2 p3 p4 : Int32) : OK2 (fX10_later x p1 p2 p3 p4) (fX11_later m p1 p2 p3 p4) (fun a b => TH w.lost x m a.2 b.2 ∧ a.1 = b.1) := by
  have bad : ∀ v : Int32, fX10_later x p1 p2 p3 p4 = some (v, x) → fX11_later m p1 p2 p3 p4 = some (v, m) → OK2 (fX10_later x p1 p2 p3 p4) (fX11_later m p1 p2 p3 p4) (fun a b => TH w.lost x m a.2 b.2 ∧ a.1 = b.1) := fun v h1 h2 => OK2.eq h1 h2 ⟨TH.rf hJ, rfl⟩
  by_cases hA : 0 ≤ p2 ∧ p2 ≤ 40
  · by_cases hC : 0 ≤ p4 ∧ p4 ≤ 1
    · rcases isLost2 hJ p3 with ⟨i, hi, rfl, l1, l2⟩ | ⟨-, l1, l2⟩
      · rcases bytes_x hS p1 with ⟨-, b1, b2⟩ | ⟨d, hd, rfl, ⟨b1, b2⟩ | ⟨b1, b2⟩ | ⟨b1, b2, n, h⟩⟩
        · exact bad (-1) (by simp [fX10_later, isCount_x, bI_t hA, l1, b1, Int32.not_lt.mpr hC.1, hC.2]) (by simp [fX11_later, b2])
        · exact bad (-11) (by simp [fX10_later, isCount_x, bI_t hA, l1, b1, Int32.not_lt.mpr hC.1, hC.2]) (by simp [fX11_later, b2, w40, w1, bI_t hA, bI_t hC, l2])
        · exact bad (-12) (by simp [fX10_later, isCount_x, bI_t hA, l1, b1, Int32.not_lt.mpr hC.1, hC.2]) (by simp [fX11_later, b2, w40, w1, bI_t hA, bI_t hC, l2])
        · obtain ⟨j, hj, rfl⟩ := le_arg (N := 40) (by omega) rfl hA
          obtain ⟨c, f, hN⟩ := nights_ex h
          have hu : TOK w (runF w t f (if j < c then j else c)) := runF_ok hJ.1.1 hJ.1.2 _
          have hn := hJ.1.1.1
          have cd : (0 : Int32) ≤ nI d ∧ nI d < (6 : Int32) := inN (by omega) hd
          have ci := in10 (show i < 10 by omega)
          have h1 := (hu.1 i hi).2
          have ex : OK (fX10_later x (nI d) (nI j) (nI i) p4) (fun a => (Fr XSr XSf x a.2 ∧ scrH a.2 w.lost) ∧ a.1 = if p4 = 0 then nI ((runF w t f (if j < c then j else c)).cell i) else nI ((runF w t f (if j < c then j else c)).home i)) := by
            unfold fX10_later
            refine OK.r ((isCount_x x _).trans (by rw [bI_t hA])) (OK.f n10 (OK.r l1 (OK.f n10 (OK.f (Int32.not_lt.mpr hC.1) (OK.t hC.2 (OK.r b1 (OK.t rfl (OK.t cd ?_))))))))
            rw [ixN (by omega)]
            refine OK.bind (behind_x hJ.1.1 hJ.1.2 hJ.2.1.1 hJ.2.1.2.1 hJ.2.1.2.2 hd h hN hj) (fun q hq => ?_)
            obtain ⟨q1, q2⟩ := hq
            rw [q1]
            refine OK.t (Or.inr (Or.inr (Or.inl rfl))) (OK.i (fun c4 => OK.t ci (OK.ret ⟨q2.TH hJ.1.1 hu hJ.2.1.2.2, ?_⟩)) (fun c4 => OK.r (isHome27 hJ.1.1 hu q2 hi) ?_))
            · rw [if_pos c4, ixN (by omega)]
              exact q2.1.2.1 i hi
            · rw [if_neg c4]
              rcases (show (runF w t f (if j < c then j else c)).home i = 0 ∨ (runF w t f (if j < c then j else c)).home i = 1 by omega) with e | e
              · rw [e]
                exact OK.t rfl (OK.ret ⟨q2.TH hJ.1.1 hu hJ.2.1.2.2, rfl⟩)
              · rw [e]
                exact OK.f n10 (OK.ret ⟨q2.TH hJ.1.1 hu hJ.2.1.2.2, rfl⟩)
          have em : OK (fX11_later m (nI d) (nI j) (nI i) p4) (fun a => Fr MSr MSf m a.2 ∧ a.1 = if p4 = 0 then nI ((runF w t f (if j < c then j else c)).cell i) else nI ((runF w t f (if j < c then j else c)).home i)) := by
            unfold fX11_later
            refine OK.r b2 (OK.f (by decide) (OK.r ((w40 _).trans (by rw [bI_t hA])) (OK.f n10 (OK.r l2 (OK.f n10 (OK.r ((w1 _).trans (by rw [bI_t hC])) (OK.f n10 (OK.r b2 (OK.t (by decide) ?_)))))))))
            refine OK.bind (goesNights_m hJ hd h hN hj (Fr.rf _ _ _)) (fun q hq => ?_)
            have hf : Fr MSr MSf m q := hq.2.w (by simp <;> omega) (by simp <;> omega)
            refine OK.i (fun c4 => OK.t ci (OK.ret ⟨hf, ?_⟩)) (fun c4 => OK.t ci (OK.ret ⟨hf, ?_⟩))
            · rw [if_pos c4, ixN (by omega)]; exact (hq.1.1 i hi).1
            · rw [if_neg c4, ixN (by omega)]; exact (hq.1.1 i hi).2
          exact OK2.mk ex em (fun a b ha hb => ⟨⟨ha.1.1, hb.1, ha.1.2⟩, by rw [ha.2, hb.2]⟩)
      · rcases bytes_x hS p1 with ⟨-, b1, b2⟩ | ⟨d, hd, rfl, ⟨b1, b2⟩ | ⟨b1, b2⟩ | ⟨b1, b2, n, h⟩⟩ <;> exact bad (-1) (by simp [fX10_later, isCount_x, bI_t hA, l1]) (by simp [fX11_later, b2, w40, w1, bI_t hA, bI_t hC, l2])
    · have hx : fX10_later x p1 p2 p3 p4 = some (-1, x) := by
        have e : p4 < 0 ∨ ¬ p4 ≤ 1 := by grind
        rcases isLost2 hJ p3 with ⟨i, hi, rfl, l1, l2⟩ | ⟨-, l1, l2⟩
        · rcases e with e | e
          · simp [fX10_later, isCount_x, bI_t hA, l1, e]
          · simp [fX10_later, isCount_x, bI_t hA, l1, e]
        · simp [fX10_later, isCount_x, bI_t hA, l1]
      refine bad (-1) hx ?_
      rcases isLost2 hJ p3 with ⟨i, hi, rfl, l1, l2⟩ | ⟨-, l1, l2⟩ <;> rcases bytes_x hS p1 with ⟨-, b1, b2⟩ | ⟨d, hd, rfl, ⟨b1, b2⟩ | ⟨b1, b2⟩ | ⟨b1, b2, n, h⟩⟩ <;> simp [fX11_later, b2, w40, w1, bI_t hA, bI_f hC, l2]
  · rcases bytes_x hS p1 with ⟨-, b1, b2⟩ | ⟨d, hd, rfl, ⟨b1, b2⟩ | ⟨b1, b2⟩ | ⟨b1, b2, n, h⟩⟩ <;> exact bad (-1) (by simp [fX10_later, isCount_x, bI_f hA]) (by simp [fX11_later, b2, w40, bI_f hA])
theorem homeSet_m {m : aH} {n : Nat} {t : STD} (hn : n ≤ 10) (h6 : fi m 73 6 = nI n) (hh : ∀ i, i < n → t.home i ≤ 1) (hv : mScr m n t) : fX11_homeSet m = some (nI (bsum t.home n)) := by
  unfold fX11_homeSet
  refine OK.eq (OK.bind (P := fun r => r = nI (bsum t.home n)) ?_ (fun q hq => OK.ret hq))
  refine LOOPUP (fun n st l => wX11_homeSet_4 m n st l) (fun ih st l => sX11_homeSet_4 m ih st l) (fun n => rfl) (fun i st => st = nI (bsum t.home i)) _ n ?_ ?_ 2000 0 0 (by omega) (by omega) rfl
  · rintro i st hi rfl ih hk
    unfold sX11_homeSet_4
    refine OK.f (by rw [h6, leN (by omega) (by omega)]; omega) (OK.t (in10 (by omega)) ?_)
    rw [nI_1, ixN (by omega), (hv.1 i hi).2]
    refine hk _ ?_
    have h1 := hh i hi
    have h2 := bsum_lt (f := t.home) (n := i) (fun j hj => hh j (by omega))
    have h3 : 2 ^ i ≤ 1024 := pow10 (by omega)
    have h4 : t.home i * 2 ^ i < 2 ^ 32 := by
      have : t.home i * 2 ^ i ≤ 1 * 2 ^ i := Nat.mul_le_mul_right _ h1
      omega
    rw [pk_shlN _ i (s_l i (by omega)) h4, fa_or]
    congr 1
    show _ = bsum t.home i + t.home i * 2 ^ i
    rw [Nat.or_comm, Nat.mul_comm, ← Nat.two_pow_add_eq_or_of_lt h2, Nat.add_comm]
  · rintro st rfl ih
    unfold sX11_homeSet_4
    exact OK.t (by rw [h6, leN (by omega) (by omega)]; exact Nat.le_refl _) (OK.ret rfl)
theorem homeMany_m {m : aH} {n : Nat} {t : STD} (hn : n ≤ 10) (h6 : fi m 73 6 = nI n) (hv : mScr m n t) : fX11_homeMany m = some (nI (nsum t.home n)) := by
  unfold fX11_homeMany
  refine OK.eq (OK.bind (P := fun r => r = nI (nsum t.home n)) ?_ (fun q hq => OK.ret hq))
  refine LOOPUP (fun n st l => wX11_homeMany_4 m n st l) (fun ih st l => sX11_homeMany_4 m ih st l) (fun n => rfl) (fun i st => st = nI (nsum t.home i)) _ n ?_ ?_ 2000 0 0 (by omega) (by omega) rfl
  · rintro i st hi rfl ih hk
    unfold sX11_homeMany_4
    refine OK.f (by rw [h6, leN (by omega) (by omega)]; omega) (OK.t (in10 (by omega)) ?_)
    rw [nI_1, ixN (by omega), (hv.1 i hi).2, addN]
    exact hk _ rfl
  · rintro st rfl ih
    unfold sX11_homeMany_4
    exact OK.t (by rw [h6, leN (by omega) (by omega)]; exact Nat.le_refl _) (OK.ret rfl)
theorem op_home {x m : aH} {w : SEA} {t : STD} (hJ : JN x m w t) (hS : JS x m) (p1 p2 p3 : Int32) : OK2 (fX10_home x p1 p2 p3) (fX11_home m p1 p2 p3) (fun a b => TH w.lost x m a.2 b.2 ∧ a.1 = b.1) := by
  have bad : ∀ v : Int32, fX10_home x p1 p2 p3 = some (v, x) → fX11_home m p1 p2 p3 = some (v, m) → OK2 (fX10_home x p1 p2 p3) (fX11_home m p1 p2 p3) (fun a b => TH w.lost x m a.2 b.2 ∧ a.1 = b.1) := fun v h1 h2 => OK2.eq h1 h2 ⟨TH.rf hJ, rfl⟩
  by_cases hA : 0 ≤ p2 ∧ p2 ≤ 40
  · by_cases hC : 0 ≤ p3 ∧ p3 ≤ 1
    · rcases bytes_x hS p1 with ⟨-, b1, b2⟩ | ⟨d, hd, rfl, ⟨b1, b2⟩ | ⟨b1, b2⟩ | ⟨b1, b2, n, h⟩⟩
      · exact bad (-1) (by simp [fX10_home, isCount_x, bI_t hA, b1, Int32.not_lt.mpr hC.1, hC.2]) (by simp [fX11_home, b2])
      · exact bad (-11) (by simp [fX10_home, isCount_x, bI_t hA, b1, Int32.not_lt.mpr hC.1, hC.2]) (by simp [fX11_home, b2, w40, w1, bI_t hA, bI_t hC])
      · exact bad (-12) (by simp [fX10_home, isCount_x, bI_t hA, b1, Int32.not_lt.mpr hC.1, hC.2]) (by simp [fX11_home, b2, w40, w1, bI_t hA, bI_t hC])
      · obtain ⟨j, hj, rfl⟩ := le_arg (N := 40) (by omega) rfl hA
        obtain ⟨c, f, hN⟩ := nights_ex h
        have hu : TOK w (runF w t f (if j < c then j else c)) := runF_ok hJ.1.1 hJ.1.2 _
        have hn := hJ.1.1.1
        have cd : (0 : Int32) ≤ nI d ∧ nI d < (6 : Int32) := inN (by omega) hd
        generalize hku : runF w t f (if j < c then j else c) = u at hu
        have ex : OK (fX10_home x (nI d) (nI j) p3) (fun a => (Fr XSr XSf x a.2 ∧ scrH a.2 w.lost) ∧ a.1 = if p3 = 0 then nI (bsum u.home w.lost) else nI u.oil) := by
          unfold fX10_home
          refine OK.r ((isCount_x x _).trans (by rw [bI_t hA])) (OK.f n10 (OK.f (Int32.not_lt.mpr hC.1) (OK.t hC.2 (OK.r b1 (OK.t rfl (OK.t cd ?_))))))
          rw [ixN (by omega)]
          refine OK.bind (behind_x hJ.1.1 hJ.1.2 hJ.2.1.1 hJ.2.1.2.1 hJ.2.1.2.2 hd h hN hj) (fun q hq => ?_)
          obtain ⟨q1, q2⟩ := hq
          rw [hku] at q2
          rw [q1]
          refine OK.t (Or.inr (Or.inr (Or.inl rfl))) (OK.i (fun c4 => OK.ret ⟨q2.TH hJ.1.1 hu hJ.2.1.2.2, ?_⟩) (fun c4 => OK.ret ⟨q2.TH hJ.1.1 hu hJ.2.1.2.2, ?_⟩))
          · rw [if_pos c4]; exact q2.1.2.2.1
          · rw [if_neg c4]; exact q2.1.2.2.2
        have em : OK (fX11_home m (nI d) (nI j) p3) (fun a => Fr MSr MSf m a.2 ∧ a.1 = if p3 = 0 then nI (bsum u.home w.lost) else nI u.oil) := by
          unfold fX11_home
          refine OK.r b2 (OK.f (by decide) (OK.r ((w40 _).trans (by rw [bI_t hA])) (OK.f n10 (OK.r ((w1 _).trans (by rw [bI_t hC])) (OK.f n10 (OK.r b2 (OK.t (by decide) ?_)))))))
          refine OK.bind (goesNights_m hJ hd h hN hj (Fr.rf _ _ _)) (fun q hq => ?_)
          rw [hku] at hq
          have hf : Fr MSr MSf m q := hq.2.w (by simp <;> omega) (by simp <;> omega)
          refine OK.i (fun c4 => OK.r (homeSet_m hn (by rw [hq.2.f (by simp)]; exact hJ.2.2.1.2.2.2.1) (fun i hi => (hu.1 i hi).2) hq.1) (OK.ret ⟨hf, ?_⟩)) (fun c4 => OK.ret ⟨hf, ?_⟩)
          · rw [if_pos c4]
          · rw [if_neg c4]; exact hq.1.2
        exact OK2.mk ex em (fun a b ha hb => ⟨⟨ha.1.1, hb.1, ha.1.2⟩, by rw [ha.2, hb.2]⟩)
    · have e : p3 < 0 ∨ ¬ p3 ≤ 1 := by grind
      have hx : fX10_home x p1 p2 p3 = some (-1, x) := by
        rcases e with e | e
        · simp [fX10_home, isCount_x, bI_t hA, e]
        · simp [fX10_home, isCount_x, bI_t hA, e]
      refine bad (-1) hx ?_
      rcases bytes_x hS p1 with ⟨-, b1, b2⟩ | ⟨d, hd, rfl, ⟨b1, b2⟩ | ⟨b1, b2⟩ | ⟨b1, b2, n, h⟩⟩ <;> simp [fX11_home, b2, w40, w1, bI_t hA, bI_f hC]
  · rcases bytes_x hS p1 with ⟨-, b1, b2⟩ | ⟨d, hd, rfl, ⟨b1, b2⟩ | ⟨b1, b2⟩ | ⟨b1, b2, n, h⟩⟩ <;> exact bad (-1) (by simp [fX10_home, isCount_x, bI_f hA]) (by simp [fX11_home, b2, w40, bI_f hA])
/-- who is home stays so; since when -/
theorem run_home {w : SEA} {t : STD} {f : Nat → Nat} {i : Nat} (hw : SOK w) (ht : TOK w t) (hi : i < w.lost) (k : Nat) (h : (runF w t f k).home i = 1) : (runF w t f (k + 1)).home i = 1 := by
  have h1 := pass_home_le (w := w) (t := runF w t f k) (way := f k) (i := i) (runF_ok hw ht k) hi
  have h2 := ((runF_ok (f := f) hw ht (k + 1)).1 i hi).2
  show (passF w (runF w t f k) (f k)).home i = 1
  have h3 : (runF w t f (k + 1)).home i = (passF w (runF w t f k) (f k)).home i := rfl
  omega
theorem op_since {x m : aH} {w : SEA} {t : STD} (hJ : JN x m w t) (hS : JS x m) (p1 p2 : Int32) : OK2 (fX10_since x p1 p2) (fX11_since m p1 p2) (fun a b => TH w.lost x m a.2 b.2 ∧ a.1 = b.1) := by
  have bad : ∀ v : Int32, fX10_since x p1 p2 = some (v, x) → fX11_since m p1 p2 = some (v, m) → OK2 (fX10_since x p1 p2) (fX11_since m p1 p2) (fun a b => TH w.lost x m a.2 b.2 ∧ a.1 = b.1) := fun v h1 h2 => OK2.eq h1 h2 ⟨TH.rf hJ, rfl⟩
  rcases isLost2 hJ p2 with ⟨i, hi, rfl, l1, l2⟩ | ⟨-, l1, l2⟩
  · rcases bytes_x hS p1 with ⟨-, b1, b2⟩ | ⟨d, hd, rfl, ⟨b1, b2⟩ | ⟨b1, b2⟩ | ⟨b1, b2, n, h⟩⟩
    · exact bad (-1) (by simp [fX10_since, l1, b1]) (by simp [fX11_since, b2])
    · exact bad (-11) (by simp [fX10_since, l1, b1]) (by simp [fX11_since, b2, l2])
    · exact bad (-12) (by simp [fX10_since, l1, b1]) (by simp [fX11_since, b2, l2])
    · obtain ⟨c, f, hN⟩ := nights_ex h
      have hu : ∀ k, TOK w (runF w t f k) := fun k => runF_ok hJ.1.1 hJ.1.2 k
      have hw := hJ.1.1
      have hn := hw.1
      have hc40 := hN.1.1
      have cd : (0 : Int32) ≤ nI d ∧ nI d < (6 : Int32) := inN (by omega) hd
      have ci := in10 (show i < 10 by omega)
      -- the first night behind which i is home, or none up to c
      obtain ⟨e, e1, e2, e3⟩ := lead_ex (fun j => ¬ (runF w t f j).home i = 1) (c + 1)
      -- e: the first home, or c + 1
      have ans : ∀ v : Int32, v = (if e ≤ c then nI e else -2) → v = (if e ≤ c then nI e else -2) := fun _ h => h
      have ex : OK (fX10_since x (nI d) (nI i)) (fun a => (Fr XSr XSf x a.2 ∧ scrH a.2 w.lost) ∧ a.1 = if e ≤ c then nI e else -2) := by
        unfold fX10_since
        refine OK.r l1 (OK.f n10 (OK.r b1 (OK.t rfl (OK.t cd ?_))))
        rw [ixN (by omega)]
        unfold fX6_firstHome
        refine OK.bind (P := fun q => (Fr XSr XSf x q.2 ∧ scrH q.2 w.lost) ∧ q.1 = if e ≤ c then nI e else -2) ?_ (fun q hq => OK.ret hq)
        refine OK.bind (become27 hw hJ.2.1.2.1 hJ.2.1.2.2) (fun z hz => ?_)
        rw [ix_0]
        refine OK.bind (P := fun q => q.1 = nI (if e ≤ c then e else c) ∧ behP x w (runF w t f (if e ≤ c then e else c)) q.2) ?_ (fun q hq => ?_)
        · refine LOOPUP (fun n (st : aH) l => wX6_firstHome_17 15 (61 + 2 * d) (nI i) (27 + 4 * 0) n st l) (fun ih st l => sX6_firstHome_17 15 (61 + 2 * d) (nI i) (27 + 4 * 0) ih st l) (fun n => rfl) (fun k y => behP x w (runF w t f k) y) _ (if e ≤ c then e else c) ?_ ?_ 2000 0 z (by split <;> omega) (by omega) hz
          · intro k y hk hI ih hh
            have hke : k < e ∧ k < c := by split at hk <;> omega
            have hy : shR y m d 0 n := ⟨h.1, by rw [hI.2.f (by simp <;> omega), hI.2.f (by simp <;> omega), hI.2.f (by simp <;> omega)]; exact h.2.1, h.2.2.1, by rw [hI.2.j]; exact h.2.2.2⟩
            unfold sX6_firstHome_17
            refine OK.f (by rw [leL (by omega) (by omega)]; omega) (OK.r (isNight_x hy hN (by omega) (by omega)) ?_)
            rw [if_pos hke.2]
            refine OK.f n10 (OK.r (isHome27 hw (hu k) hI hi) ?_)
            have hk0 : (runF w t f k).home i = 0 := by
              have := ((hu k).1 i hi).2
              have := e2 k hke.1
              omega
            rw [hk0]
            refine OK.t rfl (OK.r (number_x hy (by have := hN.1.2; omega)) ?_)
            rw [(hN.2.1 k hke.2).2, ti_tl]
            refine OK.bind (behind_step hw (hu k) hJ.2.1.1 hI (hN.2.1 k hke.2).1) (fun q hq => ?_)
            rw [nI_1]
            exact hh _ hq
          · intro y hI ih
            have hy : shR y m d 0 n := ⟨h.1, by rw [hI.2.f (by simp <;> omega), hI.2.f (by simp <;> omega), hI.2.f (by simp <;> omega)]; exact h.2.1, h.2.2.1, by rw [hI.2.j]; exact h.2.2.2⟩
            unfold sX6_firstHome_17
            by_cases hec : e ≤ c
            · rw [if_pos hec] at hI ⊢
              by_cases h40 : e = 40
              · exact OK.t (by rw [leL (by omega) (by omega)]; omega) (OK.ret ⟨rfl, hI⟩)
              · refine OK.f (by rw [leL (by omega) (by omega)]; omega) (OK.r (isNight_x hy hN (by omega) (by omega)) ?_)
                by_cases hlt : e < c
                · rw [if_pos hlt]
                  refine OK.f n10 (OK.r (isHome27 hw (hu e) hI hi) ?_)
                  have : (runF w t f e).home i = 1 := Decidable.not_not.mp (e3 (by omega))
                  rw [this]
                  exact OK.f n10 (OK.ret ⟨rfl, hI⟩)
                · rw [if_neg hlt]
                  exact OK.t rfl (OK.ret ⟨rfl, hI⟩)
            · rw [if_neg hec] at hI ⊢
              by_cases h40 : c = 40
              · exact OK.t (by rw [leL (by omega) (by omega)]; omega) (OK.ret ⟨rfl, hI⟩)
              · refine OK.f (by rw [leL (by omega) (by omega)]; omega) (OK.r (isNight_x hy hN (by omega) (by omega)) ?_)
                rw [if_neg (Nat.lt_irrefl c)]
                exact OK.t rfl (OK.ret ⟨rfl, hI⟩)
        · obtain ⟨q1, q2⟩ := hq
          refine OK.r (isHome27 hw (hu _) q2 hi) ?_
          by_cases hec : e ≤ c
          · rw [if_pos hec] at q1 q2 ⊢
            have : (runF w t f e).home i = 1 := Decidable.not_not.mp (e3 (by omega))
            rw [this]
            exact OK.f n10 (OK.ret ⟨q2.TH hw (hu e) hJ.2.1.2.2, by rw [if_pos hec]; exact q1⟩)
          · rw [if_neg hec] at q1 q2 ⊢
            have h0 : (runF w t f c).home i = 0 := by
              have := ((hu c).1 i hi).2
              have := e2 c (by omega)
              omega
            rw [h0]
            exact OK.t rfl (OK.ret ⟨q2.TH hw (hu c) hJ.2.1.2.2, by rw [if_neg hec]⟩)
      have em : OK (fX11_since m (nI d) (nI i)) (fun a => Fr MSr MSf m a.2 ∧ a.1 = if e ≤ c then nI e else -2) := by
        unfold fX11_since
        refine OK.r b2 (OK.f (by decide) (OK.r l2 (OK.f n10 (OK.r b2 (OK.t (by decide) (OK.r (nightMany_m hd h hN rfl rfl) ?_))))))
        refine OK.bind (P := fun s => elS s (fun r => Fr [80, 81, 82, 83] GF2 m r.2 ∧ r.1 = if e ≤ c then nI e else -2) (fun r => Fr [80, 81, 82, 83] GF2 m r ∧ ¬ e ≤ c)) ?_ (fun q hq => ?_)
        · refine LOOPUP (fun n (st : aH) l => wX11_since_43 (nI d) (nI i) (nI c) n st l) (fun ih st l => sX11_since_43 (nI d) (nI i) (nI c) ih st l) (fun n => rfl) (fun k y => Fr [80, 81, 82, 83] GF2 m y) _ e ?_ ?_ 2000 0 m (by omega) (by omega) (Fr.rf _ _ _)
          · intro k y hk hI ih hh
            unfold sX11_since_43
            refine OK.f (by rw [ltN (by omega) (by omega)]; omega) ?_
            refine OK.bind (goesNights_m hJ hd h hN (show k ≤ 40 by omega) hI) (fun q hq => OK.t ci ?_)
            have ek : (if k < c then k else c) = k := by split <;> omega
            rw [ek] at hq
            have hk0 : (runF w t f k).home i = 0 := by
              have := ((hu k).1 i hi).2
              have := e2 k hk
              omega
            rw [ixN (by omega), (hq.1.1 i hi).2, hk0, nI_1]
            exact OK.f (by decide) (hh _ hq.2)
          · intro y hI ih
            unfold sX11_since_43
            by_cases hec : e ≤ c
            · refine OK.f (by rw [ltN (by omega) (by omega)]; omega) ?_
              refine OK.bind (goesNights_m hJ hd h hN (show e ≤ 40 by omega) hI) (fun q hq => OK.t ci ?_)
              have ek : (if e < c then e else c) = e := by split <;> omega
              rw [ek] at hq
              have : (runF w t f e).home i = 1 := Decidable.not_not.mp (e3 (by omega))
              rw [ixN (by omega), (hq.1.1 i hi).2, this]
              exact OK.t rfl (OK.ret ⟨hq.2, by rw [if_pos hec]⟩)
            · exact OK.t (by rw [ltN (by omega) (by omega)]; omega) (OK.ret ⟨hI, hec⟩)
        · rcases q with q | q
          · exact OK.ret ⟨hq.1.w (by simp <;> omega) (by simp <;> omega), hq.2⟩
          · exact OK.ret ⟨hq.1.w (by simp <;> omega) (by simp <;> omega), by rw [if_neg hq.2]⟩
      exact OK2.mk ex em (fun a b ha hb => ⟨⟨ha.1.1, hb.1, ha.1.2⟩, by rw [ha.2, hb.2]⟩)
  · rcases bytes_x hS p1 with ⟨-, b1, b2⟩ | ⟨d, hd, rfl, ⟨b1, b2⟩ | ⟨b1, b2⟩ | ⟨b1, b2, n, h⟩⟩ <;> exact bad (-1) (by simp [fX10_since, l1]) (by simp [fX11_since, b2, l2])
theorem op_draws {x m : aH} {w : SEA} {t : STD} (hJ : JN x m w t) (p1 : Int32) : OK2 (fX10_draws x p1) (fX11_draws m p1) (fun a b => TH w.lost x m a.2 b.2 ∧ a.1 = b.1) := by
  rcases isLost2 hJ p1 with ⟨i, hi, rfl, l1, l2⟩ | ⟨-, l1, l2⟩
  · obtain ⟨⟨hw, ht⟩, ⟨hs, hv, hh⟩, hms, hmv⟩ := hJ
    refine OK2.mk (A := fun a => a.1 = pullF w t i ∧ Fr [13, 14] [] x a.2) (B := fun b => b.1 = pullF w t i ∧ Fr MSr MSf m b.2) ?_ ?_ (fun a b ha hb => ⟨⟨ha.2.w (by simp <;> omega) (by simp), hb.2, hh.fr ha.2 (by simp)⟩, by rw [ha.1, hb.1]⟩)
    · unfold fX10_draws
      refine OK.r l1 (OK.f n10 (OK.bind (pull_x sd15 hw ht hs hv hi) (fun q hq => OK.ret hq)))
    · unfold fX11_draws
      refine OK.r l2 (OK.f n10 (OK.bind (begins_m hw.1 hms.2.2.2.1 hmv) (fun z hz => ?_)))
      refine OK.bind (draws_m hw ht (hms.fr hz.2 (by simp) (by simp) (by simp) (by simp)) hz.1 hi) (fun q hq => OK.ret ⟨hq.1, ?_⟩)
      exact (hz.2.w (by simp <;> omega) (by simp)).tr (hq.2.w (by simp) (by simp <;> omega))
  · exact OK2.eq (a := (-1, x)) (b := (-1, m)) (by simp [fX10_draws, l1]) (by simp [fX11_draws, l2]) ⟨TH.rf hJ, rfl⟩
