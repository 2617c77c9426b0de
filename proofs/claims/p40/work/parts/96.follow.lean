/-! ===== lines of nights ===== -/
def dgF (N L k : Nat) : Nat := L / 5 ^ (N - 1 - k) % 5
theorem dg_lt (N L k : Nat) : dgF N L k < 5 := Nat.mod_lt _ (by decide)
theorem stLN : ∀ j, j < 5 → stR 2 j = nI (5 ^ j) ∧ 5 ^ j ≤ 625 ∧ 1 ≤ 5 ^ j := by decide +kernel
theorem runF_congr {w : SEA} {t : STD} {f g : Nat → Nat} {k : Nat} (h : ∀ j, j < k → f j = g j) : runF w t f k = runF w t g k := by
  induction k with
  | zero => rfl
  | succ k ih => show passF w (runF w t f k) (f k) = passF w (runF w t g k) (g k); rw [ih (fun j hj => h j (by omega)), h k (by omega)]
theorem div_pred {L M : Nat} (h0 : 0 < M) (h : L % M ≠ 0) : (L - 1) / M = L / M := by
  have h1 := Nat.div_add_mod L M
  have h2 := Nat.mod_lt L h0
  have h3 : L - 1 = M * (L / M) + (L % M - 1) := by omega
  have h4 : (L % M - 1) / M = 0 := Nat.div_eq_of_lt (by omega)
  rw [h3, Nat.mul_add_div h0, h4, Nat.add_zero]
theorem wayOf_x (x : aH) {N L k : Nat} (hN : N ≤ 4) (hk : k < N) (hL : L < 2147483648) : fX6_wayOf x (nI L) (nI N) (nI k) = some (nI (dgF N L k)) := by
  have e : nI N - (1 : Int32) - nI k = nI (N - 1 - k) := by rw [subR (by omega), subN (by omega)]
  have c : (0 : Int32) ≤ nI (N - 1 - k) ∧ nI (N - 1 - k) < (5 : Int32) := inN (by omega) (by omega)
  obtain ⟨s1, s2, s3⟩ := stLN (N - 1 - k) (by omega)
  unfold fX6_wayOf
  rw [e, if_pos c, ixN (by omega), s1, if_pos (by rw [eqR (by omega) (by omega)]; omega), nI_div (k := 5 ^ (N - 1 - k)) rfl hL (by omega) (by omega)]
  exact congrArg some (nI_rem (k := 5) rfl (Nat.lt_of_le_of_lt (Nat.div_le_self _ _) hL) (by decide) (by decide))
abbrev FOr : List Nat := [13, 14, 28, 29, 30, 32, 33, 34, 36, 37, 38, 40, 41, 42, 44, 45, 46]
abbrev FOf : List (Nat × Nat) := [(27, 5), (27, 6), (27, 7), (31, 5), (31, 6), (31, 7), (35, 5), (35, 6), (35, 7), (39, 5), (39, 6), (39, 7), (43, 5), (43, 6), (43, 7)]
theorem sdJ {j : Nat} (h : j < 5) : SD (27 + 4 * j) := by unfold SD; omega
theorem FO_pass {j : Nat} (h : j < 5) : (∀ a, a ∈ [27 + 4 * j + 1, 27 + 4 * j + 2, 27 + 4 * j + 3, 13, 14] → a ∈ FOr) ∧ (∀ a, a ∈ [(27 + 4 * j, 5), (27 + 4 * j, 6), (27 + 4 * j, 7)] → a ∈ FOf) := by
  rcases (show j = 0 ∨ j = 1 ∨ j = 2 ∨ j = 3 ∨ j = 4 by omega) with rfl | rfl | rfl | rfl | rfl <;> constructor <;> simp <;> omega
/-- the stands 0 .. k stand behind 0 .. k nights of the line -/
def stds (y : aH) (w : SEA) (t : STD) (f : Nat → Nat) (k : Nat) : Prop := ∀ j, j ≤ k → vStd y (27 + 4 * j) w.lost (runF w t f j)
theorem follow_x {x y : aH} {w : SEA} {t : STD} {N L : Nat} (hw : SOK w) (ht : TOK w t) (hs : vSea x w) (hN : N ≤ 4) (hL : L < 625) (hy : Fr FOr FOf x y) (hh : scrH y w.lost) (h0 : vStd y 27 w.lost t) (hp : 0 < L → stds y w t (dgF N (L - 1)) N) : OK (fX6_follow y (nI L) (nI N)) (fun q => q.1 = 27 + 4 * N ∧ Fr FOr FOf y q.2 ∧ scrH q.2 w.lost ∧ stds q.2 w t (dgF N L) N) := by
  have hn := hw.1
  obtain ⟨e, e1, e2, e3⟩ := lead_ex (fun j => 0 < L ∧ L % 5 ^ (N - 1 - j) ≠ 0) N
  have hst : stds y w t (dgF N L) e := by
    by_cases hL0 : 0 < L
    · intro j hj
      rw [← runF_congr (f := dgF N (L - 1)) (fun i hi => ?_)]
      · exact hp hL0 j (by omega)
      · unfold dgF
        rw [div_pred (Nat.pow_pos (by decide)) (e2 i (by omega)).2]
    · have : e = 0 := by
        by_cases h : e = 0
        · exact h
        · exact absurd (e2 0 (by omega)).1 hL0
      subst this
      intro j hj
      obtain rfl : j = 0 := by omega
      exact h0
  unfold fX6_follow
  refine OK.bind (P := fun q => q = nI e) ?_ (fun q hq => ?_)
  · refine LOOPUP (fun n (_ : Unit) l => wX6_follow_2 y (nI L) (nI N) n l) (fun ih _ l => sX6_follow_2 y (nI L) (nI N) (ih ()) l) (fun n => rfl) (fun _ _ => True) _ e ?_ ?_ 2000 0 () (by omega) (by omega) trivial
    · intro j _ hj _ ih hk
      obtain ⟨g1, g2⟩ := e2 j hj
      have ee : nI N - (1 : Int32) - nI j = nI (N - 1 - j) := by rw [subR (by omega), subN (by omega)]
      have c : (0 : Int32) ≤ nI (N - 1 - j) ∧ nI (N - 1 - j) < (5 : Int32) := inN (by omega) (by omega)
      obtain ⟨s1, s2, s3⟩ := stLN (N - 1 - j) (by omega)
      unfold sX6_follow_2
      refine OK.f (by rw [leR (by omega) (by omega)]; omega) (OK.f (by rw [leN (by omega) (by omega)]; omega) ?_)
      rw [ee]
      refine OK.t c ?_
      rw [ixN (by omega), s1]
      refine OK.t (by rw [eqR (by omega) (by omega)]; omega) ?_
      rw [nI_rem (k := 5 ^ (N - 1 - j)) rfl (by omega) (by omega) (by omega)]
      have hml := Nat.mod_lt L (show 0 < 5 ^ (N - 1 - j) by omega)
      refine OK.f (by rw [eqR (by omega) (by omega)]; exact g2) ?_
      rw [nI_1]
      exact hk () trivial
    · intro _ _ ih
      unfold sX6_follow_2
      by_cases hL0 : L = 0
      · exact OK.t (by rw [leR (by omega) (by omega)]; omega) (OK.ret rfl)
      · refine OK.f (by rw [leR (by omega) (by omega)]; omega) ?_
        by_cases heN : e = N
        · exact OK.t (by rw [leN (by omega) (by omega)]; omega) (OK.ret rfl)
        · have g := e3 (by omega)
          have ee : nI N - (1 : Int32) - nI e = nI (N - 1 - e) := by rw [subR (by omega), subN (by omega)]
          have c : (0 : Int32) ≤ nI (N - 1 - e) ∧ nI (N - 1 - e) < (5 : Int32) := inN (by omega) (by omega)
          obtain ⟨s1, s2, s3⟩ := stLN (N - 1 - e) (by omega)
          refine OK.f (by rw [leN (by omega) (by omega)]; omega) ?_
          rw [ee]
          refine OK.t c ?_
          rw [ixN (by omega), s1]
          refine OK.t (by rw [eqR (by omega) (by omega)]; omega) ?_
          rw [nI_rem (k := 5 ^ (N - 1 - e)) rfl (by omega) (by omega) (by omega)]
          have hml := Nat.mod_lt L (show 0 < 5 ^ (N - 1 - e) by omega)
          have g0 : L % 5 ^ (N - 1 - e) = 0 := by
            by_cases h : L % 5 ^ (N - 1 - e) = 0
            · exact h
            · exact absurd ⟨by omega, h⟩ g
          exact OK.t (by rw [eqR (by omega) (by omega)]; exact g0) (OK.ret rfl)
  · subst hq
    refine OK.bind (P := fun z => Fr FOr FOf y z ∧ scrH z w.lost ∧ stds z w t (dgF N L) N) ?_ (fun z hz => ?_)
    · refine LOOPUP (fun n (st : aH) l => wX6_follow_31 (nI L) (nI N) n st l) (fun ih st l => sX6_follow_31 (nI L) (nI N) ih st l) (fun n => rfl) (fun k z => Fr FOr FOf y z ∧ scrH z w.lost ∧ stds z w t (dgF N L) k) _ N ?_ ?_ 2000 e y (by omega) (by omega) ⟨Fr.rf _ _ _, hh, hst⟩
      · intro k z hk hI ih hgo
        obtain ⟨z1, z2, z3⟩ := hI
        have hss : vSea z w := (hs.fr (hy.tr z1) (by simp <;> omega) (by simp <;> omega))
        have c1 : (0 : Int32) ≤ nI (k + 1) ∧ nI (k + 1) < (5 : Int32) := inN (by omega) (by omega)
        have c2 : (0 : Int32) ≤ nI k ∧ nI k < (5 : Int32) := inN (by omega) (by omega)
        unfold sX6_follow_31
        rw [nI_1]
        refine OK.f (by rw [leN (by omega) (by omega)]; omega) (OK.t c1 (OK.t c2 ?_))
        rw [ixN (by omega), ixN (by omega)]
        have sd1 := sdJ (j := k + 1) (by omega)
        have sd2 := sdJ (j := k) (by omega)
        refine OK.bind (become_x sd1 sd2 (by omega) hn (z2 _ sd1) (z3 k (Nat.le_refl _))) (fun u hu => OK.t c1 ?_)
        obtain ⟨u1, u2, -⟩ := hu
        have fu : Fr FOr FOf z u := u2.w (fun a ha => (FO_pass (j := k + 1) (by omega)).1 a (by simp at ha ⊢; omega)) (FO_pass (j := k + 1) (by omega)).2
        have hus : vSea u w := hss.fr fu (by simp <;> omega) (by simp <;> omega)
        refine OK.r (wayOf_x u hN hk (by omega)) ?_
        have hrk := runF_ok (f := dgF N L) hw ht k
        have hd5 := dg_lt N L k
        refine OK.bind (pass_x sd1 hw hrk hus u1 (by omega)) (fun q hq => ?_)
        obtain ⟨-, q1, q2, -⟩ := hq
        have fq : Fr FOr FOf u q.2 := q2.w (FO_pass (j := k + 1) (by omega)).1 (fun a ha => (FO_pass (j := k + 1) (by omega)).2 a (by simp at ha ⊢; rcases ha with rfl | rfl <;> simp))
        have hrk1 := runF_ok (f := dgF N L) hw ht (k + 1)
        refine hgo _ ⟨z1.tr (fu.tr fq), ?_, fun j hj => ?_⟩
        · have h1 : scrH u w.lost := z2.at u2 ⟨_, u1.2.2.1, bsum_lt (fun i hi => (hrk.1 i hi).2)⟩ (fun b hb _ => by simp; omega)
          exact h1.at q2 ⟨_, q1.2.2.1, bsum_lt (fun i hi => (hrk1.1 i hi).2)⟩ (fun b hb _ => by simp; omega)
        · by_cases hj1 : j = k + 1
          · subst hj1; exact q1
          · have h1 := z3 j (by omega)
            have h2 : vStd u (27 + 4 * j) w.lost (runF w t (dgF N L) j) := h1.frA u2 (by simp; omega) (by simp; omega)
            exact h2.frA q2 (by simp; omega) (by simp; omega)
      · intro z hI ih
        unfold sX6_follow_31
        exact OK.t (by rw [leN (by omega) (by omega)]; exact Nat.le_refl _) (OK.ret hI)
    · have c : (0 : Int32) ≤ nI N ∧ nI N < (5 : Int32) := inN (by omega) (by omega)
      exact OK.t c (OK.ret ⟨by rw [ixN (by omega)], hz⟩)
/-! what lines come to -/
def hmF (w : SEA) (t : STD) (N L : Nat) : Nat := nsum (runF w t (dgF N L) N).home w.lost
def olF (w : SEA) (t : STD) (N L : Nat) : Nat := (runF w t (dgF N L) N).oil
theorem hm_lt {w : SEA} {t : STD} {N L : Nat} (hw : SOK w) (ht : TOK w t) : hmF w t N L ≤ 10 ∧ olF w t N L < 1000 := by
  have h := runF_ok (f := dgF N L) hw ht N
  have h1 := nsum_le (f := (runF w t (dgF N L) N).home) (n := w.lost) (b := 1) (fun i hi => (h.1 i hi).2)
  exact ⟨by unfold hmF; have := hw.1; omega, h.2⟩
/-- the best of the first L lines: how many home, oil, which line -/
def BB (w : SEA) (t : STD) (N : Nat) : Nat → Int × Int × Nat
  | 0 => (-1, -1, 0)
  | L + 1 => if (BB w t N L).1 < hmF w t N L ∨ ((hmF w t N L : Int) = (BB w t N L).1 ∧ (BB w t N L).2.1 < olF w t N L) then (hmF w t N L, olF w t N L, L) else BB w t N L
theorem BB_b {w : SEA} {t : STD} {N : Nat} (hw : SOK w) (ht : TOK w t) : ∀ L, (-1 ≤ (BB w t N L).1 ∧ (BB w t N L).1 ≤ 10) ∧ (-1 ≤ (BB w t N L).2.1 ∧ (BB w t N L).2.1 < 1000) ∧ (0 < L → 0 ≤ (BB w t N L).1) ∧ ((BB w t N L).2.2 = 0 ∨ (BB w t N L).2.2 < L)
  | 0 => ⟨⟨by show (-1 : Int) ≤ -1; omega, by show (-1 : Int) ≤ 10; omega⟩, ⟨by show (-1 : Int) ≤ -1; omega, by show (-1 : Int) < 1000; omega⟩, fun h => absurd h (by decide), Or.inl rfl⟩
  | L + 1 => by
    obtain ⟨h1, h2, h3, h4⟩ := BB_b hw ht (N := N) L
    have hb := hm_lt (N := N) (L := L) hw ht
    have e : BB w t N (L + 1) = if (BB w t N L).1 < hmF w t N L ∨ ((hmF w t N L : Int) = (BB w t N L).1 ∧ (BB w t N L).2.1 < olF w t N L) then ((hmF w t N L : Int), (olF w t N L : Int), L) else BB w t N L := rfl
    rw [e]
    by_cases c : (BB w t N L).1 < hmF w t N L ∨ ((hmF w t N L : Int) = (BB w t N L).1 ∧ (BB w t N L).2.1 < olF w t N L)
    · rw [if_pos c]
      refine ⟨⟨?_, ?_⟩, ⟨?_, ?_⟩, fun _ => ?_, Or.inr ?_⟩ <;> (try dsimp only) <;> omega
    · rw [if_neg c]
      refine ⟨h1, h2, fun _ => ?_, ?_⟩
      · by_cases hL : 0 < L
        · exact h3 hL
        · have : L = 0 := by omega
          subst this
          exfalso
          apply c
          left
          show (-1 : Int) < _
          omega
      · rcases h4 with h4 | h4
        · exact Or.inl h4
        · exact Or.inr (by omega)
abbrev BXr : List Nat := FOr
abbrev BXf : List (Nat × Nat) := [(23, 2), (23, 3), (23, 4), (27, 5), (27, 6), (27, 7), (31, 5), (31, 6), (31, 7), (35, 5), (35, 6), (35, 7), (39, 5), (39, 6), (39, 7), (43, 5), (43, 6), (43, 7)]
def bI1 (x : aH) (w : SEA) (t : STD) (N L : Nat) (y : aH) : Prop := Fr BXr BXf x y ∧ scrH y w.lost ∧ vStd y 27 w.lost t ∧ (0 < L → stds y w t (dgF N (L - 1)) N) ∧ fi y 23 3 = iI (BB w t N L).1 ∧ fi y 23 4 = iI (BB w t N L).2.1 ∧ (0 < L → fi y 23 2 = nI (BB w t N L).2.2)
theorem SDo {j : Nat} (h : j ≤ 4) : 27 + 4 * j = 15 ∨ 27 + 4 * j = 19 ∨ 27 + 4 * j = 27 ∨ 27 + 4 * j = 31 ∨ 27 + 4 * j = 35 ∨ 27 + 4 * j = 39 ∨ 27 + 4 * j = 43 := by omega
theorem vStd.f23 {y z : aH} {a n : Nat} {t : STD} {R : List Nat} (h : vStd y a n t) (k : Fr R [(23, 2), (23, 3), (23, 4), (23, 5)] y z) (hR : a + 1 ∉ R) (ha : 27 ≤ a) : vStd z a n t := h.frA k hR (by simp; omega)
theorem best_x {x : aH} {w : SEA} {t : STD} {N : Nat} (hw : SOK w) (ht : TOK w t) (hs : vSea x w) (hv : vStd x 15 w.lost t) (hh : scrH x w.lost) (hN : N ≤ 4) : OK (fX6_findBest x 15 (nI N)) (bI1 x w t N (5 ^ N)) := by
  have hn := hw.1
  have cN : (0 : Int32) ≤ nI N ∧ nI N < (5 : Int32) := inN (by omega) (by omega)
  obtain ⟨s1, s2, s3⟩ := stLN N (by omega)
  unfold fX6_findBest
  refine OK.bind (become27 hw hv hh) (fun z hz => ?_)
  have hzh := (hz.TH hw ht hh).2
  refine OK.bind (P := bI1 x w t N (5 ^ N)) ?_ (fun q hq => OK.ret hq)
  have f0 : Fr [] [(23, 2), (23, 3), (23, 4), (23, 5)] z (sfi (sfi z 23 3 (-1 : Int32)) 23 4 (-1 : Int32)) := Fr.sfi (Fr.sfi (Fr.rf _ _ _) (by simp)) (by simp)
  have f0' : Fr [] [(23, 3), (23, 4)] z (sfi (sfi z 23 3 (-1 : Int32)) 23 4 (-1 : Int32)) := Fr.sfi (Fr.sfi (Fr.rf _ _ _) (by simp)) (by simp)
  refine LOOPUP (fun n (st : aH) l => wX6_findBest_22 15 (nI N) n st l) (fun ih st l => sX6_findBest_22 15 (nI N) ih st l) (fun n => rfl) (fun L y => bI1 x w t N L y) _ (5 ^ N) ?_ ?_ 2000 0 _ (by omega) (by omega) ⟨(hz.2.w (by simp <;> omega) (by simp <;> omega)).tr (f0'.w (by simp) (by simp)), hzh.fr f0' (fun a ha => by have := ha; unfold SD at this; simp <;> omega), hz.1.f23 f0 (by simp) (by omega), fun h => absurd h (by decide), by simp [gf] <;> rfl, by simp [gf] <;> rfl, fun h => absurd h (by decide)⟩
  · intro L y hL hI ih hk
    obtain ⟨y1, y2, y3, y4, y5, y6, y7⟩ := hI
    have hys : vSea y w := hs.fr y1 (by simp <;> omega) (by simp <;> omega)
    unfold sX6_findBest_22
    rw [ixN (by omega), s1]
    refine OK.t cN (OK.f (by rw [leN (by omega) (by omega)]; omega) ?_)
    refine OK.bind (follow_x (x := y) hw ht hys hN (by omega) (Fr.rf _ _ _) y2 y3 y4) (fun q hq => ?_)
    obtain ⟨q1, q2, q3, q4⟩ := hq
    have hst := q4 N (Nat.le_refl _)
    have hb := hm_lt (N := N) (L := L) hw ht
    have hbb := BB_b (N := N) hw ht L
    have hro := runF_ok (f := dgF N L) hw ht N
    rw [q1]
    refine OK.t (SDo hN) ?_
    rw [hst.2.2.1, bitCount_b hn (fun i hi => (hro.1 i hi).2)]
    simp only [Option.bind_some]
    have e3 : fi q.2 23 3 = iI (BB w t N L).1 := by rw [q2.f (by simp)]; exact y5
    have e4 : fi q.2 23 4 = iI (BB w t N L).2.1 := by rw [q2.f (by simp)]; exact y6
    have e7 : fi q.2 (27 + 4 * N) 7 = iI (olF w t N L : Int) := by rw [← nI_iI]; exact hst.2.2.2
    have eh : nI (nsum (runF w t (dgF N L) N).home w.lost) = iI (hmF w t N L : Int) := nI_iI _
    rw [e3, e4, e7, eh]
    have fq : Fr BXr BXf y q.2 := q2.w (by simp) (by simp <;> omega)
    have eBB : BB w t N (L + 1) = if (BB w t N L).1 < hmF w t N L ∨ ((hmF w t N L : Int) = (BB w t N L).1 ∧ (BB w t N L).2.1 < olF w t N L) then ((hmF w t N L : Int), (olF w t N L : Int), L) else BB w t N L := rfl
    have yes : ((BB w t N L).1 < hmF w t N L ∨ ((hmF w t N L : Int) = (BB w t N L).1 ∧ (BB w t N L).2.1 < olF w t N L)) → OK (jX6_findBest_79 15 ih q.2 (nI N) (nI L) (27 + 4 * N) (iI (hmF w t N L : Int))) (bI1 x w t N (5 ^ N)) := by
      intro c
      rw [if_pos c] at eBB
      have f7 : fi (sfi q.2 23 3 (iI (hmF w t N L : Int))) (27 + 4 * N) 7 = iI (olF w t N L : Int) := by rw [gf, if_neg (by omega), e7]
      unfold jX6_findBest_79 jX6_findBest_99
      rw [f7, nI_1]
      have fz : Fr [] [(23, 2), (23, 3), (23, 4), (23, 5)] q.2 (sfi (sfi (sfi q.2 23 3 (iI (hmF w t N L : Int))) 23 4 (iI (olF w t N L : Int))) 23 2 (nI L)) := Fr.sfi (Fr.sfi (Fr.sfi (Fr.rf _ _ _) (by simp)) (by simp)) (by simp)
      have fz' : Fr [] [(23, 2), (23, 3), (23, 4)] q.2 (sfi (sfi (sfi q.2 23 3 (iI (hmF w t N L : Int))) 23 4 (iI (olF w t N L : Int))) 23 2 (nI L)) := Fr.sfi (Fr.sfi (Fr.sfi (Fr.rf _ _ _) (by simp)) (by simp)) (by simp)
      refine hk _ ⟨y1.tr (fq.tr (fz'.w (by simp) (by simp <;> omega))), q3.fr fz' (fun a ha => by have := ha; unfold SD at this; simp <;> omega), (q4 0 (Nat.zero_le _)).f23 fz (by simp) (by omega), fun _ j hj => (q4 j hj).f23 fz (by simp) (by omega), ?_, ?_, fun _ => ?_⟩
      · rw [eBB]; simp [gf]
      · rw [eBB]; simp [gf]
      · rw [eBB]; simp [gf]
    have no : ¬ ((BB w t N L).1 < hmF w t N L ∨ ((hmF w t N L : Int) = (BB w t N L).1 ∧ (BB w t N L).2.1 < olF w t N L)) → OK (jX6_findBest_99 15 ih q.2 (nI N) (nI L)) (bI1 x w t N (5 ^ N)) := by
      intro c
      rw [if_neg c] at eBB
      unfold jX6_findBest_99
      rw [nI_1]
      refine hk _ ⟨y1.tr fq, q3, q4 0 (Nat.zero_le _), fun _ => q4, by rw [eBB]; exact e3, by rw [eBB]; exact e4, fun _ => ?_⟩
      rw [eBB, q2.f (by simp)]
      by_cases hL0 : 0 < L
      · exact y7 hL0
      · have : L = 0 := by omega
        subst this
        exfalso
        apply c
        left
        show (-1 : Int) < _
        omega
    refine OK.i (fun c => yes ?_) (fun c => ?_)
    · rw [iI_lt (by omega) (by omega) (by omega) (by omega)] at c
      exact Or.inl c
    · rw [iI_lt (by omega) (by omega) (by omega) (by omega)] at c
      refine OK.i (fun c2 => ?_) (fun c2 => no ?_)
      · rw [iI_eq (by omega) (by omega) (by omega) (by omega)] at c2
        refine OK.i (fun c3 => no ?_) (fun c3 => yes ?_)
        · rw [iI_le (by omega) (by omega) (by omega) (by omega)] at c3
          omega
        · rw [iI_le (by omega) (by omega) (by omega) (by omega)] at c3
          exact Or.inr ⟨c2, by omega⟩
      · rw [iI_eq (by omega) (by omega) (by omega) (by omega)] at c2
        omega
  · intro y hI ih
    unfold sX6_findBest_22
    rw [ixN (by omega), s1]
    exact OK.t cN (OK.t (by rw [leN (by omega) (by omega)]; exact Nat.le_refl _) (OK.ret hI))
