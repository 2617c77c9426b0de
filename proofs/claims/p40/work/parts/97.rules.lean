/-! ===== rules: that the calls come to their ends ===== -/
theorem OK.any {α : Type} {o : Option α} {P : α → Prop} (h : OK o P) : OK o (fun _ => True) := h.mono (fun _ _ => trivial)
def rlP (x : aH) (n : Nat) (y : aH) : Prop := Fr [49, 50, 51] [(48, 2), (48, 3)] x y ∧ fi y 48 3 = nI n ∧ ∃ a : Nat, a ≤ 20 ∧ fi y 48 2 = nI a
theorem read_x {x m : aH} {d n q : Nat} (h : shR x m d 0 q) (hn : n ≤ 10) : OK (fX4_read x (61 + 2 * d) (nI n)) (rlP x n) := by
  have hq := h.1.2
  unfold fX4_read
  refine OK.bind (P := rlP x n) ?_ (fun y hy => OK.ret hy)
  have f0 : Fr [49, 50, 51] [(48, 2), (48, 3)] x (sfi (sfi x 48 3 (nI n)) 48 2 0) := Fr.sfi (Fr.sfi (Fr.rf _ _ _) (by simp)) (by simp)
  refine LOOP (fun k (st : aH × Int32) => wX4_read_12 (61 + 2 * d) k st.1 st.2) (fun ih st => sX4_read_12 (61 + 2 * d) (fun a b => ih (a, b)) st.1 st.2) (fun n => rfl) (fun k st => rlP x n st.1 ∧ ∃ i : Nat, i + k = 70 ∧ i ≤ 61 ∧ st.2 = nI i) _ ?_ 2000 70 (sfi (sfi x 48 3 (nI n)) 48 2 0, 0) (by omega) ⟨⟨f0, by rw [gf, if_neg (by simp), gf, if_pos ⟨rfl, rfl⟩], 0, by omega, by rw [gf, if_pos ⟨rfl, rfl⟩]; rfl⟩, 0, by omega, by omega, rfl⟩
  rintro k ⟨y, l⟩ ⟨hy, i, hik, hi, hl⟩ ih hk
  dsimp only at hy hl
  subst hl
  obtain ⟨y1, y2, a, ha, y3⟩ := id hy
  have ef : fi y (61 + 2 * d) 2 = nI q := by rw [y1.f (by simp <;> omega)]; exact h.2.1.2.1
  have hy' : shR y m d 0 q := ⟨h.1, by rw [y1.f (by simp <;> omega), y1.f (by simp <;> omega), y1.f (by simp <;> omega)]; exact h.2.1, h.2.2.1, by rw [y1.j]; exact h.2.2.2⟩
  have go : ∀ z, rlP x n z → i + 2 ≤ 61 → OK (jX4_read_104 (61 + 2 * d) (fun a b => ih (a, b)) z (nI i)) (rlP x n) := by
    intro z hz h61
    unfold jX4_read_104
    rw [addR]
    exact hk (k - 2) (z, _) (by omega) ⟨hz, i + 2, by omega, h61, rfl⟩
  try dsimp only
  unfold sX4_read_12
  rw [ef, nI_1]
  refine OK.i (fun _ => OK.ret hy) (fun c1 => ?_)
  rw [leN (by omega) (by omega)] at c1
  refine OK.i (fun _ => OK.ret hy) (fun c2 => ?_)
  rw [y3, leL (by omega) (by omega)] at c2
  refine OK.r (number_x hy' (by omega)) (OK.r (number_x hy' (by omega)) (OK.i (fun _ => go y hy (by omega)) (fun _ => ?_)))
  have lo : ∀ v, ∃ b : Int32, fX4_isLostOne y v = some b := by
    intro v
    unfold fX4_isLostOne
    by_cases h1 : v < 0
    · exact ⟨0, by rw [if_pos h1]⟩
    · by_cases h2 : fi y 48 3 ≤ v
      · exact ⟨0, by rw [if_neg h1, if_pos h2]⟩
      · exact ⟨1, by rw [if_neg h1, if_neg h2]⟩
  obtain ⟨b1, e1⟩ := lo (rj m 96 (60 * d + i)).toInt32
  obtain ⟨b2, e2⟩ := lo (rj m 96 (60 * d + (i + 1))).toInt32
  refine OK.r e1 (OK.i (fun _ => go y hy (by omega)) (fun _ => OK.r e2 (OK.i (fun _ => go y hy (by omega)) (fun _ => ?_))))
  have ca : (0 : Int32) ≤ nI a ∧ nI a < (20 : Int32) := inN (by omega) (by omega)
  simp only [gfr, y3]
  refine OK.t ca (OK.t ca (go _ ⟨Fr.sfi (Fr.sri (Fr.sri y1 (by simp)) (by simp)) (by simp), by simp [gf, gfr]; exact y2, a + 1, by omega, by simp [gf, nI_1]⟩ (by omega)))
theorem lacking_x {x y : aH} {n : Nat} (hy : rlP x n y) (p c : Int32) : OK (fX4_lacking y p c) (fun _ => True) := by
  obtain ⟨y1, y2, a, ha, y3⟩ := hy
  unfold fX4_lacking
  refine OK.bind (P := fun _ => True) ?_ (fun _ _ => OK.ret trivial)
  refine LOOPUP (fun k (st : Int32) l => wX4_lacking_5 y p c k st l) (fun ih st l => sX4_lacking_5 y p c ih st l) (fun n => rfl) (fun _ _ => True) _ a ?_ ?_ 2000 0 0 (by omega) (by omega) trivial
  · intro i st hi _ ih hk
    unfold sX4_lacking_5 jX4_lacking_44 jX4_lacking_45
    have ci : (0 : Int32) ≤ nI i ∧ nI i < (20 : Int32) := inN (by omega) (by omega)
    rw [nI_1]
    refine OK.f (by rw [y3, leN (by omega) (by omega)]; omega) (OK.t ci (OK.i (fun _ => OK.t ci (OK.i (fun _ => hk _ trivial) (fun _ => hk _ trivial))) (fun _ => hk _ trivial)))
  · intro st _ ih
    unfold sX4_lacking_5
    exact OK.t (by rw [y3, leN (by omega) (by omega)]; exact Nat.le_refl _) (OK.ret trivial)
theorem isNext_x {x y : aH} {n : Nat} (hy : rlP x n y) (p c : Int32) : OK (fX4_isNext y p c) (fun _ => True) := by
  unfold fX4_isNext
  exact OK.i (fun _ => OK.bind (lacking_x hy p c) (fun _ _ => OK.i (fun _ => OK.ret trivial) (fun _ => OK.ret trivial))) (fun _ => OK.ret trivial)
theorem next_x {x y : aH} {n : Nat} (hn : n ≤ 10) (hy : rlP x n y) (c : Int32) : OK (fX4_next y c) (fun _ => True) := by
  have y2 := hy.2.1
  unfold fX4_next
  refine OK.bind (P := fun _ => True) ?_ (fun _ _ => OK.ret trivial)
  refine LOOPUP (fun k (st : Int32) l => wX4_next_4 y c k st l) (fun ih st l => sX4_next_4 y c ih st l) (fun n => rfl) (fun _ _ => True) _ n ?_ ?_ 2000 0 0 (by omega) (by omega) trivial
  · intro i st hi _ ih hk
    unfold sX4_next_4 jX4_next_29
    rw [nI_1]
    exact OK.f (by rw [y2, leN (by omega) (by omega)]; omega) (OK.bind (isNext_x hy _ _) (fun _ _ => OK.i (fun _ => hk _ trivial) (fun _ => hk _ trivial)))
  · intro st _ ih
    unfold sX4_next_4
    exact OK.t (by rw [y2, leN (by omega) (by omega)]; exact Nat.le_refl _) (OK.ret trivial)
theorem inOrder_x {x y : aH} {n : Nat} (hn : n ≤ 10) (hy : rlP x n y) (k0 : Int32) : OK (fX4_inOrder y k0) (fun _ => True) := by
  have y2 := hy.2.1
  unfold fX4_inOrder
  refine OK.bind (P := fun _ => True) ?_ (fun q _ => by rcases q with q | q <;> exact OK.ret trivial)
  refine LOOPUP (fun k (st : Int32 × Int32) l => wX4_inOrder_8 y k0 k st.1 st.2 l) (fun ih st l => sX4_inOrder_8 y k0 (fun a b c => ih (a, b) c) st.1 st.2 l) (fun n => rfl) (fun _ _ => True) _ n ?_ ?_ 2000 0 (0, -2) (by omega) (by omega) trivial
  · rintro i ⟨s1, s2⟩ hi _ ih hk
    try dsimp only
    unfold sX4_inOrder_8 jX4_inOrder_69
    rw [nI_1]
    refine OK.f (by rw [y2, leN (by omega) (by omega)]; omega) (OK.bind (P := fun _ => True) ?_ (fun q _ => OK.i (fun _ => OK.ret trivial) (fun _ => OK.i (fun _ => hk (_, _) trivial) (fun _ => hk (_, _) trivial))))
    refine LOOPUP (fun k (_ : Unit) l => wX4_inOrder_20 y k0 s1 s2 (nI i) k l) (fun ih _ l => sX4_inOrder_20 y k0 s1 s2 (nI i) (ih ()) l) (fun n => rfl) (fun _ _ => True) _ n ?_ ?_ 2000 0 () (by omega) (by omega) trivial
    · intro j _ hj _ ih hk
      unfold sX4_inOrder_20
      rw [nI_1]
      exact OK.f (by rw [y2, leN (by omega) (by omega)]; omega) (OK.bind (isNext_x hy _ _) (fun _ _ => OK.i (fun _ => hk () trivial) (fun _ => OK.ret trivial)))
    · intro _ _ ih
      unfold sX4_inOrder_20
      exact OK.t (by rw [y2, leN (by omega) (by omega)]; exact Nat.le_refl _) (OK.ret trivial)
  · rintro ⟨s1, s2⟩ _ ih
    try dsimp only
    unfold sX4_inOrder_8
    exact OK.t (by rw [y2, leN (by omega) (by omega)]; exact Nat.le_refl _) (OK.ret trivial)
theorem ringFrom_x {x y : aH} {n : Nat} (hn : n ≤ 10) (hy : rlP x n y) (p : Int32) : OK (fX4_ringFrom y p) (fun _ => True) := by
  obtain ⟨y1, y2, a, ha, y3⟩ := hy
  unfold fX4_ringFrom
  refine OK.bind (P := fun _ => True) ?_ (fun q _ => by rcases q with q | q <;> exact OK.ret trivial)
  refine LOOPUP (fun k (st : Int32) l => wX4_ringFrom_6 y p k st l) (fun ih st l => sX4_ringFrom_6 y p ih st l) (fun n => rfl) (fun _ _ => True) _ (n + 1) ?_ ?_ 2000 1 _ (by omega) (by omega) trivial
  · intro i st hi _ ih hk
    unfold sX4_ringFrom_6
    rw [nI_1]
    refine OK.f (by rw [y2, ltN (by omega) (by omega)]; omega) (OK.bind (P := fun _ => True) ?_ (fun q _ => OK.i (fun _ => hk _ trivial) (fun _ => OK.ret trivial)))
    refine LOOPUP (fun k (u : Int32) l => wX4_ringFrom_20 y p st (nI i) k u l) (fun ih u l => sX4_ringFrom_20 y p st (nI i) ih u l) (fun n => rfl) (fun _ _ => True) _ a ?_ ?_ 2000 0 0 (by omega) (by omega) trivial
    · intro j u hj _ ih hk
      have cj : (0 : Int32) ≤ nI j ∧ nI j < (20 : Int32) := inN (by omega) (by omega)
      unfold sX4_ringFrom_20
      rw [nI_1]
      exact OK.f (by rw [y3, leN (by omega) (by omega)]; omega) (OK.t cj (OK.t cj (hk _ trivial)))
    · intro u _ ih
      unfold sX4_ringFrom_20
      exact OK.t (by rw [y3, leN (by omega) (by omega)]; exact Nat.le_refl _) (OK.ret trivial)
  · intro st _ ih
    unfold sX4_ringFrom_6
    exact OK.t (by rw [y2, ltN (by omega) (by omega)]; omega) (OK.ret trivial)
theorem smallest_x {x y : aH} {n : Nat} (hn : n ≤ 10) (hy : rlP x n y) : OK (fX4_smallestRing y) (fun _ => True) := by
  have y2 := hy.2.1
  unfold fX4_smallestRing
  refine OK.bind (P := fun _ => True) ?_ (fun _ _ => OK.ret trivial)
  refine LOOPUP (fun k (st : Int32) l => wX4_smallestRing_5 y k st l) (fun ih st l => sX4_smallestRing_5 y ih st l) (fun n => rfl) (fun _ _ => True) _ n ?_ ?_ 2000 0 _ (by omega) (by omega) trivial
  · intro i st hi _ ih hk
    unfold sX4_smallestRing_5 jX4_smallestRing_34 jX4_smallestRing_36
    rw [nI_1]
    exact OK.f (by rw [y2, leN (by omega) (by omega)]; omega) (OK.bind (ringFrom_x hn hy _) (fun _ _ => OK.i (fun _ => hk _ trivial) (fun _ => OK.i (fun _ => hk _ trivial) (fun _ => OK.i (fun _ => hk _ trivial) (fun _ => hk _ trivial)))))
  · intro st _ ih
    unfold sX4_smallestRing_5
    exact OK.t (by rw [y2, leN (by omega) (by omega)]; exact Nat.le_refl _) (OK.ret trivial)
theorem shl_all : ∀ n, n < 11 → ((1 : Int32) <<< (nI n &&& 31)) = nI (2 ^ n) := by decide +kernel
theorem xor_all : ∀ i, i < 10 → ∀ c, c < 1024 → (0 : Int32) ≤ (nI c ^^^ ((1 : Int32) <<< (nI i &&& 31))) ∧ (nI c ^^^ ((1 : Int32) <<< (nI i &&& 31))) < (1024 : Int32) := by decide +kernel
theorem clr_all : ∀ i, i < 10 → ∀ c, c < 1024 → (0 : Int32) ≤ (nI c &&& (((1 : Int32) <<< (nI i &&& 31)) ^^^ (-1 : Int32))) ∧ (nI c &&& (((1 : Int32) <<< (nI i &&& 31)) ^^^ (-1 : Int32))) < (1024 : Int32) := by decide +kernel
theorem pow_bd {n : Nat} (hn : n ≤ 10) : 1 ≤ 2 ^ n ∧ 2 ^ n ≤ 1024 := ⟨Nat.one_le_two_pow, pow10 hn⟩
theorem rlP.up {x y z : aH} {n : Nat} (h : rlP x n y) (k : Fr [51] [] y z) : rlP x n z := by
  obtain ⟨y1, y2, a, ha, y3⟩ := h
  exact ⟨y1.tr (k.w (by simp) (by simp)), by rw [k.f (by simp)]; exact y2, a, ha, by rw [k.f (by simp)]; exact y3⟩
theorem dropped_x {x y : aH} {n : Nat} (hn : n ≤ 10) (hy : rlP x n y) : OK (fX4_fewestDropped y) (fun q => rlP x n q.2) := by
  have y2 := hy.2.1
  obtain ⟨p1, p2⟩ := pow_bd hn
  have e1 : nI (2 ^ n) - (1 : Int32) = nI (2 ^ n - 1) := subR p1
  unfold fX4_fewestDropped
  rw [y2, shl_all n (by omega), e1]
  refine OK.bind (P := rlP x n) ?_ (fun z hz => ?_)
  · refine LOOPUP (fun k (st : aH) l => wX4_fewestDropped_18 (nI (2 ^ n - 1)) k st l) (fun ih st l => sX4_fewestDropped_18 (nI (2 ^ n - 1)) ih st l) (fun n => rfl) (fun _ z => rlP x n z) _ (2 ^ n) ?_ ?_ 2000 1 _ (by omega) p1 (hy.up (Fr.sri (Fr.rf _ _ _) (by simp)))
    · intro c z hc hz ih hk
      have cc : (0 : Int32) ≤ nI c ∧ nI c < (1024 : Int32) := inN (by omega) (by omega)
      have z2 := hz.2.1
      unfold sX4_fewestDropped_18
      rw [nI_1]
      refine OK.f (by rw [ltN (by omega) (by omega)]; omega) (OK.bind (P := fun _ => True) ?_ (fun q _ => OK.t cc (hk _ (hz.up (Fr.sri (Fr.rf _ _ _) (by simp))))))
      refine LOOPUP (fun k (u : Int32) l => wX4_fewestDropped_29 z (nI (2 ^ n - 1)) (nI c) k u l) (fun ih u l => sX4_fewestDropped_29 z (nI (2 ^ n - 1)) (nI c) ih u l) (fun n => rfl) (fun _ _ => True) _ n ?_ ?_ 2000 0 _ (by omega) (by omega) trivial
      · intro j u hj _ ih hk
        unfold sX4_fewestDropped_29 jX4_fewestDropped_76
        rw [nI_1]
        exact OK.f (by rw [z2, leN (by omega) (by omega)]; omega) (OK.i (fun _ => hk _ trivial) (fun _ => OK.t (xor_all j (by omega) c (by omega)) (OK.bind (lacking_x hz _ _) (fun _ _ => hk _ trivial))))
      · intro u _ ih
        unfold sX4_fewestDropped_29
        exact OK.t (by rw [z2, leN (by omega) (by omega)]; exact Nat.le_refl _) (OK.ret trivial)
    · intro z hz ih
      unfold sX4_fewestDropped_18
      exact OK.t (by rw [ltN (by omega) (by omega)]; omega) (OK.ret hz)
  · have z2 := hz.2.1
    exact OK.t (inN (by omega) (by omega)) (OK.ret hz)
/-! the reference -/
abbrev RLr : List Nat := [86, 87, 88]
theorem isLost_m {m : aH} {n : Nat} (hn : n ≤ 10) (h6 : fi m 73 6 = nI n) (p : Int32) : fX11_isLost m p.toInt64 = some (bI (0 ≤ p ∧ p < nI n)) := by
  unfold fX11_isLost
  rw [h6, show fX11_within p.toInt64 (0 : Int64) (nI n - 1).toInt64 = _ from within_i p 0 (nI n - 1)]
  have h0 := le0 (n := n) (by omega)
  have h10 : nI n ≤ (10 : Int32) := (leR (by omega) (by omega)).mpr (by omega)
  simp only [Option.bind_some]
  by_cases h : 0 ≤ p ∧ p < nI n
  · rw [bI_t h, bI_t (by grind), if_pos (Or.inr rfl)]
  · rw [bI_f h, bI_f (by grind), if_pos (Or.inl rfl)]
theorem takes_m {x m : aH} {d n q : Nat} (hd : d < 6) (h : shR x m d 0 q) (hn : n ≤ 10) (h6 : fi m 73 6 = nI n) : OK (fX11_takesRules m (nI d)) (fun y => Fr RLr [] m y) := by
  have hq := h.1.2
  have cd : (0 : Int32) ≤ nI d ∧ nI d < (6 : Int32) := inN (by omega) hd
  unfold fX11_takesRules
  refine OK.bind (P := fun y => Fr RLr [] m y) ?_ (fun z hz => OK.bind (P := fun y => Fr RLr [] m y) ?_ (fun y hy => OK.ret hy))
  · refine LOOPUP (fun k (st : aH) l => wX11_takesRules_2 (nI d) k st l) (fun ih st l => sX11_takesRules_2 (nI d) ih st l) (fun n => rfl) (fun _ y => Fr RLr [] m y) _ 100 ?_ ?_ 2000 0 m (by omega) (by omega) (Fr.rf _ _ _)
    · intro i y hi hy ih hk
      have ci : (0 : Int32) ≤ nI i ∧ nI i < (100 : Int32) := inN (by omega) (by omega)
      unfold sX11_takesRules_2
      rw [nI_1]
      exact OK.f (by rw [leL (by omega) (by omega)]; omega) (OK.t ci (hk _ (Fr.sri hy (by simp))))
    · intro y hy ih
      unfold sX11_takesRules_2
      exact OK.t (by decide) (OK.ret hy)
  · refine LOOPUP (fun k (st : aH) l => wX11_takesRules_23 (nI d) k st l) (fun ih st l => sX11_takesRules_23 (nI d) ih st l) (fun n => rfl) (fun _ y => Fr RLr [] m y) _ 20 ?_ ?_ 2000 0 z (by omega) (by omega) hz
    · intro i y hi hy ih hk
      have go : ∀ u, Fr RLr [] m u → OK (jX11_takesRules_116 ih u (nI d) (nI i)) (fun y => Fr RLr [] m y) := by
        intro u hu
        unfold jX11_takesRules_116
        rw [nI_1]
        exact hk _ hu
      have y6 : fi y 73 6 = nI n := by rw [hy.f (by simp)]; exact h6
      unfold sX11_takesRules_23
      refine OK.f (by rw [leL (by omega) (by omega)]; omega) (OK.t cd ?_)
      rw [ixN (show d < 2147483648 by omega), hy.r (show 95 ∉ _ by simp), h.2.2.1.2, mulL, mulL, addN]
      simp only [nI_1]
      refine OK.i (fun _ => OK.ret hy) (fun c => ?_)
      rw [leN (by omega) (by omega)] at c
      refine OK.t (inN (by omega) (by omega)) (OK.t (inN (by omega) (by omega)) ?_)
      rw [ixN (show 60 * d + 2 * i < 2147483648 by omega), ixN (show 60 * d + 2 * i + 1 < 2147483648 by omega), hy.j]
      obtain ⟨u, hu⟩ := (h.2.2.2 (2 * i) (by omega)).2 rfl
      obtain ⟨v, hv⟩ := (h.2.2.2 (2 * i + 1) (by omega)).2 rfl
      have hv' : rj m 96 (60 * d + 2 * i + 1) = v.toInt64 := hv
      rw [hu, hv']
      refine OK.r (isLost_m hn y6 u) ?_
      by_cases c1 : 0 ≤ u ∧ u < nI n
      · rw [bI_t c1]
        refine OK.f n10 (OK.r (isLost_m hn y6 v) ?_)
        by_cases c2 : 0 ≤ v ∧ v < nI n
        · rw [bI_t c2]
          refine OK.f n10 (OK.i (fun _ => go y hy) (fun _ => ?_))
          obtain ⟨a, ha, rfl⟩ := (in_range u n (by omega)).mp c1
          obtain ⟨b, hb, rfl⟩ := (in_range v n (by omega)).mp c2
          simp only [ti_tl]
          rw [mulL, addN]
          have cab : (0 : Int32) ≤ nI (10 * a + b) ∧ nI (10 * a + b) < (100 : Int32) := inN (by omega) (by omega)
          refine OK.t cab ?_
          first | exact OK.t cab (go _ (Fr.sri hy (by simp))) | exact go _ (Fr.sri hy (by simp))
        · rw [bI_f c2]
          exact OK.t rfl (go y hy)
      · rw [bI_f c1]
        exact OK.t rfl (go y hy)
    · intro y hy ih
      unfold sX11_takesRules_23
      exact OK.t (by decide) (OK.ret hy)
theorem isIn_m (a b : Int32) : OK (fX11_isIn a b) (fun _ => True) := by
  unfold fX11_isIn
  exact OK.i (fun _ => OK.ret trivial) (fun _ => OK.ret trivial)
theorem mayNow_m {m : aH} {n p : Nat} (hn : n ≤ 10) (h6 : fi m 73 6 = nI n) (hp : p < 10) (c : Int32) : OK (fX11_mayNow m (nI p) c) (fun _ => True) := by
  unfold fX11_mayNow
  refine OK.bind (P := fun _ => True) ?_ (fun q _ => ?_)
  · refine LOOPUP (fun k (_ : Unit) l => wX11_mayNow_2 m (nI p) c k l) (fun ih _ l => sX11_mayNow_2 m (nI p) c (ih ()) l) (fun n => rfl) (fun _ _ => True) _ n ?_ ?_ 2000 0 () (by omega) (by omega) trivial
    · intro i _ hi _ ih hk
      unfold sX11_mayNow_2 jX11_mayNow_34
      rw [nI_1, mulL, addN]
      exact OK.f (by rw [h6, leN (by omega) (by omega)]; omega) (OK.t (inN (by omega) (by omega)) (OK.i (fun _ => hk () trivial) (fun _ => OK.bind (isIn_m _ _) (fun _ _ => OK.i (fun _ => OK.ret trivial) (fun _ => hk () trivial)))))
    · intro _ _ ih
      unfold sX11_mayNow_2
      exact OK.t (by rw [h6, leN (by omega) (by omega)]; exact Nat.le_refl _) (OK.ret trivial)
  · rcases q with q | q
    · exact OK.ret trivial
    · exact OK.bind (isIn_m _ _) (fun _ _ => OK.i (fun _ => OK.ret trivial) (fun _ => OK.ret trivial))
theorem may_m {m : aH} {n : Nat} (hn : n ≤ 10) (h6 : fi m 73 6 = nI n) (c : Int32) : OK (wX11_may_53 m c 2000 0 0) (fun _ => True) := by
  refine LOOPUP (fun k (st : Int32) l => wX11_may_53 m c k st l) (fun ih st l => sX11_may_53 m c ih st l) (fun n => rfl) (fun _ _ => True) _ n ?_ ?_ 2000 0 0 (by omega) (by omega) trivial
  · intro i st hi _ ih hk
    unfold sX11_may_53 jX11_may_81
    rw [nI_1]
    exact OK.f (by rw [h6, leN (by omega) (by omega)]; omega) (OK.bind (mayNow_m hn h6 (by omega) c) (fun _ _ => OK.i (fun _ => hk _ trivial) (fun _ => hk _ trivial)))
  · intro st _ ih
    unfold sX11_may_53
    exact OK.t (by rw [h6, leN (by omega) (by omega)]; exact Nat.le_refl _) (OK.ret trivial)
theorem order_m {m : aH} {n : Nat} (hn : n ≤ 10) (h6 : fi m 73 6 = nI n) (c : Int32) : OK (wX11_order_43 m c 2000 0 (-2) 0) (fun q => elS q (fun r => r.2 = m) (fun _ => True)) := by
  refine LOOPUP (fun k (st : Int32 × Int32) l => wX11_order_43 m c k st.1 st.2 l) (fun ih st l => sX11_order_43 m c (fun a b c => ih (a, b) c) st.1 st.2 l) (fun n => rfl) (fun _ _ => True) _ n ?_ ?_ 2000 0 (0, -2) (by omega) (by omega) trivial
  · rintro i ⟨s1, s2⟩ hi _ ih hk
    try dsimp only
    unfold sX11_order_43 jX11_order_121
    rw [h6, nI_1]
    refine OK.f (by rw [leN (by omega) (by omega)]; omega) (OK.bind (P := fun _ => True) ?_ (fun q _ => OK.i (fun _ => OK.i (fun _ => hk (_, _) trivial) (fun _ => hk (_, _) trivial)) (fun _ => OK.ret rfl)))
    rw [subR (by omega)]
    refine LOOP (fun k (st : Int32 × Int32) => wX11_order_63 m c s1 s2 (nI i) k st.1 st.2) (fun ih st => sX11_order_63 m c s1 s2 (nI i) (fun a b => ih (a, b)) st.1 st.2) (fun n => rfl) (fun k st => k ≤ n ∧ st.2 = iI ((k : Int) - 1)) _ ?_ 2000 n (-1, nI (n - 1)) (by omega) ⟨Nat.le_refl _, (show nI (n - 1) = iI ((n : Int) - 1) by rw [nI_iI]; exact congrArg iI (by omega))⟩
    rintro k ⟨b, l⟩ ⟨h1, h2⟩ ih hk
    dsimp only at h2
    subst h2
    try dsimp only
    unfold sX11_order_63 jX11_order_85
    by_cases hk0 : k = 0
    · subst hk0
      exact OK.t (by decide) (OK.ret trivial)
    · have ek : iI ((k : Int) - 1) = nI (k - 1) := by rw [nI_iI]; exact congrArg iI (by omega)
      have ek2 : nI (k - 1) + (-1 : Int32) = iI (((k - 1 : Nat) : Int) - 1) := by rw [nI_iI, show (-1 : Int32) = iI (-1) from rfl, iI_add]; exact congrArg iI (by omega)
      rw [ek, ek2]
      exact OK.f (lt0 (by omega)) (OK.bind (mayNow_m hn h6 (by omega) s1) (fun _ _ => OK.i (fun _ => hk (k - 1) (_, _) (by omega) ⟨by omega, rfl⟩) (fun _ => hk (k - 1) (_, _) (by omega) ⟨by omega, rfl⟩)))
  · rintro ⟨s1, s2⟩ _ ih
    try dsimp only
    unfold sX11_order_43
    exact OK.t (by rw [h6, leN (by omega) (by omega)]; exact Nat.le_refl _) (OK.ret trivial)
theorem ring_m {m : aH} {n : Nat} (hn : n ≤ 10) (h6 : fi m 73 6 = nI n) : OK (fX11_ring m) (fun q => Fr RLr [] m q.2) := by
  unfold fX11_ring
  have a6 : ∀ {y}, Fr RLr [] m y → fi y 73 6 = nI n := fun hy => by rw [hy.f (by simp)]; exact h6
  refine OK.bind (P := fun y => Fr RLr [] m y) ?_ (fun z hz => OK.bind (P := fun y => Fr RLr [] m y) ?_ (fun u hu => OK.bind (P := fun _ => True) ?_ (fun q _ => OK.i (fun _ => OK.ret hu) (fun _ => OK.ret hu))))
  · refine LOOPUP (fun k (st : aH) l => wX11_ring_6 1000000 k st l) (fun ih st l => sX11_ring_6 1000000 ih st l) (fun n => rfl) (fun _ y => Fr RLr [] m y) _ 100 ?_ ?_ 2000 0 m (by omega) (by omega) (Fr.rf _ _ _)
    · intro i y hi hy ih hk
      have ci : (0 : Int32) ≤ nI i ∧ nI i < (100 : Int32) := inN (by omega) (by omega)
      unfold sX11_ring_6 jX11_ring_33
      rw [nI_1]
      exact OK.f (by rw [leL (by omega) (by omega)]; omega) (OK.t ci (OK.i (fun _ => OK.t ci (hk _ (Fr.sri hy (by simp)))) (fun _ => OK.t ci (hk _ (Fr.sri hy (by simp))))))
    · intro y hy ih
      unfold sX11_ring_6
      exact OK.t (by decide) (OK.ret hy)
  · refine LOOPUP (fun k (st : aH) l => wX11_ring_42 1000000 k st l) (fun ih st l => sX11_ring_42 1000000 ih st l) (fun n => rfl) (fun _ y => Fr RLr [] m y) _ n ?_ ?_ 2000 0 z (by omega) (by omega) hz
    · intro i y hi hy ih hk
      unfold sX11_ring_42
      rw [nI_1]
      refine OK.f (by rw [a6 hy, leN (by omega) (by omega)]; omega) (OK.bind (P := fun y => Fr RLr [] m y) ?_ (fun v hv => hk _ hv))
      refine LOOPUP (fun k (st : aH) l => wX11_ring_52 1000000 (nI i) k st l) (fun ih st l => sX11_ring_52 1000000 (nI i) ih st l) (fun n => rfl) (fun _ y => Fr RLr [] m y) _ n ?_ ?_ 2000 0 y (by omega) (by omega) hy
      · intro j y hj hy ih hk
        unfold sX11_ring_52
        rw [nI_1]
        refine OK.f (by rw [a6 hy, leN (by omega) (by omega)]; omega) (OK.bind (P := fun y => Fr RLr [] m y) ?_ (fun v hv => hk _ hv))
        refine LOOPUP (fun k (st : aH) l => wX11_ring_63 1000000 (nI i) (nI j) k st l) (fun ih st l => sX11_ring_63 1000000 (nI i) (nI j) ih st l) (fun n => rfl) (fun _ y => Fr RLr [] m y) _ n ?_ ?_ 2000 0 y (by omega) (by omega) hy
        · intro k y hkn hy ih hk
          have c1 : (0 : Int32) ≤ nI (10 * j + i) ∧ nI (10 * j + i) < (100 : Int32) := inN (by omega) (by omega)
          have c2 : (0 : Int32) ≤ nI (10 * i + k) ∧ nI (10 * i + k) < (100 : Int32) := inN (by omega) (by omega)
          have c3 : (0 : Int32) ≤ nI (10 * j + k) ∧ nI (10 * j + k) < (100 : Int32) := inN (by omega) (by omega)
          unfold sX11_ring_63 jX11_ring_143
          have e1 : (10 : Int32) * nI j + nI i = nI (10 * j + i) := by rw [mulL, addN]
          have e2 : (10 : Int32) * nI i + nI k = nI (10 * i + k) := by rw [mulL, addN]
          have e3 : (10 : Int32) * nI j + nI k = nI (10 * j + k) := by rw [mulL, addN]
          rw [e1, e2, e3, nI_1]
          exact OK.f (by rw [a6 hy, leN (by omega) (by omega)]; omega) (OK.t c1 (OK.t c2 (OK.t c3 (OK.i (fun _ => OK.t c3 (OK.t c3 (hk _ (Fr.sri hy (by simp))))) (fun _ => OK.t c3 (hk _ (Fr.sri hy (by simp))))))))
        · intro y hy ih
          unfold sX11_ring_63
          exact OK.t (by rw [a6 hy, leN (by omega) (by omega)]; exact Nat.le_refl _) (OK.ret hy)
      · intro y hy ih
        unfold sX11_ring_52
        exact OK.t (by rw [a6 hy, leN (by omega) (by omega)]; exact Nat.le_refl _) (OK.ret hy)
    · intro y hy ih
      unfold sX11_ring_42
      exact OK.t (by rw [a6 hy, leN (by omega) (by omega)]; exact Nat.le_refl _) (OK.ret hy)
  · refine LOOPUP (fun k (st : Int32) l => wX11_ring_164 u k st l) (fun ih st l => sX11_ring_164 u ih st l) (fun n => rfl) (fun _ _ => True) _ n ?_ ?_ 2000 0 _ (by omega) (by omega) trivial
    · intro i st hi _ ih hk
      have c1 : (0 : Int32) ≤ nI (10 * i + i) ∧ nI (10 * i + i) < (100 : Int32) := inN (by omega) (by omega)
      unfold sX11_ring_164 jX11_ring_194
      have e1 : (10 : Int32) * nI i + nI i = nI (10 * i + i) := by rw [mulL, addN]
      rw [e1, nI_1]
      exact OK.f (by rw [a6 hu, leN (by omega) (by omega)]; omega) (OK.t c1 (OK.i (fun _ => hk _ trivial) (fun _ => hk _ trivial)))
    · intro st _ ih
      unfold sX11_ring_164
      exact OK.t (by rw [a6 hu, leN (by omega) (by omega)]; exact Nat.le_refl _) (OK.ret trivial)
theorem drops_m {m : aH} {n : Nat} (hn : n ≤ 10) (h6 : fi m 73 6 = nI n) : OK (fX11_drops m) (fun q => Fr RLr [] m q.2) := by
  obtain ⟨p1, p2⟩ := pow_bd hn
  have e1 : nI (2 ^ n) - (1 : Int32) = nI (2 ^ n - 1) := subR p1
  have a6 : ∀ {y}, Fr RLr [] m y → fi y 73 6 = nI n := fun hy => by rw [hy.f (by simp)]; exact h6
  unfold fX11_drops
  refine OK.bind (P := fun y => Fr RLr [] m y) ?_ (fun z hz => ?_)
  · refine LOOPUP (fun k (st : aH) l => wX11_drops_2 k st l) (fun ih st l => sX11_drops_2 ih st l) (fun n => rfl) (fun _ y => Fr RLr [] m y) _ (2 ^ n) ?_ ?_ 2000 1 m (by omega) p1 (Fr.rf _ _ _)
    · intro c y hc hy ih hk
      have cc : (0 : Int32) ≤ nI c ∧ nI c < (1024 : Int32) := inN (by omega) (by omega)
      unfold sX11_drops_2
      rw [a6 hy, shl_all n (by omega), nI_1]
      refine OK.f (by rw [leN (by omega) (by omega)]; omega) (OK.t cc (OK.bind (P := fun y => Fr RLr [] m y) ?_ (fun v hv => hk _ hv)))
      refine LOOPUP (fun k (st : aH) l => wX11_drops_23 (nI c) k st l) (fun ih st l => sX11_drops_23 (nI c) ih st l) (fun n => rfl) (fun _ y => Fr RLr [] m y) _ n ?_ ?_ 2000 0 _ (by omega) (by omega) (Fr.sri hy (by simp))
      · intro p y hp hy ih hk
        unfold sX11_drops_23 jX11_drops_129 jX11_drops_130
        rw [nI_1]
        refine OK.f (by rw [a6 hy, leN (by omega) (by omega)]; omega) (OK.bind (isIn_m _ _) (fun _ _ => OK.i (fun _ => hk _ hy) (fun _ => OK.t (clr_all p (by omega) c (by omega)) (OK.bind (P := fun _ => True) ?_ (fun v _ => OK.t cc (OK.i (fun _ => OK.t cc (OK.t cc (hk _ (Fr.sri hy (by simp))))) (fun _ => OK.t cc (hk _ (Fr.sri hy (by simp))))))))))
        refine LOOPUP (fun k (st : Int32) l => wX11_drops_55 y (nI c) (nI p) k st l) (fun ih st l => sX11_drops_55 y (nI c) (nI p) ih st l) (fun n => rfl) (fun _ _ => True) _ n ?_ ?_ 2000 0 _ (by omega) (by omega) trivial
        · intro o st ho _ ih hk
          unfold sX11_drops_55 jX11_drops_95 jX11_drops_96
          have e1 : (10 : Int32) * nI p + nI o = nI (10 * p + o) := by rw [mulL, addN]
          rw [e1, nI_1]
          exact OK.f (by rw [a6 hy, leN (by omega) (by omega)]; omega) (OK.i (fun _ => hk _ trivial) (fun _ => OK.bind (isIn_m _ _) (fun _ _ => OK.i (fun _ => hk _ trivial) (fun _ => OK.t (inN (by omega) (by omega)) (hk _ trivial)))))
        · intro st _ ih
          unfold sX11_drops_55
          exact OK.t (by rw [a6 hy, leN (by omega) (by omega)]; exact Nat.le_refl _) (OK.ret trivial)
      · intro y hy ih
        unfold sX11_drops_23
        exact OK.t (by rw [a6 hy, leN (by omega) (by omega)]; exact Nat.le_refl _) (OK.ret hy)
    · intro y hy ih
      unfold sX11_drops_2
      rw [a6 hy, shl_all n (by omega)]
      exact OK.t (by rw [leN (by omega) (by omega)]; exact Nat.le_refl _) (OK.ret hy)
  · rw [a6 hz, shl_all n (by omega), e1]
    exact OK.t (inN (by omega) (by omega)) (OK.ret hz)
theorem rlP.TH {x y m : aH} {w : SEA} {t : STD} (hJ : JN x m w t) (h : rlP x w.lost y) : Fr XSr XSf x y ∧ scrH y w.lost :=
  ⟨h.1.w (by simp <;> omega) (by simp <;> omega), hJ.2.1.2.2.fr h.1 (fun a ha => by have := ha.lt; simp <;> omega)⟩
theorem rules2 {x m : aH} {w : SEA} {t : STD} (hJ : JN x m w t) (hS : JS x m) (p : Int32) (f : aH → Int32 → Option (Int32 × aH)) (hf0 : ∀ y v, v ≠ 0 → f y v = some (v, y)) (hf1 : ∀ y, rlP x w.lost y → OK (f y 0) (fun q => rlP x w.lost q.2)) (g : aH → Option (Int32 × aH)) (hg : ∀ y, Fr RLr [] m y → fi y 73 6 = nI w.lost → OK (g y) (fun q => Fr RLr [] m q.2)) :
    OK2 ((fX10_readRules x p).bind fun q => f q.2 q.1) ((fX11_bytesIs m p).bind fun b => if b = (-1 : Int32) then some ((-1 : Int32), m) else (fX11_bytesIs m p).bind fun b2 => if (0 : Int32) ≤ b2 then (fX11_takesRules m p).bind g else (fX11_bytesIs m p).bind fun b3 => some (b3, m)) (fun a b => TH w.lost x m a.2 b.2) := by
  have hn := hJ.1.1.1
  have h6 := hJ.2.2.1.2.2.2.1
  unfold fX10_readRules
  rcases bytes_x hS p with ⟨-, b1, b2⟩ | ⟨d, hd, rfl, ⟨b1, b2⟩ | ⟨b1, b2⟩ | ⟨b1, b2, q, h⟩⟩
  · rw [b1, b2]
    exact OK2.eq (by show f x (-1) = _; exact hf0 x _ (by decide)) rfl (TH.rf hJ)
  · rw [b1, b2]
    exact OK2.eq (by show f x (-11) = _; exact hf0 x _ (by decide)) rfl (TH.rf hJ)
  · rw [b1, b2]
    exact OK2.eq (by show f x (-12) = _; exact hf0 x _ (by decide)) rfl (TH.rf hJ)
  · have cd : (0 : Int32) ≤ nI d ∧ nI d < (6 : Int32) := inN (by omega) hd
    rw [b1, b2]
    simp only [Option.bind_some]
    rw [if_pos trivial, if_pos cd, if_neg (show ¬ (1 : Int32) = -1 by decide), if_pos (show (0 : Int32) ≤ 1 by decide), ixN (by omega), hJ.2.1.2.1.1]
    refine OK2.mk (A := fun q => rlP x w.lost q.2) (B := fun q => Fr RLr [] m q.2) ?_ ?_ (fun a b ha hb => ⟨(ha.TH hJ).1, hb.w (by simp <;> omega) (by simp), (ha.TH hJ).2⟩)
    · obtain ⟨y, e, hy⟩ := read_x h hn
      rw [e]
      exact hf1 y hy
    · exact OK.bind (takes_m hd h hn h6) (fun y hy => hg y hy (by rw [hy.f (by simp)]; exact h6))
theorem op_order {x m : aH} {w : SEA} {t : STD} (hJ : JN x m w t) (hS : JS x m) (p1 p2 : Int32) : OK2 (fX10_order x p1 p2) (fX11_order m p1 p2) (fun a b => TH w.lost x m a.2 b.2) := by
  have hn := hJ.1.1.1
  unfold fX10_order fX11_order
  by_cases h0 : 0 ≤ p2
  · simp only [if_pos h0]
    refine rules2 hJ hS p1 (fun y v => jX10_order_13 y p2 v) (fun y v hv => by unfold jX10_order_13; rw [if_neg hv]) (fun y hy => ?_) _ (fun y hy h6 => ?_)
    · unfold jX10_order_13
      exact OK.t rfl (OK.bind (inOrder_x hn hy p2) (fun _ _ => OK.ret hy))
    · refine OK.bind (order_m hn h6 p2) (fun q hq => ?_)
      rcases q with q | q
      · have e : q.2 = y := hq
        exact OK.ret (by rw [e]; exact hy)
      · exact OK.ret hy
  · rw [if_neg h0]
    unfold jX10_order_13
    rcases bytes_x hS p1 with ⟨-, b1, b2⟩ | ⟨d, hd, rfl, ⟨b1, b2⟩ | ⟨b1, b2⟩ | ⟨b1, b2, q, h⟩⟩ <;> (rw [b2]; simp only [Option.bind_some, if_neg h0]; exact OK2.eq rfl rfl (TH.rf hJ))
theorem op_clash {x m : aH} {w : SEA} {t : STD} (hJ : JN x m w t) (hS : JS x m) (p1 p2 : Int32) : OK2 (fX10_clash x p1 p2) (fX11_clash m p1 p2) (fun a b => TH w.lost x m a.2 b.2) := by
  have hn := hJ.1.1.1
  unfold fX10_clash fX11_clash
  rw [w1]
  by_cases h0 : 0 ≤ p2 ∧ p2 ≤ 1
  · rw [bI_t h0, if_neg (Int32.not_lt.mpr h0.1), if_pos h0.2]
    simp only [Option.bind_some, if_neg n10]
    refine rules2 hJ hS p1 (fun y v => jX10_clash_18 y p2 v) (fun y v hv => by unfold jX10_clash_18; rw [if_neg hv]) (fun y hy => ?_) _ (fun y hy h6 => ?_)
    · unfold jX10_clash_18
      exact OK.t rfl (OK.i (fun _ => OK.bind (smallest_x hn hy) (fun _ _ => OK.ret hy)) (fun _ => OK.bind (dropped_x hn hy) (fun q hq => OK.ret hq)))
    · exact OK.i (fun _ => OK.bind (ring_m hn h6) (fun q hq => OK.ret (hy.tr hq))) (fun _ => OK.bind (drops_m hn h6) (fun q hq => OK.ret (hy.tr hq)))
  · rw [bI_f h0]
    have e1 : ∀ o, (if p2 < (0 : Int32) then jX10_clash_9 x p2 else if p2 ≤ (1 : Int32) then o else jX10_clash_9 x p2) = some (-1, x) := by
      intro o
      unfold jX10_clash_9 jX10_clash_18
      by_cases h1 : p2 < 0
      · rw [if_pos h1]; rfl
      · rw [if_neg h1, if_neg (by grind)]; rfl
    rw [e1]
    rcases bytes_x hS p1 with ⟨-, b1, b2⟩ | ⟨d, hd, rfl, ⟨b1, b2⟩ | ⟨b1, b2⟩ | ⟨b1, b2, q, h⟩⟩ <;> (rw [b2]; exact OK2.eq rfl rfl (TH.rf hJ))
theorem op_may {x m : aH} {w : SEA} {t : STD} (hJ : JN x m w t) (hS : JS x m) (p1 p2 : Int32) : OK2 (fX10_may x p1 p2) (fX11_may m p1 p2) (fun a b => TH w.lost x m a.2 b.2) := by
  have hn := hJ.1.1.1
  obtain ⟨q1, q2⟩ := pow_bd hn
  have e1 : nI (2 ^ w.lost) - (1 : Int32) = nI (2 ^ w.lost - 1) := subR q1
  unfold fX10_may fX11_may
  rw [hJ.2.1.2.1.1, hJ.2.2.1.2.2.2.1, shl_all _ (by omega), e1, show fX11_within p2.toInt64 (0 : Int64) (nI (2 ^ w.lost - 1)).toInt64 = _ from within_i p2 0 _]
  by_cases h0 : 0 ≤ p2 ∧ p2 < nI (2 ^ w.lost)
  · have h0' : 0 ≤ p2 ∧ p2 ≤ nI (2 ^ w.lost - 1) := by
      obtain ⟨j, hj, rfl⟩ := (in_range p2 _ (by omega)).mp h0
      exact ⟨h0.1, (leN (by omega) (by omega)).mpr (by omega)⟩
    rw [bI_t h0', if_neg (Int32.not_lt.mpr h0.1), if_pos h0.2]
    simp only [Option.bind_some, if_neg n10]
    refine rules2 hJ hS p1 (fun y v => jX10_may_26 y p2 v) (fun y v hv => by unfold jX10_may_26; rw [if_neg hv]) (fun y hy => ?_) _ (fun y hy h6 => ?_)
    · unfold jX10_may_26
      exact OK.t rfl (OK.bind (next_x hn hy p2) (fun _ _ => OK.ret hy))
    · exact OK.bind (may_m hn h6 p2) (fun _ _ => OK.ret hy)
  · have h0' : ¬ (0 ≤ p2 ∧ p2 ≤ nI (2 ^ w.lost - 1)) := by
      intro z
      obtain ⟨j, hj, rfl⟩ := le_arg (N := 2 ^ w.lost - 1) (by omega) rfl z
      exact h0 ⟨z.1, (ltN (by omega) (by omega)).mpr (by omega)⟩
    rw [bI_f h0']
    have e2 : ∀ o, (if p2 < (0 : Int32) then jX10_may_17 x p2 else if p2 < nI (2 ^ w.lost) then o else jX10_may_17 x p2) = some (-1, x) := by
      intro o
      unfold jX10_may_17 jX10_may_26
      by_cases h1 : p2 < 0
      · rw [if_pos h1]; rfl
      · rw [if_neg h1, if_neg (fun z => h0 ⟨Int32.not_lt.mp h1, z⟩)]; rfl
    rw [e2]
    rcases bytes_x hS p1 with ⟨-, b1, b2⟩ | ⟨d, hd, rfl, ⟨b1, b2⟩ | ⟨b1, b2⟩ | ⟨b1, b2, q, h⟩⟩ <;> (rw [b2]; exact OK2.eq rfl rfl (TH.rf hJ))
