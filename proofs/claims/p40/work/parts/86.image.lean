/-! ===== image, back, count ===== -/
theorem copy_172 {m : aH} : OK (wX11_image_15 2000 m 0) (fun y => Fr [90] [] m y ∧ ∀ i, i < 172 → ri y 90 i = ri m 74 i) := by
  refine LOOPUP (fun n (st : aH) l => wX11_image_15 n st l) (fun ih st l => sX11_image_15 ih st l) (fun n => rfl) (fun j y => Fr [90] [] m y ∧ ∀ i, i < j → ri y 90 i = ri m 74 i) _ 172 ?_ ?_ 2000 0 m (by omega) (by omega) ⟨Fr.rf _ _ _, fun i hi => by omega⟩
  · intro j y hj hI ih hk
    have c : (0 : Int32) ≤ nI j ∧ nI j < (172 : Int32) := inN (by omega) hj
    unfold sX11_image_15
    refine OK.f (by rw [ltL (by omega) (by omega)]; omega) (OK.t c (OK.t c ?_))
    rw [nI_1, ixN (by omega), hI.1.r (show 74 ∉ [90] by simp)]
    refine hk _ ⟨Fr.sri hI.1 (by simp), fun i hi => ?_⟩
    rw [gr]
    by_cases e : i = j
    · rw [if_pos ⟨rfl, e⟩, e]
    · rw [if_neg (fun z => e z.2)]; exact hI.2 i (by omega)
  · intro y hI ih
    unfold sX11_image_15
    exact OK.t (by decide) (OK.ret hI)
theorem copy_5 {m : aH} : OK (wX11_image_42 2000 m 0) (fun y => Fr [91] [] m y ∧ ∀ i, i < 5 → ri y 91 i = ri m 89 i) := by
  refine LOOPUP (fun n (st : aH) l => wX11_image_42 n st l) (fun ih st l => sX11_image_42 ih st l) (fun n => rfl) (fun j y => Fr [91] [] m y ∧ ∀ i, i < j → ri y 91 i = ri m 89 i) _ 5 ?_ ?_ 2000 0 m (by omega) (by omega) ⟨Fr.rf _ _ _, fun i hi => by omega⟩
  · intro j y hj hI ih hk
    have c : (0 : Int32) ≤ nI j ∧ nI j < (5 : Int32) := inN (by omega) hj
    unfold sX11_image_42
    refine OK.f (by rw [leL (by omega) (by omega)]; omega) (OK.t c (OK.t c ?_))
    rw [nI_1, ixN (by omega), hI.1.r (show 89 ∉ [91] by simp)]
    refine hk _ ⟨Fr.sri hI.1 (by simp), fun i hi => ?_⟩
    rw [gr]
    by_cases e : i = j
    · rw [if_pos ⟨rfl, e⟩, e]
    · rw [if_neg (fun z => e z.2)]; exact hI.2 i (by omega)
  · intro y hI ih
    unfold sX11_image_42
    exact OK.t (by decide) (OK.ret hI)
theorem op_image {x m : aH} (hJ : JJ x m) : OK2 (fX10_image x) (fX11_image m) PJ := by
  obtain ⟨w, t, hR⟩ := hJ
  obtain ⟨⟨⟨⟨hw, ht⟩, ⟨hs, hv, hh⟩, hms, hmv⟩, hL⟩, ⟨hI, hC⟩, hT, hA, hS⟩ := id hR
  have hn := hw.1
  have ex : OK (fX10_image x) (fun q => q.1 = ri x 17 0 ∧ Fr [20, 21] [(0, 11), (19, 5), (19, 6), (19, 7)] x q.2 ∧ fi q.2 0 11 = 1 ∧ vStd q.2 19 w.lost t ∧ ∀ j, j < 5 → ri q.2 21 j = ri x 17 j) := by
    unfold fX10_image
    refine OK.bind (become_x sd19 sd15 (by decide) hn (hh 19 sd19) hv) (fun y hy => OK.ret ?_)
    obtain ⟨y1, y2, y3⟩ := hy
    refine ⟨?_, Fr.sfi (y2.w (by simp) (by simp <;> omega)) (by simp), by simp [gf], ?_, fun j hj => ?_⟩
    · show ri (sfi y 0 11 1) 17 0 = _
      rw [grf, y2.r (by simp)]
    · exact y1.fr (Fr.sfi (Fr.rf [] [(0, 11)] y) (by simp)) (by simp) (by simp) (by simp) (by simp)
    · rw [grf]; exact y3 j hj
  have em : OK (fX11_image m) (fun q => q.1 = ri m 89 0 ∧ Fr [90, 91] [(73, 32), (73, 33)] m q.2 ∧ fi q.2 73 32 = 1 ∧ fi q.2 73 33 = nI w.lost ∧ (∀ i, i < 172 → ri q.2 90 i = ri m 74 i) ∧ ∀ j, j < 5 → ri q.2 91 j = ri m 89 j) := by
    unfold fX11_image
    have e6 : fi (sfi m 73 32 1) 73 6 = nI w.lost := by rw [gf, if_neg (by simp)]; exact hms.2.2.2.1
    rw [e6]
    have fz : Fr [] [(73, 32), (73, 33)] m (sfi (sfi m 73 32 1) 73 33 (nI w.lost)) := Fr.sfi (Fr.sfi (Fr.rf _ _ _) (by simp)) (by simp)
    have z32 : fi (sfi (sfi m 73 32 1) 73 33 (nI w.lost)) 73 32 = 1 := by simp [gf]
    have z33 : fi (sfi (sfi m 73 32 1) 73 33 (nI w.lost)) 73 33 = nI w.lost := by simp [gf]
    generalize sfi (sfi m 73 32 1) 73 33 (nI w.lost) = z at fz z32 z33 ⊢
    refine OK.bind copy_172 (fun y hy => OK.bind copy_5 (fun u hu => OK.ret ?_))
    obtain ⟨y1, y2⟩ := hy
    obtain ⟨u1, u2⟩ := hu
    have fu : Fr [90, 91] [(73, 32), (73, 33)] m u := (fz.w (by simp) (by simp)).tr ((y1.w (by simp) (by simp)).tr (u1.w (by simp) (by simp)))
    refine ⟨?_, fu, by rw [u1.f (by simp), y1.f (by simp), z32], by rw [u1.f (by simp), y1.f (by simp), z33], fun i hi => ?_, fun j hj => ?_⟩
    · show ri u 89 0 = _
      rw [fu.r (by simp)]
    · rw [u1.r (by simp), y2 i hi, fz.r (by simp)]
    · rw [u2 j hj, y1.r (by simp), fz.r (by simp)]
  refine OK2.mk ex em (fun a b ha hb => ?_)
  obtain ⟨a1, fx, a3, a4, a5⟩ := ha
  obtain ⟨b1, fm, b3, b4, b5, b6⟩ := hb
  refine ⟨⟨w, t, ⟨⟨⟨⟨hw, ht⟩, ⟨hs.fr fx (by simp) (by simp), hv.fr fx (by simp) (by simp) (by simp) (by simp), ?_⟩, hms.fr fm (by simp) (by simp) (by simp) (by simp), hmv.fr fm (by simp)⟩, hL.fr fx fm (by simp) (by simp)⟩, ⟨⟨by rw [a3, b3], Or.inr ⟨w.lost, t, Nat.le_refl _, a4, ht.1, ht.2, b4, fun i hi => ?_, ?_, fun j hj => ?_⟩⟩, hC.fr fx fm (by simp) (by simp) (by simp) (by simp)⟩, hT.fr fx fm (by simp) (by simp) (by simp) (by simp), hA.fr fx fm (by simp) (by simp) (by simp) (by simp), hS.fr fx fm (by simp) (by simp) (by simp)⟩⟩, ?_⟩
  · exact hh.at fx ⟨_, a4.2.2.1, bsum_lt (fun i hi => (ht.1 i hi).2)⟩ (fun b hb _ => by simp; omega)
  · rw [b5 i (by omega), b5 (30 + i) (by omega)]; exact hmv.1 i hi
  · rw [b5 169 (by omega)]; exact hmv.2.1
  · rw [a5 j hj, b6 j hj]; exact hL j hj
  · rw [a1, b1]; exact hL 0 (by decide)
/-! back -/
theorem bsum_hi {f : Nat → Nat} {k : Nat} (n : Nat) (hk : k ≤ n) : ∃ a, bsum (fun i => if i < k then 0 else f i) n = 2 ^ k * a := by
  induction n with
  | zero => exact ⟨0, rfl⟩
  | succ n ih =>
    by_cases h : k ≤ n
    · obtain ⟨a, ha⟩ := ih h
      refine ⟨a + f n * 2 ^ (n - k), ?_⟩
      show bsum (fun i => if i < k then 0 else f i) n + (if n < k then 0 else f n) * 2 ^ n = _
      rw [ha, if_neg (by omega), Nat.mul_add, wb_pw h]
      congr 1
      rw [Nat.mul_left_comm]
    · refine ⟨0, ?_⟩
      have : ∀ j, j ≤ n + 1 → bsum (fun i => if i < k then 0 else f i) j = 0 := by
        intro j
        induction j with
        | zero => intro _; rfl
        | succ j ihj =>
          intro hj
          show bsum (fun i => if i < k then 0 else f i) j + (if j < k then 0 else f j) * 2 ^ j = 0
          rw [ihj (by omega), if_pos (by omega)]
          omega
      rw [this _ (Nat.le_refl _)]
      rfl
theorem bsum_part (f g : Nat → Nat) {k : Nat} (n : Nat) (hk : k ≤ n) : bsum (fun i => if i < k then g i else f i) n = bsum (fun i => if i < k then 0 else f i) n + bsum g k := by
  induction n with
  | zero =>
    have : k = 0 := by omega
    subst this
    rfl
  | succ n ih =>
    show bsum (fun i => if i < k then g i else f i) n + (if n < k then g n else f n) * 2 ^ n = bsum (fun i => if i < k then 0 else f i) n + (if n < k then 0 else f n) * 2 ^ n + bsum g k
    by_cases h : k ≤ n
    · rw [ih h, if_neg (by omega), if_neg (by omega)]; omega
    · have e : k = n + 1 := by omega
      subst e
      have h1 : bsum (fun i => if i < n + 1 then g i else f i) n = bsum g n := bsum_congr (fun i hi => if_pos (by omega))
      have h2 : bsum (fun i => if i < n + 1 then 0 else f i) n = 0 := by
        have : bsum (fun i => if i < n + 1 then 0 else f i) n = bsum (fun _ => 0) n := bsum_congr (fun i hi => if_pos (by omega))
        rw [this]
        clear this h1 ih hk h
        induction n with
        | zero => rfl
        | succ n ih => show bsum (fun _ => 0) n + 0 * 2 ^ n = 0; rw [ih]; omega
      rw [h1, h2, if_pos (by omega), if_pos (by omega), Nat.zero_mul, Nat.zero_add]
      rfl
theorem bsum_lay {f g : Nat → Nat} {k n : Nat} (hk : k ≤ n) (hf : ∀ i, i < n → f i ≤ 1) (hg : ∀ i, i < k → g i ≤ 1) : bsum f n / 2 ^ k * 2 ^ k ||| bsum g k = bsum (fun i => if i < k then g i else f i) n := by
  obtain ⟨a, ha⟩ := bsum_hi (f := f) n hk
  have h1 := bsum_part f f n hk
  have h2 := bsum_part f g n hk
  have e1 : bsum (fun i => if i < k then f i else f i) n = bsum f n := bsum_congr (fun i hi => by split <;> rfl)
  have l1 := bsum_lt (f := f) (n := k) (fun i hi => hf i (by omega))
  have l2 := bsum_lt (f := g) (n := k) hg
  rw [e1, ha] at h1
  rw [h2, ha, h1, Nat.mul_add_div (Nat.two_pow_pos k), Nat.div_eq_of_lt l1, Nat.add_zero, Nat.mul_comm a, Nat.two_pow_add_eq_or_of_lt l2]
theorem back_12 {m : aH} {k : Nat} {ti : STD} (hk : k ≤ 10) (h33 : fi m 73 33 = nI k) (h90 : ∀ i, i < k → ri m 90 i = nI (ti.cell i) ∧ ri m 90 (30 + i) = nI (ti.home i)) : OK (wX11_back_12 2000 m 0) (fun y => Fr [74] [] m y ∧ (∀ i, i < k → ri y 74 i = nI (ti.cell i) ∧ ri y 74 (30 + i) = nI (ti.home i)) ∧ ∀ i, ¬ i < k → ¬ (30 ≤ i ∧ i < 30 + k) → ri y 74 i = ri m 74 i) := by
  refine LOOPUP (fun n (st : aH) l => wX11_back_12 n st l) (fun ih st l => sX11_back_12 ih st l) (fun n => rfl) (fun j y => Fr [74] [] m y ∧ (∀ i, i < j → ri y 74 i = nI (ti.cell i) ∧ ri y 74 (30 + i) = nI (ti.home i)) ∧ ∀ i, ¬ i < k → ¬ (30 ≤ i ∧ i < 30 + k) → ri y 74 i = ri m 74 i) _ k ?_ ?_ 2000 0 m (by omega) (by omega) ⟨Fr.rf _ _ _, fun i hi => by omega, fun _ _ _ => rfl⟩
  · intro j y hj hI ih hh
    obtain ⟨h1, h2, h3⟩ := hI
    have c : (0 : Int32) ≤ nI j ∧ nI j < (172 : Int32) := inN (by omega) (by omega)
    have c2 : (0 : Int32) ≤ (30 : Int32) + nI j ∧ (30 : Int32) + nI j < (172 : Int32) := inAdd (by omega) (by omega)
    unfold sX11_back_12
    refine OK.f (by rw [h1.f (by simp), h33, leN (by omega) (by omega)]; omega) (OK.t c (OK.t c (OK.t c2 (OK.t c2 ?_))))
    rw [nI_1, ixN (by omega), ixA (by omega), ri_sri_ne (show 90 ≠ 74 by decide), h1.r (show 90 ∉ [74] by simp), (h90 j hj).1, (h90 j hj).2]
    refine hh _ ⟨Fr.sri (Fr.sri h1 (by simp)) (by simp), fun i hi => ?_, fun i hk1 hk2 => ?_⟩
    · by_cases e : i = j
      · subst e
        constructor
        · rw [gr, if_neg (by omega), gr, if_pos ⟨rfl, rfl⟩]
        · rw [gr, if_pos ⟨rfl, rfl⟩]
      · constructor
        · rw [gr, if_neg (by omega), gr, if_neg (by omega)]; exact (h2 i (by omega)).1
        · rw [gr, if_neg (by omega), gr, if_neg (by omega)]; exact (h2 i (by omega)).2
    · rw [gr, if_neg (by omega), gr, if_neg (by omega)]; exact h3 i hk1 hk2
  · intro y hI ih
    unfold sX11_back_12
    exact OK.t (by rw [hI.1.f (by simp), h33, leN (by omega) (by omega)]; exact Nat.le_refl _) (OK.ret hI)
theorem back_74 {m : aH} : OK (wX11_back_74 2000 m 0) (fun y => Fr [89] [] m y ∧ ∀ i, i < 5 → ri y 89 i = ri m 91 i) := by
  refine LOOPUP (fun n (st : aH) l => wX11_back_74 n st l) (fun ih st l => sX11_back_74 ih st l) (fun n => rfl) (fun j y => Fr [89] [] m y ∧ ∀ i, i < j → ri y 89 i = ri m 91 i) _ 5 ?_ ?_ 2000 0 m (by omega) (by omega) ⟨Fr.rf _ _ _, fun i hi => by omega⟩
  · intro j y hj hI ih hk
    have c : (0 : Int32) ≤ nI j ∧ nI j < (5 : Int32) := inN (by omega) hj
    unfold sX11_back_74
    refine OK.f (by rw [leL (by omega) (by omega)]; omega) (OK.t c (OK.t c ?_))
    rw [nI_1, ixN (by omega), hI.1.r (show 91 ∉ [89] by simp)]
    refine hk _ ⟨Fr.sri hI.1 (by simp), fun i hi => ?_⟩
    rw [gr]
    by_cases e : i = j
    · rw [if_pos ⟨rfl, e⟩, e]
    · rw [if_neg (fun z => e z.2)]; exact hI.2 i (by omega)
  · intro y hI ih
    unfold sX11_back_74
    exact OK.t (by decide) (OK.ret hI)
theorem op_back {x m : aH} (hJ : JJ x m) : OK2 (fX10_back x) (fX11_back m) PJ := by
  obtain ⟨w, t, hR⟩ := hJ
  obtain ⟨⟨⟨⟨hw, ht⟩, ⟨hs, hv, hh⟩, hms, hmv⟩, hL⟩, ⟨hI, hC⟩, hT, hA, hS⟩ := id hR
  have hn := hw.1
  obtain ⟨hI1, hI2⟩ := id hI
  by_cases h0 : fi x 0 11 = 0
  · refine OK2.bad (v := -5) hR ?_ ?_
    · simp [fX10_back, h0]
    · rw [h0] at hI1
      simp [fX11_back, ← hI1]
  · rcases hI2 with hI2 | ⟨k, ti, g1, g2, g3, g4, g5, g6, g7, g8⟩
    · exact absurd hI2 h0
    · have b1 : ∀ i, i < w.lost → t.home i ≤ 1 := fun i hi => (ht.1 i hi).2
      have b2 : ∀ i, i < k → ti.home i ≤ 1 := fun i hi => (g3 i hi).2
      have p1 := bsum_lt10 hn b1
      have ex : OK (fX10_back x) (fun q => q.1 = ri x 21 0 ∧ layP x 15 19 k (nI (bsum (fun i => if i < k then ti.home i else t.home i) w.lost)) q.2) := by
        unfold fX10_back
        refine OK.f h0 (OK.bind (layBack_x sd15 sd19 (by decide) hv.2.2.1 p1 g2.1 (by omega) g2.2.2.1) (fun y hy => OK.ret ?_))
        rw [bsum_lay g1 b1 b2] at hy
        refine ⟨?_, hy⟩
        show ri y 17 0 = _
        rw [hy.2.2.2.2 0, if_pos (by decide)]
      have em : OK (fX11_back m) (fun q => q.1 = ri m 91 0 ∧ Fr [74, 89] [] m q.2 ∧ (∀ i, i < k → ri q.2 74 i = nI (ti.cell i) ∧ ri q.2 74 (30 + i) = nI (ti.home i)) ∧ (∀ i, ¬ i < k → ¬ (30 ≤ i ∧ i < 30 + k) → i ≠ 169 → ri q.2 74 i = ri m 74 i) ∧ ri q.2 74 169 = nI ti.oil ∧ ∀ j, j < 5 → ri q.2 89 j = ri m 91 j) := by
        unfold fX11_back
        refine OK.f (by rw [← hI1]; exact h0) (OK.bind (back_12 (by omega) g5 g6) (fun y hy => ?_))
        obtain ⟨y1, y2, y3⟩ := hy
        rw [ix_169, y1.r (show 90 ∉ [74] by simp), g7]
        refine OK.bind back_74 (fun u hu => OK.ret ?_)
        obtain ⟨u1, u2⟩ := hu
        have e91 : ri (sri y 74 169 (nI ti.oil)) 91 = ri m 91 := by rw [ri_sri_ne (by decide), y1.r (by simp)]
        have e74 : ri u 74 = ri (sri y 74 169 (nI ti.oil)) 74 := u1.r (by simp)
        refine ⟨?_, (Fr.sri (y1.w (by simp) (by simp)) (by simp)).tr (u1.w (by simp) (by simp)), fun i hi => ?_, fun i h1 h2 h3 => ?_, ?_, fun j hj => ?_⟩
        · show ri u 89 0 = _
          rw [u2 0 (by decide), e91]
        · rw [e74, gr, if_neg (by omega), gr, if_neg (by omega)]; exact y2 i hi
        · rw [e74, gr, if_neg (by omega)]; exact y3 i h1 h2
        · rw [e74, gr, if_pos ⟨rfl, rfl⟩]
        · rw [u2 j hj, e91]
      refine OK2.mk ex em (fun a b ha hb => ?_)
      obtain ⟨a1, fx, a3, a4, a5, a6⟩ := ha
      obtain ⟨c1, fm, c3, c4, c5, c6⟩ := hb
      have hb2 : ∀ i, i < w.lost → (if i < k then ti.home i else t.home i) ≤ 1 := fun i hi => by
        by_cases e : i < k
        · rw [if_pos e]; exact b2 i e
        · rw [if_neg e]; exact b1 i hi
      refine ⟨⟨w, (fun i => if i < k then ti.cell i else t.cell i, fun i => if i < k then ti.home i else t.home i, ti.oil), ⟨⟨⟨⟨hw, fun i hi => ⟨?_, hb2 i hi⟩, g4⟩, ⟨hs.fr fx (by simp) (by simp), ⟨?_, fun i hi => ?_, a3, ?_⟩, ?_⟩, ⟨fun c hc => ?_, fun i hi => ?_, ?_, ?_, hms.2.2.2.2.fr fm (by simp) (by simp)⟩, fun i hi => ?_, c5, fun i h1 h2 => ?_⟩, fun j hj => ?_⟩, ⟨hI.fr fx fm (by simp) (by simp) (by simp) (by simp), hC.fr fx fm (by simp) (by simp) (by simp) (by simp)⟩, hT.fr fx fm (by simp) (by simp) (by simp) (by simp), hA.fr fx fm (by simp) (by simp) (by simp) (by simp), hS.fr fx fm (by simp) (by simp) (by simp)⟩⟩, ?_⟩
      · show (if i < k then ti.cell i else t.cell i) < 64
        by_cases e : i < k
        · rw [if_pos e]; exact (g3 i e).1
        · rw [if_neg e]; exact (ht.1 i hi).1
      · rw [fx.f (by simp)]; exact hv.1
      · show _ = nI (if i < k then ti.cell i else t.cell i)
        rw [a5 i]
        by_cases e : i < k
        · rw [if_pos e, if_pos e]; exact g2.2.1 i e
        · rw [if_neg e, if_neg e]; exact hv.2.1 i hi
      · rw [a4]; exact g2.2.2.2
      · exact hh.at fx ⟨_, a3, bsum_lt hb2⟩ (fun b hb _ => by simp; omega)
      · rw [c4 _ (by omega) (by omega) (by omega), c4 _ (by omega) (by omega) (by omega)]; exact hms.1 c hc
      · rw [c4 _ (by omega) (by omega) (by omega), c4 _ (by omega) (by omega) (by omega)]; exact hms.2.1 i hi
      · rw [c4 _ (by omega) (by omega) (by omega), c4 _ (by omega) (by omega) (by omega), c4 _ (by omega) (by omega) (by omega)]; exact hms.2.2.1
      · rw [fm.f (by simp)]; exact hms.2.2.2.1
      · show _ = nI (if i < k then ti.cell i else t.cell i) ∧ _ = nI (if i < k then ti.home i else t.home i)
        by_cases e : i < k
        · rw [if_pos e, if_pos e]; exact c3 i e
        · rw [if_neg e, if_neg e, c4 _ (by omega) (by omega) (by omega), c4 _ (by omega) (by omega) (by omega)]; exact hmv.1 i hi
      · rw [c4 _ (by omega) (by omega) (by omega)]; exact hmv.2.2 i h1 h2
      · rw [a6 j, if_pos hj, c6 j hj]; exact g8 j hj
      · rw [a1, c1]; exact g8 0 (by decide)
theorem op_count {x m : aH} (hJ : JJ x m) (p1 : Int32) : OK2 (fX10_count x p1) (fX11_count m p1) (fun a b => JJ x b.2 ∧ a = b.1) := by
  obtain ⟨w, t, hR⟩ := hJ
  obtain ⟨⟨⟨⟨hw, ht⟩, ⟨hs, hv, hh⟩, hms, hmv⟩, hL⟩, ⟨hI, hC⟩, hT, hA, hS⟩ := id hR
  obtain ⟨dn, al, -, hC2, -⟩ := id hC
  obtain ⟨k, -, hT2, hT3, -⟩ := id hT
  obtain ⟨b, r, ⟨-, hA2, hA3, -⟩, -, hA4, hA5, -⟩ := id hA
  unfold fX10_count fX11_count
  by_cases h0 : p1 = 0
  · rw [if_pos h0, if_pos h0]; exact OK2.eq rfl rfl ⟨⟨w, t, hR⟩, by rw [hv.1, hms.2.2.2.1]⟩
  · rw [if_neg h0, if_neg h0]
    by_cases h1 : p1 = 1
    · rw [if_pos h1, if_pos h1, hv.2.2.1, bitCount_b hw.1 (fun i hi => (ht.1 i hi).2)]
      refine OK2.mk (A := fun a => a = nI (nsum t.home w.lost)) (B := fun b => b.1 = nI (nsum t.home w.lost) ∧ Fr MSr MSf m b.2) (OK.ret rfl) ?_ (fun a b ha hb => ⟨⟨w, t, hR.TH ⟨Fr.rf _ _ _, hb.2, hh⟩⟩, by rw [ha, hb.1]⟩)
      unfold fX11_manyHome
      refine OK.bind (P := fun b => b.1 = nI (nsum t.home w.lost) ∧ Fr MSr MSf m b.2) (OK.bind (begins_m hw.1 hms.2.2.2.1 hmv) (fun z hz => ?_)) (fun q hq => OK.ret hq)
      refine OK.r (homeMany_m hw.1 (by rw [hz.2.f (by simp)]; exact hms.2.2.2.1) hz.1) (OK.ret ⟨rfl, hz.2.w (by simp <;> omega) (by simp)⟩)
    · rw [if_neg h1, if_neg h1]
      by_cases h2 : p1 = 2
      · rw [if_pos h2, if_pos h2]; exact OK2.eq rfl rfl ⟨⟨w, t, hR⟩, by rw [hT2, hT3]⟩
      · rw [if_neg h2, if_neg h2]
        by_cases h3 : p1 = 3
        · rw [if_pos h3, if_pos h3]; exact OK2.eq rfl rfl ⟨⟨w, t, hR⟩, by rw [hC2.1, hC2.2.2.1]⟩
        · rw [if_neg h3, if_neg h3]
          by_cases h4 : p1 = 4
          · rw [if_pos h4, if_pos h4]; exact OK2.eq rfl rfl ⟨⟨w, t, hR⟩, by rw [hA2, hA3]⟩
          · rw [if_neg h4, if_neg h4]
            by_cases h5 : p1 = 5
            · rw [if_pos h5, if_pos h5]; exact OK2.eq rfl rfl ⟨⟨w, t, hR⟩, by rw [hA4, hA5]⟩
            · rw [if_neg h5, if_neg h5]; exact OK2.eq rfl rfl ⟨⟨w, t, hR⟩, rfl⟩
