/-! ===== shift, taken ===== -/
/-- what a SHELF shows: nothing, a body, a row -/
theorem shelf3 {x m : aH} (hS : JS x m) {d : Nat} (hd : d < 6) : (fX7_isEmpty x (61 + 2 * d) = some 1 ∧ ri m 94 d = -1) ∨ (∃ b, b < 50 ∧ nI b < fi m 73 36 ∧ fX7_isEmpty x (61 + 2 * d) = some 0 ∧ fX7_isRow x (61 + 2 * d) = some 0 ∧ fi x (61 + 2 * d) 1 = -1 ∧ fi x (61 + 2 * d) 3 = nI b ∧ ri m 94 d = nI b) ∨ (∃ s n, shR x m d s n ∧ fX7_isEmpty x (61 + 2 * d) = some 0 ∧ fX7_isRow x (61 + 2 * d) = some 1) := by
  unfold fX7_isEmpty fX7_isRow
  rcases hS d hd with ⟨⟨s1, s2, s5⟩, h⟩ | ⟨s, n, h⟩
  · rw [s1, if_pos rfl]
    rcases h with ⟨s3, s4⟩ | ⟨b, hb, hb2, s3, s4⟩
    · left
      rw [s3]
      exact ⟨rfl, s4⟩
    · right; left
      refine ⟨b, hb, hb2, ?_, rfl, rfl, s3, s4⟩
      rw [s3, if_neg (m1_ne (by omega))]
  · right; right
    obtain ⟨⟨hs4, hn⟩, ⟨s1, s2, s3⟩, -⟩ := id h
    refine ⟨s, n, h, ?_, ?_⟩
    · rw [s1, if_neg (m1_ne (by omega))]
    · rw [s1, if_neg (m1_ne (by omega))]
theorem places_x {x : aH} {a n : Nat} (h2 : fi x a 2 = nI n) (hn : n ≤ 60) (p q : Int32) : (∃ i k, i + k ≤ n ∧ p = nI i ∧ q = nI k ∧ fX7_hasPlaces x a p q = some 1) ∨ ((p < 0 ∨ q < 0 ∨ nI n - q < p) ∧ fX7_hasPlaces x a p q = some 0) := by
  unfold fX7_hasPlaces
  rw [h2]
  rcases i_cases p with hp | ⟨i, hi, rfl⟩
  · right; rw [if_pos hp]; exact ⟨Or.inl hp, rfl⟩
  · rw [if_neg (lt0 hi)]
    rcases i_cases q with hq | ⟨k, hk, rfl⟩
    · right; rw [if_pos hq]; exact ⟨Or.inr (Or.inl hq), rfl⟩
    · rw [if_neg (lt0 hk)]
      by_cases h3 : n < k
      · right
        rw [if_pos ((ltN (by omega) (by omega)).mpr h3)]
        refine ⟨Or.inr (Or.inr ?_), rfl⟩
        rw [nI_iI n, nI_iI k, nI_iI i, iI_sub, iI_lt (by omega) (by omega) (by omega) (by omega)]
        omega
      · rw [if_neg (by rw [ltN (by omega) (by omega)]; exact h3), subN (by omega)]
        by_cases h4 : n - k < i
        · right
          rw [if_pos ((ltN (by omega) (by omega)).mpr h4)]
          exact ⟨Or.inr (Or.inr ((ltN (by omega) (by omega)).mpr h4)), rfl⟩
        · left
          rw [if_neg (by rw [ltN (by omega) (by omega)]; exact h4)]
          exact ⟨i, k, by omega, rfl, rfl, rfl⟩
theorem shift_1 {m : aH} {d i k : Nat} {j : Int32} {e : Int32} (hd : d < 6) (hik : i + k ≤ 60) : OK (wX11_shift_113 (nI d) (nI i) e j (nI k) 2000 m 0) (fun y => (∀ b, ri y b = ri m b) ∧ (∀ b q, fi y b q = fi m b q) ∧ (∀ b, b ≠ 97 → rj y b = rj m b) ∧ ∀ q, q < k → rj y 97 q = rj m 96 (60 * d + i + q)) := by
  refine LOOPUP (fun n' (st : aH) l => wX11_shift_113 (nI d) (nI i) e j (nI k) n' st l) (fun ih st l => sX11_shift_113 (nI d) (nI i) e j (nI k) ih st l) (fun n => rfl) (fun c y => (∀ b, ri y b = ri m b) ∧ (∀ b q, fi y b q = fi m b q) ∧ (∀ b, b ≠ 97 → rj y b = rj m b) ∧ ∀ q, q < c → rj y 97 q = rj m 96 (60 * d + i + q)) _ k ?_ ?_ 2000 0 m (by omega) (by omega) ⟨fun _ => rfl, fun _ _ => rfl, fun _ _ => rfl, fun q hq => by omega⟩
  · intro c y hc hI ih hk
    obtain ⟨h1, h2, h3, h4⟩ := hI
    have c1 : (0 : Int32) ≤ nI (60 * d + i + c) ∧ nI (60 * d + i + c) < (360 : Int32) := inN (by omega) (by omega)
    have c2 : (0 : Int32) ≤ nI c ∧ nI c < (60 : Int32) := inN (by omega) (by omega)
    unfold sX11_shift_113
    rw [mulL, addN, addN]
    refine OK.f (by rw [leN (by omega) (by omega)]; omega) (OK.t c1 (OK.t c2 ?_))
    rw [nI_1, ixN (show c < 2147483648 by omega), ixN (show 60 * d + i + c < 2147483648 by omega)]
    refine hk _ ⟨fun b => by rw [← h1 b]; rfl, fun b q => by rw [← h2 b q]; rfl, fun b hb => ?_, fun q hq => ?_⟩
    · rw [← h3 b hb]; funext q; rw [gjj, if_neg (fun z => hb z.1)]
    · rw [gjj, h3 96 (by decide)]
      by_cases eq : q = c
      · subst eq; rw [if_pos ⟨rfl, rfl⟩]
      · rw [if_neg (fun z => eq z.2)]; exact h4 q (by omega)
  · intro y hI ih
    unfold sX11_shift_113
    exact OK.t (by rw [leN (by omega) (by omega)]; exact Nat.le_refl _) (OK.ret hI)
theorem shift_2 {m : aH} {e j k : Nat} (he : e < 6) (hjk : j + k ≤ 60) : OK (wX11_shift_150 (nI e) (nI j) (nI k) 2000 m 0) (fun y => (∀ b, ri y b = ri m b) ∧ (∀ b q, fi y b q = fi m b q) ∧ ∀ q, rj y 96 q = if 60 * e + j ≤ q ∧ q < 60 * e + j + k then rj m 97 (q - (60 * e + j)) else rj m 96 q) := by
  refine OK.mono (P := fun y => (∀ b, ri y b = ri m b) ∧ (∀ b q, fi y b q = fi m b q) ∧ rj y 97 = rj m 97 ∧ ∀ q, rj y 96 q = if 60 * e + j ≤ q ∧ q < 60 * e + j + k then rj m 97 (q - (60 * e + j)) else rj m 96 q) ?_ (fun y h => ⟨h.1, h.2.1, h.2.2.2⟩)
  refine LOOPUP (fun n' (st : aH) l => wX11_shift_150 (nI e) (nI j) (nI k) n' st l) (fun ih st l => sX11_shift_150 (nI e) (nI j) (nI k) ih st l) (fun n => rfl) (fun c y => (∀ b, ri y b = ri m b) ∧ (∀ b q, fi y b q = fi m b q) ∧ rj y 97 = rj m 97 ∧ ∀ q, rj y 96 q = if 60 * e + j ≤ q ∧ q < 60 * e + j + c then rj m 97 (q - (60 * e + j)) else rj m 96 q) _ k ?_ ?_ 2000 0 m (by omega) (by omega) ⟨fun _ => rfl, fun _ _ => rfl, rfl, fun q => by rw [if_neg (by omega)]⟩
  · intro c y hc hI ih hk
    obtain ⟨h1, h2, h3, h4⟩ := hI
    have c1 : (0 : Int32) ≤ nI (60 * e + j + c) ∧ nI (60 * e + j + c) < (360 : Int32) := inN (by omega) (by omega)
    have c2 : (0 : Int32) ≤ nI c ∧ nI c < (60 : Int32) := inN (by omega) (by omega)
    unfold sX11_shift_150
    rw [mulL, addN, addN]
    refine OK.f (by rw [leN (by omega) (by omega)]; omega) (OK.t c2 (OK.t c1 ?_))
    rw [nI_1, ixN (show c < 2147483648 by omega), ixN (show 60 * e + j + c < 2147483648 by omega), h3]
    refine hk _ ⟨fun b => by rw [← h1 b]; rfl, fun b q => by rw [← h2 b q]; rfl, ?_, fun q => ?_⟩
    · rw [← h3]; funext q; rw [gjj, if_neg (by omega)]
    · rw [gjj, h4]
      by_cases eq : q = 60 * e + j + c
      · subst eq
        rw [if_pos ⟨rfl, rfl⟩, if_pos (by omega), show 60 * e + j + c - (60 * e + j) = c by omega]
      · rw [if_neg (fun z => eq z.2)]
        by_cases e2 : 60 * e + j ≤ q ∧ q < 60 * e + j + c
        · rw [if_pos e2, if_pos (by omega)]
        · rw [if_neg e2, if_neg (by omega)]
  · intro y hI ih
    unfold sX11_shift_150
    exact OK.t (by rw [leN (by omega) (by omega)]; exact Nat.le_refl _) (OK.ret hI)
theorem op_shift {x m : aH} (hJ : JJ x m) (p1 p2 p3 p4 p5 : Int32) : OK2 (fX10_shift x p1 p2 p3 p4 p5) (fX11_shift m p1 p2 p3 p4 p5) PJ := by
  obtain ⟨w, t, hR⟩ := hJ
  have hS := hR.2.2.2.2
  rcases argIn p1 6 (by omega) with ⟨d, hd, rfl⟩ | hp
  · rcases argIn p3 6 (by omega) with ⟨e, he, rfl⟩ | hp
    · have cd : (0 : Int32) ≤ nI d ∧ nI d < (6 : Int32) := inN (by omega) hd
      have ce : (0 : Int32) ≤ nI e ∧ nI e < (6 : Int32) := inN (by omega) he
      have ed : ix (nI d) = d := ixN (by omega)
      have ee : ix (nI e) = e := ixN (by omega)
      unfold fX10_shift fX11_shift
      rw [isShelf_in hd, isShelf_in he, isShelf_inM hd, isShelf_inM he]
      simp only [Option.bind_some, ed, ee, if_pos cd, if_pos ce, if_neg n10]
      rcases shelf3 hS hd with ⟨d1, d2⟩ | hd3
      · rw [d1, d2]
        exact OK2.bad (v := -11) hR rfl rfl
      · have dE : fX7_isEmpty x (61 + 2 * d) = some 0 := by
          rcases hd3 with ⟨b, -, -, q, -⟩ | ⟨s, n, -, q, -⟩ <;> exact q
        have dN : ¬ ri m 94 d < 0 := by
          rcases hd3 with ⟨b, hb, -, -, -, -, -, q⟩ | ⟨s, n, h, -, -⟩
          · rw [q]; exact lt0 (by omega)
          · have := h.1; rw [h.2.2.1.1]; exact lt0 (by omega)
        rw [dE, if_neg dN]
        simp only [Option.bind_some]
        rw [if_pos trivial]
        rcases shelf3 hS he with ⟨e1, e2⟩ | he3
        · rw [e1, e2]
          exact OK2.bad (v := -11) hR rfl rfl
        · have eE : fX7_isEmpty x (61 + 2 * e) = some 0 := by
            rcases he3 with ⟨b, -, -, q, -⟩ | ⟨s, n, -, q, -⟩ <;> exact q
          have eN : (0 : Int32) ≤ ri m 94 e := by
            rcases he3 with ⟨b, hb, -, -, -, -, -, q⟩ | ⟨s, n, h, -, -⟩
            · rw [q]; exact le0 (by omega)
            · have := h.1; rw [h.2.2.1.1]; exact le0 (by omega)
          rw [eE, if_pos eN]
          simp only [Option.bind_some]
          rw [if_pos trivial]
          rcases hd3 with ⟨b, hb, -, -, dR, d1, d3, d4⟩ | ⟨s, n, hsh, -, dR⟩
          · have g50 : nI b < (50 : Int32) := (ltR (by omega) (by omega)).mpr hb
            rw [dR, d4, if_pos g50]
            exact OK2.bad (v := -12) hR rfl rfl
          · obtain ⟨⟨hs4, hn⟩, ⟨s1, s2, s3⟩, ⟨s4, s5⟩, s6⟩ := id hsh
            have g50 : ¬ nI (50 + s) < (50 : Int32) := by rw [ltR (by omega) (by omega)]; omega
            rw [dR, s4, if_neg g50]
            simp only [Option.bind_some]
            rw [if_neg n10]
            rcases he3 with ⟨b, hb, -, -, eR, e1, e3, e4⟩ | ⟨s', n', hsh', -, eR⟩
            · have gsb : ¬ nI (50 + s) = nI b := by rw [eqN (by omega) (by omega)]; omega
              rw [eR, e4, if_neg gsb]
              exact OK2.bad (v := -12) hR rfl rfl
            · obtain ⟨⟨hs4', hn'⟩, ⟨t1, t2, t3⟩, ⟨t4, t5⟩, t6⟩ := id hsh'
              rw [eR, t4]
              simp only [Option.bind_some]
              rw [if_neg n10, s1, t1]
              by_cases hss : s = s'
              · subst hss
                rw [if_pos rfl, if_pos rfl, s5, t5]
                rcases places_x s2 hn p2 p5 with ⟨i, k, hik, rfl, rfl, hx⟩ | ⟨hbad, hx⟩
                · rw [hx]
                  simp only [Option.bind_some]
                  rw [if_neg n10, if_neg (lt0 (show k < 2147483648 by omega)), if_neg (lt0 (show i < 2147483648 by omega))]
                  have g1 : ¬ nI n - nI k < nI i := by rw [subN (by omega), ltN (by omega) (by omega)]; omega
                  rcases places_x t2 hn' p4 (nI k) with ⟨j, k', hjk, rfl, hkk, hx2⟩ | ⟨hbad, hx2⟩
                  · have hk2 : k = k' ∨ ¬ k' < 2147483648 := by
                      by_cases q : k' < 2147483648
                      · exact Or.inl ((eqN (by omega) q).mp hkk)
                      · exact Or.inr q
                    have hk3 : k = k' := by omega
                    subst hk3
                    rw [hx2]
                    simp only [Option.bind_some]
                    have g2 : nI j ≤ nI n' - nI k := by rw [subN (by omega), leN (by omega) (by omega)]; omega
                    have gc : ¬ nI i < 0 ∧ ¬ nI j < 0 ∧ ¬ nI k < 0 ∧ ix (nI i) + ix (nI k) ≤ 60 ∧ ix (nI j) + ix (nI k) ≤ 60 := by
                      rw [ixN (show i < 2147483648 by omega), ixN (show j < 2147483648 by omega), ixN (show k < 2147483648 by omega)]
                      exact ⟨lt0 (by omega), lt0 (by omega), lt0 (by omega), by omega, by omega⟩
                    rw [if_neg n10, if_pos gc, if_neg (lt0 (show j < 2147483648 by omega)), if_neg g1, if_pos g2]
                    refine OK2.mk (OK.of rfl) (B := fun q => q.1 = nI k ∧ (∀ b, ri q.2 b = ri m b) ∧ (∀ b q', fi q.2 b q' = fi m b q') ∧ ∀ q', rj q.2 96 q' = if 60 * e + j ≤ q' ∧ q' < 60 * e + j + k then rj m 96 (60 * d + i + (q' - (60 * e + j))) else rj m 96 q') ?_ (fun a b ha hb => ?_)
                    · refine OK.bind (shift_1 (j := nI j) (e := nI e) hd (show i + k ≤ 60 by omega)) (fun y hy => OK.bind (shift_2 he (show j + k ≤ 60 by omega)) (fun z hz => OK.ret ⟨rfl, fun b => by rw [hz.1, hy.1], fun b q' => by rw [hz.2.1, hy.2.1], fun q' => ?_⟩))
                      rw [hz.2.2, hy.2.2.1 96 (by decide)]
                      by_cases q1 : 60 * e + j ≤ q' ∧ q' < 60 * e + j + k
                      · rw [if_pos q1, if_pos q1, hy.2.2.2 _ (by omega)]
                      · rw [if_neg q1, if_neg q1]
                    · subst ha
                      obtain ⟨c1, c2, c3, c4⟩ := hb
                      have hxj : ∀ q', q' ≠ 61 + 2 * e + 1 → rj (srowj x ((61 + 2 * e) + 1) (va_cpy (rj x ((61 + 2 * d) + 1)) (rj x ((61 + 2 * e) + 1)) (ix (nI i)) (ix (nI j)) (ix (nI k)))) q' = rj x q' := fun q' hq => by rw [gjwj, if_neg hq]
                      refine ⟨⟨w, t, hR.shelf (d := e) (fun q => rfl) (fun q k hq => rfl) (fun q h4 h5 => c2 q) (fun k => c3 _ _) (hS.one (d := e) (fun q k hq => rfl) (c3 _ _) (fun q hq => ⟨by rw [c2], by rw [c2]⟩) (fun q hq => hxj _ (by omega)) (fun q k' hq hk' => ?_) (Or.inr ⟨s, n', ⟨hs4', hn'⟩, ⟨t1, t2, t3⟩, ⟨by rw [c2]; exact t4, by rw [c2]; exact t5⟩, fun q hq => ?_⟩))⟩, c1.symm⟩
                      · rw [c4, if_neg (by omega)]
                      · rw [gjwj, if_pos rfl, c4, ixN (show i < 2147483648 by omega), ixN (show j < 2147483648 by omega), ixN (show k < 2147483648 by omega)]
                        by_cases q1 : j ≤ q ∧ q < j + k
                        · rw [pk_cpy_in q1.1 q1.2, if_pos (by omega), show 60 * d + i + (60 * e + q - (60 * e + j)) = 60 * d + (i + (q - j)) by omega]
                          exact s6 (i + (q - j)) (by omega)
                        · rw [pk_cpy_out (by omega), if_neg (by omega)]
                          exact t6 q hq
                  · rw [hx2]
                    simp only [Option.bind_some]
                    rw [if_pos trivial, if_neg g1]
                    refine OK2.bad (v := -13) hR rfl ?_
                    by_cases q1 : p4 < 0
                    · rw [if_pos q1]
                    · rw [if_neg q1]
                      rcases hbad with q2 | q2 | q2
                      · exact absurd q2 q1
                      · exact absurd q2 (lt0 (by omega))
                      · rw [if_neg (Int32.not_le.mpr q2)]
                · rw [hx]
                  simp only [Option.bind_some]
                  rw [if_pos trivial]
                  refine OK2.bad (v := -13) hR rfl ?_
                  by_cases q5 : p5 < 0
                  · rw [if_pos q5]
                  · rw [if_neg q5]
                    by_cases q2 : p2 < 0
                    · rw [if_pos q2]
                    · rw [if_neg q2]
                      by_cases q4 : p4 < 0
                      · rw [if_pos q4]
                      · rw [if_neg q4, if_pos (by rcases hbad with q | q | q; exact absurd q q2; exact absurd q q5; exact q)]
              · have q1 : ¬ nI s = nI s' := by rw [eqN (by omega) (by omega)]; exact hss
                have q2 : ¬ nI (50 + s) = nI (50 + s') := by rw [eqN (by omega) (by omega)]; omega
                rw [if_neg q1, if_neg q2]
                exact OK2.bad (v := -12) hR rfl rfl
    · have hp6 : ¬ (0 ≤ p3 ∧ p3 < 6) := hp
      refine OK2.bad (v := -1) hR ?_ ?_
      · simp [fX10_shift, isShelf_in hd, isShelf_out hp6]
      · simp [fX11_shift, isShelf_inM hd, isShelf_outM hp6]
  · have hp6 : ¬ (0 ≤ p1 ∧ p1 < 6) := hp
    refine OK2.bad (v := -1) hR ?_ ?_
    · simp [fX10_shift, isShelf_out hp6]
    · simp [fX11_shift, isShelf_outM hp6]
/-! taken -/
theorem under_dm (x : aH) (p : Int32) : ∀ n a b, wX0_isUnder_5 x p n a b = wX0_isUnder_5 x00 p n a b := by
  intro n
  induction n with
  | zero => intro a b; rfl
  | succ n ih =>
    intro a b
    show sX0_isUnder_5 x p (wX0_isUnder_5 x p n) a b = sX0_isUnder_5 x00 p (wX0_isUnder_5 x00 p n) a b
    have : wX0_isUnder_5 x p n = wX0_isUnder_5 x00 p n := by funext a b; exact ih a b
    rw [this]
    rfl
theorem taken_dm (x : aH) (l p : Int32) : ∀ n a, wX11_taken_58 x l p n a = wX11_taken_58 x00 0 p n a := by
  intro n
  induction n with
  | zero => intro a; rfl
  | succ n ih =>
    intro a
    show sX11_taken_58 x l p (wX11_taken_58 x l p n) a = sX11_taken_58 x00 0 p (wX11_taken_58 x00 0 p n) a
    have : wX11_taken_58 x l p n = wX11_taken_58 x00 0 p n := by funext a; exact ih a
    rw [this]
    rfl
def undO (k p : Nat) : Bool := p = 0 || (k == p) || ((k, p) ∈ [(3, 2), (4, 1), (5, 3), (5, 2), (7, 4), (7, 1)])
set_option maxRecDepth 20000 in
theorem under_all : ∀ k, k < 8 → ∀ p, p < 8 → fX0_isUnder x00 (nI k) (nI p) = some (if undO k p = true then 1 else 0) ∧ ∃ v, v < 8 ∧ wX11_taken_58 x00 0 (nI p) 2000 (nI k) = some (nI v) ∧ (v = p ↔ undO k p = true) := by decide +kernel
theorem op_taken {x m : aH} (hJ : JJ x m) (p1 p2 : Int32) : OK2 (fX10_taken x p1 p2) (fX11_taken m p1 p2) (fun a b => a = b) := by
  obtain ⟨w, t, hR⟩ := hJ
  have hS := hR.2.2.2.2
  obtain ⟨b, r, ⟨b1, b2, b3, b4⟩, -⟩ := id hR.2.2.2.1
  rcases argIn p1 6 (by omega) with ⟨d, hd, rfl⟩ | hp
  · have cd : (0 : Int32) ≤ nI d ∧ nI d < (6 : Int32) := inN (by omega) hd
    have ed : ix (nI d) = d := ixN (by omega)
    unfold fX10_taken fX11_taken
    rw [isShelf_in hd, isShelf_inM hd, isKind_x, w07]
    simp only [Option.bind_some, if_neg n10]
    by_cases hk : 0 ≤ p2 ∧ p2 < 8
    · obtain ⟨p, hp8, rfl⟩ := (in_range p2 8 (by omega)).mp hk
      rw [bI_t hk, bI_t ⟨hk.1, (leR (by omega) (by omega)).mpr (by omega)⟩]
      simp only [if_neg n10, if_pos cd, ed]
      rcases shelf3 hS hd with ⟨d1, d2⟩ | ⟨q, hq, hq2, dE, dR, d1, d3, d4⟩ | ⟨s, n, hsh, dE, dR⟩
      · rw [d1, d2]
        exact OK2.eq rfl rfl rfl
      · rw [b3, ltN (by omega) (by omega)] at hq2
        obtain ⟨k, hk8, k1, k2⟩ := b4 q hq2
        obtain ⟨u1, v, hv, u2, u3⟩ := under_all k hk8 p hp8
        have cq : (0 : Int32) ≤ nI q ∧ nI q < (50 : Int32) := inN (by omega) hq
        have hb : fX0_isBody x (nI q) = some 1 := by
          rcases isBody2 b1 b2 b3 (nI q) with ⟨-, -, -, g, -⟩ | ⟨g, -, -⟩
          · exact g
          · exact absurd ⟨le0 (by omega), (ltN (by omega) (by omega)).mpr hq2⟩ g
        have hu : fX0_isUnder x (nI k) (nI p) = some (if undO k p = true then 1 else 0) := by
          rw [← u1]
          unfold fX0_isUnder
          rw [under_dm]
        rw [dE, d4, d3]
        simp only [Option.bind_some]
        unfold fX11_kindOf
        simp only [if_true, hb, if_pos cq.1, if_pos cq.2, Option.bind_some, if_neg n10, if_pos cq, ixN (show q < 2147483648 by omega), k1, k2, hu, taken_dm m, u2]
        by_cases hun : undO k p = true
        · simp only [if_pos hun, if_neg n10, u3.mpr hun, if_true]
          exact OK2.eq rfl rfl rfl
        · have gvp : ¬ nI v = nI p := by rw [eqN (by omega) (by omega)]; exact fun z => hun (u3.mp z)
          simp only [if_neg hun, if_neg gvp, if_true]
          exact OK2.eq rfl rfl rfl
      · obtain ⟨⟨hs4, hn⟩, ⟨s1, s2, s3⟩, ⟨s4, s5⟩, s6⟩ := id hsh
        have hb : fX0_isBody x (-1) = some 0 := by
          unfold fX0_isBody
          rw [if_pos (by decide)]
        rw [dE, s3, s4]
        simp only [Option.bind_some]
        have g50 : ¬ nI (50 + s) < (50 : Int32) := by rw [ltR (by omega) (by omega)]; omega
        have g0 : (0 : Int32) ≤ nI (50 + s) := le0 (by omega)
        simp only [if_true, hb, if_pos g0, if_neg g50, Option.bind_some]
        exact OK2.eq rfl rfl rfl
    · rw [bI_f hk, bI_f (by grind)]
      exact OK2.eq rfl rfl rfl
  · have hp6 : ¬ (0 ≤ p1 ∧ p1 < 6) := hp
    refine OK2.eq (a := -1) (b := -1) ?_ ?_ rfl
    · simp [fX10_taken, isShelf_out hp6]
    · simp [fX11_taken, isShelf_outM hp6]
