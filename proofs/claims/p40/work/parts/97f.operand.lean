/-! ===== the comparing tier, numbers, operands ===== -/
theorem nameOf_eq (x : aH) (c : Int32) : fX9_nameOf x c = fX11_nameOf c := rfl
def nameQ (o : Option Int32) : Prop := o = some (-1) ∨ ∃ k, k < 6 ∧ o = some (nI k)
theorem nameQ.i {c : Prop} [Decidable c] {a b : Option Int32} (ha : nameQ a) (hb : nameQ b) : nameQ (if c then a else b) := by
  by_cases h : c
  · rw [if_pos h]; exact ha
  · rw [if_neg h]; exact hb
theorem name_cases (c : Int32) : nameQ (fX11_nameOf c) := by
  have hm : nameQ (some (-1)) := Or.inl rfl
  have h4 : nameQ (some 4) := Or.inr ⟨4, by decide, rfl⟩
  have h0 : nameQ (some 0) := Or.inr ⟨0, by decide, rfl⟩
  have h5 : nameQ (some 5) := Or.inr ⟨5, by decide, rfl⟩
  have h3 : nameQ (some 3) := Or.inr ⟨3, by decide, rfl⟩
  have h2 : nameQ (some 2) := Or.inr ⟨2, by decide, rfl⟩
  have h1 : nameQ (some 1) := Or.inr ⟨1, by decide, rfl⟩
  unfold fX11_nameOf
  exact .i h4 (.i hm (.i hm (.i h0 (.i hm (.i hm (.i hm (.i hm (.i hm (.i hm (.i hm (.i h5 (.i hm (.i h3 (.i h2 (.i h1 hm)))))))))))))))
theorem name_digit : ∀ b, b < 58 → 48 ≤ b → fX11_nameOf (nI b) = some (-1) := by decide +kernel
theorem name_33 : fX11_nameOf 33 = some (-1) := rfl
theorem name_40 : fX11_nameOf 40 = some (-1) := rfl
theorem name_45 : fX11_nameOf 45 = some (-1) := rfl
section
variable {g : Nat → Nat} {L : Nat}
theorem compared_RES {o : Nat} {gP : aH → Int32 → Int32 → Option (Int32 × aH)} {rs : aH → Option (Int32 × aH)} (hP : ∀ x p s, XP g L x p s → RES g L x p s s o (gP x (nI 2) (nI o)) rs) (x : aH) (p s : Nat) (h : XP g L x p s) : RES g L x p s s o (uX9_readTier gP x (nI 2) (nI o)) (uX11_compared rs) := by
  rcases hP x p s h with ⟨x2, p2, s2, v, g1, ⟨g2, g3, g4, g8⟩, g5, g6, g7⟩ | ⟨x2, p2, g1, ⟨g2, g3⟩, g7⟩
  · have e : uX9_readTier gP x (nI 2) (nI o) = (wX9_readTier_7 gP (nI 2) (nI o) (1999 + 1) x2 1).bind endT := by
      unfold uX9_readTier
      rw [g1]
      rfl
    have hl := g3.1
    have hl0 := h.1
    rw [e, W9]
    by_cases hb : p2 < L ∧ tierT (nI (g p2)) = nI 2
    · obtain ⟨hp, hb⟩ := hb
      have cp := g3.in hp
      have e0 : (sX9_readTier_7 gP (nI 2) (nI o) (wX9_readTier_7 gP (nI 2) (nI o) 1999) x2 1).bind endT = ((gP (sfi x2 6 2 (nI (p2 + 1))) (nI 2) (nI o)).bind fun q => (fX9_write q.2 (nI (g p2)) 0).bind fun y => if q.1 = (0 : Int32) ∨ q.1 = (1 : Int32) then some (.inl (q.1, y)) else none).bind endT := by
        unfold sX9_readTier_7
        rw [if_neg n10, g3.2.1.1, g3.2.2.1, if_neg (by rw [leN (by omega) (by omega)]; omega), if_pos cp, ixN (by omega), g3.2.1.2 p2 hp, tier_x]
        simp only [Option.bind_some]
        rw [if_pos hb, if_pos cp, addR]
        simp only [if_pos (show nI 2 = (2 : Int32) from rfl)]
      rw [e0]
      rcases hP _ _ _ (g3.go hp) with ⟨x3, p3, s3, u, b1, ⟨b2, b3, b4, b8⟩, b5, b6, b7⟩ | ⟨x3, p3, b1, ⟨b2, b3⟩, b7⟩
      · have u0 := b6.1
        have c0 := g6.1
        have b31 := b3.1
        obtain ⟨x4, w1, w2, w3, w4, w5⟩ := b3.wr (by omega) (nI (g p2)) 0
        rw [b1]
        simp only [Option.bind_some]
        rw [w1]
        simp only [Option.bind_some]
        have cv : CODE (ri x4 8) (ri x4 9) s s2 v := g6.cg (fun i i1 i2 => ⟨(w5 i (by omega)).1.trans (b5 i i2).1, (w5 i (by omega)).2.trans (b5 i i2).2⟩)
        have cu : CODE (ri x4 8) (ri x4 9) s2 s3 u := b6.cg (fun i i1 i2 => w5 i (by omega))
        refine Or.inl ⟨x4, p3, s3 + 1, _, ?_, ⟨g2.tr ((rx_go x2 _).tr (b2.tr w2)), w3, by omega, by omega⟩, fun i hi => ⟨(w5 i (by omega)).1.trans ((b5 i (by omega)).1.trans (g5 i hi).1), (w5 i (by omega)).2.trans ((b5 i (by omega)).2.trans (g5 i hi).2)⟩, CODE.bin cv cu w4.1 (tier_ops (t := 2) (by omega) hb), fun m hm => ?_⟩
        · rw [if_pos (Or.inr trivial)]
          rfl
        · obtain ⟨m2, d1, d2, d3⟩ := g7 m hm
          obtain ⟨m3, k1, k2, k3⟩ := b7 _ (d3.go hp)
          have em : ri m2 80 = ri m 80 := d2.r (by simp)
          replace k1 : rs (sfi m2 73 12 (nI (p2 + 1))) = some (u (ri m2 80), m3) := k1
          rw [em] at k1
          exact ⟨m3, cmp_m d1 d3 hp hb k1, d2.tr ((rm_go m2 _).tr k2), k3⟩
      · obtain ⟨x4, w1, w2, w3⟩ := write_q b3 (nI (g p2)) 0
        rw [b1]
        simp only [Option.bind_some]
        rw [w1]
        simp only [Option.bind_some]
        refine Or.inr ⟨x4, p3, ?_, ⟨g2.tr ((rx_go x2 _).tr (b2.tr w2)), w3⟩, fun m hm => ?_⟩
        · rw [if_pos (Or.inl trivial)]
          rfl
        · obtain ⟨m2, d1, d2, d3⟩ := g7 m hm
          obtain ⟨m3, w, k1, k2, k3⟩ := b7 _ (d3.go hp)
          exact ⟨m3, _, cmp_m d1 d3 hp hb k1, d2.tr ((rm_go m2 _).tr k2), k3⟩
    · refine Or.inl ⟨x2, p2, s2, v, ?_, ⟨g2, g3, g4, g8⟩, g5, g6, fun m hm => ?_⟩
      · unfold sX9_readTier_7
        rw [if_neg n10, g3.2.1.1, g3.2.2.1]
        by_cases hp : p2 < L
        · have cp := g3.in hp
          rw [if_neg (by rw [leN (by omega) (by omega)]; omega), if_pos cp, ixN (by omega), g3.2.1.2 p2 hp, tier_x]
          simp only [Option.bind_some]
          rw [if_neg (fun z => hb ⟨hp, z⟩)]
          rfl
        · rw [if_pos (by rw [leN (by omega) (by omega)]; omega)]
          rfl
      · obtain ⟨m2, d1, d2, d3⟩ := g7 m hm
        obtain ⟨c, e1, e2⟩ := d3.1.off hb (by omega)
        refine ⟨m2, ?_, d2, d3⟩
        unfold uX11_compared
        rw [d1]
        simp only [Option.bind_some]
        rw [e1]
        simp only [Option.bind_some]
        rw [if_neg d3.f, if_neg (fun z => e2 (by rw [z]; rfl)), if_neg (fun z => e2 (by rw [z]; rfl)), if_neg (fun z => e2 (by rw [z]; rfl))]
  · refine Or.inr ⟨x2, p2, ?_, ⟨g2, g3⟩, fun m hm => ?_⟩
    · unfold uX9_readTier
      rw [g1]
      show (wX9_readTier_7 gP (nI 2) (nI o) (1999 + 1) x2 0).bind endT = _
      rw [W9]
      unfold sX9_readTier_7
      rw [if_pos rfl]
      rfl
    · obtain ⟨m2, w, d1, d2, d3⟩ := g7 m hm
      refine ⟨m2, w, ?_, d2, d3⟩
      unfold uX11_compared
      rw [d1]
      simp only [Option.bind_some]
      rw [d3.1.at]
      simp only [Option.bind_some]
      rw [if_pos d3.ge]
/-! numbers -/
theorem num_loop (E O : aH → Option (Int32 × aH)) {p : Nat} : ∀ k n nr j x s a, k + j = 4 → k < n → k < nr → XP g L x (p + j) s → ∃ j' a' x', wX9_readNumber_16 (nI (if p + 4 < L then p + 4 else L)) n x a = some (a', x') ∧ (Fr [] [(6, 2)] x x' ∧ XP g L x' (p + j') s ∧ j ≤ j' ∧ j' ≤ 4) ∧ (k ≠ 0 → p + j < L → 48 ≤ g (p + j) → g (p + j) ≤ 57 → j < j') ∧ ((p + j < L → g (p + j) < 48 ∨ 57 < g (p + j)) → j' = j) ∧ ∀ m o, MP g L m (p + j) o → ∃ m', wX11_one_176 E O nr m a (nI j) = some (a', nI j', m') ∧ PFm m m' ∧ MP g L m' (p + j') o := by
  intro k
  induction k with
  | zero =>
    intro n nr j x s a hkj hn hr h
    obtain ⟨n, rfl⟩ : ∃ n', n = n' + 1 := ⟨n - 1, by omega⟩
    obtain ⟨nr, rfl⟩ : ∃ n', nr = n' + 1 := ⟨nr - 1, by omega⟩
    have h1 := h.1
    refine ⟨j, a, x, ?_, ⟨Fr.rf _ _ _, h, Nat.le_refl _, by omega⟩, fun z => absurd rfl z, fun _ => rfl, fun m o hm => ⟨m, ?_, Fr.rf _ _ _, hm⟩⟩
    · show sX9_readNumber_16 _ (wX9_readNumber_16 _ n) x a = _
      unfold sX9_readNumber_16
      rw [h.2.2.1, if_pos (by rw [leN (by split <;> omega) (by omega)]; split <;> omega)]
    · show sX11_one_176 E O (wX11_one_176 E O nr) m a (nI j) = _
      unfold sX11_one_176
      rw [if_pos (by rw [leL (by omega) (by omega)]; omega)]
  | succ k ih =>
    intro n nr j x s a hkj hn hr h
    obtain ⟨n, rfl⟩ : ∃ n', n = n' + 1 := ⟨n - 1, by omega⟩
    obtain ⟨nr, rfl⟩ : ∃ n', nr = n' + 1 := ⟨nr - 1, by omega⟩
    have h1 := h.1
    by_cases hd : p + j < L ∧ 48 ≤ g (p + j) ∧ g (p + j) ≤ 57
    · obtain ⟨hp, d1, d2⟩ := hd
      have cp := h.in hp
      obtain ⟨j', a', x', e1, ⟨e2, e3, e4, e5⟩, -, -, e7⟩ := ih n nr (j + 1) (sfi x 6 2 (nI (p + j + 1))) s (a * 10 + nI (g (p + j)) - 48) (by omega) (by omega) (by omega) (h.go hp)
      refine ⟨j', a', x', ?_, ⟨(Fr.sfi (Fr.rf _ _ _) (by simp)).tr e2, e3, by omega, e5⟩, fun _ _ _ _ => by omega, fun z => by have := z hp; omega, fun m o hm => ?_⟩
      · show sX9_readNumber_16 _ (wX9_readNumber_16 _ n) x a = _
        unfold sX9_readNumber_16
        rw [h.2.2.1, if_neg (by rw [leN (by split <;> omega) (by omega)]; split <;> omega), if_pos cp, ixN (by omega), h.2.1.2 _ hp, if_neg (by rw [ltR (by omega) (by omega)]; omega), if_pos cp, if_neg (by rw [ltL (by omega) (by omega)]; omega), if_pos cp, addR]
        exact e1
      · obtain ⟨m', k1, k2, k3⟩ := e7 _ o (hm.go hp)
        refine ⟨m', ?_, (rm_go m _).tr k2, k3⟩
        show sX11_one_176 E O (wX11_one_176 E O nr) m a (nI j) = _
        unfold sX11_one_176
        rw [if_neg (by rw [leL (by omega) (by omega)]; omega), hm.1.hit hp]
        simp only [Option.bind_some]
        rw [if_neg (by rw [ltR (by omega) (by omega)]; omega), if_neg (by rw [ltL (by omega) (by omega)]; omega), hm.1.2.1.2, addR, addR, Int32.mul_comm]
        exact k1
    · refine ⟨j, a, x, ?_, ⟨Fr.rf _ _ _, h, Nat.le_refl _, by omega⟩, fun _ z1 z2 z3 => absurd ⟨z1, z2, z3⟩ hd, fun _ => rfl, fun m o hm => ⟨m, ?_, Fr.rf _ _ _, hm⟩⟩
      · show sX9_readNumber_16 _ (wX9_readNumber_16 _ n) x a = _
        unfold sX9_readNumber_16
        rw [h.2.2.1]
        by_cases hp : p + j < L
        · have cp := h.in hp
          rw [if_neg (by rw [leN (by split <;> omega) (by omega)]; split <;> omega), if_pos cp, ixN (by omega), h.2.1.2 _ hp]
          by_cases c1 : nI (g (p + j)) < (48 : Int32)
          · rw [if_pos c1]
          · rw [if_neg c1, if_pos cp, if_pos]
            have := h1.2.2.2 _ hp
            rw [ltR (by omega) (by omega)] at c1
            rw [ltL (by omega) (by omega)]
            omega
        · rw [if_pos (by rw [leN (by split <;> omega) (by omega)]; split <;> omega)]
      · show sX11_one_176 E O (wX11_one_176 E O nr) m a (nI j) = _
        unfold sX11_one_176
        rw [if_neg (by rw [leL (by omega) (by omega)]; omega), hm.1.at]
        simp only [Option.bind_some]
        by_cases hp : p + j < L
        · rw [if_pos hp]
          by_cases c1 : nI (g (p + j)) < (48 : Int32)
          · rw [if_pos c1]
          · rw [if_neg c1, if_pos]
            have := h1.2.2.2 _ hp
            rw [ltR (by omega) (by omega)] at c1
            rw [ltL (by omega) (by omega)]
            omega
        · rw [if_neg hp, if_pos (by decide)]
end
