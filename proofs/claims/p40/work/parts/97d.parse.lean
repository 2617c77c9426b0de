/-! ===== the two readers side by side ===== -/
abbrev PFx : aH → aH → Prop := Fr [8, 9] [(6, 2), (6, 5)]
abbrev PFm : aH → aH → Prop := Fr [] [(73, 12), (73, 14), (73, 15)]
def XP (g : Nat → Nat) (L : Nat) (x : aH) (p s : Nat) : Prop := (p ≤ L ∧ L ≤ 120 ∧ s ≤ p ∧ ∀ i, i < L → g i < 256) ∧ (fi x 6 1 = nI L ∧ ∀ i, i < L → ri x 7 i = nI (g i)) ∧ fi x 6 2 = nI p ∧ fi x 6 5 = nI s
def XQ (L : Nat) (x : aH) (p : Nat) : Prop := p ≤ L ∧ fi x 6 2 = nI p ∧ ∃ s, s ≤ 128 ∧ fi x 6 5 = nI s
def MB (g : Nat → Nat) (L : Nat) (m : aH) (p : Nat) : Prop := (p ≤ L ∧ L ≤ 120 ∧ ∀ i, i < L → g i < 256) ∧ (fi m 73 13 = nI L ∧ fi m 73 12 = nI p) ∧ ((fi m 73 11 = -1 ∧ ∀ i, i < L → ri m 78 i = nI (g i)) ∨ (fi m 73 11 = 0 ∧ ∀ i, i < L → ri m 79 i = nI (g i)))
def MP (g : Nat → Nat) (L : Nat) (m : aH) (p o : Nat) : Prop := MB g L m p ∧ fi m 73 14 = -1 ∧ fi m 73 15 = nI o
def MQF (g : Nat → Nat) (L : Nat) (m : aH) (p : Nat) : Prop := MB g L m p ∧ fi m 73 14 = nI p
def GOOD (g : Nat → Nat) (L : Nat) (x : aH) (p s s0 o : Nat) (cl : Option (Int32 × aH)) (rf : aH → Option (Int32 × aH)) : Prop := ∃ x' p' s' v, cl = some (1, x') ∧ (PFx x x' ∧ XP g L x' p' s' ∧ p ≤ p' ∧ s' + p ≤ s + p') ∧ (∀ i, i < s0 → ri x' 8 i = ri x 8 i ∧ ri x' 9 i = ri x 9 i) ∧ CODE (ri x' 8) (ri x' 9) s0 s' v ∧ ∀ m, MP g L m p o → ∃ m', rf m = some (v (ri m 80), m') ∧ PFm m m' ∧ MP g L m' p' o
def BAD (g : Nat → Nat) (L : Nat) (x : aH) (p o : Nat) (cl : Option (Int32 × aH)) (rf : aH → Option (Int32 × aH)) : Prop := ∃ x' p', cl = some (0, x') ∧ (PFx x x' ∧ XQ L x' p') ∧ ∀ m, MP g L m p o → ∃ m' w, rf m = some (w, m') ∧ PFm m m' ∧ MQF g L m' p'
def RES (g : Nat → Nat) (L : Nat) (x : aH) (p s s0 o : Nat) (cl : Option (Int32 × aH)) (rf : aH → Option (Int32 × aH)) : Prop := GOOD g L x p s s0 o cl rf ∨ BAD g L x p o cl rf
section
variable {g : Nat → Nat} {L : Nat}
theorem XP.fr {x x' : aH} {p s : Nat} {F : List (Nat × Nat)} (h : XP g L x p s) (k : Fr [8, 9] F x x') (h1 : (6, 1) ∉ F) {p' s' : Nat} (hp : p' ≤ L) (hs : s' ≤ p') (e1 : fi x' 6 2 = nI p') (e2 : fi x' 6 5 = nI s') : XP g L x' p' s' :=
  ⟨⟨hp, h.1.2.1, hs, h.1.2.2.2⟩, ⟨(k.f h1).trans h.2.1.1, by rw [k.r (by simp)]; exact h.2.1.2⟩, e1, e2⟩
theorem XP.go {x : aH} {p s : Nat} (h : XP g L x p s) (hp : p < L) : XP g L (sfi x 6 2 (nI (p + 1))) (p + 1) s :=
  h.fr (F := [(6, 2)]) (Fr.sfi (Fr.rf _ _ _) (by simp)) (by simp) hp (by have := h.1.2.2.1; omega) (by rw [gf, if_pos ⟨rfl, rfl⟩]) (by rw [gf, if_neg (by simp)]; exact h.2.2.2)
theorem XP.q {x : aH} {p s : Nat} (h : XP g L x p s) : XQ L x p := ⟨h.1.1, h.2.2.1, s, by have := h.1; omega, h.2.2.2⟩
theorem XP.in {x : aH} {p s : Nat} (h : XP g L x p s) (hp : p < L) : (0 : Int32) ≤ nI p ∧ nI p < (120 : Int32) := by
  have := h.1.2.1
  exact inN (by omega) (by omega)
theorem rx_go (x : aH) (v : Int32) : PFx x (sfi x 6 2 v) := Fr.sfi (Fr.rf _ _ _) (by simp)
theorem write_g {x : aH} {s : Nat} (a b : Int32) (h : fi x 6 5 = nI s) (hs : s < 128) : fX9_write x a b = some (sfi (sri (sri x 8 s a) 9 s b) 6 5 (nI (s + 1))) := by
  have cs : (0 : Int32) ≤ nI s ∧ nI s < (128 : Int32) := inN (by omega) hs
  unfold fX9_write
  simp only [gfr, h]
  rw [if_neg (by rw [leL (by omega) (by omega)]; omega), if_pos cs, if_pos cs, ixN (by omega), addR]
theorem rx_write (x : aH) (s : Nat) (a b c : Int32) : Fr [8, 9] [(6, 5)] x (sfi (sri (sri x 8 s a) 9 s b) 6 5 c) := Fr.sfi (Fr.sri (Fr.sri (Fr.rf _ _ _) (by simp)) (by simp)) (by simp)
theorem write_at (x : aH) (s : Nat) (a b c : Int32) : ri (sfi (sri (sri x 8 s a) 9 s b) 6 5 c) 8 s = a ∧ ri (sfi (sri (sri x 8 s a) 9 s b) 6 5 c) 9 s = b := by
  rw [grf, grf, gr, gr, gr, gr]
  simp
theorem write_off (x : aH) (s : Nat) (a b c : Int32) {i : Nat} (h : i ≠ s) : ri (sfi (sri (sri x 8 s a) 9 s b) 6 5 c) 8 i = ri x 8 i ∧ ri (sfi (sri (sri x 8 s a) 9 s b) 6 5 c) 9 i = ri x 9 i := by
  rw [grf, grf, gr, gr, gr, gr]
  simp [h]
theorem write_q {x : aH} {p : Nat} (h : XQ L x p) (a b : Int32) : ∃ x', fX9_write x a b = some x' ∧ PFx x x' ∧ XQ L x' p := by
  obtain ⟨h1, h2, s, h3, h4⟩ := h
  by_cases hs : s < 128
  · exact ⟨_, write_g a b h4 hs, (rx_write x s a b _).w (by simp) (by simp), h1, by rw [(rx_write x s a b _).f (by simp)]; exact h2, s + 1, by omega, by rw [gf, if_pos ⟨rfl, rfl⟩]⟩
  · refine ⟨x, ?_, Fr.rf _ _ _, h1, h2, s, h3, h4⟩
    unfold fX9_write
    rw [h4, if_pos (by rw [leL (by omega) (by omega)]; omega)]
theorem XP.wr {x : aH} {p s : Nat} (h : XP g L x p s) (hs : s + 1 ≤ p) (a b : Int32) : ∃ x', fX9_write x a b = some x' ∧ PFx x x' ∧ XP g L x' p (s + 1) ∧ (ri x' 8 s = a ∧ ri x' 9 s = b) ∧ ∀ i, i ≠ s → ri x' 8 i = ri x 8 i ∧ ri x' 9 i = ri x 9 i := by
  have h1 := h.1
  exact ⟨_, write_g a b h.2.2.2 (by omega), (rx_write x s a b _).w (by simp) (by simp), h.fr (rx_write x s a b _) (by simp) h1.1 hs (by rw [(rx_write x s a b _).f (by simp)]; exact h.2.2.1) (by rw [gf, if_pos ⟨rfl, rfl⟩]), write_at x s a b _, fun i hi => write_off x s a b _ hi⟩
/-! the reference's small steps -/
theorem MB.fr {m m' : aH} {p q : Nat} {F : List (Nat × Nat)} (h : MB g L m p) (k : Fr [] F m m') (h1 : (73, 11) ∉ F ∧ (73, 13) ∉ F) (hq : q ≤ L) (e : fi m' 73 12 = nI q) : MB g L m' q := by
  obtain ⟨⟨a1, a2, a3⟩, ⟨b1, b2⟩, c⟩ := h
  refine ⟨⟨hq, a2, a3⟩, ⟨(k.f h1.2).trans b1, e⟩, ?_⟩
  rw [k.f h1.1, k.r (by simp), k.r (by simp)]
  exact c
theorem MB.at {m : aH} {p : Nat} (h : MB g L m p) : fX11_byteAt m = some (nI (if p < L then g p else 0)) := by
  obtain ⟨⟨a1, a2, a3⟩, ⟨b1, b2⟩, c⟩ := h
  unfold fX11_byteAt
  rw [b1, b2]
  by_cases hp : p < L
  · have cp : (0 : Int32) ≤ nI p ∧ nI p < (120 : Int32) := inN (by omega) (by omega)
    rw [if_pos hp, if_neg (by rw [leN (by omega) (by omega)]; omega)]
    rcases c with ⟨c1, c2⟩ | ⟨c1, c2⟩
    · rw [c1, if_neg (by decide), if_pos cp, ixN (by omega), c2 p hp]
    · rw [c1, show (0 : Int32) + nI p = nI p from by rw [show (0 : Int32) + nI p = nI (0 + p) from nI_add 0 p, Nat.zero_add], if_pos (by decide), if_pos cp, ixN (by omega), c2 p hp]
  · rw [if_neg hp, if_pos (by rw [leN (by omega) (by omega)]; omega)]
    rfl
theorem rm_go (m : aH) (v : Int32) : PFm m (sfi m 73 12 v) := Fr.sfi (Fr.rf _ _ _) (by simp)
theorem MP.go {m : aH} {p o : Nat} (h : MP g L m p o) (hp : p < L) : MP g L (sfi m 73 12 (nI (p + 1))) (p + 1) o :=
  ⟨h.1.fr (F := [(73, 12)]) (Fr.sfi (Fr.rf _ _ _) (by simp)) (by simp) hp (by rw [gf, if_pos ⟨rfl, rfl⟩]), by rw [gf, if_neg (by simp)]; exact h.2.1, by rw [gf, if_neg (by simp)]; exact h.2.2⟩
theorem takes_y {m : aH} {p o : Nat} {c : Int32} (h : MP g L m p o) (hp : p < L) (hc : nI (g p) = c) : fX11_takes m c = some (1, sfi m 73 12 (nI (p + 1))) := by
  unfold fX11_takes
  rw [h.2.1, if_neg (by decide), h.1.at, if_pos hp, h.1.2.1.2, addR]
  simp only [Option.bind_some]
  rw [if_pos hc]
theorem takes_n {m : aH} {p o : Nat} {c : Int32} (h : MP g L m p o) (hn : ¬ (p < L ∧ nI (g p) = c)) (hc : c ≠ 0) : fX11_takes m c = some (0, m) := by
  unfold fX11_takes
  rw [h.2.1, if_neg (by decide), h.1.at]
  simp only [Option.bind_some]
  by_cases hp : p < L
  · rw [if_pos hp, if_neg (fun z => hn ⟨hp, z⟩)]
  · rw [if_neg hp, if_neg (fun z => hc (z.symm.trans rfl))]
theorem MQF.ge {m : aH} {p : Nat} (h : MQF g L m p) : (0 : Int32) ≤ fi m 73 14 := by
  have := h.1.1
  rw [h.2]; exact le0 (by omega)
theorem takes_q {m : aH} {p : Nat} (c : Int32) (h : MQF g L m p) : fX11_takes m c = some (0, m) := by
  unfold fX11_takes
  rw [if_pos h.ge]
theorem wrong_p {m : aH} {p o : Nat} (h : MP g L m p o) : ∃ m', fX11_wrong m = some (0, m') ∧ PFm m m' ∧ MQF g L m' p := by
  unfold fX11_wrong
  rw [h.2.1, if_neg (by decide)]
  have f : Fr [] [(73, 14)] m (sfi m 73 14 (fi m 73 12)) := Fr.sfi (Fr.rf _ _ _) (by simp)
  exact ⟨_, rfl, f.w (by simp) (by simp), h.1.fr f (by simp) h.1.1.1 (by rw [f.f (by simp)]; exact h.1.2.1.2), by rw [gf, if_pos ⟨rfl, rfl⟩]; exact h.1.2.1.2⟩
theorem wrong_q {m : aH} {p : Nat} (h : MQF g L m p) : ∃ m', fX11_wrong m = some (0, m') ∧ PFm m m' ∧ MQF g L m' p := by
  unfold fX11_wrong
  rw [if_pos h.ge]
  have f : Fr [] [(73, 14)] m (sfi m 73 14 (fi m 73 14)) := Fr.sfi (Fr.rf _ _ _) (by simp)
  exact ⟨_, rfl, f.w (by simp) (by simp), h.1.fr f (by simp) h.1.1.1 (by rw [f.f (by simp)]; exact h.1.2.1.2), by rw [gf, if_pos ⟨rfl, rfl⟩]; exact h.2⟩
/-! one of the tiers with a loop -/
def tierT (c : Int32) : Int32 := if c = (37 : Int32) then 4 else if c = (38 : Int32) then 1 else if c = (42 : Int32) then 4 else if c = (43 : Int32) then 3 else if c = (45 : Int32) then 3 else if c = (47 : Int32) then 4 else if c = (60 : Int32) then 2 else if c = (61 : Int32) then 2 else if c = (62 : Int32) then 2 else if c = (124 : Int32) then 0 else -1
theorem tier_x (x : aH) (c : Int32) : fX9_tierOf x c = some (tierT c) := by
  unfold fX9_tierOf tierT
  simp only [some_if]
theorem tier_ops {c : Int32} {t : Nat} (ht : t < 5) (h : tierT c = nI t) : c ≠ 1 ∧ c ≠ 2 ∧ c ≠ 3 ∧ c ≠ 4 ∧ c ≠ 5 ∧ c ≠ 33 := by
  have h0 : ¬ ((-1 : Int32) = nI t) := fun z => by
    have := le0 (n := t) (by omega)
    rw [← z] at this
    exact absurd this (by decide)
  refine ⟨fun z => ?_, fun z => ?_, fun z => ?_, fun z => ?_, fun z => ?_, fun z => ?_⟩ <;> (rw [z] at h; exact h0 h)
def endT (q : Sum (Int32 × aH) (Int32 × aH)) : Option (Int32 × aH) := elS q (fun r => some r) (fun e => if e.1 = (0 : Int32) ∨ e.1 = (1 : Int32) then some (e.1, e.2) else none)
theorem W9 (gP : aH → Int32 → Int32 → Option (Int32 × aH)) (a b : Int32) (n : Nat) : wX9_readTier_7 gP a b (n + 1) = sX9_readTier_7 gP a b (wX9_readTier_7 gP a b n) := rfl
theorem tier_loop {t o : Nat} (ht : t < 5) (ht2 : t ≠ 2) {gP : aH → Int32 → Int32 → Option (Int32 × aH)} {rs : aH → Option (Int32 × aH)} {lr : Nat → aH → Int32 → Option (Int32 × aH)}
    (hP : ∀ x p s, XP g L x p s → RES g L x p s s o (gP x (nI t) (nI o)) rs)
    (hstop : ∀ n m v p, MP g L m p o → ¬ (p < L ∧ tierT (nI (g p)) = nI t) → lr (n + 1) m v = some (v, m))
    (hgood : ∀ n m v w m2 p p2, MP g L m p o → p < L → tierT (nI (g p)) = nI t → rs (sfi m 73 12 (nI (p + 1))) = some (w, m2) → MP g L m2 p2 o → lr (n + 1) m v = lr n m2 (joinF (nI (g p)) v w))
    (hbad : ∀ n m v w m2 p p2, MP g L m p o → p < L → tierT (nI (g p)) = nI t → rs (sfi m 73 12 (nI (p + 1))) = some (w, m2) → MQF g L m2 p2 → ∃ w', lr (n + 2) m v = some (w', m2)) :
    ∀ k n nr x p s s0 v, XP g L x p s → L - p ≤ k → k < n → k + 1 < nr → CODE (ri x 8) (ri x 9) s0 s v → RES g L x p s s0 o ((wX9_readTier_7 gP (nI t) (nI o) n x 1).bind endT) (fun m => lr nr m (v (ri m 80))) := by
  intro k
  induction k with
  | zero =>
    intro n nr x p s s0 v h hk hn hr hc
    obtain ⟨n, rfl⟩ : ∃ n', n = n' + 1 := ⟨n - 1, by omega⟩
    obtain ⟨nr, rfl⟩ : ∃ n', nr = n' + 1 := ⟨nr - 1, by omega⟩
    have h1 := h.1
    refine Or.inl ⟨x, p, s, v, ?_, ⟨Fr.rf _ _ _, h, Nat.le_refl _, Nat.le_refl _⟩, fun i _ => ⟨rfl, rfl⟩, hc, fun m hm => ⟨m, hstop nr m _ p hm (by omega), Fr.rf _ _ _, hm⟩⟩
    rw [W9]
    unfold sX9_readTier_7
    rw [if_neg n10, h.2.1.1, h.2.2.1, if_pos (by rw [leN (by omega) (by omega)]; omega)]
    rfl
  | succ k ih =>
    intro n nr x p s s0 v h hk hn hr hc
    obtain ⟨n, rfl⟩ : ∃ n', n = n' + 1 := ⟨n - 1, by omega⟩
    obtain ⟨nr, rfl⟩ : ∃ n', nr = n' + 1 := ⟨nr - 1, by omega⟩
    have h1 := h.1
    by_cases hb : p < L ∧ tierT (nI (g p)) = nI t
    · obtain ⟨hp, hb⟩ := hb
      have cp := h.in hp
      have hne : ¬ (nI t = (2 : Int32)) := by rw [eqR (by omega) (by omega)]; exact ht2
      have e0 : (wX9_readTier_7 gP (nI t) (nI o) (n + 1) x 1).bind endT = ((gP (sfi x 6 2 (nI (p + 1))) (nI t) (nI o)).bind fun q => (fX9_write q.2 (nI (g p)) 0).bind fun y => wX9_readTier_7 gP (nI t) (nI o) n y q.1).bind endT := by
        rw [W9]
        unfold sX9_readTier_7
        rw [if_neg n10, h.2.1.1, h.2.2.1, if_neg (by rw [leN (by omega) (by omega)]; omega), if_pos cp, ixN (by omega), h.2.1.2 p hp, tier_x]
        simp only [Option.bind_some]
        rw [if_pos hb, if_pos cp, addR]
        simp only [if_neg hne]
      rw [e0]
      rcases hP _ _ _ (h.go hp) with ⟨x2, p2, s2, u, g1, ⟨g2, g3, g4, g8⟩, g5, g6, g7⟩ | ⟨x2, p2, g1, ⟨g2, g3⟩, g7⟩
      · have u0 := g6.1
        have g31 := g3.1
        have hs2 : s2 + 1 ≤ p2 := by omega
        obtain ⟨x3, w1, w2, w3, w4, w5⟩ := g3.wr hs2 (nI (g p)) 0
        rw [g1]
        simp only [Option.bind_some]
        rw [w1]
        simp only [Option.bind_some]
        have c0 := hc.1
        have cv : CODE (ri x3 8) (ri x3 9) s0 s v := hc.cg (fun i i1 i2 => ⟨(w5 i (by omega)).1.trans (g5 i i2).1, (w5 i (by omega)).2.trans (g5 i i2).2⟩)
        have cu : CODE (ri x3 8) (ri x3 9) s s2 u := g6.cg (fun i i1 i2 => w5 i (by omega))
        have cb := CODE.bin cv cu w4.1 (tier_ops ht hb)
        have fx : PFx x x3 := (((rx_go x _).tr g2).tr w2)
        rcases ih n nr x3 p2 (s2 + 1) s0 _ w3 (by omega) (by omega) (by omega) cb with ⟨x4, p4, s4, z, b1, ⟨b2, b3, b4, b8⟩, b5, b6, b7⟩ | ⟨x4, p4, b1, ⟨b2, b3⟩, b7⟩
        · refine Or.inl ⟨x4, p4, s4, z, b1, ⟨fx.tr b2, b3, by omega, by omega⟩, fun i hi => ⟨(b5 i hi).1.trans ((w5 i (by omega)).1.trans (g5 i (by omega)).1), (b5 i hi).2.trans ((w5 i (by omega)).2.trans (g5 i (by omega)).2)⟩, b6, fun m hm => ?_⟩
          obtain ⟨m2, d1, d2, d3⟩ := g7 _ (hm.go hp)
          obtain ⟨m4, k1, k2, k3⟩ := b7 m2 d3
          have em : ri m2 80 = ri m 80 := d2.r (by simp)
          refine ⟨m4, ?_, ((rm_go m _).tr d2).tr k2, k3⟩
          show lr (nr + 1) m (v (ri m 80)) = _
          rw [hgood nr m _ _ m2 p p2 hm hp hb d1 d3]
          replace k1 : lr nr m2 (joinF (nI (g p)) (v (ri m2 80)) (u (ri m2 80))) = _ := k1
          rw [em] at k1
          exact k1
        · refine Or.inr ⟨x4, p4, b1, ⟨fx.tr b2, b3⟩, fun m hm => ?_⟩
          obtain ⟨m2, d1, d2, d3⟩ := g7 _ (hm.go hp)
          obtain ⟨m4, w', k1, k2, k3⟩ := b7 m2 d3
          have em : ri m2 80 = ri m 80 := d2.r (by simp)
          refine ⟨m4, w', ?_, ((rm_go m _).tr d2).tr k2, k3⟩
          show lr (nr + 1) m (v (ri m 80)) = _
          rw [hgood nr m _ _ m2 p p2 hm hp hb d1 d3]
          replace k1 : lr nr m2 (joinF (nI (g p)) (v (ri m2 80)) (u (ri m2 80))) = _ := k1
          rw [em] at k1
          exact k1
      · obtain ⟨x3, w1, w2, w3⟩ := write_q g3 (nI (g p)) 0
        rw [g1]
        simp only [Option.bind_some]
        rw [w1]
        simp only [Option.bind_some]
        obtain ⟨n, rfl⟩ : ∃ n', n = n' + 1 := ⟨n - 1, by omega⟩
        obtain ⟨nr, rfl⟩ : ∃ n', nr = n' + 1 := ⟨nr - 1, by omega⟩
        refine Or.inr ⟨x3, p2, ?_, ⟨((rx_go x _).tr g2).tr w2, w3⟩, fun m hm => ?_⟩
        · rw [W9]
          unfold sX9_readTier_7
          rw [if_pos rfl]
          rfl
        · obtain ⟨m2, w, d1, d2, d3⟩ := g7 _ (hm.go hp)
          obtain ⟨w', k1⟩ := hbad nr m (v (ri m 80)) w m2 p p2 hm hp hb d1 d3
          exact ⟨m2, w', k1, (rm_go m _).tr d2, d3⟩
    · refine Or.inl ⟨x, p, s, v, ?_, ⟨Fr.rf _ _ _, h, Nat.le_refl _, Nat.le_refl _⟩, fun i _ => ⟨rfl, rfl⟩, hc, fun m hm => ⟨m, hstop nr m _ p hm hb, Fr.rf _ _ _, hm⟩⟩
      rw [W9]
      unfold sX9_readTier_7
      rw [if_neg n10, h.2.1.1, h.2.2.1]
      by_cases hp : p < L
      · have cp := h.in hp
        rw [if_neg (by rw [leN (by omega) (by omega)]; omega), if_pos cp, ixN (by omega), h.2.1.2 p hp, tier_x]
        simp only [Option.bind_some]
        rw [if_neg (fun z => hb ⟨hp, z⟩)]
        rfl
      · rw [if_pos (by rw [leN (by omega) (by omega)]; omega)]
        rfl
end
