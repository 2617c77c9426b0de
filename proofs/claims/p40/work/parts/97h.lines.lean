/-! ===== whole expressions, lines, all lines ===== -/
section
variable {g : Nat → Nat} {L : Nat}
theorem part_lt {t o : Nat} (ht : t < 4) {gT : aH → Int32 → Int32 → Option (Int32 × aH)} {gO : aH → Int32 → Option (Int32 × aH)} {rs : aH → Option (Int32 × aH)} {x : aH} {p s : Nat} (h : RES g L x p s s o (gT x (nI (t + 1)) (nI o)) rs) : RES g L x p s s o (uX9_readPart gT gO x (nI t) (nI o)) rs := by
  have e : ∀ v y, (v = (0 : Int32) ∨ v = (1 : Int32)) → gT x (nI (t + 1)) (nI o) = some (v, y) → uX9_readPart gT gO x (nI t) (nI o) = some (v, y) := by
    intro v y hv h1
    unfold uX9_readPart
    rw [if_pos (by rw [ltR (by omega) (by omega)]; exact ht), addR, h1]
    simp only [Option.bind_some]
    rw [if_pos hv]
  rcases h with ⟨x2, p2, s2, v, g1, h2⟩ | ⟨x2, p2, g1, h2⟩
  · exact Or.inl ⟨x2, p2, s2, v, e _ _ (Or.inr rfl) g1, h2⟩
  · exact Or.inr ⟨x2, p2, e _ _ (Or.inl rfl) g1, h2⟩
theorem part_4 {o : Nat} {gT : aH → Int32 → Int32 → Option (Int32 × aH)} {gO : aH → Int32 → Option (Int32 × aH)} {rs : aH → Option (Int32 × aH)} {x : aH} {p s : Nat} (h : RES g L x p s s o (gO x (nI o)) rs) : RES g L x p s s o (uX9_readPart gT gO x (nI 4) (nI o)) rs := by
  have e : ∀ v y, (v = (0 : Int32) ∨ v = (1 : Int32)) → gO x (nI o) = some (v, y) → uX9_readPart gT gO x (nI 4) (nI o) = some (v, y) := by
    intro v y hv h1
    unfold uX9_readPart
    rw [if_neg (by decide), h1]
    simp only [Option.bind_some]
    rw [if_pos hv]
  rcases h with ⟨x2, p2, s2, v, g1, h2⟩ | ⟨x2, p2, g1, h2⟩
  · exact Or.inl ⟨x2, p2, s2, v, e _ _ (Or.inr rfl) g1, h2⟩
  · exact Or.inr ⟨x2, p2, e _ _ (Or.inl rfl) g1, h2⟩
theorem chain4 {o n nr : Nat} (hO : ∀ x p s, XP g L x p s → RES g L x p s s o ((GX9_readTier (n + 1)).2.2 x (nI o)) ((GX11_either (nr + 1)).2.2.2.2.2)) : ∀ x p s, XP g L x p s → RES g L x p s s o ((GX9_readTier (n + 2)).2.1 x (nI 4) (nI o)) ((GX11_either (nr + 1)).2.2.2.2.2) := fun x p s h => part_4 (gT := (GX9_readTier (n + 1)).1) (hO x p s h)
theorem chain0 {o n nr : Nat} (hO : ∀ x p s, XP g L x p s → RES g L x p s s o ((GX9_readTier (n + 1)).2.2 x (nI o)) ((GX11_either (nr + 1)).2.2.2.2.2)) : ∀ x p s, XP g L x p s → RES g L x p s s o ((GX9_readTier (n + 11)).1 x (nI 0) (nI o)) ((GX11_either (nr + 6)).1) := by
  have p4 := chain4 hO
  have t4 : ∀ x p s, XP g L x p s → RES g L x p s s o ((GX9_readTier (n + 3)).1 x (nI 4) (nI o)) ((GX11_either (nr + 2)).2.2.2.2.1) := fun x p s h => product_RES p4 x p s h
  have p3 : ∀ x p s, XP g L x p s → RES g L x p s s o ((GX9_readTier (n + 4)).2.1 x (nI 3) (nI o)) ((GX11_either (nr + 2)).2.2.2.2.1) := fun x p s h => part_lt (gO := (GX9_readTier (n + 3)).2.2) (by omega) (t4 x p s h)
  have t3 : ∀ x p s, XP g L x p s → RES g L x p s s o ((GX9_readTier (n + 5)).1 x (nI 3) (nI o)) ((GX11_either (nr + 3)).2.2.2.1) := fun x p s h => sums_RES p3 x p s h
  have p2 : ∀ x p s, XP g L x p s → RES g L x p s s o ((GX9_readTier (n + 6)).2.1 x (nI 2) (nI o)) ((GX11_either (nr + 3)).2.2.2.1) := fun x p s h => part_lt (gO := (GX9_readTier (n + 5)).2.2) (by omega) (t3 x p s h)
  have t2 : ∀ x p s, XP g L x p s → RES g L x p s s o ((GX9_readTier (n + 7)).1 x (nI 2) (nI o)) ((GX11_either (nr + 4)).2.2.1) := fun x p s h => compared_RES p2 x p s h
  have p1 : ∀ x p s, XP g L x p s → RES g L x p s s o ((GX9_readTier (n + 8)).2.1 x (nI 1) (nI o)) ((GX11_either (nr + 4)).2.2.1) := fun x p s h => part_lt (gO := (GX9_readTier (n + 7)).2.2) (by omega) (t2 x p s h)
  have t1 : ∀ x p s, XP g L x p s → RES g L x p s s o ((GX9_readTier (n + 9)).1 x (nI 1) (nI o)) ((GX11_either (nr + 5)).2.1) := fun x p s h => both_RES p1 x p s h
  have p0 : ∀ x p s, XP g L x p s → RES g L x p s s o ((GX9_readTier (n + 10)).2.1 x (nI 0) (nI o)) ((GX11_either (nr + 5)).2.1) := fun x p s h => part_lt (gO := (GX9_readTier (n + 9)).2.2) (by omega) (t1 x p s h)
  exact fun x p s h => either_RES p0 x p s h
theorem group : ∀ d o, o + d = 6 → ∀ n nr, 11 * d ≤ n → 6 * d ≤ nr → ∀ x p s, XP g L x p s → RES g L x p s s o ((GX9_readTier (n + 1)).2.2 x (nI o)) ((GX11_either (nr + 1)).2.2.2.2.2) := by
  intro d
  induction d with
  | zero =>
    intro o ho n nr hn hr x p s h
    exact operand_RES (by omega) (fun z => absurd z (by omega)) (fun z => absurd z (by omega)) x p s h
  | succ d ih =>
    intro o ho n nr hn hr x p s h
    obtain ⟨n, rfl⟩ : ∃ k, n = k + 11 := ⟨n - 11, by omega⟩
    obtain ⟨nr, rfl⟩ : ∃ k, nr = k + 6 := ⟨nr - 6, by omega⟩
    exact operand_RES (by omega) (fun _ => chain0 (ih (o + 1) (by omega) n nr (by omega) (by omega))) (fun _ => chain4 (ih (o + 1) (by omega) (n + 9) (nr + 5) (by omega) (by omega))) x p s h
theorem expr_RES {x : aH} {p s : Nat} (h : XP g L x p s) : RES g L x p s s 0 (fX9_readTier 128 x 0 0) (fX11_either 64) :=
  chain0 (group 6 0 rfl 117 58 (by omega) (by omega)) x p s h
def XL (g : Nat → Nat) (L : Nat) (x : aH) (p s : Nat) : Prop := (p ≤ L ∧ L ≤ 120 ∧ s ≤ p + 1 ∧ ∀ i, i < L → g i < 256) ∧ (fi x 6 1 = nI L ∧ ∀ i, i < L → ri x 7 i = nI (g i)) ∧ fi x 6 2 = nI p ∧ fi x 6 5 = nI s
theorem XL.go {x : aH} {p s : Nat} (h : XL g L x p s) (hp : p < L) : XP g L (sfi x 6 2 (nI (p + 1))) (p + 1) s :=
  ⟨⟨hp, h.1.2.1, h.1.2.2.1, h.1.2.2.2⟩, ⟨(by rw [gf, if_neg (by simp)]; exact h.2.1.1), h.2.1.2⟩, by rw [gf, if_pos ⟨rfl, rfl⟩], by rw [gf, if_neg (by simp)]; exact h.2.2.2⟩
theorem XL.q {x : aH} {p s : Nat} (h : XL g L x p s) : XQ L x p := ⟨h.1.1, h.2.2.1, s, by have := h.1; omega, h.2.2.2⟩
theorem XP.wrE {x : aH} {p s : Nat} (h : XP g L x p s) (a b : Int32) : ∃ x', fX9_write x a b = some x' ∧ PFx x x' ∧ XL g L x' p (s + 1) ∧ (ri x' 8 s = a ∧ ri x' 9 s = b) ∧ ∀ i, i ≠ s → ri x' 8 i = ri x 8 i ∧ ri x' 9 i = ri x 9 i := by
  have h1 := h.1
  have k := rx_write x s a b (nI (s + 1))
  exact ⟨_, write_g a b h.2.2.2 (by omega), k.w (by simp) (by simp), ⟨⟨h1.1, h1.2.1, by omega, h1.2.2.2⟩, ⟨(k.f (by simp)).trans h.2.1.1, by rw [k.r (by simp)]; exact h.2.1.2⟩, (k.f (by simp)).trans h.2.2.1, by rw [gf, if_pos ⟨rfl, rfl⟩]⟩, write_at x s a b _, fun i hi => write_off x s a b _ hi⟩
def encF (o : Option Int32) : Int32 := match o with
  | some _ => 1
  | none => 0
def LGOOD (g : Nat → Nat) (L : Nat) (x : aH) (p : Nat) (fd : (Nat → Int32) → Option Int32) : Prop := ∃ x' p' s' fd', fX9_readLine x = some (1, x') ∧ (PFx x x' ∧ XL g L x' p' s' ∧ p ≤ p' ∧ 0 < s') ∧ PRG (ri x' 8) (ri x' 9) s' fd' ∧ ∀ m, MP g L m p 0 → ∃ m', (∀ ih, sX11_workOut_33 ih m (encF (fd (ri m 80))) ((fd (ri m 80)).getD 0) 1 = jX11_workOut_96 ih m' (encF (fd' (ri m 80))) ((fd' (ri m 80)).getD 0)) ∧ PFm m m' ∧ MP g L m' p' 0
def LBAD (g : Nat → Nat) (L : Nat) (x : aH) (p : Nat) : Prop := ∃ x' p', fX9_readLine x = some (0, x') ∧ (PFx x x' ∧ XQ L x' p') ∧ ∀ m, MP g L m p 0 → ∀ a b, ∃ m', (∀ ih, sX11_workOut_33 ih m a b 1 = jX11_workOut_96 ih m' a b) ∧ PFm m m' ∧ MQF g L m' p'
theorem w74_y (ih : aH → Int32 → Int32 → Int32 → Option (Int32 × aH)) {m : aH} {p o : Nat} (hm : MP g L m p o) (q : Option Int32) (v : Int32) : jX11_workOut_74 ih m (encF q) (q.getD 0) v 1 = jX11_workOut_96 ih m 1 (q.getD v) := by
  unfold jX11_workOut_74
  rw [if_neg hm.f, if_neg n10]
  cases q with
  | none => rfl
  | some r => rfl
theorem w74_n (ih : aH → Int32 → Int32 → Int32 → Option (Int32 × aH)) {m : aH} {p o : Nat} (hm : MP g L m p o) (a b v : Int32) : jX11_workOut_74 ih m a b v 0 = jX11_workOut_96 ih m a b := by
  unfold jX11_workOut_74
  rw [if_neg hm.f, if_pos rfl]
theorem w74_q (ih : aH → Int32 → Int32 → Int32 → Option (Int32 × aH)) {m : aH} {p : Nat} (hm : MQF g L m p) (a b v z : Int32) : jX11_workOut_74 ih m a b v z = jX11_workOut_96 ih m a b := by
  unfold jX11_workOut_74
  rw [if_pos hm.ge]
theorem line_RES {x : aH} {p s : Nat} {fd : (Nat → Int32) → Option Int32} (h : XP g L x p s) (hf : PRG (ri x 8) (ri x 9) s fd) : LGOOD g L x p fd ∨ LBAD g L x p := by
  have h1 := h.1
  rcases expr_RES h with ⟨x1, p1, s1, c, g1, ⟨g2, g3, g4, g8⟩, g5, g6, g7⟩ | ⟨x1, p1, g1, ⟨g2, g3⟩, g7⟩
  · have g31 := g3.1
    have g60 := g6.1
    by_cases hq : p1 < L ∧ nI (g p1) = 63
    · obtain ⟨x2, w1, w2, w3, w4, w5⟩ := (g3.go hq.1).wr (by omega) 4 0
      rcases expr_RES w3 with ⟨x3, p3, s3, v, b1, ⟨b2, b3, b4, b8⟩, b5, b6, b7⟩ | ⟨x3, p3, b1, ⟨b2, b3⟩, b7⟩
      · have b31 := b3.1
        have b60 := b6.1
        obtain ⟨x4, k1, k2, k3, k4, k5⟩ := b3.wrE 5 0
        have cs : (0 : Int32) ≤ nI s1 ∧ nI s1 < (128 : Int32) := inN (by omega) (by omega)
        have f5 : PFx x4 (sri x4 9 s1 (nI (s3 + 1))) := Fr.sri (Fr.rf _ _ _) (by simp)
        have r9 : ri (sri x4 9 s1 (nI (s3 + 1))) 9 s1 = nI (s3 + 1) := by rw [gr, if_pos ⟨rfl, rfl⟩]
        have r9' : ∀ i, i ≠ s1 → ri (sri x4 9 s1 (nI (s3 + 1))) 9 i = ri x4 9 i := fun i hi => by rw [gr, if_neg (fun z => hi z.2)]
        have r8 : ∀ i, ri (sri x4 9 s1 (nI (s3 + 1))) 8 i = ri x4 8 i := fun i => by rw [gr, if_neg (by simp)]
        have a1 : ∀ i, i < s1 → ri (sri x4 9 s1 (nI (s3 + 1))) 8 i = ri x1 8 i ∧ ri (sri x4 9 s1 (nI (s3 + 1))) 9 i = ri x1 9 i := fun i hi =>
          ⟨(r8 i).trans ((k5 i (by omega)).1.trans ((b5 i (by omega)).1.trans (w5 i (by omega)).1)), (r9' i (by omega)).trans ((k5 i (by omega)).2.trans ((b5 i (by omega)).2.trans (w5 i (by omega)).2))⟩
        refine Or.inl ⟨sri x4 9 s1 (nI (s3 + 1)), p3, s3 + 1, lineF fd c v, ?_, ⟨g2.tr ((rx_go x1 _).tr (w2.tr (b2.tr (k2.tr f5)))), ⟨k3.1, ⟨k3.2.1.1, by rw [f5.r (by simp)]; exact k3.2.1.2⟩, k3.2.2⟩, by omega, by omega⟩, ?_, fun m hm => ?_⟩
        · unfold fX9_readLine
          rw [g1]
          simp only [Option.bind_some]
          rw [if_neg n10, isNext9 g3, if_pos hq]
          simp only [Option.bind_some]
          rw [if_neg n10, g3.2.2.1, addR, w1]
          simp only [Option.bind_some]
          rw [b1]
          simp only [Option.bind_some]
          rw [if_neg n10, k1]
          simp only [Option.bind_some]
          have e5 : fi (sfi x1 6 2 (nI (p1 + 1))) 6 5 = nI s1 := (g3.go hq.1).2.2.2
          rw [e5, if_neg (by rw [leL (by omega) (by omega)]; omega), if_pos cs, ixN (by omega), k3.2.2.2]
        · refine PRG.cond (hf.cg (fun i hi => ⟨(a1 i (by omega)).1.trans (g5 i hi).1, (a1 i (by omega)).2.trans (g5 i hi).2⟩)) (g6.cg (fun i _ i2 => a1 i i2)) ?_ r9 (b6.cg (fun i i1 i2 => ⟨(r8 i).trans (k5 i (by omega)).1, (r9' i (by omega)).trans (k5 i (by omega)).2⟩)) ((r8 s3).trans k4.1)
          exact (r8 s1).trans ((k5 s1 (by omega)).1.trans ((b5 s1 (by omega)).1.trans w4.1))
        · obtain ⟨m1, d1, d2, d3⟩ := g7 m hm
          have d4 := d3.go hq.1
          obtain ⟨m3, d5, d6, d7⟩ := b7 _ d4
          have em : ri m1 80 = ri m 80 := d2.r (by simp)
          replace d5 : fX11_either 64 (sfi m1 73 12 (nI (p1 + 1))) = some (v (ri m1 80), m3) := d5
          rw [em] at d5
          refine ⟨m3, fun ih => ?_, d2.tr ((rm_go m1 _).tr d6), d7⟩
          unfold sX11_workOut_33 jX11_workOut_66
          rw [if_neg n10, d1]
          simp only [Option.bind_some]
          rw [takes_y d3 hq.1 hq.2]
          simp only [Option.bind_some]
          rw [if_neg n10, d5]
          simp only [Option.bind_some]
          by_cases hz : c (ri m 80) = 0
          · rw [if_pos hz, w74_n ih d7]
            cases hff : fd (ri m 80) with
            | none => simp only [lineF, hff, if_pos hz]
            | some r => simp only [lineF, hff]
          · rw [if_neg hz, w74_y ih d7]
            cases hff : fd (ri m 80) with
            | none => simp only [lineF, hff, if_neg hz]; rfl
            | some r => simp only [lineF, hff]; rfl
      · refine Or.inr ⟨x3, p3, ?_, ⟨g2.tr ((rx_go x1 _).tr (w2.tr b2)), b3⟩, fun m hm a b => ?_⟩
        · unfold fX9_readLine
          rw [g1]
          simp only [Option.bind_some]
          rw [if_neg n10, isNext9 g3, if_pos hq]
          simp only [Option.bind_some]
          rw [if_neg n10, g3.2.2.1, addR, w1]
          simp only [Option.bind_some]
          rw [b1]
          simp only [Option.bind_some]
          rw [if_pos trivial]
        · obtain ⟨m1, d1, d2, d3⟩ := g7 m hm
          have d4 := d3.go hq.1
          obtain ⟨m3, w, d5, d6, d7⟩ := b7 _ d4
          refine ⟨m3, fun ih => ?_, d2.tr ((rm_go m1 _).tr d6), d7⟩
          unfold sX11_workOut_33 jX11_workOut_66
          rw [if_neg n10, d1]
          simp only [Option.bind_some]
          rw [takes_y d3 hq.1 hq.2]
          simp only [Option.bind_some]
          rw [if_neg n10, d5]
          simp only [Option.bind_some]
          by_cases hz : c (ri m 80) = 0
          · rw [if_pos hz, w74_q ih d7]
          · rw [if_neg hz, w74_q ih d7]
    · obtain ⟨x4, k1, k2, k3, k4, k5⟩ := g3.wrE 5 0
      refine Or.inl ⟨x4, p1, s1 + 1, lineF fd (fun _ => 1) c, ?_, ⟨g2.tr k2, k3, by omega, by omega⟩, ?_, fun m hm => ?_⟩
      · unfold fX9_readLine
        rw [g1]
        simp only [Option.bind_some]
        rw [if_neg n10, isNext9 g3, if_neg hq]
        simp only [Option.bind_some]
        rw [if_pos trivial, k1]
        rfl
      · exact PRG.line (hf.cg (fun i hi => ⟨(k5 i (by omega)).1.trans (g5 i hi).1, (k5 i (by omega)).2.trans (g5 i hi).2⟩)) (g6.cg (fun i _ i2 => k5 i (by omega))) k4.1
      · obtain ⟨m1, d1, d2, d3⟩ := g7 m hm
        refine ⟨m1, fun ih => ?_, d2, d3⟩
        unfold sX11_workOut_33
        rw [if_neg n10, d1]
        simp only [Option.bind_some]
        rw [takes_n d3 hq (by decide)]
        simp only [Option.bind_some]
        rw [if_pos trivial, w74_y ih d3]
        cases hff : fd (ri m 80) with
        | none => simp only [lineF, hff, if_neg n10]; rfl
        | some r => simp only [lineF, hff]; rfl
  · refine Or.inr ⟨x1, p1, ?_, ⟨g2, g3⟩, fun m hm a b => ?_⟩
    · unfold fX9_readLine
      rw [g1]
      simp only [Option.bind_some]
      rw [if_pos trivial]
    · obtain ⟨m1, w, d1, d2, d3⟩ := g7 m hm
      refine ⟨m1, fun ih => ?_, d2, d3⟩
      unfold sX11_workOut_33
      rw [if_neg n10, d1]
      simp only [Option.bind_some]
      rw [takes_q _ d3]
      simp only [Option.bind_some]
      rw [if_pos trivial, w74_q ih d3]
theorem W15 (n : Nat) : wX9_read_15 (n + 1) = sX9_read_15 (wX9_read_15 n) := rfl
theorem W33 (n : Nat) : wX11_workOut_33 (n + 1) = sX11_workOut_33 (wX11_workOut_33 n) := rfl
def TGOOD (g : Nat → Nat) (L : Nat) (x : aH) (p : Nat) (cl : Option (Int32 × aH)) (rf : aH → Option (Int32 × aH)) : Prop := ∃ x' p' s' fd', cl = some (1, x') ∧ (PFx x x' ∧ XL g L x' p' s' ∧ 0 < s') ∧ PRG (ri x' 8) (ri x' 9) s' fd' ∧ ∀ m, MP g L m p 0 → ∃ m', rf m = some ((fd' (ri m 80)).getD 0, m') ∧ PFm m m' ∧ MP g L m' p' 0
theorem lines_RES : ∀ k n nr x p s fd, XP g L x p s → L - p ≤ k → k + 1 < n → k + 1 < nr → PRG (ri x 8) (ri x 9) s fd → TGOOD g L x p ((fX9_readLine x).bind fun q => wX9_read_15 n q.2 q.1) (fun m => wX11_workOut_33 nr m (encF (fd (ri m 80))) ((fd (ri m 80)).getD 0) 1) ∨ BAD g L x p 0 ((fX9_readLine x).bind fun q => wX9_read_15 n q.2 q.1) (fun m => wX11_workOut_33 nr m (encF (fd (ri m 80))) ((fd (ri m 80)).getD 0) 1) := by
  intro k
  induction k with
  | zero =>
    intro n nr x p s fd h hk hn hr hf
    obtain ⟨n, rfl⟩ : ∃ n', n = n' + 1 := ⟨n - 1, by omega⟩
    obtain ⟨nr, rfl⟩ : ∃ n', nr = n' + 1 + 1 := ⟨nr - 2, by omega⟩
    have h1 := h.1
    rcases line_RES h hf with ⟨x1, p1, s1, fd1, g1, ⟨g2, g3, g4, g5⟩, g6, g7⟩ | ⟨x1, p1, g1, ⟨g2, g3⟩, g7⟩
    · have g31 := g3.1
      refine Or.inl ⟨x1, p1, s1, fd1, ?_, ⟨g2, g3, g5⟩, g6, fun m hm => ?_⟩
      · rw [g1]
        simp only [Option.bind_some]
        rw [W15]
        unfold sX9_read_15
        rw [if_neg n10, g3.2.1.1, g3.2.2.1, if_pos (by rw [leN (by omega) (by omega)]; omega)]
      · obtain ⟨m1, d1, d2, d3⟩ := g7 m hm
        refine ⟨m1, ?_, d2, d3⟩
        show wX11_workOut_33 (nr + 1 + 1) m _ _ 1 = _
        rw [W33, d1]
        unfold jX11_workOut_96
        rw [takes_n d3 (fun z => by omega) (by decide)]
        simp only [Option.bind_some]
        rw [W33]
        unfold sX11_workOut_33
        rw [if_pos rfl]
    · refine Or.inr ⟨x1, p1, ?_, ⟨g2, g3⟩, fun m hm => ?_⟩
      · rw [g1]
        simp only [Option.bind_some]
        rw [W15]
        unfold sX9_read_15
        rw [if_pos rfl]
      · obtain ⟨m1, d1, d2, d3⟩ := g7 m hm (encF (fd (ri m 80))) ((fd (ri m 80)).getD 0)
        refine ⟨m1, (fd (ri m 80)).getD 0, ?_, d2, d3⟩
        show wX11_workOut_33 (nr + 1 + 1) m _ _ 1 = _
        rw [W33, d1]
        unfold jX11_workOut_96
        rw [takes_q _ d3]
        simp only [Option.bind_some]
        rw [W33]
        unfold sX11_workOut_33
        rw [if_pos rfl]
  | succ k ih =>
    intro n nr x p s fd h hk hn hr hf
    obtain ⟨n, rfl⟩ : ∃ n', n = n' + 1 := ⟨n - 1, by omega⟩
    obtain ⟨nr, rfl⟩ : ∃ n', nr = n' + 1 + 1 := ⟨nr - 2, by omega⟩
    have h1 := h.1
    rcases line_RES h hf with ⟨x1, p1, s1, fd1, g1, ⟨g2, g3, g4, g5⟩, g6, g7⟩ | ⟨x1, p1, g1, ⟨g2, g3⟩, g7⟩
    · have g31 := g3.1
      by_cases hq : p1 < L ∧ nI (g p1) = 59
      · have cp : (0 : Int32) ≤ nI p1 ∧ nI p1 < (120 : Int32) := inN (by omega) (by omega)
        have ecl : ((fX9_readLine x).bind fun q => wX9_read_15 (n + 1) q.2 q.1) = (fX9_readLine (sfi x1 6 2 (nI (p1 + 1)))).bind fun q => wX9_read_15 n q.2 q.1 := by
          rw [g1]
          simp only [Option.bind_some]
          rw [W15]
          unfold sX9_read_15
          rw [if_neg n10, g3.2.1.1, g3.2.2.1, if_neg (by rw [leN (by omega) (by omega)]; omega), if_pos cp, ixN (by omega), g3.2.1.2 _ hq.1, if_pos hq.2, addR]
        rw [ecl]
        have step : ∀ m, MP g L m p 0 → ∃ m2, wX11_workOut_33 (nr + 1 + 1) m (encF (fd (ri m 80))) ((fd (ri m 80)).getD 0) 1 = wX11_workOut_33 (nr + 1) m2 (encF (fd1 (ri m2 80))) ((fd1 (ri m2 80)).getD 0) 1 ∧ PFm m m2 ∧ MP g L m2 (p1 + 1) 0 ∧ ri m2 80 = ri m 80 := by
          intro m hm
          obtain ⟨m1, d1, d2, d3⟩ := g7 m hm
          have em : ri (sfi m1 73 12 (nI (p1 + 1))) 80 = ri m 80 := d2.r (by simp)
          refine ⟨sfi m1 73 12 (nI (p1 + 1)), ?_, d2.tr (rm_go m1 _), d3.go hq.1, em⟩
          rw [em, W33, d1]
          unfold jX11_workOut_96
          rw [takes_y d3 hq.1 hq.2]
          rfl
        rcases ih n (nr + 1) (sfi x1 6 2 (nI (p1 + 1))) (p1 + 1) s1 fd1 (g3.go hq.1) (by omega) (by omega) (by omega) g6 with ⟨x4, p4, s4, fd4, b1, ⟨b2, b3, b4⟩, b5, b7⟩ | ⟨x4, p4, b1, ⟨b2, b3⟩, b7⟩
        · refine Or.inl ⟨x4, p4, s4, fd4, b1, ⟨g2.tr ((rx_go x1 _).tr b2), b3, b4⟩, b5, fun m hm => ?_⟩
          obtain ⟨m2, d1, d2, d3, d4⟩ := step m hm
          obtain ⟨m4, k1, k2, k3⟩ := b7 m2 d3
          refine ⟨m4, ?_, d2.tr k2, k3⟩
          rw [← d4]
          rw [d4]
          show wX11_workOut_33 (nr + 1 + 1) m (encF (fd (ri m 80))) ((fd (ri m 80)).getD 0) 1 = _
          rw [d1, ← d4]
          exact k1
        · refine Or.inr ⟨x4, p4, b1, ⟨g2.tr ((rx_go x1 _).tr b2), b3⟩, fun m hm => ?_⟩
          obtain ⟨m2, d1, d2, d3, d4⟩ := step m hm
          obtain ⟨m4, w, k1, k2, k3⟩ := b7 m2 d3
          refine ⟨m4, w, ?_, d2.tr k2, k3⟩
          show wX11_workOut_33 (nr + 1 + 1) m (encF (fd (ri m 80))) ((fd (ri m 80)).getD 0) 1 = _
          rw [d1]
          exact k1
      · refine Or.inl ⟨x1, p1, s1, fd1, ?_, ⟨g2, g3, g5⟩, g6, fun m hm => ?_⟩
        · rw [g1]
          simp only [Option.bind_some]
          rw [W15]
          unfold sX9_read_15
          rw [if_neg n10, g3.2.1.1, g3.2.2.1]
          by_cases hp : p1 < L
          · have cp : (0 : Int32) ≤ nI p1 ∧ nI p1 < (120 : Int32) := inN (by omega) (by omega)
            rw [if_neg (by rw [leN (by omega) (by omega)]; omega), if_pos cp, ixN (by omega), g3.2.1.2 _ hp, if_neg (fun z => hq ⟨hp, z⟩)]
          · rw [if_pos (by rw [leN (by omega) (by omega)]; omega)]
        · obtain ⟨m1, d1, d2, d3⟩ := g7 m hm
          refine ⟨m1, ?_, d2, d3⟩
          show wX11_workOut_33 (nr + 1 + 1) m _ _ 1 = _
          rw [W33, d1]
          unfold jX11_workOut_96
          rw [takes_n d3 hq (by decide)]
          simp only [Option.bind_some]
          rw [W33]
          unfold sX11_workOut_33
          rw [if_pos rfl]
    · refine Or.inr ⟨x1, p1, ?_, ⟨g2, g3⟩, fun m hm => ?_⟩
      · rw [g1]
        simp only [Option.bind_some]
        rw [W15]
        unfold sX9_read_15
        rw [if_pos rfl]
      · obtain ⟨m1, d1, d2, d3⟩ := g7 m hm (encF (fd (ri m 80))) ((fd (ri m 80)).getD 0)
        refine ⟨m1, (fd (ri m 80)).getD 0, ?_, d2, d3⟩
        show wX11_workOut_33 (nr + 1 + 1) m _ _ 1 = _
        rw [W33, d1]
        unfold jX11_workOut_96
        rw [takes_q _ d3]
        simp only [Option.bind_some]
        rw [W33]
        unfold sX11_workOut_33
        rw [if_pos rfl]
end
