/-! ===== operands, and all tiers together ===== -/
section
variable {g : Nat → Nat} {L : Nat}
theorem isNext9 {x : aH} {p s : Nat} (h : XP g L x p s) (c : Int32) : fX9_isNext x c = some (if p < L ∧ nI (g p) = c then 1 else 0) := by
  have h1 := h.1
  unfold fX9_isNext
  rw [h.2.1.1, h.2.2.1]
  by_cases hp : p < L
  · have cp := h.in hp
    rw [if_neg (by rw [leN (by omega) (by omega)]; omega), if_pos cp, ixN (by omega), h.2.1.2 _ hp]
    by_cases hc : nI (g p) = c
    · rw [if_pos hc, if_pos ⟨hp, hc⟩]
    · rw [if_neg hc, if_neg (fun z => hc z.2)]
  · rw [if_pos (by rw [leN (by omega) (by omega)]; omega), if_neg (fun z => hp z.1)]
theorem W176 (E O : aH → Option (Int32 × aH)) (n : Nat) : wX11_one_176 E O (n + 1) = sX11_one_176 E O (wX11_one_176 E O n) := rfl
theorem one_stop (E O : aH → Option (Int32 × aH)) {m : aH} {c : Int32} (n : Nat) (hn : n ≠ 0) (h1 : fX11_byteAt m = some c) (h4 : c < 48 ∨ 57 < c) : wX11_one_176 E O n m 0 0 = some (0, 0, m) := by
  obtain ⟨k, rfl⟩ : ∃ k, n = k + 1 := ⟨n - 1, by omega⟩
  rw [W176]
  unfold sX11_one_176
  rw [if_neg (by decide), h1]
  simp only [Option.bind_some]
  by_cases c1 : c < 48
  · rw [if_pos c1]
  · rw [if_neg c1, if_pos (h4.resolve_left c1)]
theorem one_fail {E O : aH → Option (Int32 × aH)} {m : aH} {p o : Nat} (hm : MP g L m p o) (hn : p < L → (nI (g p) ≠ 33 ∧ nI (g p) ≠ 45 ∧ nI (g p) ≠ 40) ∧ fX11_nameOf (nI (g p)) = some (-1) ∧ (g p < 48 ∨ 57 < g p)) : ∃ m' w, uX11_one E O m = some (w, m') ∧ PFm m m' ∧ MQF g L m' p := by
  obtain ⟨m', e1, e2, e3⟩ := wrong_p hm
  refine ⟨m', 0, ?_, e2, e3⟩
  have hb : ∀ c, fX11_byteAt m = some c → c ≠ 33 ∧ c ≠ 45 ∧ c ≠ 40 → fX11_nameOf c = some (-1) → (c < 48 ∨ 57 < c) → uX11_one E O m = some (0, m') := by
    intro c h1 h2 h3 h4
    unfold uX11_one
    rw [if_pos (by rw [hm.2.1]; decide), h1]
    simp only [Option.bind_some]
    rw [if_neg h2.1, if_neg h2.2.1, if_neg h2.2.2, h3]
    simp only [Option.bind_some]
    rw [if_pos (by decide)]
    rw [one_stop E O 2000 (by decide) h1 h4]
    simp only [Option.bind_some]
    rw [if_pos trivial, e1]
    rfl
  by_cases hp : p < L
  · obtain ⟨h1, h2, h3⟩ := hn hp
    have := hm.1.1.2.2 _ hp
    exact hb _ (hm.1.hit hp) h1 h2 (h3.imp (fun z => (ltR (by omega) (by omega)).mpr z) (fun z => (ltL (by omega) (by omega)).mpr z))
  · exact hb 0 (hm.1.miss hp) (by decide) rfl (Or.inl (by decide))
theorem one_op {E O : aH → Option (Int32 × aH)} {m : aH} {p o : Nat} {c : Int32} (hm : MP g L m p o) (hp : p < L) (hc : nI (g p) = c) (h : c = 33 ∨ c = 45 ∨ c = 40) : uX11_one E O m = jX11_one_32 E O m c := by
  unfold uX11_one
  rw [if_pos (by rw [hm.2.1]; decide), hm.1.hit hp, hc]
  simp only [Option.bind_some]
  rcases h with rfl | rfl | rfl
  · rw [if_pos rfl]
  · rw [if_neg (by decide), if_pos rfl]
  · rw [if_neg (by decide), if_neg (by decide), if_pos rfl]
theorem op_full {E O : aH → Option (Int32 × aH)} {m : aH} {p : Nat} (c : Int32) (hm : MP g L m p 6) : ∃ m' w, jX11_one_32 E O m c = some (w, m') ∧ PFm m m' ∧ MQF g L m' p := by
  obtain ⟨m', e1, e2, e3⟩ := wrong_p hm
  refine ⟨m', 0, ?_, e2, e3⟩
  unfold jX11_one_32
  rw [hm.2.2, if_pos (show nI 6 = (6 : Int32) from rfl), e1]
  rfl
def openM (m : aH) (p o : Nat) : aH := sfi (sfi m 73 15 (nI (o + 1))) 73 12 (nI (p + 1))
theorem open_f (m : aH) (p o : Nat) : PFm m (openM m p o) := Fr.sfi (Fr.sfi (Fr.rf _ _ _) (by simp)) (by simp)
theorem open_m {m : aH} {p o : Nat} (hm : MP g L m p o) (hp : p < L) : MP g L (openM m p o) (p + 1) (o + 1) :=
  ⟨hm.1.fr (F := [(73, 12), (73, 15)]) (Fr.sfi (Fr.sfi (Fr.rf _ _ _) (by simp)) (by simp)) (by simp) hp (by unfold openM; rw [gf, if_pos ⟨rfl, rfl⟩]), by unfold openM; rw [gf, if_neg (by simp), gf, if_neg (by simp)]; exact hm.2.1, by unfold openM; rw [gf, if_neg (by simp), gf, if_pos ⟨rfl, rfl⟩]⟩
theorem op_in {E O : aH → Option (Int32 × aH)} {m : aH} {p o : Nat} (c : Int32) (hm : MP g L m p o) (ho : o < 6) : jX11_one_32 E O m c = if c = (40 : Int32) then (E (openM m p o)).bind fun q => jX11_one_83 E O q.2 c q.1 else (O (openM m p o)).bind fun q => jX11_one_83 E O q.2 c q.1 := by
  have e12 : ∀ v, fi (sfi m 73 15 v) 73 12 = nI p := fun v => by rw [gf, if_neg (by simp)]; exact hm.1.2.1.2
  unfold jX11_one_32
  rw [hm.2.2, if_neg (by rw [eqR (by omega) (by omega)]; omega), addR, e12, addR]
  rfl
theorem shut_f (m : aH) (v : Int32) : PFm m (sfi m 73 15 v) := Fr.sfi (Fr.rf _ _ _) (by simp)
theorem shut_m {m : aH} {p o : Nat} (hm : MP g L m p (o + 1)) : MP g L (sfi m 73 15 (fi m 73 15 - 1)) p o :=
  ⟨hm.1.fr (F := [(73, 15)]) (Fr.sfi (Fr.rf _ _ _) (by simp)) (by simp) hm.1.1.1 (by rw [gf, if_neg (by simp)]; exact hm.1.2.1.2), by rw [gf, if_neg (by simp)]; exact hm.2.1, by rw [gf, if_pos ⟨rfl, rfl⟩, hm.2.2]; exact subR (by simp)⟩
theorem shut_q {m : aH} {p : Nat} (v : Int32) (hm : MQF g L m p) : MQF g L (sfi m 73 15 v) p :=
  ⟨hm.1.fr (F := [(73, 15)]) (Fr.sfi (Fr.rf _ _ _) (by simp)) (by simp) hm.1.1.1 (by rw [gf, if_neg (by simp)]; exact hm.1.2.1.2), by rw [gf, if_neg (by simp)]; exact hm.2⟩
theorem one104_q {E O : aH → Option (Int32 × aH)} {m : aH} {p : Nat} (c v : Int32) (hm : MQF g L m p) : ∃ m' w, jX11_one_104 E O m c v = some (w, m') ∧ PFm m m' ∧ MQF g L m' p := by
  have h2 := shut_q (fi m 73 15 - 1) hm
  have h3 := shut_f m (fi m 73 15 - 1)
  unfold jX11_one_104
  by_cases h40 : c = 40
  · rw [if_pos h40]; exact ⟨_, _, rfl, h3, h2⟩
  · rw [if_neg h40]
    by_cases h45 : c = 45
    · rw [if_pos h45]; exact ⟨_, _, rfl, h3, h2⟩
    · rw [if_neg h45]
      by_cases hv : v = 0
      · rw [if_pos hv]; exact ⟨_, _, rfl, h3, h2⟩
      · rw [if_neg hv]; exact ⟨_, _, rfl, h3, h2⟩
theorem one83_q {E O : aH → Option (Int32 × aH)} {m : aH} {p : Nat} (c v : Int32) (hm : MQF g L m p) : ∃ m' w, jX11_one_83 E O m c v = some (w, m') ∧ PFm m m' ∧ MQF g L m' p := by
  unfold jX11_one_83
  by_cases h40 : c = 40
  · obtain ⟨m', e1, e2, e3⟩ := wrong_q hm
    rw [if_pos h40, takes_q _ hm]
    simp only [Option.bind_some]
    rw [if_pos trivial, e1]
    exact ⟨m', 0, rfl, e2, e3⟩
  · rw [if_neg h40]
    exact one104_q c v hm
theorem operand_RES {o : Nat} (ho : o ≤ 6) {gT gP : aH → Int32 → Int32 → Option (Int32 × aH)} {E O : aH → Option (Int32 × aH)}
    (hT : o < 6 → ∀ x p s, XP g L x p s → RES g L x p s s (o + 1) (gT x (nI 0) (nI (o + 1))) E)
    (hO : o < 6 → ∀ x p s, XP g L x p s → RES g L x p s s (o + 1) (gP x (nI 4) (nI (o + 1))) O) (x : aH) (p s : Nat) (h : XP g L x p s) : RES g L x p s s o (uX9_readOperand gT gP x (nI o)) (uX11_one E O) := by
  have h1 := h.1
  by_cases hp : p < L
  · have cp := h.in hp
    have hb := h1.2.2.2 _ hp
    by_cases hd : 48 ≤ g p ∧ g p ≤ 57
    · obtain ⟨j, a, x', e1, ⟨e2, e3, e4, e5⟩, e6, -, e7⟩ := num_loop E O (p := p) 4 2000 2000 0 x s 0 rfl (by omega) (by omega) h
      have hj : 0 < j := e6 (by omega) hp hd.1 hd.2
      obtain ⟨x3, w1, w2, w3, w4, w5⟩ := e3.wr (by omega) 1 a
      have eK : (if nI p + (4 : Int32) < nI L then nI p + (4 : Int32) else nI L) = nI (if p + 4 < L then p + 4 else L) := by
        rw [addR]
        by_cases hk : p + 4 < L
        · rw [if_pos ((ltN (by omega) (by omega)).mpr hk), if_pos hk]
        · rw [if_neg (by rw [ltN (by omega) (by omega)]; exact hk), if_neg hk]
      refine Or.inl ⟨x3, p + j, s + 1, fun _ => a, ?_, ⟨(e2.w (by simp) (by simp)).tr w2, w3, by omega, by omega⟩, fun i hi => ⟨(w5 i (by omega)).1.trans (by rw [e2.r (by simp)]), (w5 i (by omega)).2.trans (by rw [e2.r (by simp)])⟩, CODE.num w4.1 w4.2, fun m hm => ?_⟩
      · unfold uX9_readOperand fX9_readNumber
        rw [h.2.2.1, h.2.1.1, if_pos (by rw [ltN (by omega) (by omega)]; exact hp), if_pos cp, ixN (by omega), h.2.1.2 _ hp, if_neg (by rw [ltR (by omega) (by omega)]; omega), if_neg (by rw [ltL (by omega) (by omega)]; omega), eK, e1]
        simp only [Option.bind_some]
        rw [w1]
        rfl
      · obtain ⟨m', k1, k2, k3⟩ := e7 m o hm
        refine ⟨m', ?_, k2, k3⟩
        unfold uX11_one
        rw [if_pos (by rw [hm.2.1]; decide), hm.1.hit hp]
        simp only [Option.bind_some]
        rw [if_neg (by rw [eqR (by omega) (by omega)]; omega), if_neg (by rw [eqR (by omega) (by omega)]; omega), if_neg (by rw [eqR (by omega) (by omega)]; omega), name_digit _ (by omega) hd.1]
        simp only [Option.bind_some]
        replace k1 : wX11_one_176 E O 2000 m 0 0 = some (a, nI j, m') := k1
        rw [if_pos (by decide), k1]
        simp only [Option.bind_some]
        rw [if_neg (by rw [eqR (by omega) (by omega)]; omega)]
    · have eC : uX9_readOperand gT gP x (nI o) = jX9_readOperand_41 gT gP x (nI o) (nI (g p)) := by
        unfold uX9_readOperand
        rw [h.2.2.1, h.2.1.1, if_pos (by rw [ltN (by omega) (by omega)]; exact hp), if_pos cp, ixN (by omega), h.2.1.2 _ hp]
        by_cases c1 : nI (g p) < (48 : Int32)
        · rw [if_pos c1]
        · rw [if_neg c1, if_pos]
          rw [ltR (by omega) (by omega)] at c1
          rw [ltL (by omega) (by omega)]
          omega
      rw [eC]
      unfold jX9_readOperand_41
      rw [nameOf_eq]
      rcases name_cases (nI (g p)) with hnm | ⟨k, hk, hnm⟩
      · rw [hnm]
        simp only [Option.bind_some]
        rw [if_pos (by decide)]
        have bad : ∀ cl, cl = some ((0 : Int32), x) → ((nI (g p) ≠ 33 ∧ nI (g p) ≠ 45 ∧ nI (g p) ≠ 40) ∨ o = 6) → RES g L x p s s o cl (uX11_one E O) := by
          intro cl hcl hor
          refine Or.inr ⟨x, p, hcl, ⟨Fr.rf _ _ _, h.q⟩, fun m hm => ?_⟩
          by_cases hop : nI (g p) = 33 ∨ nI (g p) = 45 ∨ nI (g p) = 40
          · have ho6 : o = 6 := hor.resolve_left (fun z => by rcases hop with u | u | u; exact z.1 u; exact z.2.1 u; exact z.2.2 u)
            subst ho6
            rw [one_op hm hp rfl hop]
            exact op_full _ hm
          · exact one_fail hm (fun _ => ⟨⟨fun z => hop (Or.inl z), fun z => hop (Or.inr (Or.inl z)), fun z => hop (Or.inr (Or.inr z))⟩, hnm, by omega⟩)
        by_cases ho6 : 6 ≤ o
        · rw [if_pos ((leL (by omega) (by omega)).mpr ho6)]
          exact bad _ rfl (Or.inr (by omega))
        · rw [if_neg (fun z => ho6 ((leL (by omega) (by omega)).mp z))]
          have ho6 : o < 6 := by omega
          by_cases h40 : nI (g p) = 40
          · rw [if_pos h40]
            unfold jX9_readOperand_95
            rw [if_pos h40, h.2.2.1, addR, addR]
            rcases hT ho6 _ _ _ (h.go hp) with ⟨x2, p2, s2, v, g1, ⟨g2, g3, g4, g8⟩, g5, g6, g7⟩ | ⟨x2, p2, g1, ⟨g2, g3⟩, g7⟩
            · have g31 := g3.1
              replace g1 : gT (sfi x 6 2 (nI (p + 1))) (0 : Int32) (nI (o + 1)) = some (1, x2) := g1
              rw [g1]
              simp only [Option.bind_some]
              rw [if_neg n10]
              unfold fX9_readClosing
              rw [isNext9 g3]
              simp only [Option.bind_some]
              by_cases hcl : p2 < L ∧ nI (g p2) = 41
              · rw [if_pos hcl, if_neg n10]
                simp only [Option.bind_some]
                rw [if_neg n10, g3.2.2.1, addR]
                refine Or.inl ⟨_, p2 + 1, s2, v, rfl, ⟨(rx_go x _).tr (g2.tr (rx_go x2 _)), g3.go hcl.1, by omega, by omega⟩, fun i hi => g5 i hi, g6, fun m hm => ?_⟩
                obtain ⟨m2, d1, d2, d3⟩ := g7 _ (open_m hm hp)
                have d4 := d3.go hcl.1
                refine ⟨_, ?_, (open_f m p o).tr (d2.tr ((rm_go m2 _).tr (shut_f _ _))), shut_m d4⟩
                rw [one_op hm hp rfl (Or.inr (Or.inr h40)), op_in _ hm ho6, if_pos h40, d1]
                simp only [Option.bind_some]
                unfold jX11_one_83 jX11_one_104
                rw [if_pos h40, takes_y d3 hcl.1 hcl.2]
                simp only [Option.bind_some]
                rw [if_neg n10, if_pos h40]
                rfl
              · rw [if_neg hcl, if_pos rfl]
                simp only [Option.bind_some]
                rw [if_pos trivial]
                refine Or.inr ⟨x2, p2, rfl, ⟨(rx_go x _).tr g2, g3.q⟩, fun m hm => ?_⟩
                obtain ⟨m2, d1, d2, d3⟩ := g7 _ (open_m hm hp)
                obtain ⟨m3, k1, k2, k3⟩ := wrong_p d3
                refine ⟨m3, 0, ?_, (open_f m p o).tr (d2.tr k2), k3⟩
                rw [one_op hm hp rfl (Or.inr (Or.inr h40)), op_in _ hm ho6, if_pos h40, d1]
                simp only [Option.bind_some]
                unfold jX11_one_83
                rw [if_pos h40, takes_n d3 hcl (by decide)]
                simp only [Option.bind_some]
                rw [if_pos trivial, k1]
                rfl
            · replace g1 : gT (sfi x 6 2 (nI (p + 1))) (0 : Int32) (nI (o + 1)) = some (0, x2) := g1
              rw [g1]
              simp only [Option.bind_some]
              rw [if_pos trivial]
              refine Or.inr ⟨x2, p2, rfl, ⟨(rx_go x _).tr g2, g3⟩, fun m hm => ?_⟩
              obtain ⟨m2, w, d1, d2, d3⟩ := g7 _ (open_m hm hp)
              obtain ⟨m3, w', k1, k2, k3⟩ := one83_q (E := E) (O := O) (nI (g p)) w d3
              refine ⟨m3, w', ?_, (open_f m p o).tr (d2.tr k2), k3⟩
              rw [one_op hm hp rfl (Or.inr (Or.inr h40)), op_in _ hm ho6, if_pos h40, d1]
              exact k1
          · rw [if_neg h40]
            by_cases hop : nI (g p) = 33 ∨ nI (g p) = 45
            · have e95 : (if nI (g p) = (33 : Int32) then jX9_readOperand_95 gT gP x (nI o) (nI (g p)) else if nI (g p) = (45 : Int32) then jX9_readOperand_95 gT gP x (nI o) (nI (g p)) else some ((0 : Int32), x)) = jX9_readOperand_95 gT gP x (nI o) (nI (g p)) := by
                rcases hop with u | u
                · rw [if_pos u]
                · rw [if_neg (by rw [u]; decide), if_pos u]
              rw [e95]
              unfold jX9_readOperand_95
              rw [if_neg h40, h.2.2.1, addR, addR]
              have eR : ∀ {m : aH}, MP g L m p o → uX11_one E O m = (O (openM m p o)).bind fun q => jX11_one_83 E O q.2 (nI (g p)) q.1 := fun hm => by
                rw [one_op hm hp rfl (hop.imp id Or.inl), op_in _ hm ho6, if_neg h40]
              rcases hO ho6 _ _ _ (h.go hp) with ⟨x2, p2, s2, v, g1, ⟨g2, g3, g4, g8⟩, g5, g6, g7⟩ | ⟨x2, p2, g1, ⟨g2, g3⟩, g7⟩
              · have g31 := g3.1
                replace g1 : gP (sfi x 6 2 (nI (p + 1))) (4 : Int32) (nI (o + 1)) = some (1, x2) := g1
                rw [g1]
                simp only [Option.bind_some]
                unfold jX9_readOperand_158
                rcases hop with u | u
                · rw [if_pos u]
                  obtain ⟨x3, w1, w2, w3, w4, w5⟩ := g3.wr (by omega) 33 0
                  rw [w1]
                  simp only [Option.bind_some]
                  rw [if_pos (Or.inr trivial)]
                  refine Or.inl ⟨x3, p2, s2 + 1, _, rfl, ⟨(rx_go x _).tr (g2.tr w2), w3, by omega, by omega⟩, fun i hi => ⟨(w5 i (by have := g6.1; omega)).1.trans (g5 i hi).1, (w5 i (by have := g6.1; omega)).2.trans (g5 i hi).2⟩, CODE.not (g6.cg (fun i i1 i2 => w5 i (by omega))) w4.1, fun m hm => ?_⟩
                  obtain ⟨m2, d1, d2, d3⟩ := g7 _ (open_m hm hp)
                  refine ⟨_, ?_, (open_f m p o).tr (d2.tr (shut_f m2 _)), shut_m d3⟩
                  rw [eR hm, d1, u]
                  simp only [Option.bind_some]
                  unfold jX11_one_83 jX11_one_104
                  rw [if_neg (by decide), if_neg (by decide), if_neg (by decide), some_if']
                  rfl
                · rw [if_neg (by rw [u]; decide)]
                  obtain ⟨x3, w1, w2, w3, w4, w5⟩ := g3.wr (by omega) 3 0
                  rw [w1]
                  simp only [Option.bind_some]
                  rw [if_pos (Or.inr trivial)]
                  refine Or.inl ⟨x3, p2, s2 + 1, _, rfl, ⟨(rx_go x _).tr (g2.tr w2), w3, by omega, by omega⟩, fun i hi => ⟨(w5 i (by have := g6.1; omega)).1.trans (g5 i hi).1, (w5 i (by have := g6.1; omega)).2.trans (g5 i hi).2⟩, CODE.neg (g6.cg (fun i i1 i2 => w5 i (by omega))) w4.1, fun m hm => ?_⟩
                  obtain ⟨m2, d1, d2, d3⟩ := g7 _ (open_m hm hp)
                  refine ⟨_, ?_, (open_f m p o).tr (d2.tr (shut_f m2 _)), shut_m d3⟩
                  rw [eR hm, d1, u]
                  simp only [Option.bind_some]
                  unfold jX11_one_83 jX11_one_104
                  rw [if_neg (by decide), if_neg (by decide), if_pos rfl]
                  rfl
              · replace g1 : gP (sfi x 6 2 (nI (p + 1))) (4 : Int32) (nI (o + 1)) = some (0, x2) := g1
                rw [g1]
                simp only [Option.bind_some]
                have w158 : ∀ c : Int32, ∃ x3, jX9_readOperand_158 gT gP x2 0 c = some (0, x3) ∧ PFx x2 x3 ∧ XQ L x3 p2 := by
                  intro c
                  obtain ⟨x3, w1, w2, w3⟩ := write_q g3 c 0
                  refine ⟨x3, ?_, w2, w3⟩
                  unfold jX9_readOperand_158
                  rw [w1]
                  simp only [Option.bind_some]
                  rw [if_pos (Or.inl trivial)]
                have fin : ∀ cl x3, cl = some ((0 : Int32), x3) → PFx x2 x3 → XQ L x3 p2 → RES g L x p s s o cl (uX11_one E O) := by
                  intro cl x3 c1 c2 c3
                  refine Or.inr ⟨x3, p2, c1, ⟨(rx_go x _).tr (g2.tr c2), c3⟩, fun m hm => ?_⟩
                  obtain ⟨m2, w, d1, d2, d3⟩ := g7 _ (open_m hm hp)
                  obtain ⟨m3, w', k1, k2, k3⟩ := one83_q (E := E) (O := O) (nI (g p)) w d3
                  refine ⟨m3, w', ?_, (open_f m p o).tr (d2.tr k2), k3⟩
                  rw [eR hm, d1]
                  exact k1
                by_cases u : nI (g p) = 33
                · rw [if_pos u]
                  obtain ⟨x3, c1, c2, c3⟩ := w158 33
                  exact fin _ x3 c1 c2 c3
                · rw [if_neg u]
                  obtain ⟨x3, c1, c2, c3⟩ := w158 3
                  exact fin _ x3 c1 c2 c3
            · rw [if_neg (fun z => hop (Or.inl z)), if_neg (fun z => hop (Or.inr z))]
              exact bad _ rfl (Or.inl ⟨fun z => hop (Or.inl z), fun z => hop (Or.inr z), h40⟩)
      · rw [hnm]
        simp only [Option.bind_some]
        rw [if_neg (lt0 (by omega)), h.2.2.1, addR]
        obtain ⟨x3, w1, w2, w3, w4, w5⟩ := (h.go hp).wr (by omega) 2 (nI k)
        rw [w1]
        simp only [Option.bind_some]
        refine Or.inl ⟨x3, p + 1, s + 1, fun f => f k, rfl, ⟨(rx_go x _).tr w2, w3, by omega, by omega⟩, fun i hi => w5 i (by omega), CODE.name w4.1 w4.2 hk, fun m hm => ?_⟩
        refine ⟨sfi m 73 12 (nI (p + 1)), ?_, rm_go m _, hm.go hp⟩
        have nm1 : ∀ c, nI (g p) = c → fX11_nameOf c ≠ some (-1) := by
          intro c z y
          rw [← z, hnm] at y
          have := Option.some.inj y
          have h0 := le0 (n := k) (by omega)
          rw [this] at h0
          exact absurd h0 (by decide)
        have ck : (0 : Int32) ≤ nI k ∧ nI k < (6 : Int32) := inN (by omega) hk
        unfold uX11_one
        rw [if_pos (by rw [hm.2.1]; decide), hm.1.hit hp]
        simp only [Option.bind_some]
        rw [if_neg (fun z => nm1 _ z name_33), if_neg (fun z => nm1 _ z name_45), if_neg (fun z => nm1 _ z name_40), hnm]
        simp only [Option.bind_some]
        rw [if_neg (lt0 (by omega)), if_pos ck, ixN (by omega), hm.1.2.1.2, addR]
        rfl
  · refine Or.inr ⟨x, p, ?_, ⟨Fr.rf _ _ _, h.q⟩, fun m hm => one_fail hm (fun z => absurd z hp)⟩
    unfold uX9_readOperand
    rw [h.2.2.1, h.2.1.1, if_neg (by rw [ltN (by omega) (by omega)]; exact hp)]
end
