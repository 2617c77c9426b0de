/-! ===== heard: that it comes to its end ===== -/
theorem and127 (v : Int32) : ∃ k, k < 128 ∧ v &&& (127 : Int32) = nI k := by
  refine ⟨v.toBitVec.toNat &&& 127, Nat.lt_of_le_of_lt Nat.and_le_right (by decide), ?_⟩
  have e : v = nI v.toBitVec.toNat := by
    rw [← Int32.toBitVec_inj]
    show v.toBitVec = BitVec.ofNat 32 v.toBitVec.toNat
    simp
  have e2 : nI v.toBitVec.toNat &&& nI 127 = nI (v.toBitVec.toNat &&& 127) := fa_and _ _
  rw [← e] at e2
  exact e2
theorem bit_x (p : Int64) : OK (fJ13_bitCount_95d88 p) (fun q => ∃ k, k < 128 ∧ q = nI k) := by
  unfold fJ13_bitCount_95d88 jJ13_bitCount_95d88_24 jJ13_bitCount_95d88_41 jJ13_bitCount_95d88_55
  exact OK.ret (and127 _)
theorem decN {k : Nat} (h : 1 ≤ k) : nI k + (-1 : Int32) = nI (k - 1) := by
  rw [← Int32.sub_eq_add_neg]
  exact subR h
theorem div_x (x : aH) (a : Int32) {n : Nat} (hn : n < 128) : OK (fX10_commonDivisor x a (nI n)) (fun d => d ≠ 0) := by
  unfold fX10_commonDivisor
  refine OK.bind (P := fun q => ∀ d, q = Sum.inl d → d ≠ 0) ?_ (fun q hq => ?_)
  · refine LOOP (fun k (st : Int32) => wX10_commonDivisor_2 x a (nI n) k st) (fun ih st => sX10_commonDivisor_2 x a (nI n) ih st) (fun n => rfl) (fun k st => st = nI k ∧ k < 128) _ ?_ 2000 n _ (by omega) ⟨rfl, hn⟩
    rintro k st ⟨rfl, hk⟩ ih hI
    try dsimp only
    unfold sX10_commonDivisor_2 jX10_commonDivisor_21
    refine OK.i (fun _ => OK.ret (fun d h => by cases h)) (fun c => ?_)
    rw [leR (by omega) (by omega)] at c
    have c0 : ¬ nI k = (0 : Int32) := by rw [eqR (by omega) (by omega)]; omega
    have go : OK (ih (nI k + (-1 : Int32))) (fun q => ∀ d, q = Sum.inl d → d ≠ 0) := by
      rw [decN (by omega)]
      exact hI (k - 1) _ (by omega) ⟨rfl, by omega⟩
    exact OK.t c0 (OK.i (fun _ => OK.t c0 (OK.i (fun _ => OK.ret (fun d h => by cases h; exact c0)) (fun _ => go))) (fun _ => go))
  · rcases q with q | q
    · exact OK.ret (hq q rfl)
    · exact OK.ret (by decide)
theorem heard69_x (x : aH) (a s : Int32) {n : Nat} (hn : n < 128) : OK (jX10_heard_69 x (nI n) a s) (fun _ => True) := by
  unfold jX10_heard_69
  exact OK.bind (div_x x a hn) (fun q hq => OK.t hq (OK.ret trivial))
theorem euclid_m (m : aH) (p a0 b0 : Int32) {a b : Nat} (ha : a ≤ 64) (hb : b ≤ 64) (h : a ≠ 0) : OK (wX11_heard_98 m p a0 b0 2000 (nI a) (nI b)) (fun d => d ≠ 0) := by
  refine LOOP (fun k (st : Int32 × Int32) => wX11_heard_98 m p a0 b0 k st.1 st.2) (fun ih st => sX11_heard_98 m p a0 b0 (fun u v => ih (u, v)) st.1 st.2) (fun n => rfl) (fun k st => ∃ a b, a ≤ 64 ∧ b ≤ 64 ∧ (a ≠ 0 ∨ b ≠ 0) ∧ k = b ∧ st = (nI a, nI b)) _ ?_ 2000 b (nI a, nI b) (by omega) ⟨a, b, ha, hb, Or.inl h, rfl, rfl⟩
  rintro k st ⟨a, b, ha, hb, h, rfl, rfl⟩ ih hI
  dsimp only
  unfold sX11_heard_98
  refine OK.i (fun c => OK.ret ?_) (fun c => OK.t c ?_)
  · rw [eqR (by omega) (by omega)] at c
    show nI a ≠ 0
    intro z
    rw [show (nI a = 0) ↔ a = 0 from eqR (by decide) (by omega)] at z
    exact h.elim (fun u => u z) (fun u => u c)
  · rw [eqR (by omega) (by omega)] at c
    have hk0 : 0 < k := Nat.pos_of_ne_zero c
    have hlt := Nat.mod_lt a hk0
    rw [nI_rem (k := k) rfl (by omega) hk0 (by omega)]
    exact hI (a % k) (nI k, nI (a % k)) hlt ⟨k, a % k, hb, by omega, Or.inl (by omega), rfl, rfl⟩
theorem lit_x {x : aH} {la y : Nat} (hl : fi x 1 4 = nI la) (hla : la < 64) (hy : y < 4) : OK (fX5_lit x (nI y)) (fun _ => True) := by
  unfold fX5_lit
  refine OK.bind (P := fun _ => True) ?_ (fun _ _ => OK.ret trivial)
  refine LOOPUP (fun n (st : Int64) l => wX5_lit_5 x (nI y) n st l) (fun ih st l => sX5_lit_5 x (nI y) ih st l) (fun n => rfl) (fun _ _ => True) _ 64 ?_ ?_ 2000 0 0 (by omega) (by omega) trivial
  · intro i st hi _ ih hk
    unfold sX5_lit_5 jX5_lit_29
    rw [isLit_x hl hla hy hi, nI_1]
    refine OK.f (by rw [leL (by omega) (by omega)]; omega) (OK.r rfl (OK.i (fun _ => hk _ trivial) (fun _ => hk _ trivial)))
  · intro st _ ih
    unfold sX5_lit_5
    exact OK.t (by decide) (OK.ret trivial)
theorem flat_x (x : aH) : OK (fX5_flat x) (fun _ => True) := by
  unfold fX5_flat
  refine OK.bind (P := fun _ => True) ?_ (fun _ _ => OK.ret trivial)
  refine LOOPUP (fun n (st : Int64) l => wX5_flat_4 x n st l) (fun ih st l => sX5_flat_4 x ih st l) (fun n => rfl) (fun _ _ => True) _ 64 ?_ ?_ 2000 0 0 (by omega) (by omega) trivial
  · intro i st hi _ ih hk
    have ci : (0 : Int32) ≤ nI i ∧ nI i < (64 : Int32) := inN (by omega) (by omega)
    unfold sX5_flat_4 jX5_flat_25
    rw [nI_1]
    refine OK.f (by rw [leL (by omega) (by omega)]; omega) (OK.t ci (OK.i (fun _ => hk _ trivial) (fun _ => hk _ trivial)))
  · intro st _ ih
    unfold sX5_flat_4
    exact OK.t (by decide) (OK.ret trivial)
theorem heard_m {m : aH} {la y : Nat} (hl : ri m 74 168 = nI la) (hla : la < 64) (hy : y < 4) (p2 : Int32) : OK (wX11_heard_34 m (nI y) p2 2000 0 0 0) (fun q => ∃ a b, a ≤ 64 ∧ b ≤ 64 ∧ q = (nI a, nI b)) := by
  refine LOOPUP (fun n (st : Int32 × Int32) l => wX11_heard_34 m (nI y) p2 n st.1 st.2 l) (fun ih st l => sX11_heard_34 m (nI y) p2 (fun a b c => ih (a, b) c) st.1 st.2 l) (fun n => rfl) (fun i st => ∃ a b, a ≤ i ∧ b ≤ i ∧ st = (nI a, nI b)) _ 64 ?_ ?_ 2000 0 (0, 0) (by omega) (by omega) ⟨0, 0, by omega, by omega, rfl⟩
  · rintro i st hi ⟨a, b, ha, hb, rfl⟩ ih hk
    have ci : (0 : Int32) ≤ (40 : Int32) + nI i ∧ (40 : Int32) + nI i < (172 : Int32) := inAdd (by omega) (by omega)
    try dsimp only
    unfold sX11_heard_34 jX11_heard_74 jX11_heard_77
    rw [isSeen_m hl hla hy hi, nI_1, nI_1, addR]
    refine OK.f (by rw [leL (by omega) (by omega)]; omega) (OK.r rfl (OK.i (fun _ => hk (nI a, nI b) ⟨a, b, by omega, by omega, rfl⟩) (fun _ => OK.t ci (OK.i (fun _ => hk (_, _) ⟨a + 1, b + 1, by omega, by omega, rfl⟩) (fun _ => hk (_, _) ⟨a + 1, b, by omega, by omega, by rw [show nI b + (0 : Int32) = nI b from nI_add b 0]⟩)))))
  · rintro st ⟨a, b, ha, hb, rfl⟩ ih
    unfold sX11_heard_34
    exact OK.t (by decide) (OK.ret ⟨a, b, ha, hb, rfl⟩)
theorem op_heard {x m : aH} (hJ : JJ x m) (p1 p2 : Int32) : OK2 (fX10_heard x p1 p2) (fX11_heard m p1 p2) (fun _ _ => True) := by
  obtain ⟨w, t, hR⟩ := hJ
  obtain ⟨⟨hw, ht⟩, ⟨hs, hv, hh⟩, hms, hmv⟩ := hR.1.1
  have hla := hw.2.2.2.1
  unfold fX10_heard fX11_heard
  rw [isWay_x, w3, w1]
  refine OK2.mk (A := fun _ => True) (B := fun _ => True) ?_ ?_ (fun _ _ _ _ => trivial)
  · by_cases hp : 0 ≤ p1 ∧ p1 < 4
    · obtain ⟨y, hy, rfl⟩ := (in_range p1 4 (by omega)).mp hp
      rw [bI_t hp]
      refine OK.r rfl (OK.f n10 (OK.i (fun _ => OK.ret trivial) (fun _ => OK.i (fun _ => ?_) (fun _ => OK.ret trivial))))
      refine OK.bind (lit_x hs.2.2.1.1 hla hy) (fun u _ => OK.bind (bit_x u) (fun v hv => OK.bind (flat_x x) (fun z _ => OK.bind (bit_x _) (fun v2 _ => ?_))))
      obtain ⟨k, hk, rfl⟩ := hv
      exact OK.i (fun _ => OK.ret trivial) (fun _ => OK.i (fun _ => heard69_x x _ _ hk) (fun _ => heard69_x x _ _ hk))
    · rw [bI_f hp]
      exact OK.r rfl (OK.t rfl (OK.ret trivial))
  · by_cases hp : 0 ≤ p1 ∧ p1 ≤ 3
    · obtain ⟨y, hy, rfl⟩ := le_arg (N := 3) (by omega) rfl hp
      rw [bI_t hp]
      refine OK.r rfl (OK.f n10 (OK.r rfl (OK.i (fun _ => OK.ret trivial) (fun _ => OK.bind (heard_m hms.2.2.1.1 hla (by omega) p2) ?_))))
      rintro _ ⟨a, b, ha, hb, rfl⟩
      dsimp only
      refine OK.i (fun _ => OK.ret trivial) (fun c => ?_)
      have hb0 : b ≠ 0 := fun z => c (by rw [z]; rfl)
      exact OK.bind (euclid_m m p2 _ _ hb ha hb0) (fun q hq => OK.i (fun _ => OK.t hq (OK.ret trivial)) (fun _ => OK.t hq (OK.ret trivial)))
    · rw [bI_f hp]
      exact OK.r rfl (OK.t rfl (OK.ret trivial))
