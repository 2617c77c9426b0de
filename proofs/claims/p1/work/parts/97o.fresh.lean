/-! ===== order, clash, may where no shelf holds a row ===== -/
theorem rules2e {x m : aH} (hS : JS x m) (hno : ∀ d n q, d < 6 → ¬ shR x m d n q) (p : Int32) (f : aH → Int32 → Option (Int32 × aH)) (hf0 : ∀ y v, v ≠ 0 → f y v = some (v, y)) (g : aH → Option (Int32 × aH)) :
    OK2 ((fX10_readRules x p).bind fun q => f q.2 q.1) ((fX11_bytesIs m p).bind fun b => if b = (-1 : Int32) then some ((-1 : Int32), m) else (fX11_bytesIs m p).bind fun b2 => if (0 : Int32) ≤ b2 then (fX11_takesRules m p).bind g else (fX11_bytesIs m p).bind fun b3 => some (b3, m)) (fun a b => a.1 = b.1) := by
  unfold fX10_readRules
  rcases bytes_x hS p with ⟨-, b1, b2⟩ | ⟨d, hd, rfl, ⟨b1, b2⟩ | ⟨b1, b2⟩ | ⟨b1, b2, q, h⟩⟩
  · rw [b1, b2]
    exact OK2.eq (a := ((-1 : Int32), x)) (b := ((-1 : Int32), m)) (by show f x (-1) = _; exact hf0 x (-1) (by decide)) rfl rfl
  · rw [b1, b2]
    exact OK2.eq (a := ((-11 : Int32), x)) (b := ((-11 : Int32), m)) (by show f x (-11) = _; exact hf0 x (-11) (by decide)) rfl rfl
  · rw [b1, b2]
    exact OK2.eq (a := ((-12 : Int32), x)) (b := ((-12 : Int32), m)) (by show f x (-12) = _; exact hf0 x (-12) (by decide)) rfl rfl
  · exact absurd h (hno _ _ _ hd)
theorem op_orderE {x m : aH} (hS : JS x m) (hno : ∀ d n q, d < 6 → ¬ shR x m d n q) (p1 p2 : Int32) : OK2 (fX10_order x p1 p2) (fX11_order m p1 p2) (fun a b => a.1 = b.1) := by
  unfold fX10_order fX11_order
  by_cases h0 : 0 ≤ p2
  · simp only [if_pos h0]
    exact rules2e hS hno p1 (fun y v => jX10_order_13 y p2 v) (fun y v hv => by unfold jX10_order_13; rw [if_neg hv]) _
  · rw [if_neg h0]
    unfold jX10_order_13
    rcases bytes_x hS p1 with ⟨-, b1, b2⟩ | ⟨d, hd, rfl, ⟨b1, b2⟩ | ⟨b1, b2⟩ | ⟨b1, b2, q, h⟩⟩ <;> (rw [b2]; simp only [Option.bind_some, if_neg h0]; exact OK2.eq rfl rfl rfl)
theorem op_clashE {x m : aH} (hS : JS x m) (hno : ∀ d n q, d < 6 → ¬ shR x m d n q) (p1 p2 : Int32) : OK2 (fX10_clash x p1 p2) (fX11_clash m p1 p2) (fun a b => a.1 = b.1) := by
  unfold fX10_clash fX11_clash
  rw [w1]
  by_cases h0 : 0 ≤ p2 ∧ p2 ≤ 1
  · rw [bI_t h0, if_neg (Int32.not_lt.mpr h0.1), if_pos h0.2]
    simp only [Option.bind_some, if_neg n10]
    exact rules2e hS hno p1 (fun y v => jX10_clash_18 y p2 v) (fun y v hv => by unfold jX10_clash_18; rw [if_neg hv]) _
  · rw [bI_f h0]
    have e1 : ∀ o, (if p2 < (0 : Int32) then jX10_clash_9 x p2 else if p2 ≤ (1 : Int32) then o else jX10_clash_9 x p2) = some (-1, x) := by
      intro o
      unfold jX10_clash_9 jX10_clash_18
      by_cases h1 : p2 < 0
      · rw [if_pos h1]; rfl
      · rw [if_neg h1, if_neg (by grind)]; rfl
    rw [e1]
    rcases bytes_x hS p1 with ⟨-, b1, b2⟩ | ⟨d, hd, rfl, ⟨b1, b2⟩ | ⟨b1, b2⟩ | ⟨b1, b2, q, h⟩⟩ <;> (rw [b2]; exact OK2.eq rfl rfl rfl)
theorem op_mayE {x m : aH} {w : SEA} {t : STD} (hJ : JN x m w t) (hS : JS x m) (hno : ∀ d n q, d < 6 → ¬ shR x m d n q) (p1 p2 : Int32) : OK2 (fX10_may x p1 p2) (fX11_may m p1 p2) (fun a b => a.1 = b.1) := by
  have hn := hJ.1.1.1
  obtain ⟨q1, q2⟩ := pow_bd hn
  have e1 : nI (2 ^ w.lost) - (1 : Int32) = nI (2 ^ w.lost - 1) := subR q1
  unfold fX10_may fX11_may
  rw [hJ.2.1.2.1.1, hJ.2.2.1.2.2.2.1, shl_all _ (by omega), e1, show fX11_within p2.toInt64 (0 : Int64) (nI (2 ^ w.lost - 1)).toInt64 = _ from within_i p2 0 _]
  by_cases h0 : 0 ≤ p2 ∧ p2 < nI (2 ^ w.lost)
  · have h0' : 0 ≤ p2 ∧ p2 ≤ nI (2 ^ w.lost - 1) := by
      obtain ⟨j, hj, rfl⟩ := (in_range p2 _ (by omega)).mp h0
      exact ⟨h0.1, (leN (by omega) (by omega)).mpr (by omega)⟩
    rw [bI_t h0', if_neg (Int32.not_lt.mpr h0.1), if_pos h0.2]
    simp only [Option.bind_some, if_neg n10]
    exact rules2e hS hno p1 (fun y v => jX10_may_26 y p2 v) (fun y v hv => by unfold jX10_may_26; rw [if_neg hv]) _
  · have h0' : ¬ (0 ≤ p2 ∧ p2 ≤ nI (2 ^ w.lost - 1)) := by
      intro z
      obtain ⟨j, hj, rfl⟩ := le_arg (N := 2 ^ w.lost - 1) (by omega) rfl z
      exact h0 ⟨z.1, (ltN (by omega) (by omega)).mpr (by omega)⟩
    rw [bI_f h0']
    have e2 : ∀ o, (if p2 < (0 : Int32) then jX10_may_17 x p2 else if p2 < nI (2 ^ w.lost) then o else jX10_may_17 x p2) = some (-1, x) := by
      intro o
      unfold jX10_may_17 jX10_may_26
      by_cases h1 : p2 < 0
      · rw [if_pos h1]; rfl
      · rw [if_neg h1, if_neg (fun z => h0 ⟨Int32.not_lt.mp h1, z⟩)]; rfl
    rw [e2]
    rcases bytes_x hS p1 with ⟨-, b1, b2⟩ | ⟨d, hd, rfl, ⟨b1, b2⟩ | ⟨b1, b2⟩ | ⟨b1, b2, q, h⟩⟩ <;> (rw [b2]; exact OK2.eq rfl rfl rfl)
theorem frNo : ∀ d n q, d < 6 → ¬ shR He259 He259 d n q := by
  intro d n q hd h
  have e : fi He259 (61 + 2 * d) 1 = nI n := h.2.1.1
  rw [(he_x7 d hd).1] at e
  have h0 := le0 (n := n) (by have := h.1.1; omega)
  rw [← e] at h0
  exact absurd h0 (by decide)
