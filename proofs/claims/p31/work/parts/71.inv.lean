/-! ===== the invariant over the two heaps: acts, shelves, the tape ===== -/
theorem ix_inj {i j : Int32} (hi : 0 ≤ i) (hj : 0 ≤ j) : ix i = ix j ↔ i = j := by
  rcases i_cases i with h | ⟨a, ha, rfl⟩
  · exact absurd hi (Int32.not_le.mpr h)
  rcases i_cases j with h | ⟨b, hb, rfl⟩
  · exact absurd hj (Int32.not_le.mpr h)
  show (nI a).toNatClampNeg = (nI b).toNatClampNeg ↔ _
  rw [nI_clamp ha, nI_clamp hb, nI_inj ha hb]
theorem ri_sri_ix {x : aH} {a : Nat} {i j v : Int32} (hi : 0 ≤ i) (hj : 0 ≤ j) : ri (sri x a (ix i) v) a (ix j) = if j = i then v else ri x a (ix j) := by
  by_cases h : j = i
  · subst h; rw [if_pos rfl, ri_sri_at]
  · rw [if_neg h, ri_sri_off (fun z => h ((ix_inj hj hi).mp z))]
theorem gf (h : aH) (a k b j : Nat) (v : Int32) : fi (sfi h a k v) b j = if b = a ∧ j = k then v else fi h b j := by
  by_cases h1 : b = a
  · subst h1
    by_cases h2 : j = k
    · subst h2; simp [fi_sfi_at]
    · simp [fi_sfi_off h2, h2]
  · rw [fi_sfi_ne h1]; simp [h1]
theorem gr (h : aH) (a k b j : Nat) (v : Int32) : ri (sri h a k v) b j = if b = a ∧ j = k then v else ri h b j := by
  by_cases h1 : b = a
  · subst h1
    by_cases h2 : j = k
    · subst h2; simp [ri_sri_at]
    · simp [ri_sri_off h2, h2]
  · rw [ri_sri_ne h1]; simp [h1]
theorem gfr (h : aH) (a k b j : Nat) (v : Int32) : fi (sri h a k v) b j = fi h b j := rfl
theorem grf (h : aH) (a k b j : Nat) (v : Int32) : ri (sfi h a k v) b j = ri h b j := rfl
theorem ixi (i j : Int32) (hi : 0 ≤ i) (hj : 0 ≤ j) (h : ix i = ix j) : i = j := (ix_inj hi hj).mp h
def JA (x m : aH) : Prop := (fi x 57 1) = (fi m 73 36) ∧ (0 ≤ (fi m 73 36) ∧ (fi m 73 36) ≤ 50) ∧ (∀ i : Int32, 0 ≤ i → i < (fi m 73 36) → (ri x 58) (ix i) = (ri m 92) (ix i) ∧ 0 ≤ (ri m 92) (ix i) ∧ (ri m 92) (ix i) < 8) ∧ (fi x 57 3) = (fi m 73 39) ∧ (0 ≤ (fi m 73 39) ∧ (fi m 73 39) ≤ 100) ∧ (∀ i : Int32, 0 ≤ i → i < 24 → i < (fi m 73 39) → (ri x 59) (ix i) = (ri m 93) (ix i))
theorem isKind_x (x : aH) (k : Int32) : fX0_isKind x k = some (bI (0 ≤ k ∧ k < 8)) := by
  unfold fX0_isKind
  by_cases h1 : k < 0
  · rw [if_pos h1, bI_f (by grind)]
  · rw [if_neg h1]
    by_cases h2 : (8 : Int32) ≤ k
    · rw [if_pos h2, bI_f (by grind)]
    · rw [if_neg h2, bI_t (by grind)]
theorem op_body {x m : aH} {k : Int32} (hJ : JA x m) : ∃ qx qm, fX10_body x k = some qx ∧ fX11_body m k = some qm ∧ JA qx.2 qm.2 ∧ qx.1 = qm.1 := by
  obtain ⟨h1, h2, h3, h4, h5, h6⟩ := hJ
  unfold fX10_body fX11_body
  rw [isKind_x, show fX11_within k.toInt64 (0 : Int64) (7 : Int64) = _ from within_i k 0 7]
  simp only [Option.bind_some]
  by_cases hk : 0 ≤ k ∧ k < 8
  · rw [bI_t hk, bI_t (by grind), if_neg (by decide), if_neg (by decide)]
    unfold fX0_isFull
    by_cases hf : (fi m 73 36) = 50
    · rw [if_neg (by grind), if_pos hf]
      exact ⟨_, _, rfl, rfl, ⟨h1, h2, h3, h4, h5, h6⟩, rfl⟩
    · rw [if_pos (by grind), if_neg hf]
      unfold fX0_add
      rw [if_pos (by grind), if_pos (by grind)]
      refine ⟨_, _, rfl, rfl, ⟨?_, ?_, ?_, ?_, ?_, ?_⟩, ?_⟩
      all_goals simp only [gf, gr, gfr, grf]
      all_goals simp
      all_goals grind [ixi]
  · rw [bI_f hk, bI_f (by grind), if_pos rfl, if_pos rfl]
    exact ⟨_, _, rfl, rfl, ⟨h1, h2, h3, h4, h5, h6⟩, rfl⟩
