/-! ===== pure lemmas: bounds, bits of the models ===== -/
theorem tl_lt (a b : Int32) : a.toInt64 < b.toInt64 ↔ a < b := by
  rw [Int64.lt_iff_toInt_lt, Int32.lt_iff_toInt_lt, Int32.toInt_toInt64, Int32.toInt_toInt64]
theorem tl_eq (a b : Int32) : a.toInt64 = b.toInt64 ↔ a = b := by
  rw [← Int64.toInt_inj, ← Int32.toInt_inj, Int32.toInt_toInt64, Int32.toInt_toInt64]
theorem lgc_lt (a b : Int64) : lg_cmp a b < 0 ↔ a < b := by
  unfold lg_cmp
  by_cases h : a > b
  · rw [if_pos h]; exact ⟨fun z => absurd z (by decide), fun z => absurd z (Int64.lt_asymm h)⟩
  · rw [if_neg h]
    by_cases h2 : a = b
    · rw [if_pos h2]; subst h2; exact ⟨fun z => absurd z (by decide), fun z => absurd z Int64.lt_irrefl⟩
    · rw [if_neg h2]; exact ⟨fun _ => by rcases Int64.lt_or_le a b with h3 | h3; exact h3; exact absurd (Int64.le_antisymm (Int64.not_lt.mp h) h3) h2, fun _ => by decide⟩
theorem lgc_gt (a b : Int64) : 0 < lg_cmp a b ↔ b < a := by
  unfold lg_cmp
  by_cases h : a > b
  · rw [if_pos h]; exact ⟨fun _ => h, fun _ => by decide⟩
  · rw [if_neg h]
    by_cases h2 : a = b
    · rw [if_pos h2]; exact ⟨fun z => absurd z (by decide), fun z => absurd z h⟩
    · rw [if_neg h2]; exact ⟨fun z => absurd z (by decide), fun z => absurd z h⟩
theorem within_l (a b c : Int64) : fX11_within a b c = some (bI (b ≤ a ∧ a ≤ c)) := by
  unfold fX11_within
  by_cases h1 : lg_cmp a b < 0
  · rw [if_pos h1, bI_f]; intro z; exact absurd ((lgc_lt a b).mp h1) (Int64.not_lt.mpr z.1)
  · rw [if_neg h1]
    have h1 := Int64.not_lt.mp (fun z => h1 ((lgc_lt a b).mpr z))
    by_cases h2 : 0 < lg_cmp a c
    · rw [if_pos h2, bI_f]; intro z; exact absurd ((lgc_gt a c).mp h2) (Int64.not_lt.mpr z.2)
    · rw [if_neg h2, bI_t]; exact ⟨h1, Int64.not_lt.mp (fun z => h2 ((lgc_gt a c).mpr z))⟩
theorem tl_le (a b : Int32) : a.toInt64 ≤ b.toInt64 ↔ a ≤ b := by
  rw [← Int64.not_lt, ← Int32.not_lt, tl_lt]
theorem within_i (a b c : Int32) : fX11_within a.toInt64 b.toInt64 c.toInt64 = some (bI (b ≤ a ∧ a ≤ c)) := by
  rw [within_l]
  congr 1
  exact ite_iff (by rw [tl_le, tl_le]) rfl rfl
theorem isShelf_m (d : Int32) : fX11_isShelf d = some (bI (0 ≤ d ∧ d < 6)) := by
  unfold fX11_isShelf
  rw [show fX11_within d.toInt64 (0 : Int64) (5 : Int64) = _ from within_i d 0 5]
  simp only [Option.bind_some]
  by_cases h : 0 ≤ d ∧ d ≤ 5
  · rw [bI_t h, if_pos (Or.inr rfl), bI_t (by grind)]
  · rw [bI_f h, if_pos (Or.inl rfl), bI_f (by grind)]
theorem isShelf_x (x : aH) (d : Int32) : fX10_isShelf x d = some (bI (0 ≤ d ∧ d < 6)) := by
  unfold fX10_isShelf
  by_cases h1 : d < 0
  · rw [if_pos h1, bI_f (by grind)]
  · rw [if_neg h1]
    by_cases h2 : (6 : Int32) ≤ d
    · simp only [h2, if_true]; rw [bI_f (by grind)]
    · simp only [h2, if_false]; rw [bI_t (by grind)]
