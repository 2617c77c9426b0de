/-! ===== shelves ===== -/
def shE (x m : aH) (d : Nat) : Prop := (fi x (61 + 2 * d) 1 = -1 ∧ fi x (61 + 2 * d) 2 = 0 ∧ ri m 95 d = 0) ∧ ((fi x (61 + 2 * d) 3 = -1 ∧ ri m 94 d = -1) ∨ (∃ b, b < 50 ∧ nI b < fi m 73 36 ∧ fi x (61 + 2 * d) 3 = nI b ∧ ri m 94 d = nI b))
def shR (x m : aH) (d s n : Nat) : Prop := (s ≤ 4 ∧ n ≤ 60) ∧ (fi x (61 + 2 * d) 1 = nI s ∧ fi x (61 + 2 * d) 2 = nI n ∧ fi x (61 + 2 * d) 3 = -1) ∧ (ri m 94 d = nI (50 + s) ∧ ri m 95 d = nI n) ∧ ∀ k, k < n → rj x (61 + 2 * d + 1) k = rj m 96 (60 * d + k) ∧ (s = 0 → ∃ v : Int32, rj m 96 (60 * d + k) = v.toInt64)
def JS (x m : aH) : Prop := ∀ d, d < 6 → shE x m d ∨ ∃ s n, shR x m d s n
theorem n10 : ¬ ((1 : Int32) = 0) := by decide
theorem isShelf_in {x : aH} {d : Nat} (hd : d < 6) : fX10_isShelf x (nI d) = some 1 := by
  rw [isShelf_x, bI_t]
  exact inN (by omega) hd
theorem isShelf_inM {d : Nat} (hd : d < 6) : fX11_isShelf (nI d) = some 1 := by
  rw [isShelf_m, bI_t]
  exact inN (by omega) hd
theorem isShelf_out {x : aH} {p : Int32} (hp : ¬ (0 ≤ p ∧ p < 6)) : fX10_isShelf x p = some 0 := by rw [isShelf_x, bI_f hp]
theorem isShelf_outM {p : Int32} (hp : ¬ (0 ≤ p ∧ p < 6)) : fX11_isShelf p = some 0 := by rw [isShelf_m, bI_f hp]
theorem bytes_x {x m : aH} (hJ : JS x m) (p : Int32) :
    (¬ (0 ≤ p ∧ p < 6) ∧ fX10_refusalOfBytes x p = some (-1) ∧ fX11_bytesIs m p = some (-1)) ∨
    (∃ d, d < 6 ∧ p = nI d ∧ ((fX10_refusalOfBytes x p = some (-11) ∧ fX11_bytesIs m p = some (-11)) ∨ (fX10_refusalOfBytes x p = some (-12) ∧ fX11_bytesIs m p = some (-12)) ∨ (fX10_refusalOfBytes x p = some 0 ∧ fX11_bytesIs m p = some 1 ∧ ∃ n, shR x m d 0 n))) := by
  rcases argIn p 6 (by omega) with ⟨d, hd, rfl⟩ | hp
  · refine Or.inr ⟨d, hd, rfl, ?_⟩
    have c : (0 : Int32) ≤ nI d ∧ nI d < (6 : Int32) := inN (by omega) hd
    unfold fX10_refusalOfBytes fX11_bytesIs
    rw [isShelf_in hd, isShelf_inM hd]
    simp only [Option.bind_some, ixN (show d < 2147483648 by omega), if_pos c, if_neg n10]
    unfold fX7_isEmpty fX7_isRowOfBytes
    rcases hJ d hd with ⟨⟨h1, h2, h5⟩, h⟩ | ⟨s, n, h⟩
    · rw [h1]
      rcases h with ⟨h3, h4⟩ | ⟨b, hb, hb2, h3, h4⟩
      · left
        rw [h3, h4]
        exact ⟨rfl, rfl⟩
      · right; left
        rw [h3, h4]
        have e : ¬ nI b = (-1 : Int32) := by
          intro z
          have := le0 (n := b) (by omega)
          rw [z] at this
          exact absurd this (by decide)
        rw [if_pos rfl, if_neg e]
        simp only [Option.bind_some]
        refine ⟨rfl, ?_⟩
        rw [if_pos (le0 (show b < 2147483648 by omega)), if_neg (by rw [eqR (by omega) (by omega)]; omega)]
    · obtain ⟨⟨hs, hn⟩, ⟨h1, h2, h3⟩, ⟨h4, h5⟩, h6⟩ := id h
      right
      rw [h1, h4]
      have e : ¬ nI s = (-1 : Int32) := by
        intro z
        have := le0 (n := s) (by omega)
        rw [z] at this
        exact absurd this (by decide)
      rw [if_neg e]
      simp only [Option.bind_some]
      rw [if_pos trivial, if_pos (le0 (show 50 + s < 2147483648 by omega))]
      by_cases hs0 : s = 0
      · subst hs0
        exact Or.inr ⟨rfl, rfl, n, h⟩
      · left
        rw [if_neg (by rw [eqR (by omega) (by omega)]; exact hs0), if_neg (by rw [eqR (by omega) (by omega)]; omega)]
        exact ⟨rfl, rfl⟩
  · refine Or.inl ⟨hp, ?_, ?_⟩
    · unfold fX10_refusalOfBytes
      rw [isShelf_out hp]
      rfl
    · unfold fX11_bytesIs
      rw [isShelf_outM hp]
      rfl
