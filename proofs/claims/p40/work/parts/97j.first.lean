/-! ===== the night, whole; the two heaps at first ===== -/
theorem op_nightJ {x m : aH} (hJ : JJ x m) (p1 : Int32) : OK2 (fX10_night x p1) (fX11_night m p1) PJ := by
  obtain ⟨w, t, hR⟩ := hJ
  obtain ⟨⟨hn, hl⟩, ⟨hi, hc⟩, ht, ha, hS⟩ := hR
  refine (op_night hn hl p1).mono (fun a b h => ?_)
  obtain ⟨⟨⟨k, k'⟩, hl', t', hn'⟩, e⟩ := h
  exact ⟨⟨w, t', ⟨hn', hl'⟩, ⟨hi.fr k k' (by simp) (by simp) (by simp) (by simp), hc.fr k k' (by simp) (by simp) (by simp) (by simp)⟩, ht.fr k k' (by simp) (by simp) (by simp) (by simp), ha.fr k k' (by simp) (by simp) (by simp) (by simp), hS.fr k k' (by simp) (by simp) (by simp)⟩, e⟩
theorem he_x1 : ∀ c, c < 64 → ri He259 2 c = 0 ∧ ri He259 3 c = 4 := by decide +kernel
theorem he_x2 : ∀ i, i < 10 → ri He259 4 i = 0 ∧ ri He259 5 i = 0 := by decide +kernel
theorem he_x3 : fi He259 1 4 = 27 ∧ fi He259 1 5 = 3 ∧ fi He259 1 6 = 3 := by decide +kernel
theorem he_x4 : fi He259 10 2 = 0 ∧ fi He259 15 5 = 0 ∧ fi He259 15 6 = 0 ∧ fi He259 15 7 = 50 := by decide +kernel
theorem he_x5 : fi He259 27 6 = 0 ∧ fi He259 31 6 = 0 ∧ fi He259 35 6 = 0 ∧ fi He259 39 6 = 0 ∧ fi He259 43 6 = 0 := by decide +kernel
theorem he_x6 : fi He259 0 11 = 0 ∧ fi He259 52 4 = 0 ∧ fi He259 52 5 = 0 ∧ fi He259 6 1 = 0 ∧ fi He259 57 1 = 0 ∧ fi He259 57 3 = 0 := by decide +kernel
theorem he_x7 : ∀ d, d < 6 → fi He259 (61 + 2 * d) 1 = -1 ∧ fi He259 (61 + 2 * d) 2 = 0 ∧ fi He259 (61 + 2 * d) 3 = -1 := by decide +kernel
theorem he_x8 : ∀ k, k < 5 → ri He259 17 k = 0 ∧ ri He259 89 k = 0 := by decide +kernel
theorem he_m1 : ∀ c, c < 64 → ri He259 74 (40 + c) = 0 ∧ ri He259 74 (104 + c) = 4 := by decide +kernel
theorem he_m2 : ∀ i, i < 10 → ri He259 74 (10 + i) = 0 ∧ ri He259 74 (20 + i) = 0 ∧ ri He259 74 (30 + i) = 0 := by decide +kernel
theorem he_m3 : ri He259 74 168 = 27 ∧ ri He259 74 169 = 50 ∧ ri He259 74 170 = 3 ∧ ri He259 74 171 = 3 := by decide +kernel
theorem he_m4 : fi He259 73 4 = 0 ∧ fi He259 73 5 = 0 ∧ fi He259 73 6 = 0 ∧ fi He259 73 8 = 0 ∧ fi He259 73 10 = -1 ∧ fi He259 73 32 = 0 ∧ fi He259 73 36 = 0 ∧ fi He259 73 39 = 0 := by decide +kernel
theorem he_m5 : ∀ d, d < 6 → ri He259 94 d = -1 ∧ ri He259 95 d = 0 := by decide +kernel
