/-! ===== the law's steps on the pile ===== -/
def joinF (c a b : Int32) : Int32 := if c = (37 : Int32) then (if b = (0 : Int32) then 0 else a - a / b * b) else if c = (38 : Int32) then (if a = (0 : Int32) then 0 else if b = (0 : Int32) then 0 else 1) else if c = (42 : Int32) then a * b else if c = (43 : Int32) then a + b else if c = (45 : Int32) then a - b else if c = (47 : Int32) then (if b = (0 : Int32) then 0 else a / b) else if c = (60 : Int32) then (if b ≤ a then 0 else 1) else if c = (61 : Int32) then (if a = b then 1 else 0) else if c = (62 : Int32) then (if a ≤ b then 0 else 1) else if c = (124 : Int32) then (if a = (0 : Int32) then (if b = (0 : Int32) then 0 else 1) else 1) else 0
theorem some_if {α : Type} {c : Prop} [Decidable c] (a b : α) : (if c then some a else some b) = some (if c then a else b) := by
  by_cases h : c
  · rw [if_pos h, if_pos h]
  · rw [if_neg h, if_neg h]
theorem if_nn {α : Type} {c : Prop} [Decidable c] (a b d : α) : (if c then a else if ¬ c then b else d) = if c then a else b := by
  by_cases h : c
  · rw [if_pos h, if_pos h]
  · rw [if_neg h, if_neg h, if_pos h]
theorem joined_x (x : aH) (c a b : Int32) : fX3_joined x c a b = some (joinF c a b) := by
  unfold fX3_joined joinF
  simp only [if_nn, some_if]
theorem W3 (n : Nat) : wX3_workOut_32 (n + 1) = sX3_workOut_32 (wX3_workOut_32 n) := rfl
section
variable {ih : aH → Int32 → Int32 → Option (Sum (Int32 × aH) aH)} {y : aH} {N d s : Nat}
theorem st_num (hN : fi y 10 2 = nI N) (h1 : s < N) (h2 : N < 128) (hd : d < 128) (ho : ri y 11 s = 1) : sX3_workOut_32 ih y (nI d) (nI s) = ih (sri y 14 d (ri y 12 s)) (nI (d + 1)) (nI (s + 1)) := by
  have cs : (0 : Int32) ≤ nI s ∧ nI s < (128 : Int32) := inN (by omega) (by omega)
  have cd : (0 : Int32) ≤ nI d ∧ nI d < (128 : Int32) := inN (by omega) hd
  unfold sX3_workOut_32 jX3_workOut_257
  rw [hN, if_neg (by rw [leN (by omega) (by omega)]; omega), if_neg (by rw [leL (by omega) (by omega)]; omega), if_pos cs, if_pos cs, ixN (by omega), ho, if_pos rfl, if_pos cd, ixN (by omega), addR, addR]
theorem st_name {k : Nat} (hN : fi y 10 2 = nI N) (h1 : s < N) (h2 : N < 128) (hd : d < 128) (ho : ri y 11 s = 2) (ha : ri y 12 s = nI k) (hk : k < 6) : sX3_workOut_32 ih y (nI d) (nI s) = ih (sri y 14 d (ri y 13 k)) (nI (d + 1)) (nI (s + 1)) := by
  have cs : (0 : Int32) ≤ nI s ∧ nI s < (128 : Int32) := inN (by omega) (by omega)
  have cd : (0 : Int32) ≤ nI d ∧ nI d < (128 : Int32) := inN (by omega) hd
  have ck : (0 : Int32) ≤ nI k ∧ nI k < (6 : Int32) := inN (by omega) hk
  unfold sX3_workOut_32 jX3_workOut_257
  rw [hN, if_neg (by rw [leN (by omega) (by omega)]; omega), if_neg (by rw [leL (by omega) (by omega)]; omega), if_pos cs, if_pos cs, ixN (show s < 2147483648 by omega), ho, if_neg (by decide), if_pos rfl, ha, if_pos ck, if_pos cd, ixN (show d < 2147483648 by omega), ixN (show k < 2147483648 by omega), addR, addR]
theorem st_end (hN : fi y 10 2 = nI N) (h1 : s < N) (h2 : N < 128) (hd : d < 127) (ho : ri y 11 s = 5) : sX3_workOut_32 ih y (nI (d + 1)) (nI s) = some (.inl (ri y 14 d, y)) := by
  have cs : (0 : Int32) ≤ nI s ∧ nI s < (128 : Int32) := inN (by omega) (by omega)
  have cd : (0 : Int32) ≤ nI d ∧ nI d < (128 : Int32) := inN (by omega) (by omega)
  have ed : nI (d + 1) - (1 : Int32) = nI d := subR (by simp)
  unfold sX3_workOut_32
  rw [hN, if_neg (by rw [leN (by omega) (by omega)]; omega), if_neg (by rw [leL (by omega) (by omega)]; omega), if_pos cs, if_pos cs, ixN (show s < 2147483648 by omega), ho, if_neg (by decide), if_neg (by decide), if_pos (by rw [leL (by omega) (by omega)]; simp), if_pos rfl, ed, if_pos cd, ixN (show d < 2147483648 by omega)]
theorem st_if0 {k : Nat} (hN : fi y 10 2 = nI N) (h1 : s < N) (h2 : N < 128) (hd : d < 127) (ho : ri y 11 s = 4) (ha : ri y 12 s = nI k) (hk : k < 128) (hs : s + 1 < k) (hv : ri y 14 d = 0) : sX3_workOut_32 ih y (nI (d + 1)) (nI s) = ih y (nI d) (nI k) := by
  have cs : (0 : Int32) ≤ nI s ∧ nI s < (128 : Int32) := inN (by omega) (by omega)
  have cd : (0 : Int32) ≤ nI d ∧ nI d < (128 : Int32) := inN (by omega) (by omega)
  have ed : nI (d + 1) + (-1 : Int32) = nI d := decN (by omega)
  unfold sX3_workOut_32 jX3_workOut_158 jX3_workOut_257
  rw [hN, if_neg (by rw [leN (by omega) (by omega)]; omega), if_neg (by rw [leL (by omega) (by omega)]; omega), if_pos cs, if_pos cs, ixN (show s < 2147483648 by omega), ho, if_neg (by decide), if_neg (by decide), if_pos (by rw [leL (by omega) (by omega)]; simp), if_neg (by decide), if_pos rfl, ed, if_pos cd, ixN (show d < 2147483648 by omega), if_pos hv, ha, addR, if_pos (by rw [ltN (by omega) (by omega)]; omega)]
theorem st_if1 (hN : fi y 10 2 = nI N) (h1 : s < N) (h2 : N < 128) (hd : d < 127) (ho : ri y 11 s = 4) (hv : ¬ ri y 14 d = 0) : sX3_workOut_32 ih y (nI (d + 1)) (nI s) = ih y (nI d) (nI (s + 1)) := by
  have cs : (0 : Int32) ≤ nI s ∧ nI s < (128 : Int32) := inN (by omega) (by omega)
  have cd : (0 : Int32) ≤ nI d ∧ nI d < (128 : Int32) := inN (by omega) (by omega)
  have ed : nI (d + 1) + (-1 : Int32) = nI d := decN (by omega)
  unfold sX3_workOut_32 jX3_workOut_158 jX3_workOut_257
  rw [hN, if_neg (by rw [leN (by omega) (by omega)]; omega), if_neg (by rw [leL (by omega) (by omega)]; omega), if_pos cs, if_pos cs, ixN (show s < 2147483648 by omega), ho, if_neg (by decide), if_neg (by decide), if_pos (by rw [leL (by omega) (by omega)]; simp), if_neg (by decide), if_pos rfl, ed, if_pos cd, ixN (show d < 2147483648 by omega), if_neg hv, addR]
theorem st_neg (hN : fi y 10 2 = nI N) (h1 : s < N) (h2 : N < 128) (hd : d < 127) (ho : ri y 11 s = 3) : sX3_workOut_32 ih y (nI (d + 1)) (nI s) = ih (sri y 14 d (-(ri y 14 d))) (nI (d + 1)) (nI (s + 1)) := by
  have cs : (0 : Int32) ≤ nI s ∧ nI s < (128 : Int32) := inN (by omega) (by omega)
  have cd : (0 : Int32) ≤ nI d ∧ nI d < (128 : Int32) := inN (by omega) (by omega)
  have ed : nI (d + 1) - (1 : Int32) = nI d := subR (by simp)
  unfold sX3_workOut_32 jX3_workOut_257
  rw [hN, if_neg (by rw [leN (by omega) (by omega)]; omega), if_neg (by rw [leL (by omega) (by omega)]; omega), if_pos cs, if_pos cs, ixN (show s < 2147483648 by omega), ho, if_neg (by decide), if_neg (by decide), if_pos (by rw [leL (by omega) (by omega)]; simp), if_neg (by decide), if_neg (by decide), if_pos rfl, ed, if_pos cd, if_pos cd, ixN (show d < 2147483648 by omega), addR]
theorem st_not (hN : fi y 10 2 = nI N) (h1 : s < N) (h2 : N < 128) (hd : d < 127) (ho : ri y 11 s = 33) : sX3_workOut_32 ih y (nI (d + 1)) (nI s) = ih (sri y 14 d (if ri y 14 d = 0 then 1 else 0)) (nI (d + 1)) (nI (s + 1)) := by
  have cs : (0 : Int32) ≤ nI s ∧ nI s < (128 : Int32) := inN (by omega) (by omega)
  have cd : (0 : Int32) ≤ nI d ∧ nI d < (128 : Int32) := inN (by omega) (by omega)
  have ed : nI (d + 1) - (1 : Int32) = nI d := subR (by simp)
  unfold sX3_workOut_32 jX3_workOut_216 jX3_workOut_257
  rw [hN, if_neg (by rw [leN (by omega) (by omega)]; omega), if_neg (by rw [leL (by omega) (by omega)]; omega), if_pos cs, if_pos cs, ixN (show s < 2147483648 by omega), ho, if_neg (by decide), if_neg (by decide), if_pos (by rw [leL (by omega) (by omega)]; simp), if_neg (by decide), if_neg (by decide), if_neg (by decide), if_pos rfl, ed, if_pos cd, if_pos cd, ixN (show d < 2147483648 by omega), addR]
  by_cases h : ri y 14 d = 0
  · rw [if_pos h, if_pos h]
  · rw [if_neg h, if_neg h, if_pos cd]
theorem st_bin {c : Int32} (hN : fi y 10 2 = nI N) (h1 : s < N) (h2 : N < 128) (hd : d < 126) (ho : ri y 11 s = c) (hc : c ≠ 1 ∧ c ≠ 2 ∧ c ≠ 3 ∧ c ≠ 4 ∧ c ≠ 5 ∧ c ≠ 33) : sX3_workOut_32 ih y (nI (d + 1 + 1)) (nI s) = ih (sri y 14 d (joinF c (ri y 14 d) (ri y 14 (d + 1)))) (nI (d + 1)) (nI (s + 1)) := by
  have cs : (0 : Int32) ≤ nI s ∧ nI s < (128 : Int32) := inN (by omega) (by omega)
  have cd : (0 : Int32) ≤ nI d ∧ nI d < (128 : Int32) := inN (by omega) (by omega)
  have cd1 : (0 : Int32) ≤ nI (d + 1) ∧ nI (d + 1) < (128 : Int32) := inN (by omega) (by omega)
  have ed1 : nI (d + 1 + 1) + (-1 : Int32) = nI (d + 1) := decN (by omega)
  have ed : nI (d + 1) - (1 : Int32) = nI d := subR (by simp)
  unfold sX3_workOut_32 jX3_workOut_257
  rw [hN, if_neg (by rw [leN (by omega) (by omega)]; omega), if_neg (by rw [leL (by omega) (by omega)]; omega), if_pos cs, if_pos cs, ixN (show s < 2147483648 by omega), ho, if_neg hc.1, if_neg hc.2.1, if_pos (by rw [leL (by omega) (by omega)]; simp), if_neg hc.2.2.2.2.1, if_neg hc.2.2.2.1, if_neg hc.2.2.1, if_neg hc.2.2.2.2.2, if_pos (by rw [leL (by omega) (by omega)]; simp), ed1, ed, if_pos cd, if_pos cd1, joined_x]
  simp only [Option.bind_some]
  rw [if_pos cd, ixN (show d < 2147483648 by omega), ixN (show d + 1 < 2147483648 by omega), addR]
end
/-! pieces of a law -/
def CODE (op ar : Nat → Int32) (s s' : Nat) (v : (Nat → Int32) → Int32) : Prop := s < s' ∧ LFC v ∧ ∀ (y : aH) (N d n : Nat), fi y 10 2 = nI N → s' ≤ N → N < 128 → d ≤ s → (∀ i, s ≤ i → i < s' → ri y 11 i = op i ∧ ri y 12 i = ar i) → ∃ y', Fr [14] [] y y' ∧ (∀ i, i < d → ri y' 14 i = ri y 14 i) ∧ ri y' 14 d = v (ri y 13) ∧ wX3_workOut_32 (n + (s' - s)) y (nI d) (nI s) = wX3_workOut_32 n y' (nI (d + 1)) (nI s')
theorem CODE.cg {op ar op' ar' : Nat → Int32} {s s' : Nat} {v : (Nat → Int32) → Int32} (h : CODE op ar s s' v) (k : ∀ i, s ≤ i → i < s' → op' i = op i ∧ ar' i = ar i) : CODE op' ar' s s' v :=
  ⟨h.1, h.2.1, fun y N d n a1 a2 a3 a4 a5 => h.2.2 y N d n a1 a2 a3 a4 (fun i i1 i2 => ⟨(a5 i i1 i2).1.trans (k i i1 i2).1, (a5 i i1 i2).2.trans (k i i1 i2).2⟩)⟩
theorem sri14 (y : aH) (d : Nat) (v : Int32) : Fr [14] [] y (sri y 14 d v) := Fr.sri (Fr.rf _ _ _) (by simp)
theorem sri14_at (y : aH) (d : Nat) (v : Int32) : ri (sri y 14 d v) 14 d = v := by rw [gr, if_pos ⟨rfl, rfl⟩]
theorem sri14_lt (y : aH) {d i : Nat} (h : i < d) (v : Int32) : ri (sri y 14 d v) 14 i = ri y 14 i := by rw [gr, if_neg (by omega)]
theorem CODE.num {op ar : Nat → Int32} {s : Nat} {a : Int32} (ho : op s = 1) (ha : ar s = a) : CODE op ar s (s + 1) (fun _ => a) := by
  refine ⟨by omega, fun f g _ => rfl, fun y N d n hN h1 h2 hd hr => ?_⟩
  obtain ⟨r1, r2⟩ := hr s (Nat.le_refl _) (by omega)
  refine ⟨_, sri14 y d (ri y 12 s), fun i hi => sri14_lt y hi _, ?_, ?_⟩
  · rw [sri14_at, r2, ha]
  · rw [show n + (s + 1 - s) = n + 1 by omega, W3]
    exact st_num hN (by omega) h2 (by omega) (r1.trans ho)
theorem CODE.name {op ar : Nat → Int32} {s k : Nat} (ho : op s = 2) (ha : ar s = nI k) (hk : k < 6) : CODE op ar s (s + 1) (fun f => f k) := by
  refine ⟨by omega, fun f g h => h k hk, fun y N d n hN h1 h2 hd hr => ?_⟩
  obtain ⟨r1, r2⟩ := hr s (Nat.le_refl _) (by omega)
  refine ⟨_, sri14 y d (ri y 13 k), fun i hi => sri14_lt y hi _, sri14_at _ _ _, ?_⟩
  rw [show n + (s + 1 - s) = n + 1 by omega, W3]
  exact st_name hN (by omega) h2 (by omega) (r1.trans ho) (r2.trans ha) hk
theorem CODE.neg {op ar : Nat → Int32} {s s1 : Nat} {v : (Nat → Int32) → Int32} (h : CODE op ar s s1 v) (ho : op s1 = 3) : CODE op ar s (s1 + 1) (fun f => -(v f)) := by
  obtain ⟨h0, hl, h⟩ := h
  refine ⟨by omega, fun f g e => by dsimp only; rw [hl f g e], fun y N d n hN h1 h2 hd hr => ?_⟩
  obtain ⟨y1, f1, l1, v1, e1⟩ := h y N d (n + 1) hN (by omega) h2 hd (fun i i1 i2 => hr i i1 (by omega))
  have r1 := (hr s1 (by omega) (by omega)).1
  refine ⟨_, f1.tr (sri14 y1 d (-(ri y1 14 d))), fun i hi => (sri14_lt y1 hi _).trans (l1 i hi), ?_, ?_⟩
  · rw [sri14_at, v1]
  · rw [show n + (s1 + 1 - s) = n + 1 + (s1 - s) by omega, e1, W3]
    exact st_neg (N := N) (by rw [f1.f (by simp)]; exact hN) (by omega) h2 (by omega) (by rw [f1.r (by simp), r1]; exact ho)
theorem CODE.not {op ar : Nat → Int32} {s s1 : Nat} {v : (Nat → Int32) → Int32} (h : CODE op ar s s1 v) (ho : op s1 = 33) : CODE op ar s (s1 + 1) (fun f => if v f = 0 then 1 else 0) := by
  obtain ⟨h0, hl, h⟩ := h
  refine ⟨by omega, fun f g e => by dsimp only; rw [hl f g e], fun y N d n hN h1 h2 hd hr => ?_⟩
  obtain ⟨y1, f1, l1, v1, e1⟩ := h y N d (n + 1) hN (by omega) h2 hd (fun i i1 i2 => hr i i1 (by omega))
  have r1 := (hr s1 (by omega) (by omega)).1
  refine ⟨_, f1.tr (sri14 y1 d (if ri y1 14 d = 0 then 1 else 0)), fun i hi => (sri14_lt y1 hi _).trans (l1 i hi), ?_, ?_⟩
  · rw [sri14_at, v1]
  · rw [show n + (s1 + 1 - s) = n + 1 + (s1 - s) by omega, e1, W3]
    exact st_not (N := N) (by rw [f1.f (by simp)]; exact hN) (by omega) h2 (by omega) (by rw [f1.r (by simp), r1]; exact ho)
theorem CODE.bin {op ar : Nat → Int32} {s s1 s2 : Nat} {v u : (Nat → Int32) → Int32} {c : Int32} (h : CODE op ar s s1 v) (k : CODE op ar s1 s2 u) (ho : op s2 = c) (hc : c ≠ 1 ∧ c ≠ 2 ∧ c ≠ 3 ∧ c ≠ 4 ∧ c ≠ 5 ∧ c ≠ 33) : CODE op ar s (s2 + 1) (fun f => joinF c (v f) (u f)) := by
  obtain ⟨h0, hl, h⟩ := h
  obtain ⟨k0, kl, k⟩ := k
  refine ⟨by omega, fun f g e => by dsimp only; rw [hl f g e, kl f g e], fun y N d n hN h1 h2 hd hr => ?_⟩
  obtain ⟨y1, f1, l1, v1, e1⟩ := h y N d (n + 1 + (s2 - s1)) hN (by omega) h2 hd (fun i i1 i2 => hr i i1 (by omega))
  obtain ⟨y2, f2, l2, v2, e2⟩ := k y1 N (d + 1) (n + 1) (by rw [f1.f (by simp)]; exact hN) (by omega) h2 (by omega) (fun i i1 i2 => by rw [f1.r (by simp), f1.r (by simp)]; exact hr i (by omega) (by omega))
  have r1 := (hr s2 (by omega) (by omega)).1
  have f12 := f1.tr f2
  refine ⟨_, f12.tr (sri14 y2 d (joinF c (ri y2 14 d) (ri y2 14 (d + 1)))), fun i hi => (sri14_lt y2 hi _).trans ((l2 i (by omega)).trans (l1 i hi)), ?_, ?_⟩
  · rw [sri14_at, v2, l2 d (by omega), v1, f1.r (by simp)]
  · rw [show n + (s2 + 1 - s) = n + 1 + (s2 - s1) + (s1 - s) by omega, e1, e2, W3]
    exact st_bin (N := N) (by rw [f12.f (by simp)]; exact hN) (by omega) h2 (by omega) (by rw [f12.r (by simp), r1]; exact ho) hc
/-! lines of a law -/
def LFO (fd : (Nat → Int32) → Option Int32) : Prop := ∀ f g : Nat → Int32, (∀ k, k < 6 → f k = g k) → fd f = fd g
def PRG (op ar : Nat → Int32) (s : Nat) (fd : (Nat → Int32) → Option Int32) : Prop := LFO fd ∧ ∀ (y : aH) (N n : Nat), fi y 10 2 = nI N → s ≤ N → N < 128 → (∀ i, i < s → ri y 11 i = op i ∧ ri y 12 i = ar i) → ∃ y' n', n ≤ n' ∧ Fr [14] [] y y' ∧ (∀ r, fd (ri y 13) = some r → wX3_workOut_32 (n + s) y (nI 0) (nI 0) = some (.inl (r, y'))) ∧ (fd (ri y 13) = none → wX3_workOut_32 (n + s) y (nI 0) (nI 0) = wX3_workOut_32 n' y' (nI 0) (nI s))
theorem PRG.nil (op ar : Nat → Int32) : PRG op ar 0 (fun _ => none) :=
  ⟨fun _ _ _ => rfl, fun y N n _ _ _ _ => ⟨y, n, Nat.le_refl _, Fr.rf _ _ _, fun r h => (by cases h), fun _ => rfl⟩⟩
theorem PRG.cg {op ar op' ar' : Nat → Int32} {s : Nat} {fd : (Nat → Int32) → Option Int32} (h : PRG op ar s fd) (k : ∀ i, i < s → op' i = op i ∧ ar' i = ar i) : PRG op' ar' s fd :=
  ⟨h.1, fun y N n a1 a2 a3 a5 => h.2 y N n a1 a2 a3 (fun i i2 => ⟨(a5 i i2).1.trans (k i i2).1, (a5 i i2).2.trans (k i i2).2⟩)⟩
def lineF (fd : (Nat → Int32) → Option Int32) (c v : (Nat → Int32) → Int32) : (Nat → Int32) → Option Int32 := fun f => match fd f with
  | some r => some r
  | none => if c f = 0 then none else some (v f)
theorem lineF_fc {fd : (Nat → Int32) → Option Int32} {c v : (Nat → Int32) → Int32} (h : LFO fd) (hc : LFC c) (hv : LFC v) : LFO (lineF fd c v) := fun f g e => by
  unfold lineF
  rw [h f g e, hc f g e, hv f g e]
theorem PRG.line {op ar : Nat → Int32} {s s1 : Nat} {fd : (Nat → Int32) → Option Int32} {v : (Nat → Int32) → Int32} (h : PRG op ar s fd) (k : CODE op ar s s1 v) (ho : op s1 = 5) : PRG op ar (s1 + 1) (lineF fd (fun _ => 1) v) := by
  obtain ⟨k0, kl, k⟩ := k
  refine ⟨lineF_fc h.1 (fun _ _ _ => rfl) kl, fun y N n hN h1 h2 hr => ?_⟩
  obtain ⟨y1, n1, hn, f1, e1, e2⟩ := h.2 y N (n + (s1 + 1 - s)) hN (by omega) h2 (fun i i2 => hr i (by omega))
  rw [show n + (s1 + 1) = n + (s1 + 1 - s) + s by omega]
  cases hf : fd (ri y 13) with
  | some r => exact ⟨y1, n, Nat.le_refl _, f1, fun r' h' => by unfold lineF at h'; rw [hf] at h'; cases h'; exact e1 r hf, fun h' => by unfold lineF at h'; rw [hf] at h'; cases h'⟩
  | none =>
    obtain ⟨m1, hm⟩ : ∃ m1, n1 = m1 + 1 + (s1 - s) := ⟨n1 - 1 - (s1 - s), by omega⟩
    obtain ⟨y2, f2, l2, v2, e3⟩ := k y1 N 0 (m1 + 1) (by rw [f1.f (by simp)]; exact hN) (by omega) h2 (by omega) (fun i i1 i2 => by rw [f1.r (by simp), f1.r (by simp)]; exact hr i (by omega))
    have f12 := f1.tr f2
    refine ⟨y2, n, Nat.le_refl _, f12, fun r' h' => ?_, fun h' => by unfold lineF at h'; rw [hf] at h'; cases h'⟩
    unfold lineF at h'
    rw [hf] at h'
    have h' : some (v (ri y 13)) = some r' := h'
    rw [e2 hf, hm, e3, W3, st_end (N := N) (by rw [f12.f (by simp)]; exact hN) (by omega) h2 (by omega) (by rw [f12.r (by simp), (hr s1 (by omega)).1]; exact ho), v2, f1.r (by simp)]
    rw [Option.some.inj h']
theorem PRG.cond {op ar : Nat → Int32} {s s1 s2 : Nat} {fd : (Nat → Int32) → Option Int32} {c v : (Nat → Int32) → Int32} (h : PRG op ar s fd) (kc : CODE op ar s s1 c) (ho : op s1 = 4) (ha : ar s1 = nI (s2 + 1)) (k : CODE op ar (s1 + 1) s2 v) (ho2 : op s2 = 5) : PRG op ar (s2 + 1) (lineF fd c v) := by
  obtain ⟨k0, kl, k⟩ := k
  obtain ⟨c0, cl, kc⟩ := kc
  refine ⟨lineF_fc h.1 cl kl, fun y N n hN h1 h2 hr => ?_⟩
  obtain ⟨y1, n1, hn, f1, e1, e2⟩ := h.2 y N (n + (s2 + 1 - s)) hN (by omega) h2 (fun i i2 => hr i (by omega))
  rw [show n + (s2 + 1) = n + (s2 + 1 - s) + s by omega]
  cases hf : fd (ri y 13) with
  | some r => exact ⟨y1, n, Nat.le_refl _, f1, fun r' h' => by unfold lineF at h'; rw [hf] at h'; cases h'; exact e1 r hf, fun h' => by unfold lineF at h'; rw [hf] at h'; cases h'⟩
  | none =>
    obtain ⟨m1, hm⟩ : ∃ m1, n1 = m1 + 1 + (s2 - (s1 + 1)) + 1 + (s1 - s) := ⟨n1 - 1 - (s2 - s1 - 1) - 1 - (s1 - s), by omega⟩
    obtain ⟨y2, f2, l2, v2, e3⟩ := kc y1 N 0 (m1 + 1 + (s2 - (s1 + 1)) + 1) (by rw [f1.f (by simp)]; exact hN) (by omega) h2 (by omega) (fun i i1 i2 => by rw [f1.r (by simp), f1.r (by simp)]; exact hr i (by omega))
    have f12 := f1.tr f2
    have g1 := hr s1 (by omega)
    rw [f1.r (by simp)] at v2
    by_cases hz : c (ri y 13) = 0
    · refine ⟨y2, m1 + 1 + (s2 - (s1 + 1)), by omega, f12, fun r' h' => ?_, fun _ => ?_⟩
      · unfold lineF at h'
        rw [hf] at h'
        have h' : (if c (ri y 13) = 0 then none else some (v (ri y 13))) = some r' := h'
        rw [if_pos hz] at h'
        cases h'
      · rw [e2 hf, hm, e3, W3, st_if0 (N := N) (k := s2 + 1) (by rw [f12.f (by simp)]; exact hN) (by omega) h2 (by omega) (by rw [f12.r (by simp), g1.1]; exact ho) (by rw [f12.r (by simp), g1.2]; exact ha) (by omega) (by omega) (by rw [v2]; exact hz)]
    · obtain ⟨y3, f3, l3, v3, e4⟩ := k y2 N 0 (m1 + 1) (by rw [f12.f (by simp)]; exact hN) (by omega) h2 (by omega) (fun i i1 i2 => by rw [f12.r (by simp), f12.r (by simp)]; exact hr i (by omega))
      have f13 := f12.tr f3
      rw [f12.r (by simp)] at v3
      refine ⟨y3, n, Nat.le_refl _, f13, fun r' h' => ?_, fun h' => ?_⟩
      · unfold lineF at h'
        rw [hf] at h'
        have h' : (if c (ri y 13) = 0 then none else some (v (ri y 13))) = some r' := h'
        rw [if_neg hz] at h'
        rw [e2 hf, hm, e3, W3, st_if1 (N := N) (by rw [f12.f (by simp)]; exact hN) (by omega) h2 (by omega) (by rw [f12.r (by simp), g1.1]; exact ho) (by rw [v2]; exact hz), e4, W3, st_end (N := N) (by rw [f13.f (by simp)]; exact hN) (by omega) h2 (by omega) (by rw [f13.r (by simp), (hr s2 (by omega)).1]; exact ho2), v3]
        rw [Option.some.inj h']
      · unfold lineF at h'
        rw [hf] at h'
        have h' : (if c (ri y 13) = 0 then none else some (v (ri y 13))) = none := h'
        rw [if_neg hz] at h'
        cases h'
theorem PRG.fin {op ar : Nat → Int32} {s : Nat} {fd : (Nat → Int32) → Option Int32} (h : PRG op ar s fd) (hs : 0 < s) (h2 : s < 128) {y : aH} (hN : fi y 10 2 = nI s) (hr : ∀ i, i < s → ri y 11 i = op i ∧ ri y 12 i = ar i) : OK (fX3_workOut y) (fun q => q.1 = (fd (ri y 13)).getD 0 ∧ Fr [14] [] y q.2) := by
  unfold fX3_workOut
  refine OK.f (by rw [hN, eqR (by omega) (by omega)]; omega) ?_
  obtain ⟨y1, n1, hn, f1, e1, e2⟩ := h.2 y s (2000 - s) hN (Nat.le_refl _) h2 hr
  rw [show 2000 - s + s = 2000 by omega] at e1 e2
  cases hf : fd (ri y 13) with
  | some r => exact OK.r (e1 r hf) (OK.ret ⟨rfl, f1⟩)
  | none =>
    obtain ⟨m1, hm⟩ : ∃ m1, n1 = m1 + 1 := ⟨n1 - 1, by omega⟩
    have e3 : wX3_workOut_32 n1 y1 (nI 0) (nI s) = some (.inr y1) := by
      rw [hm, W3]
      unfold sX3_workOut_32
      rw [f1.f (by simp), hN, if_pos (by rw [leN (by omega) (by omega)]; exact Nat.le_refl _)]
    exact OK.r ((e2 hf).trans e3) (OK.ret ⟨rfl, f1⟩)
