/-! ===== what a model comes to: OK o P (it ends, and P holds of what it gives); loops; heaps' frames ===== -/
theorem ix_inj {i j : Int32} (hi : 0 ≤ i) (hj : 0 ≤ j) : ix i = ix j ↔ i = j := by
  rcases i_cases i with h | ⟨a, ha, rfl⟩
  · exact absurd hi (Int32.not_le.mpr h)
  rcases i_cases j with h | ⟨b, hb, rfl⟩
  · exact absurd hj (Int32.not_le.mpr h)
  show (nI a).toNatClampNeg = (nI b).toNatClampNeg ↔ _
  rw [nI_clamp ha, nI_clamp hb, nI_inj ha hb]
theorem gf (h : aH) (a k b j : Nat) (v : Int32) : fi (sfi h a k v) b j = if b = a ∧ j = k then v else fi h b j := by
  by_cases h1 : b = a
  · subst h1
    by_cases h2 : j = k
    · subst h2; simp [fi_sfi_at]
    · simp [fi_sfi_off h2, h2]
  · rw [fi_sfi_ne h1]; simp [h1]
theorem gr (h : aH) (a k b j : Nat) (v : Int32) : ri (sri h a k v) b j = if b = a ∧ j = k then v else ri h b j := by
  by_cases h1 : b = a
  · subst h1
    by_cases h2 : j = k
    · subst h2; simp [ri_sri_at]
    · simp [ri_sri_off h2, h2]
  · rw [ri_sri_ne h1]; simp [h1]
theorem gfr (h : aH) (a k b j : Nat) (v : Int32) : fi (sri h a k v) b j = fi h b j := rfl
theorem grf (h : aH) (a k b j : Nat) (v : Int32) : ri (sfi h a k v) b j = ri h b j := rfl
theorem gjf (h : aH) (a k : Nat) (v : Int32) : rj (sfi h a k v) = rj h := rfl
theorem gjr (h : aH) (a k : Nat) (v : Int32) : rj (sri h a k v) = rj h := rfl
theorem gfw (h : aH) (a b j : Nat) (f : Nat → Int32) : fi (srow h a f) b j = fi h b j := rfl
theorem gjw (h : aH) (a : Nat) (f : Nat → Int32) : rj (srow h a f) = rj h := rfl
theorem grw (h : aH) (a b : Nat) (f : Nat → Int32) : ri (srow h a f) b = if b = a then f else ri h b := by
  unfold ri srow va_up
  rfl
theorem gfj (h : aH) (a k b j : Nat) (v : Int64) : fi (srj h a k v) b j = fi h b j := rfl
theorem grj (h : aH) (a k b j : Nat) (v : Int64) : ri (srj h a k v) b j = ri h b j := rfl
theorem gjj (h : aH) (a k b j : Nat) (v : Int64) : rj (srj h a k v) b j = if b = a ∧ j = k then v else rj h b j := by
  unfold rj srj va_up
  by_cases h1 : b = a
  · subst h1
    by_cases h2 : j = k
    · subst h2; simp
    · simp [h2]
  · simp [h1]
theorem gfwj (h : aH) (a b j : Nat) (f : Nat → Int64) : fi (srowj h a f) b j = fi h b j := rfl
theorem grwj (h : aH) (a b j : Nat) (f : Nat → Int64) : ri (srowj h a f) b j = ri h b j := rfl
theorem gjwj (h : aH) (a b : Nat) (f : Nat → Int64) : rj (srowj h a f) b = if b = a then f else rj h b := by
  unfold rj srowj va_up
  rfl
def OK {α : Type} (o : Option α) (P : α → Prop) : Prop := ∃ q, o = some q ∧ P q
theorem OK.ret {α : Type} {P : α → Prop} {q : α} (h : P q) : OK (some q) P := ⟨q, rfl, h⟩
theorem OK.bind {α β : Type} {o : Option α} {f : α → Option β} {P : α → Prop} {R : β → Prop} (h : OK o P) (k : ∀ q, P q → OK (f q) R) : OK (o.bind f) R := by
  obtain ⟨q, rfl, hq⟩ := h
  exact k q hq
theorem OK.r {α β : Type} {o : Option α} {f : α → Option β} {q : α} {R : β → Prop} (h : o = some q) (k : OK (f q) R) : OK (o.bind f) R := by
  subst h
  exact k
theorem OK.mono {α : Type} {o : Option α} {P R : α → Prop} (h : OK o P) (k : ∀ q, P q → R q) : OK o R := by
  obtain ⟨q, h1, hq⟩ := h
  exact ⟨q, h1, k q hq⟩
theorem OK.t {α : Type} {c : Prop} [Decidable c] {a b : Option α} {P : α → Prop} (hc : c) (h : OK a P) : OK (if c then a else b) P := by rw [if_pos hc]; exact h
theorem OK.f {α : Type} {c : Prop} [Decidable c] {a b : Option α} {P : α → Prop} (hc : ¬ c) (h : OK b P) : OK (if c then a else b) P := by rw [if_neg hc]; exact h
theorem OK.i {α : Type} {c : Prop} [Decidable c] {a b : Option α} {P : α → Prop} (h1 : c → OK a P) (h2 : ¬ c → OK b P) : OK (if c then a else b) P := by
  by_cases hc : c
  · rw [if_pos hc]; exact h1 hc
  · rw [if_neg hc]; exact h2 hc
theorem OK.eq {α : Type} {o : Option α} {q : α} (h : OK o (fun r => r = q)) : o = some q := by
  obtain ⟨r, h1, rfl⟩ := h
  exact h1
theorem OK.of {α : Type} {o : Option α} {q : α} (h : o = some q) : OK o (fun r => r = q) := ⟨q, h, rfl⟩
theorem OK.and {α : Type} {o : Option α} {P R : α → Prop} (h : OK o P) (k : OK o R) : OK o (fun q => P q ∧ R q) := by
  obtain ⟨q, h1, hq⟩ := h
  obtain ⟨q', h1', hq'⟩ := k
  obtain rfl := Option.some.inj (h1.symm.trans h1')
  exact ⟨q, h1, hq, hq'⟩
/-- a loop over a counter that goes up to N; St: all else that it carries -/
theorem LOOPUP {St R : Type} (W : Nat → St → Int32 → Option R) (S : (St → Int32 → Option R) → St → Int32 → Option R) (hW : ∀ n, W (n + 1) = S (W n)) (I : Nat → St → Prop) (P : R → Prop) (N : Nat)
    (hs : ∀ i st, i < N → I i st → ∀ ih : St → Int32 → Option R, (∀ st', I (i + 1) st' → OK (ih st' (nI (i + 1))) P) → OK (S ih st (nI i)) P)
    (he : ∀ st, I N st → ∀ ih, OK (S ih st (nI N)) P) : ∀ n i st, N < i + n → i ≤ N → I i st → OK (W n st (nI i)) P := by
  intro n
  induction n with
  | zero => intro i st h1 h2; omega
  | succ n ih =>
    intro i st h1 h2 hI
    rw [hW]
    by_cases hi : i = N
    · subst hi; exact he st hI _
    · exact hs i st (by omega) hI _ (fun st' hI' => ih (i + 1) st' (by omega) (by omega) hI')
/-- any loop, by what is left -/
theorem LOOP {St R : Type} (W : Nat → St → Option R) (S : (St → Option R) → St → Option R) (hW : ∀ n, W (n + 1) = S (W n)) (I : Nat → St → Prop) (P : R → Prop)
    (hs : ∀ k st, I k st → ∀ ih : St → Option R, (∀ k' st', k' < k → I k' st' → OK (ih st') P) → OK (S ih st) P) : ∀ n k st, k < n → I k st → OK (W n st) P := by
  intro n
  induction n with
  | zero => intro k st h1; omega
  | succ n ih =>
    intro k st h1 hI
    rw [hW]
    exact hs k st hI _ (fun k' st' hk hI' => ih k' st' (by omega) hI')
/-! ints that are numbers -/
theorem ixN {n : Nat} (h : n < 2147483648) : ix (nI n) = n := nI_clamp h
theorem ixL {n : Nat} (h : (OfNat.ofNat n : Nat) < 2147483648) : ix (OfNat.ofNat n : Int32) = (OfNat.ofNat n : Nat) := nI_clamp h
theorem ix_0 : ix (0 : Int32) = 0 := rfl
theorem ix_1 : ix (1 : Int32) = 1 := rfl
theorem ix_2 : ix (2 : Int32) = 2 := rfl
theorem ix_3 : ix (3 : Int32) = 3 := rfl
theorem ix_4 : ix (4 : Int32) = 4 := rfl
theorem ix_5 : ix (5 : Int32) = 5 := rfl
theorem ix_168 : ix (168 : Int32) = 168 := rfl
theorem ix_169 : ix (169 : Int32) = 169 := rfl
theorem ix_170 : ix (170 : Int32) = 170 := rfl
theorem ix_171 : ix (171 : Int32) = 171 := rfl
theorem le0 {n : Nat} (h : n < 2147483648) : (0 : Int32) ≤ nI n := nI_pos' h
theorem lt0 {n : Nat} (h : n < 2147483648) : ¬ (nI n < 0) := nI_pos h
theorem leN {a b : Nat} (ha : a < 2147483648) (hb : b < 2147483648) : nI a ≤ nI b ↔ a ≤ b := nI_le' ha hb
theorem ltN {a b : Nat} (ha : a < 2147483648) (hb : b < 2147483648) : nI a < nI b ↔ a < b := nI_lt' ha hb
theorem eqN {a b : Nat} (ha : a < 2147483648) (hb : b < 2147483648) : nI a = nI b ↔ a = b := nI_inj ha hb
theorem leL {a b : Nat} (ha : (OfNat.ofNat a : Nat) < 2147483648) (hb : b < 2147483648) : (OfNat.ofNat a : Int32) ≤ nI b ↔ (OfNat.ofNat a : Nat) ≤ b := nI_le' ha hb
theorem ltL {a b : Nat} (ha : (OfNat.ofNat a : Nat) < 2147483648) (hb : b < 2147483648) : (OfNat.ofNat a : Int32) < nI b ↔ (OfNat.ofNat a : Nat) < b := nI_lt' ha hb
theorem eqL {a b : Nat} (ha : (OfNat.ofNat a : Nat) < 2147483648) (hb : b < 2147483648) : (OfNat.ofNat a : Int32) = nI b ↔ (OfNat.ofNat a : Nat) = b := nI_inj ha hb
theorem leR {a b : Nat} (ha : (OfNat.ofNat a : Nat) < 2147483648) (hb : b < 2147483648) : nI b ≤ (OfNat.ofNat a : Int32) ↔ b ≤ (OfNat.ofNat a : Nat) := nI_le' hb ha
theorem ltR {a b : Nat} (ha : (OfNat.ofNat a : Nat) < 2147483648) (hb : b < 2147483648) : nI b < (OfNat.ofNat a : Int32) ↔ b < (OfNat.ofNat a : Nat) := nI_lt' hb ha
theorem eqR {a b : Nat} (ha : (OfNat.ofNat a : Nat) < 2147483648) (hb : b < 2147483648) : nI b = (OfNat.ofNat a : Int32) ↔ b = (OfNat.ofNat a : Nat) := nI_inj hb ha
theorem addN (a b : Nat) : nI a + nI b = nI (a + b) := nI_add a b
theorem addL (a b : Nat) : (OfNat.ofNat a : Int32) + nI b = nI ((OfNat.ofNat a : Nat) + b) := nI_add a b
theorem addR (a b : Nat) : nI b + (OfNat.ofNat a : Int32) = nI (b + (OfNat.ofNat a : Nat)) := nI_add b a
theorem mulN (a b : Nat) : nI a * nI b = nI (a * b) := pk_mul a b
theorem mulL (a b : Nat) : (OfNat.ofNat a : Int32) * nI b = nI ((OfNat.ofNat a : Nat) * b) := pk_mul a b
theorem mulR (a b : Nat) : nI b * (OfNat.ofNat a : Int32) = nI (b * (OfNat.ofNat a : Nat)) := pk_mul b a
theorem subN {a b : Nat} (h : b ≤ a) : nI a - nI b = nI (a - b) := pk_sub h
theorem subL {a b : Nat} (h : b ≤ (OfNat.ofNat a : Nat)) : (OfNat.ofNat a : Int32) - nI b = nI ((OfNat.ofNat a : Nat) - b) := pk_sub h
theorem subR {a b : Nat} (h : (OfNat.ofNat a : Nat) ≤ b) : nI b - (OfNat.ofNat a : Int32) = nI (b - (OfNat.ofNat a : Nat)) := pk_sub h
theorem divR {a b : Nat} (ha : a < 2147483648) (h0 : 0 < (OfNat.ofNat b : Nat)) (hb : (OfNat.ofNat b : Nat) < 2147483648) : nI a / (OfNat.ofNat b : Int32) = nI (a / (OfNat.ofNat b : Nat)) := pk_div ha h0 hb
/-- an argument: below 0, a number below N, or N and more -/
theorem arg3 (p : Int32) (N : Nat) (hN : N < 2147483648) : p < 0 ∨ (∃ j, j < N ∧ p = nI j) ∨ (∃ j, N ≤ j ∧ j < 2147483648 ∧ p = nI j) := by
  rcases i_cases p with h | ⟨j, hj, rfl⟩
  · exact Or.inl h
  · by_cases h : j < N
    · exact Or.inr (Or.inl ⟨j, h, rfl⟩)
    · exact Or.inr (Or.inr ⟨j, by omega, hj, rfl⟩)
/-- 0 ≤ p < N as the machine asks, or not so -/
theorem argIn (p : Int32) (N : Nat) (hN : N < 2147483648) : (∃ j, j < N ∧ p = nI j) ∨ ¬ (0 ≤ p ∧ p < nI N) := by
  by_cases h : 0 ≤ p ∧ p < nI N
  · exact Or.inl ((in_range p N hN).mp h)
  · exact Or.inr h
/-! frames: rows R, fields F alone may be otherwise -/
def Fr (R : List Nat) (F : List (Nat × Nat)) (x y : aH) : Prop := (∀ a, a ∉ R → ri y a = ri x a) ∧ (∀ a k, (a, k) ∉ F → fi y a k = fi x a k) ∧ rj y = rj x
theorem Fr.rf (R : List Nat) (F : List (Nat × Nat)) (x : aH) : Fr R F x x := ⟨fun _ _ => rfl, fun _ _ _ => rfl, rfl⟩
theorem Fr.tr {R : List Nat} {F : List (Nat × Nat)} {x y z : aH} (h : Fr R F x y) (k : Fr R F y z) : Fr R F x z :=
  ⟨fun a ha => (k.1 a ha).trans (h.1 a ha), fun a j ha => (k.2.1 a j ha).trans (h.2.1 a j ha), k.2.2.trans h.2.2⟩
theorem Fr.w {R R' : List Nat} {F F' : List (Nat × Nat)} {x y : aH} (h : Fr R F x y) (hR : ∀ a, a ∈ R → a ∈ R') (hF : ∀ a, a ∈ F → a ∈ F') : Fr R' F' x y :=
  ⟨fun a ha => h.1 a (fun z => ha (hR a z)), fun a j ha => h.2.1 a j (fun z => ha (hF _ z)), h.2.2⟩
theorem Fr.sri {R : List Nat} {F : List (Nat × Nat)} {x y : aH} {a k : Nat} {v : Int32} (h : Fr R F x y) (ha : a ∈ R) : Fr R F x (sri y a k v) :=
  ⟨fun b hb => (by have hne : b ≠ a := fun z => hb (by rw [z]; exact ha)
                   rw [ri_sri_ne hne]; exact h.1 b hb), h.2.1, h.2.2⟩
theorem Fr.srow {R : List Nat} {F : List (Nat × Nat)} {x y : aH} {a : Nat} {f : Nat → Int32} (h : Fr R F x y) (ha : a ∈ R) : Fr R F x (srow y a f) :=
  ⟨fun b hb => (by have hne : b ≠ a := fun z => hb (by rw [z]; exact ha)
                   rw [grw, if_neg hne]; exact h.1 b hb), h.2.1, h.2.2⟩
theorem Fr.sfi {R : List Nat} {F : List (Nat × Nat)} {x y : aH} {a k : Nat} {v : Int32} (h : Fr R F x y) (ha : (a, k) ∈ F) : Fr R F x (sfi y a k v) :=
  ⟨h.1, fun b j hb => (by have hne : ¬ (b = a ∧ j = k) := fun z => hb (by rw [z.1, z.2]; exact ha)
                          rw [gf, if_neg hne]; exact h.2.1 b j hb), h.2.2⟩
theorem Fr.r {R : List Nat} {F : List (Nat × Nat)} {x y : aH} (h : Fr R F x y) {a : Nat} (ha : a ∉ R) : ri y a = ri x a := h.1 a ha
theorem Fr.f {R : List Nat} {F : List (Nat × Nat)} {x y : aH} (h : Fr R F x y) {a k : Nat} (ha : (a, k) ∉ F) : fi y a k = fi x a k := h.2.1 a k ha
theorem Fr.j {R : List Nat} {F : List (Nat × Nat)} {x y : aH} (h : Fr R F x y) : rj y = rj x := h.2.2
