/-! ===== acts, the other side; act ===== -/
abbrev pX : aH → List Int32 → aH := pl 59 57 3
def clN (k a : Nat) : Nat := (([[0, 0, 0, 0], [1, 0, 0, 0], [0, 2, 0, 0], [0, 3, 3, 0], [1, 0, 4, 0], [0, 3, 3, 5], [6, 0, 0, 0], [1, 7, 4, 7]] : List (List Nat)).getD k []).getD a 0
def x00 : aH := (fun _ _ => 0, fun _ _ => 0, fun _ _ => 0)
def g00 : aH → Int32 → Int32 → Int32 → Int32 → Int32 → Option (Int32 × aH) := fun _ _ _ _ _ _ => none
theorem climb_dm (g : aH → Int32 → Int32 → Int32 → Int32 → Int32 → Option (Int32 × aH)) (x : aH) (l1 l3 l4 l5 : Int32) : ∀ n p q, wX0_run_6 g x l1 l3 l4 l5 n p q = wX0_run_6 g00 x00 0 l3 0 0 n p q := by
  intro n
  induction n with
  | zero => intro p q; rfl
  | succ n ih =>
    intro p q
    show sX0_run_6 g x l1 l3 l4 l5 (wX0_run_6 g x l1 l3 l4 l5 n) p q = sX0_run_6 g00 x00 0 l3 0 0 (wX0_run_6 g00 x00 0 l3 0 0 n) p q
    have : wX0_run_6 g x l1 l3 l4 l5 n = wX0_run_6 g00 x00 0 l3 0 0 n := by funext p q; exact ih p q
    rw [this]
    rfl
set_option maxRecDepth 20000 in
theorem climb_all : ∀ k, k < 8 → ∀ a, a < 4 → wX0_run_6 g00 x00 0 (nI a) 0 0 2000 (nI k) 0 = some (nI (clN k a)) ∧ clN k a < 8 := by decide +kernel
theorem run_step {x : aH} {nn k a r f dp : Nat} {v : Int32} (hr : fi x 57 3 = nI r) (hrr : r < 1000) (hk : k < 8) (ha : a < 4) (hd : dp ≤ 40) : fX0_run (f + 1) x (nI nn) (nI k) (nI a) v (nI dp) = fX0_perform f (pX x [stR 3 (clN k a * 4 + a)]) (stR 3 (clN k a * 4 + a)) (nI nn) (stR 4 (clN k a)) v (nI (dp + 1)) := by
  obtain ⟨h1, h2⟩ := climb_all k hk a ha
  have ebind : ∀ o : Option (Int32 × aH), (o.bind fun q => some (q.1, q.2)) = o := fun o => by cases o <;> rfl
  rw [fX0_run_S]
  unfold uX0_run
  rw [climb_dm, h1]
  simp only [Option.bind_some]
  have c8 : (0 : Int32) ≤ nI (clN k a) ∧ nI (clN k a) < (8 : Int32) := inN (by omega) h2
  have c32 : (0 : Int32) ≤ nI (clN k a * 4 + a) ∧ nI (clN k a * 4 + a) < (32 : Int32) := inN (by omega) (by omega)
  rw [if_neg (lt0 (by omega)), if_pos ((leR (by omega) (by omega)).mpr hd), mulR, addN, if_pos c32, ixN (show clN k a * 4 + a < 2147483648 by omega)]
  unfold jX0_run_91
  rw [if_pos c8, ixN (show clN k a < 2147483648 by omega), nI_1, hr]
  have e : pX x [stR 3 (clN k a * 4 + a)] = sfi (if nI r < (24 : Int32) then sri x 59 (ix (nI r)) (stR 3 (clN k a * 4 + a)) else x) 57 3 (nI r + 1) := by
    show pu 59 57 3 x _ = _
    unfold pu
    rw [hr]
  rw [e]
  by_cases h24 : r < 24
  · have c : (0 : Int32) ≤ nI r ∧ nI r < (24 : Int32) := inN (by omega) h24
    rw [if_neg (by rw [leL (by omega) (by omega)]; omega), if_pos c, if_pos c.2, gfr, hr, ebind, if_pos c8]
  · rw [if_pos (by rw [leL (by omega) (by omega)]; omega), if_neg (by rw [ltR (by omega) (by omega)]; omega), ebind]
def RX (x : aH) (r o nn : Nat) : Prop := fi x 57 3 = nI r ∧ ri x 58 nn = nI o
theorem RX.pl {x : aH} {r o nn : Nat} (h : RX x r o nn) (L : List Int32) : RX (pX x L) (r + L.length) o nn :=
  ⟨pl_n L h.1, by rw [(pl_fr 59 57 3 L x).r (by simp)]; exact h.2⟩
theorem any_step {x : aH} {nn a r o f dp : Nat} {v : Int32} (h : RX x r o nn) (hnn : nn < 50) : fX0_any (f + 1) x (nI nn) (nI a) v (nI dp) = fX0_run f x (nI nn) (nI o) (nI a) v (nI dp) := by
  have ebind : ∀ o : Option (Int32 × aH), (o.bind fun q => some (q.1, q.2)) = o := fun o => by cases o <;> rfl
  have c : (0 : Int32) ≤ nI nn ∧ nI nn < (50 : Int32) := inN (by omega) hnn
  rw [fX0_any_S]
  unfold uX0_any
  rw [if_pos c, ixN (by omega), h.2, ebind]
theorem appX (x : aH) (A B : List Int32) : pX x (A ++ B) = pX (pX x A) B := pl_app 59 57 3 x A B
theorem turns_x {x : aH} {r o f k nn dp : Nat} {v : Int32} (h : RX x r o nn) (hr : r < 900) (hk : k < 8) (hf : 4 ≤ f) (hd : dp ≤ 38) : fX0_run f x (nI nn) (nI k) (nI 0) v (nI dp) = some (aT k v (nI nn), pX x (lT k)) := by
  have base : ∀ (f k r dp : Nat) (x : aH), 2 ≤ f → k < 8 → clN k 0 = 0 → r < 950 → dp ≤ 40 → RX x r o nn → fX0_run f x (nI nn) (nI k) (nI 0) v (nI dp) = some (v + nI nn, pX x [1]) := by
    intro f k r dp x hf hk hc hr hd h
    obtain ⟨f, rfl⟩ : ∃ g, f = g + 2 := ⟨f - 2, by omega⟩
    rw [run_step h.1 (by omega) hk (by omega) hd, hc, fX0_perform_S]
    rfl
  rcases k8 hk with rfl | rfl | rfl | rfl | rfl | rfl | rfl | rfl
  · exact base f 0 r dp x (by omega) (by omega) rfl (by omega) (by omega) h
  · obtain ⟨f, rfl⟩ : ∃ g, f = g + 2 := ⟨f - 2, by omega⟩
    rw [run_step h.1 (by omega) hk (by omega) (by omega), fX0_perform_S]
    show ((fX0_run f (pX x [20]) (nI nn) (nI 0) (nI 0) v (nI (dp + 1))).bind fun q => some (q.1 + 3, q.2)) = _
    rw [base f 0 (r + 1) (dp + 1) _ (by omega) (by omega) rfl (by omega) (by omega) (h.pl [20])]
    rfl
  · exact base f 2 r dp x (by omega) (by omega) rfl (by omega) (by omega) h
  · exact base f 3 r dp x (by omega) (by omega) rfl (by omega) (by omega) h
  · obtain ⟨f, rfl⟩ : ∃ g, f = g + 2 := ⟨f - 2, by omega⟩
    rw [run_step h.1 (by omega) hk (by omega) (by omega), fX0_perform_S]
    show ((fX0_run f (pX x [20]) (nI nn) (nI 0) (nI 0) v (nI (dp + 1))).bind fun q => some (q.1 + 3, q.2)) = _
    rw [base f 0 (r + 1) (dp + 1) _ (by omega) (by omega) rfl (by omega) (by omega) (h.pl [20])]
    rfl
  · exact base f 5 r dp x (by omega) (by omega) rfl (by omega) (by omega) h
  · obtain ⟨f, rfl⟩ : ∃ g, f = g + 2 := ⟨f - 2, by omega⟩
    rw [run_step h.1 (by omega) hk (by omega) (by omega), fX0_perform_S]
    show ((fX0_run f (pX x [70]) (nI nn) (nI 0) (nI 0) v (nI (dp + 1))).bind fun q => some (q.1 * 2, q.2)) = _
    rw [base f 0 (r + 1) (dp + 1) _ (by omega) (by omega) rfl (by omega) (by omega) (h.pl [70])]
    rfl
  · obtain ⟨f, rfl⟩ : ∃ g, f = g + 2 := ⟨f - 2, by omega⟩
    rw [run_step h.1 (by omega) hk (by omega) (by omega), fX0_perform_S]
    show ((fX0_run f (pX x [20]) (nI nn) (nI 0) (nI 0) v (nI (dp + 1))).bind fun q => some (q.1 + 3, q.2)) = _
    rw [base f 0 (r + 1) (dp + 1) _ (by omega) (by omega) rfl (by omega) (by omega) (h.pl [20])]
    rfl
theorem warns_x {x : aH} {r o f k nn dp : Nat} {v : Int32} (h : RX x r o nn) (hnn : nn < 50) (hr : r < 800) (ho : o < 8) (hk : k < 8) (hf : 7 ≤ f) (hd : dp ≤ 35) : fX0_run f x (nI nn) (nI k) (nI 2) v (nI dp) = some (aW o k v (nI nn), pX x (lW o k)) := by
  have base : ∀ (f k r dp : Nat) (x : aH), 2 ≤ f → k < 8 → clN k 2 = 0 → r < 950 → dp ≤ 40 → RX x r o nn → fX0_run f x (nI nn) (nI k) (nI 2) v (nI dp) = some (v ^^^ nI nn, pX x [11]) := by
    intro f k r dp x hf hk hc hr hd h
    obtain ⟨f, rfl⟩ : ∃ g, f = g + 2 := ⟨f - 2, by omega⟩
    rw [run_step h.1 (by omega) hk (by omega) hd, hc, fX0_perform_S]
    rfl
  have e1 : ∀ k, k < 8 → clN k 2 = 3 → fX0_run f x (nI nn) (nI k) (nI 2) v (nI dp) = some ((v ^^^ nI nn) * 3, pX x [40, 11]) := by
    intro k hk hc
    obtain ⟨f, rfl⟩ : ∃ g, f = g + 2 := ⟨f - 2, by omega⟩
    rw [run_step h.1 (by omega) hk (by omega) (by omega), hc, fX0_perform_S]
    show ((fX0_run f (pX x [40]) (nI nn) (nI 2) (nI 2) v (nI (dp + 1))).bind fun q => some (q.1 * 3, q.2)) = _
    rw [base f 2 (r + 1) (dp + 1) _ (by omega) (by omega) rfl (by omega) (by omega) (h.pl [40])]
    rfl
  have e2 : ∀ k, k < 8 → clN k 2 = 4 → fX0_run f x (nI nn) (nI k) (nI 2) v (nI dp) = some ((v ^^^ nI nn) - aT o 2 (nI nn), pX x ([50, 11] ++ lT o)) := by
    intro k hk hc
    obtain ⟨f, rfl⟩ : ∃ g, f = g + 3 := ⟨f - 3, by omega⟩
    rw [run_step h.1 (by omega) hk (by omega) (by omega), hc, fX0_perform_S]
    show ((fX0_run (f + 1) (pX x [50]) (nI nn) (nI 1) (nI 2) v (nI (dp + 1))).bind fun q => (fX0_any (f + 1) q.2 (nI nn) (nI 0) 2 (nI (dp + 1))).bind fun q2 => some (q.1 - q2.1, q2.2)) = _
    rw [base (f + 1) 1 (r + 1) (dp + 1) _ (by omega) (by omega) rfl (by omega) (by omega) (h.pl [50])]
    simp only [Option.bind_some]
    have h3 : RX (pX (pX x [50]) [11]) (r + 2) o nn := (h.pl [50]).pl [11]
    rw [any_step h3 hnn, turns_x h3 (by omega) ho (by omega) (by omega), appX x [50, 11] (lT o)]
    rfl
  rcases k8 hk with rfl | rfl | rfl | rfl | rfl | rfl | rfl | rfl
  · exact base f 0 r dp x (by omega) (by omega) rfl (by omega) (by omega) h
  · exact base f 1 r dp x (by omega) (by omega) rfl (by omega) (by omega) h
  · exact base f 2 r dp x (by omega) (by omega) rfl (by omega) (by omega) h
  · exact e1 3 (by omega) rfl
  · exact e2 4 (by omega) rfl
  · exact e1 5 (by omega) rfl
  · exact base f 6 r dp x (by omega) (by omega) rfl (by omega) (by omega) h
  · exact e2 7 (by omega) rfl
theorem burns_x {x : aH} {r o f k nn dp : Nat} {v : Int32} (h : RX x r o nn) (hnn : nn < 50) (hr : r < 700) (ho : o < 8) (hk : k < 8) (hf : 11 ≤ f) (hd : dp ≤ 30) : fX0_run f x (nI nn) (nI k) (nI 1) v (nI dp) = some (aB o k v (nI nn), pX x (lB o k)) := by
  have base : ∀ (f k r dp : Nat) (x : aH) (v : Int32), 7 ≤ f → k < 8 → clN k 1 = 0 → r < 750 → dp ≤ 35 → RX x r o nn → fX0_run f x (nI nn) (nI k) (nI 1) v (nI dp) = some (aT o v (nI nn) * 2, pX x ([10] ++ lT o)) := by
    intro f k r dp x v hf hk hc hr hd h
    obtain ⟨f, rfl⟩ : ∃ g, f = g + 3 := ⟨f - 3, by omega⟩
    rw [run_step h.1 (by omega) hk (by omega) (by omega), hc, fX0_perform_S]
    show ((fX0_any (f + 1) (pX x [10]) (nI nn) (nI 0) v (nI (dp + 1))).bind fun q => some (q.1 * 2, q.2)) = _
    have h3 := h.pl [10]
    rw [any_step h3 hnn, turns_x h3 (by show r + 1 < 900; omega) ho (by omega) (by omega), appX x [10] (lT o)]
    rfl
  have neg : ∀ (f r dp : Nat) (x : aH) (v : Int32), 9 ≤ f → r < 740 → dp ≤ 34 → RX x r o nn → fX0_run f x (nI nn) (nI 2) (nI 1) v (nI dp) = some (-(aT o v (nI nn) * 2), pX x ([30, 10] ++ lT o)) := by
    intro f r dp x v hf hr hd h
    obtain ⟨f, rfl⟩ : ∃ g, f = g + 2 := ⟨f - 2, by omega⟩
    rw [run_step h.1 (by omega) (by omega) (by omega) (by omega), fX0_perform_S]
    show ((fX0_run f (pX x [30]) (nI nn) (nI 0) (nI 1) v (nI (dp + 1))).bind fun q => some (-q.1, q.2)) = _
    rw [base f 0 (r + 1) (dp + 1) _ v (by omega) (by omega) rfl (by omega) (by omega) (h.pl [30]), show [30, 10] ++ lT o = [30] ++ ([10] ++ lT o) from rfl, appX x [30] ([10] ++ lT o)]
    rfl
  have e41 : ∀ k, k < 8 → clN k 1 = 3 → fX0_run f x (nI nn) (nI k) (nI 1) v (nI dp) = some (-(aT o (v + 1) (nI nn) * 2), pX x ([41, 30, 10] ++ lT o)) := by
    intro k hk hc
    obtain ⟨f, rfl⟩ : ∃ g, f = g + 2 := ⟨f - 2, by omega⟩
    rw [run_step h.1 (by omega) hk (by omega) (by omega), hc, fX0_perform_S]
    show ((fX0_run f (pX x [41]) (nI nn) (nI 2) (nI 1) (v + 1) (nI (dp + 1))).bind fun q => some (q.1, q.2)) = _
    rw [neg f (r + 1) (dp + 1) _ (v + 1) (by omega) (by omega) (by omega) (h.pl [41]), show [41, 30, 10] ++ lT o = [41] ++ ([30, 10] ++ lT o) from rfl, appX x [41] ([30, 10] ++ lT o)]
    rfl
  rcases k8 hk with rfl | rfl | rfl | rfl | rfl | rfl | rfl | rfl
  · exact base f 0 r dp x v (by omega) (by omega) rfl (by omega) (by omega) h
  · exact base f 1 r dp x v (by omega) (by omega) rfl (by omega) (by omega) h
  · exact neg f r dp x v (by omega) (by omega) (by omega) h
  · exact e41 3 (by omega) rfl
  · exact base f 4 r dp x v (by omega) (by omega) rfl (by omega) (by omega) h
  · exact e41 5 (by omega) rfl
  · exact base f 6 r dp x v (by omega) (by omega) rfl (by omega) (by omega) h
  · obtain ⟨f, rfl⟩ : ∃ g, f = g + 3 := ⟨f - 3, by omega⟩
    rw [run_step h.1 (by omega) (by omega) (by omega) (by omega), fX0_perform_S]
    show ((fX0_run (f + 1) (pX x [80]) (nI nn) (nI 4) (nI 1) v (nI (dp + 1))).bind fun q => (fX0_any (f + 1) q.2 (nI nn) (nI 2) 2 (nI (dp + 1))).bind fun q2 => some (q.1 + q2.1, q2.2)) = _
    rw [base (f + 1) 4 (r + 1) (dp + 1) _ v (by omega) (by omega) rfl (by omega) (by omega) (h.pl [80])]
    simp only [Option.bind_some]
    have h3 := (h.pl [80]).pl ([10] ++ lT o)
    have hl := (len_all o ho).1
    rw [any_step h3 hnn, warns_x h3 hnn (by simp; omega) ho ho (by omega) (by omega)]
    rw [show pX x (lB o 7) = pX (pX (pX x [80]) ([10] ++ lT o)) (lW o o) from by
      show pX x ([80, 10] ++ lT o ++ lW o o) = _
      rw [show [80, 10] ++ lT o ++ lW o o = [80] ++ ([10] ++ lT o) ++ lW o o by simp, appX, appX]]
    rfl
theorem tells_x {x : aH} {r o f k nn dp : Nat} {v : Int32} (h : RX x r o nn) (hnn : nn < 50) (hr : r < 600) (ho : o < 8) (hk : k < 8) (hf : 16 ≤ f) (hd : dp ≤ 20) : fX0_run f x (nI nn) (nI k) (nI 3) v (nI dp) = some (aE o k v (nI nn), pX x (lE o k)) := by
  obtain ⟨-, l2, l3, -⟩ := len_all o ho
  have base : ∀ (f k r dp : Nat) (x : aH), 14 ≤ f → k < 8 → clN k 3 = 0 → r < 650 → dp ≤ 25 → RX x r o nn → fX0_run f x (nI nn) (nI k) (nI 3) v (nI dp) = some (aB o o v (nI nn) - aW o o 1 (nI nn), pX x ([2] ++ lB o o ++ lW o o)) := by
    intro f k r dp x hf hk hc hr hd h
    obtain ⟨f, rfl⟩ : ∃ g, f = g + 3 := ⟨f - 3, by omega⟩
    rw [run_step h.1 (by omega) hk (by omega) (by omega), hc, fX0_perform_S]
    show ((fX0_any (f + 1) (pX x [2]) (nI nn) (nI 1) v (nI (dp + 1))).bind fun q => (fX0_any (f + 1) q.2 (nI nn) (nI 2) 1 (nI (dp + 1))).bind fun q2 => some (q.1 - q2.1, q2.2)) = _
    have h3 := h.pl [2]
    rw [any_step h3 hnn, burns_x h3 hnn (by show r + 1 < 700; omega) ho ho (by omega) (by omega)]
    simp only [Option.bind_some]
    have h4 := h3.pl (lB o o)
    rw [any_step h4 hnn, warns_x h4 hnn (by show r + 1 + _ < 800; omega) ho ho (by omega) (by omega), appX, appX]
    rfl
  rcases k8 hk with rfl | rfl | rfl | rfl | rfl | rfl | rfl | rfl
  · exact base f 0 r dp x (by omega) (by omega) rfl (by omega) (by omega) h
  · exact base f 1 r dp x (by omega) (by omega) rfl (by omega) (by omega) h
  · exact base f 2 r dp x (by omega) (by omega) rfl (by omega) (by omega) h
  · exact base f 3 r dp x (by omega) (by omega) rfl (by omega) (by omega) h
  · exact base f 4 r dp x (by omega) (by omega) rfl (by omega) (by omega) h
  · obtain ⟨f, rfl⟩ : ∃ g, f = g + 2 := ⟨f - 2, by omega⟩
    rw [run_step h.1 (by omega) (by omega) (by omega) (by omega), fX0_perform_S]
    show ((fX0_run f (pX x [60]) (nI nn) (nI 3) (nI 3) v (nI (dp + 1))).bind fun q => some (q.1 ^^^ 5, q.2)) = _
    rw [base f 3 (r + 1) (dp + 1) _ (by omega) (by omega) rfl (by omega) (by omega) (h.pl [60])]
    rw [show pX x (lE o 5) = pX (pX x [60]) ([2] ++ lB o o ++ lW o o) from by rw [← appX]; rfl]
    rfl
  · exact base f 6 r dp x (by omega) (by omega) rfl (by omega) (by omega) h
  · obtain ⟨f, rfl⟩ : ∃ g, f = g + 2 := ⟨f - 2, by omega⟩
    rw [run_step h.1 (by omega) (by omega) (by omega) (by omega), fX0_perform_S]
    show ((fX0_run f (pX x [81]) (nI nn) (nI 4) (nI 3) v (nI (dp + 1))).bind fun q => some (q.1 - 1, q.2)) = _
    rw [base f 4 (r + 1) (dp + 1) _ (by omega) (by omega) rfl (by omega) (by omega) (h.pl [81])]
    rw [show pX x (lE o 7) = pX (pX x [81]) ([2] ++ lB o o ++ lW o o) from by rw [← appX]; rfl]
    rfl
/-! the calls -/
theorem isKind_x (x : aH) (k : Int32) : fX0_isKind x k = some (bI (0 ≤ k ∧ k < 8)) := by
  unfold fX0_isKind
  by_cases h1 : k < 0
  · rw [if_pos h1, bI_f (by grind)]
  · rw [if_neg h1]
    by_cases h2 : (8 : Int32) ≤ k
    · rw [if_pos h2, bI_f (by grind)]
    · rw [if_neg h2, bI_t (by grind)]
theorem w07 (p : Int32) : fX11_within p.toInt64 (0 : Int64) (7 : Int64) = some (bI (0 ≤ p ∧ p ≤ 7)) := within_i p 0 7
theorem isBody2 {x m : aH} {b : Nat} (hb : b ≤ 50) (h1 : fi x 57 1 = nI b) (h2 : fi m 73 36 = nI b) (p : Int32) : (∃ i, i < b ∧ p = nI i ∧ fX0_isBody x p = some 1 ∧ fX11_isBody m p = some 1) ∨ (¬ (0 ≤ p ∧ p < nI b) ∧ fX0_isBody x p = some 0 ∧ fX11_isBody m p = some 0) := by
  have ex : fX0_isBody x p = some (bI (0 ≤ p ∧ p < nI b)) := by
    unfold fX0_isBody
    rw [h1]
    by_cases h1 : p < 0
    · rw [if_pos h1, bI_f (by grind)]
    · rw [if_neg h1]
      by_cases h2 : nI b ≤ p
      · rw [if_pos h2, bI_f (by grind)]
      · rw [if_neg h2, bI_t (by grind)]
  have em : fX11_isBody m p = some (bI (0 ≤ p ∧ p < nI b)) := by
    unfold fX11_isBody
    rw [h2, show fX11_within p.toInt64 (0 : Int64) (nI b - 1).toInt64 = _ from within_i p 0 (nI b - 1)]
    have h0 := le0 (n := b) (by omega)
    have h10 : nI b ≤ (50 : Int32) := (leR (by omega) (by omega)).mpr (by omega)
    simp only [Option.bind_some]
    by_cases h : 0 ≤ p ∧ p < nI b
    · rw [bI_t h, bI_t (by grind), if_pos (Or.inr rfl)]
    · rw [bI_f h, bI_f (by grind), if_pos (Or.inl rfl)]
  rw [ex, em]
  rcases argIn p b (by omega) with ⟨i, hi, rfl⟩ | h
  · left
    have c : (0 : Int32) ≤ nI i ∧ nI i < nI b := ⟨le0 (by omega), (ltN (by omega) (by omega)).mpr hi⟩
    exact ⟨i, hi, rfl, by rw [bI_t c], by rw [bI_t c]⟩
  · right
    exact ⟨h, by rw [bI_f h], by rw [bI_f h]⟩
/-- what only acts touch -/
theorem JR.acts {x m x' m' : aH} {w : SEA} {t : STD} (h : JR x m w t) (fx : Fr [58, 59] [(57, 1), (57, 3)] x x') (fm : Fr [92, 93] [(73, 36), (73, 39), (73, 40), (73, 41)] m m') (hA : JA x' m') (hS : JS x' m') : JR x' m' w t := by
  obtain ⟨⟨⟨h1, ⟨h2, h3, h4⟩, h5, h6⟩, hL⟩, ⟨hI, hC⟩, hT, -, -⟩ := h
  exact ⟨⟨⟨h1, ⟨h2.fr fx (by simp) (by simp), h3.fr fx (by simp) (by simp) (by simp) (by simp), h4.fr fx (by simp)⟩, h5.fr fm (by simp) (by simp) (by simp) (by simp), h6.fr fm (by simp)⟩, hL.fr fx fm (by simp) (by simp)⟩, ⟨hI.fr fx fm (by simp) (by simp) (by simp) (by simp), hC.fr fx fm (by simp) (by simp) (by simp) (by simp)⟩, hT.fr fx fm (by simp) (by simp) (by simp) (by simp), hA, hS⟩
theorem op_body {x m : aH} (hJ : JJ x m) (k : Int32) : OK2 (fX10_body x k) (fX11_body m k) PJ := by
  obtain ⟨w, t, hR⟩ := hJ
  obtain ⟨b, r, ⟨b1, b2, b3, b4⟩, r1, r2, r3, r4⟩ := id hR.2.2.2.1
  by_cases hk : 0 ≤ k ∧ k < 8
  · obtain ⟨kk, hkk, rfl⟩ := (in_range k 8 (by omega)).mp hk
    have hk7 : 0 ≤ nI kk ∧ nI kk ≤ 7 := ⟨hk.1, (leR (by omega) (by omega)).mpr (by omega)⟩
    by_cases hf : b = 50
    · subst hf
      refine OK2.bad (v := -3) hR ?_ ?_
      · simp only [fX10_body, isKind_x, bI_t hk, Option.bind_some, if_neg n10, fX0_isFull, b2]
        rfl
      · simp only [fX11_body, w07, bI_t hk7, Option.bind_some, if_neg n10, b3]
        rfl
    · have cb : (0 : Int32) ≤ nI b ∧ nI b < (50 : Int32) := inN (by omega) (by omega)
      have n50 : ¬ nI b = (50 : Int32) := by rw [eqR (by omega) (by omega)]; exact hf
      have fx : Fr [58, 59] [(57, 1), (57, 3)] x (sfi (sri x 58 b (nI kk)) 57 1 (nI (b + 1))) := Fr.sfi (Fr.sri (Fr.rf _ _ _) (by simp)) (by simp)
      have fm : Fr [92, 93] [(73, 36), (73, 39), (73, 40), (73, 41)] m (sfi (sri m 92 b (nI kk)) 73 36 (nI (b + 1))) := Fr.sfi (Fr.sri (Fr.rf _ _ _) (by simp)) (by simp)
      have hS' : JS (sfi (sri x 58 b (nI kk)) 57 1 (nI (b + 1))) (sfi (sri m 92 b (nI kk)) 73 36 (nI (b + 1))) := by
        intro d hd
        have e : ∀ j, fi (sfi (sri x 58 b (nI kk)) 57 1 (nI (b + 1))) (61 + 2 * d) j = fi x (61 + 2 * d) j := fun j => fx.f (by simp; omega)
        rcases hR.2.2.2.2 d hd with ⟨s1, s2⟩ | ⟨s, n, s1⟩
        · left
          refine ⟨by rw [e, e, fm.r (by simp)]; exact s1, ?_⟩
          rw [e, fm.r (show 94 ∉ _ by simp)]
          rcases s2 with s2 | ⟨q, q1, q2, q3, q4⟩
          · exact Or.inl s2
          · refine Or.inr ⟨q, q1, ?_, q3, q4⟩
            rw [gf, if_pos ⟨rfl, rfl⟩]
            rw [b3, ltN (by omega) (by omega)] at q2
            exact (ltN (by omega) (by omega)).mpr (by omega)
        · right
          exact ⟨s, n, s1.fr fx fm (by simp) (by simp)⟩
      have hA' : JA (sfi (sri x 58 b (nI kk)) 57 1 (nI (b + 1))) (sfi (sri m 92 b (nI kk)) 73 36 (nI (b + 1))) := by
        refine ⟨b + 1, r, ⟨by omega, by simp [gf], by simp [gf], fun i hi => ?_⟩, r1, by simp [gf, gfr]; exact r2, by simp [gf, gfr]; exact r3, fun i h1 h2 => ?_⟩
        · simp only [grf, gr]
          by_cases e : i = b
          · exact ⟨kk, hkk, by simp [e], by simp [e]⟩
          · simp [e]; exact b4 i (by omega)
        · simp only [grf, gr]
          simp
          exact r4 i h1 h2
      refine ⟨(nI b, _), (nI b, _), ?_, ?_, ⟨w, t, hR.acts fx fm hA' hS'⟩, rfl⟩
      · simp only [fX10_body, isKind_x, bI_t hk, Option.bind_some, if_neg n10, fX0_isFull, b2, if_pos cb.2, fX0_add, if_pos cb, gfr, nI_1, ixN (show b < 2147483648 by omega)]
        rw [if_pos trivial]
        simp only [Option.bind_some, gf]
        simp [show nI (b + 1) - 1 = nI b from nI_pred _]
        rfl
      · simp only [fX11_body, w07, bI_t hk7, Option.bind_some, if_neg n10, b3, if_neg n50, if_pos cb, gfr, nI_1, ixN (show b < 2147483648 by omega)]
        simp [gf, show nI (b + 1) - 1 = nI b from nI_pred _]
        rfl
  · have hk7 : ¬ (0 ≤ k ∧ k ≤ 7) := by grind
    refine OK2.bad (v := -1) hR ?_ ?_
    · simp [fX10_body, isKind_x, bI_f hk]
    · simp [fX11_body, w07, bI_f hk7]
theorem op_trace {x m : aH} (hJ : JJ x m) (p1 : Int32) : OK2 (fX10_trace x p1) (fX11_trace m p1) (fun a b => a = b) := by
  obtain ⟨w, t, hR⟩ := hJ
  obtain ⟨b, r, -, r1, r2, r3, r4⟩ := id hR.2.2.2.1
  unfold fX10_trace fX0_isTraced fX11_trace
  rw [r2, r3]
  by_cases h1 : p1 < 0
  · rw [if_pos h1, if_pos h1]; exact OK2.eq rfl rfl rfl
  · rw [if_neg h1, if_neg h1]
    by_cases h2 : nI r ≤ p1
    · rw [if_pos h2, if_pos h2]; exact OK2.eq rfl rfl rfl
    · rw [if_neg h2, if_neg h2]
      by_cases h3 : (24 : Int32) ≤ p1
      · rw [if_pos h3, if_pos h3]; exact OK2.eq rfl rfl rfl
      · rw [if_neg h3, if_neg h3]
        have c : (0 : Int32) ≤ p1 ∧ p1 < (24 : Int32) := by grind
        obtain ⟨i, hi, rfl⟩ := (in_range p1 24 (by omega)).mp c
        have hir : i < r := by
          rw [leN (by omega) (by omega)] at h2
          omega
        simp only [Option.bind_some]
        rw [if_neg n10, if_pos c, if_pos c, ixN (by omega)]
        exact OK2.eq rfl rfl (r4 i hi hir)
theorem act_len : ∀ o, o < 8 → (lT o).length ≤ 100 ∧ (lB o o).length ≤ 100 ∧ (lW o o).length ≤ 100 ∧ (lE o o).length ≤ 100 := by decide +kernel
theorem op_act {x m : aH} (hJ : JJ x m) (p1 p2 p3 : Int32) : OK2 (fX10_act x p1 p2 p3) (fX11_act m p1 p2 p3) PJ := by
  obtain ⟨w, t, hR⟩ := hJ
  obtain ⟨b, r, ⟨b1, b2, b3, b4⟩, r1, r2, r3, r4⟩ := id hR.2.2.2.1
  have ebind : ∀ o : Option (Int32 × aH), (o.bind fun q => some (q.1, q.2)) = o := fun o => by cases o <;> rfl
  have x1 : fi (sfi x 57 3 0) 57 1 = nI b := by rw [gf, if_neg (by simp)]; exact b2
  have m1 : fi (sfi m 73 39 0) 73 36 = nI b := by rw [gf, if_neg (by simp)]; exact b3
  have fin : ∀ (x' m' : aH), Fr [58, 59] [(57, 1), (57, 3)] x x' → Fr [92, 93] [(73, 36), (73, 39), (73, 40), (73, 41)] m m' → JA x' m' → fi m' 73 36 = fi m 73 36 → JJ x' m' := by
    intro x' m' fx fm hA h36
    refine ⟨w, t, hR.acts fx fm hA ?_⟩
    have := hR.2.2.2.2
    intro d hd
    have e : ∀ j, fi x' (61 + 2 * d) j = fi x (61 + 2 * d) j := fun j => fx.f (by simp; omega)
    rcases this d hd with ⟨s1, s2⟩ | ⟨s, n, s1⟩
    · left
      refine ⟨by rw [e, e, fm.r (by simp)]; exact s1, ?_⟩
      rw [e, fm.r (show 94 ∉ _ by simp), h36]
      exact s2
    · right
      exact ⟨s, n, s1.fr fx fm (by simp) (by simp)⟩
  have zero : ∀ (m' : aH), Fr [92, 93] [(73, 36), (73, 39), (73, 40), (73, 41)] m m' → fi m' 73 39 = 0 → fi m' 73 36 = nI b → ri m' 92 = ri m 92 → JJ (sfi x 57 3 0) m' := by
    intro m' fm h39 h36 h92
    refine fin _ _ (Fr.sfi (Fr.rf _ _ _) (by simp)) fm ⟨b, 0, ⟨b1, x1, h36, fun i hi => ?_⟩, by omega, by rw [gf, if_pos ⟨rfl, rfl⟩]; rfl, h39, fun i _ h => by omega⟩ (by rw [h36, b3])
    rw [h92]
    exact b4 i hi
  have hx0 : fX10_act x p1 p2 p3 = fX0_start x p1 p2 p3 := ebind _
  rw [hx0]
  unfold fX0_start fX11_act
  rcases isBody2 b1 x1 m1 p1 with ⟨i, hi, rfl, e1, e2⟩ | ⟨-, e1, e2⟩
  · rw [e1, e2]
    simp only [Option.bind_some]
    have ci : (0 : Int32) ≤ nI i ∧ nI i < (50 : Int32) := inN (by omega) (by omega)
    obtain ⟨o, ho, o1, o2⟩ := b4 i hi
    obtain ⟨l1, l2, l3, l4⟩ := act_len o ho
    rw [if_neg n10, if_neg n10, if_pos ci, ixN (by omega)]
    have eo : ri (sfi m 73 39 0) 92 i = nI o := by rw [grf]; exact o2
    rw [eo]
    have f40 : fi (sfi (sfi (sfi m 73 39 0) 73 40 (nI o)) 73 41 (nI i)) 73 40 = nI o := by simp [gf]
    have hRM : RM (sfi (sfi (sfi m 73 39 0) 73 40 (nI o)) 73 41 (nI i)) 0 o (nI i) := ⟨by simp [gf]; rfl, f40, by simp [gf]⟩
    have hRX : RX (sfi x 57 3 0) 0 o i := ⟨by rw [gf, if_pos ⟨rfl, rfl⟩]; rfl, o1⟩
    have fz : Fr [92, 93] [(73, 36), (73, 39), (73, 40), (73, 41)] m (sfi (sfi (sfi m 73 39 0) 73 40 (nI o)) 73 41 (nI i)) := Fr.sfi (Fr.sfi (Fr.sfi (Fr.rf _ _ _) (by simp)) (by simp)) (by simp)
    have z39 : fi (sfi (sfi (sfi m 73 39 0) 73 40 (nI o)) 73 41 (nI i)) 73 39 = 0 := by simp [gf]
    have z36 : fi (sfi (sfi (sfi m 73 39 0) 73 40 (nI o)) 73 41 (nI i)) 73 36 = nI b := by simp [gf]; exact b3
    have z92 : ri (sfi (sfi (sfi m 73 39 0) 73 40 (nI o)) 73 41 (nI i)) 92 = ri m 92 := rfl
    rw [f40]
    generalize sfi (sfi (sfi m 73 39 0) 73 40 (nI o)) 73 41 (nI i) = z at hRM fz z39 z36 z92 ⊢
    have done : ∀ L : List Int32, L.length ≤ 100 → JJ (pX (sfi x 57 3 0) L) (pM z L) := by
      intro L hL
      have gx := pl_fr 59 57 3 L (sfi x 57 3 0)
      have gm := pl_fr 93 73 39 L z
      refine fin _ _ ((Fr.sfi (Fr.rf _ _ _) (by simp)).tr (gx.w (by simp) (by simp))) (fz.tr (gm.w (by simp) (by simp))) ⟨b, L.length, ⟨b1, by rw [gx.f (by simp)]; exact x1, by rw [gm.f (by simp)]; exact z36, fun j hj => ?_⟩, hL, ?_, ?_, ?_⟩ (by rw [gm.f (by simp), z36, b3])
      · rw [gx.r (show 58 ∉ _ by simp), gm.r (show 92 ∉ _ by simp), z92]
        exact b4 j hj
      · have := pl_n (R := 59) L hRX.1; rw [Nat.zero_add] at this; exact this
      · have := pl_n (R := 93) L hRM.1; rw [Nat.zero_add] at this; exact this
      · intro j hj hjl
        exact pl_like (R := 59) (O := 57) (K := 3) (R' := 93) (O' := 73) (K' := 39) L (r := 0) (by omega) hRX.1 hRM.1 (fun j _ h => by omega) j hj (by omega)
    by_cases h0 : p2 < 0
    · rw [if_pos h0, if_neg (by grind), if_neg (by grind), if_neg (by grind), if_neg (by grind)]
      exact OK2.eq rfl rfl ⟨zero z fz z39 z36 z92, rfl⟩
    · rw [if_neg h0]
      by_cases h4 : p2 < 4
      · rw [if_pos h4, ebind]
        have go : ∀ (a : Nat) (v : Int32) (L : List Int32), L.length ≤ 100 → fX0_any 64 (sfi x 57 3 0) (nI i) (nI a) p3 (nI 0) = some (v, pX (sfi x 57 3 0) L) → ∀ om : Option (Int32 × aH), om = some (v, pM z L) → OK2 (fX0_any 64 (sfi x 57 3 0) (nI i) (nI a) p3 0) (om.bind fun q => some (q.1, q.2)) PJ := by
          intro a v L hL h1 om h2
          rw [ebind, h2]
          exact OK2.eq h1 rfl ⟨done L hL, rfl⟩
        obtain ⟨a, ha, rfl⟩ := (in_range p2 4 (by omega)).mp ⟨Int32.not_lt.mp h0, h4⟩
        rcases (show a = 0 ∨ a = 1 ∨ a = 2 ∨ a = 3 by omega) with rfl | rfl | rfl | rfl
        · rw [if_pos (by decide)]
          exact go 0 _ _ l1 (by rw [any_step (f := 63) hRX (by omega)]; exact turns_x hRX (by omega) ho (by omega) (by omega)) _ (turns_m hRM (by omega) ho (by omega))
        · rw [if_neg (by decide), if_pos (by decide)]
          exact go 1 _ _ l2 (by rw [any_step (f := 63) hRX (by omega)]; exact burns_x hRX (by omega) (by omega) ho ho (by omega) (by omega)) _ (burns_m hRM (by omega) ho ho (by omega))
        · rw [if_neg (by decide), if_neg (by decide), if_pos (by decide)]
          exact go 2 _ _ l3 (by rw [any_step (f := 63) hRX (by omega)]; exact warns_x hRX (by omega) (by omega) ho ho (by omega) (by omega)) _ (warns_m hRM (by omega) ho ho (by omega))
        · rw [if_neg (by decide), if_neg (by decide), if_neg (by decide), if_pos (by decide)]
          exact go 3 _ _ l4 (by rw [any_step (f := 63) hRX (by omega)]; exact tells_x hRX (by omega) (by omega) ho ho (by omega) (by omega)) _ (tells_m hRM (by omega) ho ho (by omega))
      · rw [if_neg h4, if_neg (by grind), if_neg (by grind), if_neg (by grind), if_neg (by grind)]
        exact OK2.eq rfl rfl ⟨zero z fz z39 z36 z92, rfl⟩
  · rw [e1, e2]
    simp only [Option.bind_some]
    rw [if_pos trivial, if_pos trivial]
    exact OK2.eq rfl rfl ⟨zero _ (Fr.sfi (Fr.rf _ _ _) (by simp)) (by rw [gf, if_pos ⟨rfl, rfl⟩]) m1 rfl, rfl⟩
