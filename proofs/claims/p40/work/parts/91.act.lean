/-! ===== bodies, acts, the trace ===== -/
def pu (R O K : Nat) (x : aH) (b : Int32) : aH := sfi (if fi x O K < (24 : Int32) then sri x R (ix (fi x O K)) b else x) O K (fi x O K + 1)
def pl (R O K : Nat) (x : aH) (L : List Int32) : aH := L.foldl (pu R O K) x
theorem pl_app (R O K : Nat) (x : aH) (L M : List Int32) : pl R O K x (L ++ M) = pl R O K (pl R O K x L) M := List.foldl_append
theorem pu_fr (R O K : Nat) (x : aH) (b : Int32) : Fr [R] [(O, K)] x (pu R O K x b) := by
  unfold pu
  refine Fr.sfi ?_ (by simp)
  split
  · exact Fr.sri (Fr.rf _ _ _) (by simp)
  · exact Fr.rf _ _ _
theorem pl_fr (R O K : Nat) (L : List Int32) : ∀ x : aH, Fr [R] [(O, K)] x (pl R O K x L) := by
  induction L with
  | nil => intro x; exact Fr.rf _ _ _
  | cons b L ih => intro x; exact (pu_fr R O K x b).tr (ih _)
theorem pu_n {R O K r : Nat} {x : aH} (b : Int32) (h : fi x O K = nI r) : fi (pu R O K x b) O K = nI (r + 1) := by
  unfold pu
  rw [gf, if_pos ⟨rfl, rfl⟩, h, nI_1]
theorem pl_n {R O K : Nat} (L : List Int32) : ∀ {r : Nat} {x : aH}, fi x O K = nI r → fi (pl R O K x L) O K = nI (r + L.length) := by
  induction L with
  | nil => intro r x h; exact h
  | cons b L ih => intro r x h; have := ih (pu_n (R := R) b h); rw [List.length_cons, show r + (L.length + 1) = r + 1 + L.length by omega]; exact this
/-- two traces that are alike stay so -/
theorem pl_like {R O K R' O' K' : Nat} (L : List Int32) : ∀ {r : Nat} {x m : aH}, r + L.length < 1000 → fi x O K = nI r → fi m O' K' = nI r → (∀ i, i < 24 → i < r → ri x R i = ri m R' i) → ∀ i, i < 24 → i < r + L.length → ri (pl R O K x L) R i = ri (pl R' O' K' m L) R' i := by
  induction L with
  | nil => intro r x m _ _ _ h; exact h
  | cons b L ih =>
    intro r x m hr hx hm h i hi hil
    rw [List.length_cons] at hr hil
    refine ih (r := r + 1) (by omega) (pu_n b hx) (pu_n b hm) (fun j hj hjr => ?_) i hi (by omega)
    unfold pu
    rw [hx, hm]
    simp only [grf]
    by_cases hc : nI r < (24 : Int32)
    · rw [if_pos hc, if_pos hc, gr, gr]
      by_cases e : j = ix (nI r)
      · rw [if_pos ⟨rfl, e⟩, if_pos ⟨rfl, e⟩]
      · rw [if_neg (fun z => e z.2), if_neg (fun z => e z.2)]
        rw [ixN (by omega)] at e
        exact h j hj (by omega)
    · rw [if_neg hc, if_neg hc]
      rw [ltR (by omega) (by omega)] at hc
      exact h j hj (by omega)
/-! what the acts come to, and which bodies run -/
def lT (k : Nat) : List Int32 := if k = 1 ∨ k = 4 ∨ k = 7 then [20, 1] else if k = 6 then [70, 1] else [1]
def aT (k : Nat) (v n : Int32) : Int32 := if k = 1 ∨ k = 4 ∨ k = 7 then v + n + 3 else if k = 6 then (v + n) * 2 else v + n
def lW (o k : Nat) : List Int32 := if k = 3 ∨ k = 5 then [40, 11] else if k = 4 ∨ k = 7 then [50, 11] ++ lT o else [11]
def aW (o k : Nat) (v n : Int32) : Int32 := if k = 3 ∨ k = 5 then (v ^^^ n) * 3 else if k = 4 ∨ k = 7 then (v ^^^ n) - aT o 2 n else v ^^^ n
def lB (o k : Nat) : List Int32 := if k = 3 ∨ k = 5 then [41, 30, 10] ++ lT o else if k = 2 then [30, 10] ++ lT o else if k = 7 then [80, 10] ++ lT o ++ lW o o else [10] ++ lT o
def aB (o k : Nat) (v n : Int32) : Int32 := if k = 3 ∨ k = 5 then -(aT o (v + 1) n * 2) else if k = 2 then -(aT o v n * 2) else if k = 7 then aT o v n * 2 + aW o o 2 n else aT o v n * 2
def lE (o k : Nat) : List Int32 := if k = 5 then [60, 2] ++ lB o o ++ lW o o else if k = 7 then [81, 2] ++ lB o o ++ lW o o else [2] ++ lB o o ++ lW o o
def aE (o k : Nat) (v n : Int32) : Int32 := if k = 5 then (aB o o v n - aW o o 1 n) ^^^ 5 else if k = 7 then aB o o v n - aW o o 1 n - 1 else aB o o v n - aW o o 1 n
theorem len_all : ∀ k, k < 8 → (lT k).length ≤ 2 ∧ (lW k k).length ≤ 4 ∧ (lB k k).length ≤ 10 ∧ (lE k k).length ≤ 20 := by decide +kernel
/-! the reference -/
abbrev pM : aH → List Int32 → aH := pl 93 73 39
theorem runs_m {x : aH} {r : Nat} (b : Int32) (hr : r < 1000) (h : fi x 73 39 = nI r) : fX11_runs x b = some (pM x [b]) := by
  show _ = some (pu 93 73 39 x b)
  unfold fX11_runs pu
  rw [h, gfr, h]
  by_cases h24 : r < 24
  · have c : (0 : Int32) ≤ nI r ∧ nI r < (24 : Int32) := inN (by omega) h24
    rw [if_neg (by rw [leL (by omega) (by omega)]; omega), if_pos c, if_pos c.2]
  · rw [if_pos (by rw [leL (by omega) (by omega)]; omega), if_neg (by rw [ltR (by omega) (by omega)]; omega)]
def RM (x : aH) (r o : Nat) (n : Int32) : Prop := fi x 73 39 = nI r ∧ fi x 73 40 = nI o ∧ fi x 73 41 = n
theorem RM.pl {x : aH} {r o : Nat} {n : Int32} (h : RM x r o n) (L : List Int32) : RM (pM x L) (r + L.length) o n :=
  ⟨pl_n L h.1, by rw [(pl_fr 93 73 39 L x).f (by simp)]; exact h.2.1, by rw [(pl_fr 93 73 39 L x).f (by simp)]; exact h.2.2⟩
theorem turns_m {x : aH} {r o f k : Nat} {n v : Int32} (h : RM x r o n) (hr : r < 900) (hk : k < 8) (hf : 2 ≤ f) : fX11_turnsAs f x (nI k) v = some (aT k v n, pM x (lT k)) := by
  have base : ∀ (f k r : Nat) (x : aH), 1 ≤ f → k < 8 → ¬ (k = 1 ∨ k = 4 ∨ k = 7) → k ≠ 6 → r < 950 → RM x r o n → fX11_turnsAs f x (nI k) v = some (v + n, pM x [1]) := by
    intro f k r x hf hk h1 h2 hr h
    obtain ⟨f, rfl⟩ : ∃ g, f = g + 1 := ⟨f - 1, by omega⟩
    rw [fX11_turnsAs_S]
    unfold uX11_turnsAs
    rw [if_neg (by rw [eqR (by omega) (by omega)]; omega), if_neg (by rw [eqR (by omega) (by omega)]; omega), if_neg (by rw [eqR (by omega) (by omega)]; omega), if_neg (by rw [eqR (by omega) (by omega)]; omega), runs_m 1 (by omega) h.1]
    simp only [Option.bind_some]
    rw [(h.pl [1]).2.2]
  by_cases h1 : k = 1 ∨ k = 4 ∨ k = 7
  · obtain ⟨f, rfl⟩ : ∃ g, f = g + 1 := ⟨f - 1, by omega⟩
    have e : jX11_turnsAs_16 (fX11_turnsAs f) x v = some (aT k v n, pM x (lT k)) := by
      unfold jX11_turnsAs_16
      rw [runs_m 20 (by omega) h.1]
      simp only [Option.bind_some]
      have := base f 0 (r + 1) (pM x [20]) (by omega) (by omega) (by omega) (by omega) (by omega) (h.pl [20])
      rw [show (0 : Int32) = nI 0 from rfl, this]
      unfold aT lT
      rw [if_pos h1, if_pos h1]
      rfl
    rw [fX11_turnsAs_S]
    unfold uX11_turnsAs
    rcases h1 with rfl | rfl | rfl
    · rw [if_pos (by decide)]; exact e
    · rw [if_neg (by decide), if_pos (by decide)]; exact e
    · rw [if_neg (by decide), if_neg (by decide), if_pos (by decide)]; exact e
  · by_cases h2 : k = 6
    · subst h2
      obtain ⟨f, rfl⟩ : ∃ g, f = g + 1 := ⟨f - 1, by omega⟩
      rw [fX11_turnsAs_S]
      unfold uX11_turnsAs
      rw [if_neg (by decide), if_neg (by decide), if_neg (by decide), if_pos (by decide), runs_m 70 (by omega) h.1]
      simp only [Option.bind_some]
      have := base f 0 (r + 1) (pM x [70]) (by omega) (by omega) (by omega) (by omega) (by omega) (h.pl [70])
      rw [show (0 : Int32) = nI 0 from rfl, this]
      rfl
    · rw [base f k r x (by omega) hk h1 h2 (by omega) h]
      unfold aT lT
      rw [if_neg h1, if_neg h2, if_neg h1, if_neg h2]
theorem k8 {k : Nat} (h : k < 8) : k = 0 ∨ k = 1 ∨ k = 2 ∨ k = 3 ∨ k = 4 ∨ k = 5 ∨ k = 6 ∨ k = 7 := by omega
theorem warns_m {x : aH} {r o f k : Nat} {n v : Int32} (h : RM x r o n) (hr : r < 800) (ho : o < 8) (hk : k < 8) (hf : 2 ≤ f) : fX11_warnsAs f x (nI k) v = some (aW o k v n, pM x (lW o k)) := by
  have base : ∀ (f k r : Nat) (x : aH), 1 ≤ f → k = 0 ∨ k = 1 ∨ k = 2 ∨ k = 6 → r < 950 → RM x r o n → fX11_warnsAs f x (nI k) v = some (v ^^^ n, pM x [11]) := by
    intro f k r x hf hk hr h
    obtain ⟨f, rfl⟩ : ∃ g, f = g + 1 := ⟨f - 1, by omega⟩
    rw [fX11_warnsAs_S]
    unfold uX11_warnsAs
    rw [if_neg (by rw [eqR (by omega) (by omega)]; omega), if_neg (by rw [eqR (by omega) (by omega)]; omega), if_neg (by rw [eqR (by omega) (by omega)]; omega), if_neg (by rw [eqR (by omega) (by omega)]; omega), runs_m 11 (by omega) h.1]
    simp only [Option.bind_some]
    rw [(h.pl [11]).2.2]
  obtain ⟨f, rfl⟩ : ∃ g, f = g + 1 := ⟨f - 1, by omega⟩
  have e1 : jX11_warnsAs_10 (fX11_warnsAs f) x v = some ((v ^^^ n) * 3, pM x [40, 11]) := by
    unfold jX11_warnsAs_10
    rw [runs_m 40 (by omega) h.1]
    simp only [Option.bind_some]
    have := base f 2 (r + 1) (pM x [40]) (by omega) (by omega) (by omega) (h.pl [40])
    rw [show (2 : Int32) = nI 2 from rfl, this]
    rfl
  have e2 : jX11_warnsAs_36 (fX11_warnsAs f) x v = some ((v ^^^ n) - aT o 2 n, pM x ([50, 11] ++ lT o)) := by
    unfold jX11_warnsAs_36
    rw [runs_m 50 (by omega) h.1]
    simp only [Option.bind_some]
    have h2 := base f 1 (r + 1) (pM x [50]) (by omega) (by omega) (by omega) (h.pl [50])
    rw [show (1 : Int32) = nI 1 from rfl, h2]
    simp only [Option.bind_some]
    have h3 : RM (pM (pM x [50]) [11]) (r + 2) o n := (h.pl [50]).pl [11]
    rw [h3.2.1, turns_m h3 (by omega) ho (by omega)]
    rw [show pM x ([50, 11] ++ lT o) = pM (pM (pM x [50]) [11]) (lT o) from pl_app 93 73 39 x [50, 11] (lT o)]
    rfl
  rcases k8 hk with rfl | rfl | rfl | rfl | rfl | rfl | rfl | rfl
  · rw [base (f + 1) 0 r x (by omega) (by omega) (by omega) h]; rfl
  · rw [base (f + 1) 1 r x (by omega) (by omega) (by omega) h]; rfl
  · rw [base (f + 1) 2 r x (by omega) (by omega) (by omega) h]; rfl
  · rw [fX11_warnsAs_S]; unfold uX11_warnsAs; rw [if_pos (by decide)]; exact e1
  · rw [fX11_warnsAs_S]; unfold uX11_warnsAs; rw [if_neg (by decide), if_neg (by decide), if_pos (by decide)]; exact e2
  · rw [fX11_warnsAs_S]; unfold uX11_warnsAs; rw [if_neg (by decide), if_pos (by decide)]; exact e1
  · rw [base (f + 1) 6 r x (by omega) (by omega) (by omega) h]; rfl
  · rw [fX11_warnsAs_S]; unfold uX11_warnsAs; rw [if_neg (by decide), if_neg (by decide), if_neg (by decide), if_pos (by decide)]; exact e2
theorem burns_m {x : aH} {r o f k : Nat} {n v : Int32} (h : RM x r o n) (hr : r < 700) (ho : o < 8) (hk : k < 8) (hf : 3 ≤ f) : fX11_burnsAs f x (nI k) v = some (aB o k v n, pM x (lB o k)) := by
  have base : ∀ (f k r : Nat) (x : aH) (v : Int32), 1 ≤ f → k = 0 ∨ k = 1 ∨ k = 4 ∨ k = 6 → r < 750 → RM x r o n → fX11_burnsAs f x (nI k) v = some (aT o v n * 2, pM x ([10] ++ lT o)) := by
    intro f k r x v hf hk hr h
    obtain ⟨f, rfl⟩ : ∃ g, f = g + 1 := ⟨f - 1, by omega⟩
    rw [fX11_burnsAs_S]
    unfold uX11_burnsAs
    rw [if_neg (by rw [eqR (by omega) (by omega)]; omega), if_neg (by rw [eqR (by omega) (by omega)]; omega), if_neg (by rw [eqR (by omega) (by omega)]; omega), if_neg (by rw [eqR (by omega) (by omega)]; omega), runs_m 10 (by omega) h.1]
    simp only [Option.bind_some]
    have h3 := h.pl [10]
    rw [h3.2.1, turns_m h3 (by show r + 1 < 900; omega) ho (by omega), show pM x ([10] ++ lT o) = pM (pM x [10]) (lT o) from pl_app 93 73 39 x [10] (lT o)]
    rfl
  have neg : ∀ (f r : Nat) (x : aH) (v : Int32), 2 ≤ f → r < 740 → RM x r o n → fX11_burnsAs f x (nI 2) v = some (-(aT o v n * 2), pM x ([30, 10] ++ lT o)) := by
    intro f r x v hf hr h
    obtain ⟨f, rfl⟩ : ∃ g, f = g + 1 := ⟨f - 1, by omega⟩
    rw [fX11_burnsAs_S]
    unfold uX11_burnsAs
    rw [if_neg (by decide), if_neg (by decide), if_pos (by decide), runs_m 30 (by omega) h.1]
    simp only [Option.bind_some]
    have := base f 0 (r + 1) (pM x [30]) v (by omega) (by omega) (by omega) (h.pl [30])
    rw [show (0 : Int32) = nI 0 from rfl, this, show pM x ([30, 10] ++ lT o) = pM (pM x [30]) ([10] ++ lT o) from pl_app 93 73 39 x [30] ([10] ++ lT o)]
    rfl
  rcases k8 hk with rfl | rfl | rfl | rfl | rfl | rfl | rfl | rfl
  · exact base f 0 r x v (by omega) (by omega) (by omega) h
  · exact base f 1 r x v (by omega) (by omega) (by omega) h
  · exact neg f r x v (by omega) (by omega) h
  · obtain ⟨f, rfl⟩ : ∃ g, f = g + 1 := ⟨f - 1, by omega⟩
    rw [fX11_burnsAs_S]
    unfold uX11_burnsAs jX11_burnsAs_10
    rw [if_pos (by decide), runs_m 41 (by omega) h.1]
    simp only [Option.bind_some]
    rw [show (2 : Int32) = nI 2 from rfl, neg f (r + 1) (pM x [41]) (v + 1) (by omega) (by omega) (h.pl [41])]
    rw [show pM x (lB o 3) = pM (pM x [41]) ([30, 10] ++ lT o) from pl_app 93 73 39 x [41] ([30, 10] ++ lT o)]
    rfl
  · exact base f 4 r x v (by omega) (by omega) (by omega) h
  · obtain ⟨f, rfl⟩ : ∃ g, f = g + 1 := ⟨f - 1, by omega⟩
    rw [fX11_burnsAs_S]
    unfold uX11_burnsAs jX11_burnsAs_10
    rw [if_neg (by decide), if_pos (by decide), runs_m 41 (by omega) h.1]
    simp only [Option.bind_some]
    rw [show (2 : Int32) = nI 2 from rfl, neg f (r + 1) (pM x [41]) (v + 1) (by omega) (by omega) (h.pl [41])]
    rw [show pM x (lB o 5) = pM (pM x [41]) ([30, 10] ++ lT o) from pl_app 93 73 39 x [41] ([30, 10] ++ lT o)]
    rfl
  · exact base f 6 r x v (by omega) (by omega) (by omega) h
  · obtain ⟨f, rfl⟩ : ∃ g, f = g + 1 := ⟨f - 1, by omega⟩
    rw [fX11_burnsAs_S]
    unfold uX11_burnsAs
    rw [if_neg (by decide), if_neg (by decide), if_neg (by decide), if_pos (by decide), runs_m 80 (by omega) h.1]
    simp only [Option.bind_some]
    have b4 := base f 4 (r + 1) (pM x [80]) v (by omega) (by omega) (by omega) (h.pl [80])
    rw [show (4 : Int32) = nI 4 from rfl, b4]
    simp only [Option.bind_some]
    have h3 := (h.pl [80]).pl ([10] ++ lT o)
    have hl := (len_all o ho).1
    rw [h3.2.1, warns_m h3 (by simp; omega) ho ho (by omega)]
    rw [show pM x (lB o 7) = pM (pM (pM x [80]) ([10] ++ lT o)) (lW o o) from by
      show pM x ([80, 10] ++ lT o ++ lW o o) = _
      rw [show [80, 10] ++ lT o ++ lW o o = [80] ++ ([10] ++ lT o) ++ lW o o by simp]
      rw [show ∀ A B, pM x (A ++ B) = pM (pM x A) B from pl_app 93 73 39 x, show ∀ A B, pM x (A ++ B) = pM (pM x A) B from pl_app 93 73 39 x]]
    rfl
theorem tells_m {x : aH} {r o f k : Nat} {n v : Int32} (h : RM x r o n) (hr : r < 600) (ho : o < 8) (hk : k < 8) (hf : 2 ≤ f) : fX11_tellsAs f x (nI k) v = some (aE o k v n, pM x (lE o k)) := by
  obtain ⟨-, l2, l3, -⟩ := len_all o ho
  have app : ∀ (x : aH) (A B : List Int32), pM x (A ++ B) = pM (pM x A) B := fun x A B => pl_app 93 73 39 x A B
  have base : ∀ (f k r : Nat) (x : aH), 1 ≤ f → k ≠ 5 → k ≠ 7 → k < 8 → r < 650 → RM x r o n → fX11_tellsAs f x (nI k) v = some (aB o o v n - aW o o 1 n, pM x ([2] ++ lB o o ++ lW o o)) := by
    intro f k r x hf h5 h7 hk hr h
    obtain ⟨f, rfl⟩ : ∃ g, f = g + 1 := ⟨f - 1, by omega⟩
    rw [fX11_tellsAs_S]
    unfold uX11_tellsAs
    rw [if_neg (by rw [eqR (by omega) (by omega)]; exact h5), if_neg (by rw [eqR (by omega) (by omega)]; exact h7), runs_m 2 (by omega) h.1]
    simp only [Option.bind_some]
    have h3 := h.pl [2]
    rw [h3.2.1, burns_m h3 (by show r + 1 < 700; omega) ho ho (by omega)]
    simp only [Option.bind_some]
    have h4 := h3.pl (lB o o)
    rw [h4.2.1, warns_m h4 (by show r + 1 + _ < 800; omega) ho ho (by omega), app, app]
    rfl
  by_cases h5 : k = 5
  · subst h5
    obtain ⟨f, rfl⟩ : ∃ g, f = g + 1 := ⟨f - 1, by omega⟩
    rw [fX11_tellsAs_S]
    unfold uX11_tellsAs
    rw [if_pos (by decide), runs_m 60 (by omega) h.1]
    simp only [Option.bind_some]
    rw [show (3 : Int32) = nI 3 from rfl, base f 3 (r + 1) (pM x [60]) (by omega) (by omega) (by omega) (by omega) (by omega) (h.pl [60])]
    rw [show pM x (lE o 5) = pM (pM x [60]) ([2] ++ lB o o ++ lW o o) from by rw [← app]; rfl]
    rfl
  · by_cases h7 : k = 7
    · subst h7
      obtain ⟨f, rfl⟩ : ∃ g, f = g + 1 := ⟨f - 1, by omega⟩
      rw [fX11_tellsAs_S]
      unfold uX11_tellsAs
      rw [if_neg (by decide), if_pos (by decide), runs_m 81 (by omega) h.1]
      simp only [Option.bind_some]
      rw [show (4 : Int32) = nI 4 from rfl, base f 4 (r + 1) (pM x [81]) (by omega) (by omega) (by omega) (by omega) (by omega) (h.pl [81])]
      rw [show pM x (lE o 7) = pM (pM x [81]) ([2] ++ lB o o ++ lW o o) from by rw [← app]; rfl]
      rfl
    · rw [base f k r x (by omega) h5 h7 hk (by omega) h]
      unfold aE lE
      rw [if_neg h5, if_neg h7, if_neg h5, if_neg h7]
