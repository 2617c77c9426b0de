/-! ===== the sea in numbers ===== -/
theorem ite_iff {α : Type} {p q : Prop} [Decidable p] [Decidable q] {a b c d : α} (h : p ↔ q) (h1 : a = c) (h2 : b = d) : (if p then a else b) = if q then c else d := by
  subst h1; subst h2
  by_cases hq : q
  · rw [if_pos (h.mpr hq), if_pos hq]
  · rw [if_neg (fun z => hq (h.mp z)), if_neg hq]
def rgt (lamp c : Nat) : Int := ((c % 8 : Nat) : Int) - ((lamp % 8 : Nat) : Int)
def dwn (lamp c : Nat) : Int := ((c / 8 : Nat) : Int) - ((lamp / 8 : Nat) : Int)
def alongF (lamp way c : Nat) : Int := if way = 0 then -dwn lamp c else if way = 1 then rgt lamp c else if way = 2 then dwn lamp c else -rgt lamp c
def acrossF (lamp way c : Nat) : Int := if way % 2 = 0 then (rgt lamp c).natAbs else (dwn lamp c).natAbs
/-- whether c is lit from the lamp -/
def litF (lamp way c : Nat) : Bool := decide (0 < alongF lamp way c ∧ acrossF lamp way c ≤ alongF lamp way c)
def farF (lamp c : Nat) : Nat := dist (c % 8) (lamp % 8) + dist (c / 8) (lamp / 8)
def nearF (lamp c : Nat) : Nat := if dist (c / 8) (lamp / 8) ≤ dist (c % 8) (lamp % 8) then (if c % 8 < lamp % 8 then c + 1 else c - 1) else (if c / 8 < lamp / 8 then c + 8 else c - 8)
def carF (df c : Nat) : Nat := if df = 0 then (if 0 < c / 8 then c - 8 else c) else if df = 1 then (if c % 8 < 7 then c + 1 else c) else if df = 2 then (if c / 8 < 7 then c + 8 else c) else if df = 3 then (if 0 < c % 8 then c - 1 else c) else c
theorem litF_ne {lamp way c : Nat} (h : litF lamp way c = true) : c ≠ lamp := by
  rintro rfl
  unfold litF alongF rgt dwn at h
  simp only [decide_eq_true_eq] at h
  have h1 := h.1
  split at h1
  · omega
  · split at h1
    · omega
    · split at h1 <;> omega
theorem dist_lt {a b : Nat} {n : Nat} (ha : a < n) (hb : b < n) : dist a b < n := by unfold dist; omega
theorem nearF_lt {lamp c : Nat} (hl : lamp < 64) (hc : c < 64) (hne : c ≠ lamp) : nearF lamp c < 64 := by
  unfold nearF dist
  split
  · split <;> omega
  · split <;> omega
theorem carF_lt {df c : Nat} (hc : c < 64) : carF df c < 64 := by
  unfold carF
  split
  · split <;> omega
  · split
    · split <;> omega
    · split
      · split <;> omega
      · split
        · split <;> omega
        · omega
/-! sums of bits -/
def bsum (f : Nat → Nat) : Nat → Nat
  | 0 => 0
  | n + 1 => bsum f n + f n * 2 ^ n
def nsum (f : Nat → Nat) : Nat → Nat
  | 0 => 0
  | n + 1 => nsum f n + f n
theorem bsum_congr {f g : Nat → Nat} {n : Nat} (h : ∀ i, i < n → f i = g i) : bsum f n = bsum g n := by
  induction n with
  | zero => rfl
  | succ n ih => unfold bsum; rw [ih (fun i hi => h i (by omega)), h n (by omega)]
theorem nsum_congr {f g : Nat → Nat} {n : Nat} (h : ∀ i, i < n → f i = g i) : nsum f n = nsum g n := by
  induction n with
  | zero => rfl
  | succ n ih => unfold nsum; rw [ih (fun i hi => h i (by omega)), h n (by omega)]
theorem nsum_le {f : Nat → Nat} {n b : Nat} (h : ∀ i, i < n → f i ≤ b) : nsum f n ≤ n * b := by
  induction n with
  | zero => unfold nsum; omega
  | succ n ih =>
    unfold nsum
    have := ih (fun i hi => h i (by omega))
    have := h n (by omega)
    rw [Nat.succ_mul]
    omega
theorem bsum_lt {f : Nat → Nat} {n : Nat} (h : ∀ i, i < n → f i ≤ 1) : bsum f n < 2 ^ n := by
  induction n with
  | zero => unfold bsum; decide
  | succ n ih =>
    unfold bsum
    have h1 := ih (fun i hi => h i (by omega))
    have h2 := h n (by omega)
    rw [Nat.pow_succ]
    rcases (show f n = 0 ∨ f n = 1 by omega) with e | e <;> rw [e] <;> omega
theorem bsum_bit {f : Nat → Nat} {n : Nat} (h : ∀ i, i < n → f i ≤ 1) (i : Nat) : (bsum f n).testBit i = (decide (i < n) && f i == 1) := by
  induction n with
  | zero => unfold bsum; simp
  | succ n ih =>
    unfold bsum
    have hlt := bsum_lt (n := n) (fun i hi => h i (by omega))
    have e : bsum f n + f n * 2 ^ n = 2 ^ n * f n + bsum f n := by rw [Nat.mul_comm, Nat.add_comm]
    rw [e, Nat.testBit_two_pow_mul_add _ hlt]
    by_cases hi : i < n
    · rw [if_pos hi, ih (fun i hi => h i (by omega))]
      simp only [decide_eq_true hi, decide_eq_true (show i < n + 1 by omega)]
    · rw [if_neg hi]
      by_cases hin : i = n
      · subst hin
        have hb := h i (by omega)
        rcases (show f i = 0 ∨ f i = 1 by omega) with e | e <;> rw [e] <;> simp
      · have : ¬ i < n + 1 := by omega
        simp only [decide_eq_false this, Bool.false_and]
        have hb := h n (by omega)
        exact Nat.testBit_lt_two_pow (Nat.lt_of_le_of_lt hb (Nat.one_lt_two_pow (by omega)))
theorem bsum_dm {f : Nat → Nat} {n i : Nat} (h : ∀ i, i < n → f i ≤ 1) (hi : i < n) : bsum f n / 2 ^ i % 2 = f i := by
  have h1 := bsum_bit h i
  have h2 := h i hi
  rw [Nat.testBit_eq_decide_div_mod_eq, decide_eq_true hi, Bool.true_and] at h1
  rcases (show f i = 0 ∨ f i = 1 by omega) with e | e
  · rw [e] at h1 ⊢
    have : ¬ (bsum f n / 2 ^ i % 2 = 1) := by simpa using h1
    omega
  · rw [e] at h1 ⊢
    simpa using h1
