/-! ===== ints as integers ===== -/
def iI (z : Int) : Int32 := Int32.ofInt z
theorem nI_iI (n : Nat) : nI n = iI (n : Int) := (Int32.ofInt_eq_ofNat).symm
theorem iI_nI {z : Int} {n : Nat} (h : z = (n : Int)) : iI z = nI n := by rw [h, ← nI_iI]
theorem iI_add (a b : Int) : iI a + iI b = iI (a + b) := (Int32.ofInt_add a b).symm
theorem iI_sub (a b : Int) : iI a - iI b = iI (a - b) := (Int32.ofInt_sub a b).symm
theorem iI_mul (a b : Int) : iI a * iI b = iI (a * b) := (Int32.ofInt_mul a b).symm
theorem iI_neg (a : Int) : -iI a = iI (-a) := (Int32.ofInt_neg a).symm
theorem iI_toInt {z : Int} (h1 : -2147483648 ≤ z) (h2 : z < 2147483648) : (iI z).toInt = z := Int32.toInt_ofInt_of_le (by omega) (by omega)
theorem iI_lt {a b : Int} (h1 : -2147483648 ≤ a) (h2 : a < 2147483648) (h3 : -2147483648 ≤ b) (h4 : b < 2147483648) : iI a < iI b ↔ a < b := by
  rw [Int32.lt_iff_toInt_lt, iI_toInt h1 h2, iI_toInt h3 h4]
theorem iI_le {a b : Int} (h1 : -2147483648 ≤ a) (h2 : a < 2147483648) (h3 : -2147483648 ≤ b) (h4 : b < 2147483648) : iI a ≤ iI b ↔ a ≤ b := by
  rw [Int32.le_iff_toInt_le, iI_toInt h1 h2, iI_toInt h3 h4]
theorem iI_eq {a b : Int} (h1 : -2147483648 ≤ a) (h2 : a < 2147483648) (h3 : -2147483648 ≤ b) (h4 : b < 2147483648) : iI a = iI b ↔ a = b := by
  rw [← Int32.toInt_inj, iI_toInt h1 h2, iI_toInt h3 h4]
theorem iI_0 : (0 : Int32) = iI 0 := rfl
theorem iI_1 : (1 : Int32) = iI 1 := rfl
theorem i_lit (n : Nat) : (OfNat.ofNat n : Int32) = nI n := rfl
theorem iI_of (x : Int32) : x = iI x.toInt := (Int32.ofInt_toInt x).symm
/-- every int is a number or below 0 -/
theorem i_cases (x : Int32) : x < 0 ∨ ∃ n : Nat, n < 2147483648 ∧ x = nI n := by
  rcases Int.lt_or_le x.toInt 0 with h | h
  · left; rw [Int32.lt_iff_toInt_lt]; exact h
  · right
    have h2 := Int32.toInt_lt x
    refine ⟨x.toInt.toNat, by omega, ?_⟩
    rw [nI_iI, Int.toNat_of_nonneg h, ← iI_of]
theorem nI_rem {a k : Nat} {K : Int32} (hK : K = nI k) (ha : a < 2147483648) (h0 : 0 < k) (hk : k < 2147483648) : nI a - nI a / K * K = nI (a % k) := by
  subst hK
  exact pk_rem (by omega) h0 (by omega)
theorem nI_div {a k : Nat} {K : Int32} (hK : K = nI k) (ha : a < 2147483648) (h0 : 0 < k) (hk : k < 2147483648) : nI a / K = nI (a / k) := by
  subst hK
  exact pk_div (by omega) h0 (by omega)
theorem nI_rem8 {a : Nat} (ha : a < 2147483648) : nI a - nI a / 8 * 8 = nI (a % 8) := nI_rem (k := 8) rfl ha (by decide) (by decide)
theorem nI_div8 {a : Nat} (ha : a < 2147483648) : nI a / 8 = nI (a / 8) := nI_div (k := 8) rfl ha (by decide) (by decide)
theorem nI_subI (a b : Nat) : nI a - nI b = iI ((a : Int) - b) := by rw [nI_iI, nI_iI, iI_sub]
def dist (a b : Nat) : Nat := (a - b) + (b - a)
theorem iI_abs {z : Int} (h1 : -1000000 ≤ z) (h2 : z ≤ 1000000) : (if (0 : Int32) ≤ iI z then iI z else 0 - iI z) = nI z.natAbs := by
  rw [iI_0, iI_sub]
  by_cases h : 0 ≤ z
  · rw [if_pos ((iI_le (by omega) (by omega) (by omega) (by omega)).mpr h)]
    exact iI_nI (by omega)
  · rw [if_neg (fun q => h ((iI_le (by omega) (by omega) (by omega) (by omega)).mp q))]
    exact iI_nI (by omega)
theorem abs_dist (a b : Nat) (ha : a < 1000000) (hb : b < 1000000) : (if (0 : Int32) ≤ nI a - nI b then nI a - nI b else 0 - (nI a - nI b)) = nI (dist a b) := by
  rw [nI_subI, iI_abs (by omega) (by omega)]
  congr 1
  unfold dist
  omega
theorem nI_inj {a b : Nat} (ha : a < 2147483648) (hb : b < 2147483648) : nI a = nI b ↔ a = b := nI_eq (by omega) (by omega)
theorem nI_lt' {a b : Nat} (ha : a < 2147483648) (hb : b < 2147483648) : nI a < nI b ↔ a < b := nI_ltI (by omega) (by omega)
theorem nI_le' {a b : Nat} (ha : a < 2147483648) (hb : b < 2147483648) : nI a ≤ nI b ↔ a ≤ b := nI_leI (by omega) (by omega)
/-- x in 0 .. n - 1, as the machine asks it -/
theorem in_range (x : Int32) (n : Nat) (hn : n < 2147483648) : (0 ≤ x ∧ x < nI n) ↔ ∃ j, j < n ∧ x = nI j := by
  constructor
  · rintro ⟨h1, h2⟩
    rcases i_cases x with h | ⟨j, hj, rfl⟩
    · exact absurd h1 (Int32.not_le.mpr h)
    · exact ⟨j, (nI_lt' hj hn).mp h2, rfl⟩
  · rintro ⟨j, hj, rfl⟩
    exact ⟨nI_pos' (by omega), (nI_lt' (by omega) hn).mpr hj⟩
abbrev bI (p : Prop) [Decidable p] : Int32 := if p then 1 else 0
theorem bI_01 (p : Prop) [Decidable p] : bI p = 0 ∨ bI p = 1 := by unfold bI; split <;> simp
theorem bI_t {p : Prop} [Decidable p] (h : p) : bI p = 1 := if_pos h
theorem bI_f {p : Prop} [Decidable p] (h : ¬ p) : bI p = 0 := if_neg h
