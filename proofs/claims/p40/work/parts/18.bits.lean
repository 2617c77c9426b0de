/-! ===== bits (the first rows are kit/laws' own) ===== -/
theorem wb_tb (n : Nat) : (lN n).toBitVec = BitVec.ofNat 64 n := rfl
theorem wb_inj {a b : Int64} (h : a.toBitVec = b.toBitVec) : a = b := Int64.toBitVec_inj.mp h
theorem wb_tn {n : Nat} (h : n < 2 ^ 64) : (lN n).toBitVec.toNat = n := by rw [wb_tb, BitVec.toNat_ofNat, Nat.mod_eq_of_lt h]
theorem wb_of (x : Int64) : ∃ n, n < 2 ^ 64 ∧ x = lN n := ⟨x.toBitVec.toNat, x.toBitVec.isLt, wb_inj (by rw [wb_tb]; simp)⟩
theorem wb_of32 (x : Int32) : ∃ n, n < 2 ^ 32 ∧ x = nI n := ⟨x.toBitVec.toNat, x.toBitVec.isLt, Int32.toBitVec_inj.mp (by show _ = BitVec.ofNat 32 _; simp)⟩
theorem wb_c : ∀ k, k < 64 → ((nI k).toInt64 &&& 63) = lN k := by decide +kernel
theorem wb_cu : ∀ k, k < 64 → ((nI k).toInt64.toUInt64 &&& Int64.toUInt64 63) = UInt64.ofNat k := by decide +kernel
theorem wb_sm : ∀ k, k < 64 → (BitVec.ofNat 64 k).smod 64 = BitVec.ofNat 64 k := by decide +kernel
theorem wb_pw {a b : Nat} (h : a ≤ b) : 2 ^ b = 2 ^ a * 2 ^ (b - a) := by rw [← Nat.pow_add]; congr 1; omega
theorem wb_lt2 {a b : Nat} (h : a < b) : 2 ^ a < 2 ^ b := Nat.pow_lt_pow_right (by decide) h
theorem wb_mod (n : Nat) : lN n = lN (n % 2 ^ 64) := wb_inj (by rw [wb_tb, wb_tb]; apply BitVec.eq_of_toNat_eq; rw [BitVec.toNat_ofNat, BitVec.toNat_ofNat, Nat.mod_mod])
theorem wb_shr {n k : Nat} (hn : n < 2 ^ 64) (hk : k < 64) : ((lN n).toUInt64 >>> ((nI k).toInt64.toUInt64 &&& Int64.toUInt64 63)).toInt64 = lN (n / 2 ^ k) := by
  rw [wb_cu k hk]
  apply wb_inj
  apply BitVec.eq_of_toNat_eq
  show ((lN n).toUInt64 >>> UInt64.ofNat k).toNat = (BitVec.ofNat 64 _).toNat
  have h1 : (UInt64.ofNat k).toNat = k := by
    show (BitVec.ofNat 64 k).toNat = k
    rw [BitVec.toNat_ofNat, Nat.mod_eq_of_lt (by omega)]
  have h2 : (lN n).toUInt64.toNat = n := wb_tn hn
  rw [UInt64.toNat_shiftRight, h1, h2, Nat.mod_eq_of_lt hk, Nat.shiftRight_eq_div_pow, BitVec.toNat_ofNat, Nat.mod_eq_of_lt (Nat.lt_of_le_of_lt (Nat.div_le_self _ _) hn)]
theorem wb_shl (n : Nat) {k : Nat} (hk : k < 64) : lN n <<< ((nI k).toInt64 &&& 63) = lN (n * 2 ^ k) := by
  rw [wb_c k hk]
  apply wb_inj
  rw [Int64.toBitVec_shiftLeft, wb_tb, wb_tb, wb_tb, wb_sm k hk]
  apply BitVec.eq_of_toNat_eq
  rw [BitVec.shiftLeft_eq', BitVec.toNat_shiftLeft, BitVec.toNat_ofNat, BitVec.toNat_ofNat, BitVec.toNat_ofNat, Nat.mod_eq_of_lt (show k < 2 ^ 64 by omega), Nat.shiftLeft_eq, Nat.mul_mod, Nat.mod_mod, ← Nat.mul_mod]
theorem wb_and {a b : Nat} (ha : a < 2 ^ 64) (hb : b < 2 ^ 64) : lN a &&& lN b = lN (a &&& b) := by
  apply wb_inj
  rw [Int64.toBitVec_and, wb_tb, wb_tb, wb_tb]
  apply BitVec.eq_of_toNat_eq
  rw [BitVec.toNat_and, BitVec.toNat_ofNat, BitVec.toNat_ofNat, BitVec.toNat_ofNat, Nat.mod_eq_of_lt ha, Nat.mod_eq_of_lt hb, Nat.mod_eq_of_lt (Nat.and_lt_two_pow _ hb)]
theorem wb_or {a b : Nat} (ha : a < 2 ^ 64) (hb : b < 2 ^ 64) : lN a ||| lN b = lN (a ||| b) := by
  apply wb_inj
  rw [Int64.toBitVec_or, wb_tb, wb_tb, wb_tb]
  apply BitVec.eq_of_toNat_eq
  rw [BitVec.toNat_or, BitVec.toNat_ofNat, BitVec.toNat_ofNat, BitVec.toNat_ofNat, Nat.mod_eq_of_lt ha, Nat.mod_eq_of_lt hb, Nat.mod_eq_of_lt (Nat.or_lt_two_pow ha hb)]
theorem wb_mask {n k : Nat} (hn : n < 2 ^ 64) (hk : k < 64) : lN n &&& lN (2 ^ k - 1) = lN (n % 2 ^ k) := by
  rw [wb_and hn (by have := wb_lt2 hk; omega), Nat.and_two_pow_sub_one_eq_mod]
theorem wb_a1 {n : Nat} (hn : n < 2 ^ 64) : lN n &&& 1 = lN (n % 2) := wb_mask (k := 1) hn (by decide)
theorem wb_bit {n k : Nat} (hn : n < 2 ^ 64) (hk : k < 64) : ((lN n).toUInt64 >>> ((nI k).toInt64.toUInt64 &&& Int64.toUInt64 63)).toInt64 &&& 1 = lN (n / 2 ^ k % 2) := by
  rw [wb_shr hn hk, wb_a1 (Nat.lt_of_le_of_lt (Nat.div_le_self _ _) hn)]
theorem s_l : ∀ n, n < 32 → ((nI n &&& 31).toBitVec.smod 32).toNat = n := by decide +kernel
theorem s_u : ∀ n, n < 32 → (((nI n).toUInt32 &&& Int32.toUInt32 31).toBitVec % 32).toNat = n := by decide +kernel
theorem fa_and (a b : Nat) : nI a &&& nI b = nI (a &&& b) := by
  apply Int32.toBitVec_inj.1
  show BitVec.ofNat 32 a &&& BitVec.ofNat 32 b = BitVec.ofNat 32 (a &&& b)
  apply BitVec.eq_of_getLsbD_eq
  intro i hi
  simp [hi]
theorem fa_or (a b : Nat) : nI a ||| nI b = nI (a ||| b) := by
  apply Int32.toBitVec_inj.1
  show BitVec.ofNat 32 a ||| BitVec.ofNat 32 b = BitVec.ofNat 32 (a ||| b)
  apply BitVec.eq_of_getLsbD_eq
  intro i hi
  simp [hi]
theorem lor_bit {s i : Nat} (hi : i < 64) (hs : s < 2 ^ i) : lN s ||| ((1 : Int64) <<< ((nI i).toInt64 &&& 63)) = lN (s + 2 ^ i) := by
  have h1 := wb_lt2 hi
  rw [show (1 : Int64) = lN 1 from rfl, wb_shl 1 hi, Nat.one_mul, wb_or (by omega) h1]
  congr 1
  have := Nat.two_pow_add_eq_or_of_lt hs 1
  rw [Nat.mul_one] at this
  rw [Nat.or_comm, ← this, Nat.add_comm]
theorem lbit {s i : Nat} (hs : s < 2 ^ 64) (hi : i < 64) : ((lN s).toUInt64 >>> ((nI i).toInt64.toUInt64 &&& Int64.toUInt64 63)).toInt64 &&& 1 = lN (s / 2 ^ i % 2) := wb_bit hs hi
theorem bsum_up {f : Nat → Nat} {n i v : Nat} (hi : i < n) : bsum (va_up f i v) n + f i * 2 ^ i = bsum f n + v * 2 ^ i := by
  induction n with
  | zero => omega
  | succ n ih =>
    unfold bsum
    by_cases h : i = n
    · subst h
      rw [va_up_self, bsum_congr (g := f) (fun j hj => va_up_ne (j := j) f v (by omega))]
      omega
    · rw [va_up_ne (j := n) f v (by omega)]
      have := ih (by omega)
      omega
theorem nsum_up {f : Nat → Nat} {n i v : Nat} (hi : i < n) : nsum (va_up f i v) n + f i = nsum f n + v := by
  induction n with
  | zero => omega
  | succ n ih =>
    unfold nsum
    by_cases h : i = n
    · subst h
      rw [va_up_self, nsum_congr (g := f) (fun j hj => va_up_ne (j := j) f v (by omega))]
      omega
    · rw [va_up_ne (j := n) f v (by omega)]
      have := ih (by omega)
      omega
theorem hb_get0 : ∀ i, i < 32 → ((nI i &&& 31).toBitVec.smod 32).toNat = i := s_l
theorem hb_get {s i : Nat} (hs : s < 1024) (hi : i < 32) : (nI s >>> (nI i &&& 31)) &&& 1 = nI (s / 2 ^ i % 2) := by
  rw [pk_shrN (by omega) _ i (s_l i hi)]
  exact pk_andN (Nat.lt_of_le_of_lt (Nat.div_le_self _ _) (by omega)) 1 rfl
theorem hb_set0 : ∀ i, i < 10 → ∀ s, s < 1024 → nI s ||| ((1 : Int32) <<< (nI i &&& 31)) = nI (if s / 2 ^ i % 2 = 1 then s else s + 2 ^ i) := by decide +kernel
theorem hb_clr0 : ∀ i, i < 10 → ∀ s, s < 1024 → nI s &&& (((1 : Int32) <<< (nI i &&& 31)) ^^^ (-1)) = nI (if s / 2 ^ i % 2 = 1 then s - 2 ^ i else s) := by decide +kernel
theorem bsum_lt10 {f : Nat → Nat} {n : Nat} (hn : n ≤ 10) (h : ∀ i, i < n → f i ≤ 1) : bsum f n < 1024 := Nat.lt_of_lt_of_le (bsum_lt h) (Nat.pow_le_pow_right (by decide) hn (n := 2))
theorem hb_bit {f : Nat → Nat} {n i : Nat} (hn : n ≤ 10) (h : ∀ i, i < n → f i ≤ 1) (hi : i < n) : (nI (bsum f n) >>> (nI i &&& 31)) &&& 1 = nI (f i) := by
  rw [hb_get (bsum_lt10 hn h) (by omega), bsum_dm h hi]
theorem hb_set {f : Nat → Nat} {n i : Nat} (hn : n ≤ 10) (h : ∀ i, i < n → f i ≤ 1) (hi : i < n) : nI (bsum f n) ||| ((1 : Int32) <<< (nI i &&& 31)) = nI (bsum (va_up f i 1) n) := by
  rw [hb_set0 i (by omega) _ (bsum_lt10 hn h), bsum_dm h hi]
  congr 1
  have h1 := bsum_up (f := f) (v := 1) hi
  have h2 := h i hi
  split
  · rename_i e; rw [e] at h1; omega
  · have e : f i = 0 := by omega
    rw [e] at h1; omega
theorem hb_clr {f : Nat → Nat} {n i : Nat} (hn : n ≤ 10) (h : ∀ i, i < n → f i ≤ 1) (hi : i < n) : nI (bsum f n) &&& (((1 : Int32) <<< (nI i &&& 31)) ^^^ (-1)) = nI (bsum (va_up f i 0) n) := by
  rw [hb_clr0 i (by omega) _ (bsum_lt10 hn h), bsum_dm h hi]
  congr 1
  have h1 := bsum_up (f := f) (v := 0) hi
  have h2 := h i hi
  split
  · rename_i e; rw [e] at h1; omega
  · have e : f i = 0 := by omega
    rw [e] at h1; omega
/-- Integer.bitCount's own steps -/
def bc1 (x : Int32) : Int32 := x - ((x.toUInt32 >>> ((1 : Int32).toUInt32 &&& Int32.toUInt32 31)).toInt32 &&& 1431655765)
def bc2 (x : Int32) : Int32 := (x &&& 858993459) + ((x.toUInt32 >>> ((2 : Int32).toUInt32 &&& Int32.toUInt32 31)).toInt32 &&& 858993459)
def bc3 (x : Int32) : Int32 := (x + (x.toUInt32 >>> ((4 : Int32).toUInt32 &&& Int32.toUInt32 31)).toInt32) &&& 252645135
def bc4 (x : Int32) : Int32 := x + (x.toUInt32 >>> ((8 : Int32).toUInt32 &&& Int32.toUInt32 31)).toInt32
def bc5 (x : Int32) : Int32 := x + (x.toUInt32 >>> ((16 : Int32).toUInt32 &&& Int32.toUInt32 31)).toInt32
def bcI (x : Int32) : Int32 := bc5 (bc4 (bc3 (bc2 (bc1 x)))) &&& 63
def pop10 (s : Nat) : Nat := nsum (fun i => s / 2 ^ i % 2) 10
theorem bcI_pop : ∀ s, s < 1024 → bcI (nI s) = nI (pop10 s) := by decide +kernel
theorem pop_bsum {f : Nat → Nat} {n : Nat} (hn : n ≤ 10) (h : ∀ i, i < n → f i ≤ 1) : pop10 (bsum f n) = nsum f n := by
  have key : ∀ k, n ≤ k → nsum (fun i => bsum f n / 2 ^ i % 2) k = nsum f n := by
    intro k
    induction k with
    | zero => intro hk; have : n = 0 := by omega
              subst this; rfl
    | succ k ih =>
      intro hk
      rcases Nat.lt_or_ge k n with hkn | hkn
      · have e : n = k + 1 := by omega
        subst e
        exact nsum_congr (fun i hi => bsum_dm h hi)
      · rw [show ∀ g : Nat → Nat, nsum g (k + 1) = nsum g k + g k from fun _ => rfl, ih hkn]
        have : bsum f n / 2 ^ k = 0 := Nat.div_eq_of_lt (Nat.lt_of_lt_of_le (bsum_lt h) (Nat.pow_le_pow_right (by decide) hkn))
        show nsum f n + bsum f n / 2 ^ k % 2 = nsum f n
        rw [this]
        rfl
  exact key 10 hn
theorem bcI_bsum {f : Nat → Nat} {n : Nat} (hn : n ≤ 10) (h : ∀ i, i < n → f i ≤ 1) : bcI (nI (bsum f n)) = nI (nsum f n) := by
  rw [bcI_pop _ (bsum_lt10 hn h), pop_bsum hn h]
