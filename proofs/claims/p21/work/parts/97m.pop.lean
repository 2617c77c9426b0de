/-! ===== how many bits of 64 ===== -/
def vB : List Nat → Nat
  | [] => 0
  | a :: l => a + 256 * vB l
def kB (c : Nat) : Nat → Nat
  | 0 => 0
  | n + 1 => c + 256 * kB c n
theorem and_cons {a b m n : Nat} (ha : a < 256) (hm : m < 256) : (a + 256 * b) &&& (m + 256 * n) = (a &&& m) + 256 * (b &&& n) := by
  have h1 : ((a + 256 * b) &&& (m + 256 * n)) % 2 ^ 8 = (a &&& m) := by
    rw [Nat.and_mod_two_pow, show (a + 256 * b) % 2 ^ 8 = a by omega, show (m + 256 * n) % 2 ^ 8 = m by omega]
  have h2 : ((a + 256 * b) &&& (m + 256 * n)) / 2 ^ 8 = (b &&& n) := by
    have e1 : (a + 256 * b) / 2 ^ 8 = b := by omega
    have e2 : (m + 256 * n) / 2 ^ 8 = n := by omega
    rw [← Nat.shiftRight_eq_div_pow, Nat.shiftRight_and_distrib, Nat.shiftRight_eq_div_pow, Nat.shiftRight_eq_div_pow, e1, e2]
  have h3 := Nat.div_add_mod ((a + 256 * b) &&& (m + 256 * n)) (2 ^ 8)
  rw [h1, h2] at h3
  omega
def laA (a : Nat) : Nat := a - ((a / 2) &&& 85)
def laB (a : Nat) : Nat := (a &&& 51) + ((a / 4) &&& 51)
def laC (a : Nat) : Nat := (a + a / 16) &&& 15
theorem d_1 : ∀ a, a < 256 → ∀ c, c < 2 → ((a / 2 + 128 * c) &&& 85) = ((a / 2) &&& 85) := by decide +kernel
theorem d_2 : ∀ a, a < 256 → ∀ c, c < 4 → ((a / 4 + 64 * c) &&& 51) = ((a / 4) &&& 51) := by decide +kernel
theorem d_3 : ∀ a, a < 69 → ∀ c, c < 5 → ((a + a / 16 + 16 * c) &&& 15) = ((a + a / 16) &&& 15) := by decide +kernel
theorem d_4 : ∀ a, a < 256 → ((a / 2) &&& 85) ≤ a ∧ laA a < 256 ∧ laB (laA a) < 69 ∧ laB (laA a) % 16 < 5 ∧ laC (laB (laA a)) = a % 2 + a / 2 % 2 + a / 4 % 2 + a / 8 % 2 + a / 16 % 2 + a / 32 % 2 + a / 64 % 2 + a / 128 % 2 := by decide +kernel
theorem lane1 : ∀ l : List Nat, (∀ a, a ∈ l → a < 256) → ((vB l / 2) &&& kB 85 l.length) = vB (l.map fun a => (a / 2) &&& 85) := by
  intro l
  induction l with
  | nil => intro _; rfl
  | cons a l ih =>
    intro h
    have ha := h a (by simp)
    show ((a + 256 * vB l) / 2 &&& (85 + 256 * kB 85 l.length)) = ((a / 2) &&& 85) + 256 * vB (l.map fun a => (a / 2) &&& 85)
    rw [show (a + 256 * vB l) / 2 = (a / 2 + 128 * (vB l % 2)) + 256 * (vB l / 2) by omega, and_cons (by omega) (by omega), ih (fun b hb => h b (by simp [hb])), d_1 a ha _ (by omega)]
theorem lane2 : ∀ l : List Nat, (∀ a, a ∈ l → a < 256) → ((vB l / 4) &&& kB 51 l.length) = vB (l.map fun a => (a / 4) &&& 51) := by
  intro l
  induction l with
  | nil => intro _; rfl
  | cons a l ih =>
    intro h
    have ha := h a (by simp)
    show ((a + 256 * vB l) / 4 &&& (51 + 256 * kB 51 l.length)) = ((a / 4) &&& 51) + 256 * vB (l.map fun a => (a / 4) &&& 51)
    rw [show (a + 256 * vB l) / 4 = (a / 4 + 64 * (vB l % 4)) + 256 * (vB l / 4) by omega, and_cons (by omega) (by omega), ih (fun b hb => h b (by simp [hb])), d_2 a ha _ (by omega)]
theorem lane0 : ∀ l : List Nat, (∀ a, a ∈ l → a < 256) → (vB l &&& kB 51 l.length) = vB (l.map fun a => a &&& 51) := by
  intro l
  induction l with
  | nil => intro _; rfl
  | cons a l ih =>
    intro h
    have ha := h a (by simp)
    show ((a + 256 * vB l) &&& (51 + 256 * kB 51 l.length)) = (a &&& 51) + 256 * vB (l.map fun a => a &&& 51)
    rw [and_cons (by omega) (by omega), ih (fun b hb => h b (by simp [hb]))]
theorem lane3 : ∀ l : List Nat, (∀ a, a ∈ l → a < 69 ∧ a % 16 < 5) → ((vB l + vB l / 16) &&& kB 15 l.length) = vB (l.map laC) := by
  intro l
  induction l with
  | nil => intro _; rfl
  | cons a l ih =>
    intro h
    have ha := h a (by simp)
    have hc : vB l % 16 < 5 := by
      cases l with
      | nil => show 0 % 16 < 5; omega
      | cons b l =>
        have hb := h b (by simp)
        show (b + 256 * vB l) % 16 < 5
        omega
    show ((a + 256 * vB l + (a + 256 * vB l) / 16) &&& (15 + 256 * kB 15 l.length)) = laC a + 256 * vB (l.map laC)
    rw [show a + 256 * vB l + (a + 256 * vB l) / 16 = (a + a / 16 + 16 * (vB l % 16)) + 256 * (vB l + vB l / 16) by omega, and_cons (by omega) (by omega), ih (fun b hb => h b (by simp [hb])), d_3 a ha.1 _ hc]
    rfl
theorem vB_sub {f : Nat → Nat} : ∀ l : List Nat, (∀ a, a ∈ l → f a ≤ a) → vB (l.map f) ≤ vB l ∧ vB l - vB (l.map f) = vB (l.map fun a => a - f a) := by
  intro l
  induction l with
  | nil => intro _; exact ⟨Nat.le_refl _, rfl⟩
  | cons a l ih =>
    intro h
    have ha := h a (by simp)
    obtain ⟨h1, h2⟩ := ih (fun b hb => h b (by simp [hb]))
    show f a + 256 * vB (l.map f) ≤ a + 256 * vB l ∧ a + 256 * vB l - (f a + 256 * vB (l.map f)) = (a - f a) + 256 * vB (l.map fun a => a - f a)
    rw [← h2]
    omega
theorem vB_add {f f' : Nat → Nat} : ∀ l : List Nat, vB (l.map f) + vB (l.map f') = vB (l.map fun a => f a + f' a) := by
  intro l
  induction l with
  | nil => rfl
  | cons a l ih =>
    show f a + 256 * vB (l.map f) + (f' a + 256 * vB (l.map f')) = (f a + f' a) + 256 * vB (l.map fun a => f a + f' a)
    rw [← ih]
    omega
theorem stepA (l : List Nat) (h : ∀ a, a ∈ l → a < 256) : ((vB l / 2) &&& kB 85 l.length) ≤ vB l ∧ vB l - ((vB l / 2) &&& kB 85 l.length) = vB (l.map laA) := by
  rw [lane1 l h]
  exact vB_sub l (fun a ha => (d_4 a (h a ha)).1)
theorem stepB (l : List Nat) (h : ∀ a, a ∈ l → a < 256) : (vB l &&& kB 51 l.length) + ((vB l / 4) &&& kB 51 l.length) = vB (l.map laB) := by
  rw [lane0 l h, lane2 l h]
  exact vB_add l
theorem swar (b0 b1 b2 b3 b4 b5 b6 b7 : Nat) (h0 : b0 < 256) (h1 : b1 < 256) (h2 : b2 < 256) (h3 : b3 < 256) (h4 : b4 < 256) (h5 : b5 < 256) (h6 : b6 < 256) (h7 : b7 < 256) (n v1 v2 v3 : Nat) (hn : n = vB [b0, b1, b2, b3, b4, b5, b6, b7]) (e1 : v1 = n - ((n / 2) &&& kB 85 8)) (e2 : v2 = (v1 &&& kB 51 8) + ((v1 / 4) &&& kB 51 8)) (e3 : v3 = (v2 + v2 / 16) &&& kB 15 8) :
    ((n / 2) &&& kB 85 8) ≤ n ∧ v1 = vB ([b0, b1, b2, b3, b4, b5, b6, b7].map laA) ∧ v2 = vB ([b0, b1, b2, b3, b4, b5, b6, b7].map fun a => laB (laA a)) ∧ v3 = vB ([b0, b1, b2, b3, b4, b5, b6, b7].map fun a => laC (laB (laA a))) := by
  have hl : ∀ a, a ∈ [b0, b1, b2, b3, b4, b5, b6, b7] → a < 256 := by
    intro a ha
    simp only [List.mem_cons, List.not_mem_nil, or_false] at ha
    rcases ha with rfl | rfl | rfl | rfl | rfl | rfl | rfl | rfl <;> assumption
  obtain ⟨g1, g2⟩ := stepA _ hl
  have a1 : v1 = vB ([b0, b1, b2, b3, b4, b5, b6, b7].map laA) := by rw [e1, hn]; exact g2
  have hl2 : ∀ a, a ∈ [b0, b1, b2, b3, b4, b5, b6, b7].map laA → a < 256 := by
    intro a ha
    obtain ⟨b, hb, rfl⟩ := List.mem_map.mp ha
    exact (d_4 b (hl b hb)).2.1
  have a2 : v2 = vB ([b0, b1, b2, b3, b4, b5, b6, b7].map fun a => laB (laA a)) := by
    rw [e2, a1]
    exact stepB _ hl2
  have hl3 : ∀ a, a ∈ ([b0, b1, b2, b3, b4, b5, b6, b7].map fun a => laB (laA a)) → a < 69 ∧ a % 16 < 5 := by
    intro a ha
    obtain ⟨b, hb, rfl⟩ := List.mem_map.mp ha
    exact ⟨(d_4 b (hl b hb)).2.2.1, (d_4 b (hl b hb)).2.2.2.1⟩
  refine ⟨by rw [hn]; exact g1, a1, a2, ?_⟩
  rw [e3, a2]
  exact lane3 _ hl3
theorem k_85 : kB 85 8 = 6148914691236517205 := by decide +kernel
theorem k_51 : kB 51 8 = 3689348814741910323 := by decide +kernel
theorem k_15 : kB 15 8 = 1085102592571150095 := by decide +kernel
theorem dg1 {a w : Nat} (h : a < 256) : (a + 256 * w) / 256 = w := by omega
theorem dg2 {a b w : Nat} (ha : a < 256) (hb : b < 256) : (a + 256 * (b + 256 * w)) / 65536 = w := by omega
theorem dg4 {a b c d w : Nat} (ha : a < 256) (hb : b < 256) (hc : c < 256) (hd : d < 256) : (a + 256 * (b + 256 * (c + 256 * (d + 256 * w)))) / 4294967296 = w := by omega
theorem dgm {a w : Nat} (h : a < 256) : (a + 256 * w) % 256 = a := by omega
theorem lt2 {a b : Nat} (ha : a ≤ 8) (hb : b ≤ 8) : a + b < 256 := by omega
theorem lt4 {a b c d : Nat} (ha : a ≤ 8) (hb : b ≤ 8) (hc : c ≤ 8) (hd : d ≤ 8) : (a + b) + (c + d) < 256 := by omega
theorem fo1 (c0 c1 c2 c3 c4 c5 c6 c7 : Nat) (h0 : c0 < 256) : (c0 + 256 * (c1 + 256 * (c2 + 256 * (c3 + 256 * (c4 + 256 * (c5 + 256 * (c6 + 256 * (c7)))))))) + (c0 + 256 * (c1 + 256 * (c2 + 256 * (c3 + 256 * (c4 + 256 * (c5 + 256 * (c6 + 256 * (c7)))))))) / 256 = (c0 + c1) + 256 * ((c1 + c2) + 256 * ((c2 + c3) + 256 * ((c3 + c4) + 256 * ((c4 + c5) + 256 * ((c5 + c6) + 256 * ((c6 + c7) + 256 * (c7))))))) := by
  rw [dg1 h0]
  omega
theorem fo2 (c0 c1 c2 c3 c4 c5 c6 c7 : Nat) (h0 : c0 < 256) (h1 : c1 < 256) : (c0 + 256 * (c1 + 256 * (c2 + 256 * (c3 + 256 * (c4 + 256 * (c5 + 256 * (c6 + 256 * (c7)))))))) + (c0 + 256 * (c1 + 256 * (c2 + 256 * (c3 + 256 * (c4 + 256 * (c5 + 256 * (c6 + 256 * (c7)))))))) / 65536 = (c0 + c2) + 256 * ((c1 + c3) + 256 * ((c2 + c4) + 256 * ((c3 + c5) + 256 * ((c4 + c6) + 256 * ((c5 + c7) + 256 * (c6 + 256 * (c7))))))) := by
  rw [dg2 h0 h1]
  omega
theorem fo4 (c0 c1 c2 c3 c4 c5 c6 c7 : Nat) (h0 : c0 < 256) (h1 : c1 < 256) (h2 : c2 < 256) (h3 : c3 < 256) : (c0 + 256 * (c1 + 256 * (c2 + 256 * (c3 + 256 * (c4 + 256 * (c5 + 256 * (c6 + 256 * (c7)))))))) + (c0 + 256 * (c1 + 256 * (c2 + 256 * (c3 + 256 * (c4 + 256 * (c5 + 256 * (c6 + 256 * (c7)))))))) / 4294967296 = (c0 + c4) + 256 * ((c1 + c5) + 256 * ((c2 + c6) + 256 * ((c3 + c7) + 256 * (c4 + 256 * (c5 + 256 * (c6 + 256 * (c7))))))) := by
  rw [dg4 h0 h1 h2 h3]
  omega
theorem bnd8 (c0 c1 c2 c3 c4 c5 c6 c7 : Nat) (h0 : c0 ≤ 64) (h1 : c1 ≤ 64) (h2 : c2 ≤ 64) (h3 : c3 ≤ 64) (h4 : c4 ≤ 64) (h5 : c5 ≤ 64) (h6 : c6 ≤ 64) (h7 : c7 ≤ 64) : c0 + 256 * (c1 + 256 * (c2 + 256 * (c3 + 256 * (c4 + 256 * (c5 + 256 * (c6 + 256 * (c7))))))) < 2 ^ 64 := by omega
theorem fold8 (c0 c1 c2 c3 c4 c5 c6 c7 : Nat) (h0 : c0 ≤ 8) (h1 : c1 ≤ 8) (h2 : c2 ≤ 8) (h3 : c3 ≤ 8) (h4 : c4 ≤ 8) (h5 : c5 ≤ 8) (h6 : c6 ≤ 8) (h7 : c7 ≤ 8) (v3 v4 v5 v6 : Nat) (e3 : v3 = vB [c0, c1, c2, c3, c4, c5, c6, c7]) (e4 : v4 = v3 + v3 / 256) (e5 : v5 = v4 + v4 / 65536) (e6 : v6 = v5 + v5 / 4294967296) : v6 % 256 = c0 + c1 + c2 + c3 + c4 + c5 + c6 + c7 ∧ v6 < 2 ^ 64 ∧ v5 < 2 ^ 64 ∧ v4 < 2 ^ 64 ∧ v3 < 2 ^ 64 := by
  have E3 : v3 = c0 + 256 * (c1 + 256 * (c2 + 256 * (c3 + 256 * (c4 + 256 * (c5 + 256 * (c6 + 256 * (c7))))))) := by
    rw [e3]
    simp only [vB, Nat.mul_zero, Nat.add_zero]
  have E4 := e4
  rw [E3, fo1 _ _ _ _ _ _ _ _ (Nat.lt_of_le_of_lt h0 (by decide))] at E4
  have E5 := e5
  rw [E4, fo2 _ _ _ _ _ _ _ _ (lt2 h0 h1) (lt2 h1 h2)] at E5
  have E6 := e6
  rw [E5, fo4 _ _ _ _ _ _ _ _ (lt4 h0 h1 h2 h3) (lt4 h1 h2 h3 h4) (lt4 h2 h3 h4 h5) (lt4 h3 h4 h5 h6)] at E6
  clear e3 e4 e5 e6
  refine ⟨?_, ?_, ?_, ?_, ?_⟩
  · rw [E6]
    clear E3 E4 E5 E6
    rw [dgm (by omega)]
    omega
  · rw [E6]
    clear E3 E4 E5 E6
    apply bnd8 <;> omega
  · rw [E5]
    clear E3 E4 E5 E6
    apply bnd8 <;> omega
  · rw [E4]
    clear E3 E4 E5 E6
    apply bnd8 <;> omega
  · rw [E3]
    clear E3 E4 E5 E6
    apply bnd8 <;> omega
theorem wb_sub' {a b : Nat} (ha : a < 2 ^ 64) (h : b ≤ a) : lN a - lN b = lN (a - b) := by
  apply wb_inj
  rw [Int64.toBitVec_sub, wb_tb, wb_tb, wb_tb]
  apply BitVec.eq_of_toNat_eq
  rw [BitVec.toNat_sub, BitVec.toNat_ofNat, BitVec.toNat_ofNat, BitVec.toNat_ofNat, Nat.mod_eq_of_lt ha, Nat.mod_eq_of_lt (show b < 2 ^ 64 by omega), Nat.mod_eq_of_lt (show a - b < 2 ^ 64 by omega)]
  omega
theorem h_1 {n : Nat} (hn : n < 2 ^ 64) : (Int64.toUInt64 (lN n) >>> (Int64.toUInt64 (Int32.toInt64 (1 : Int32)) &&& Int64.toUInt64 63)).toInt64 = lN (n / 2) := wb_shr (k := 1) hn (by decide)
theorem h_2 {n : Nat} (hn : n < 2 ^ 64) : (Int64.toUInt64 (lN n) >>> (Int64.toUInt64 (Int32.toInt64 (2 : Int32)) &&& Int64.toUInt64 63)).toInt64 = lN (n / 4) := wb_shr (k := 2) hn (by decide)
theorem h_4 {n : Nat} (hn : n < 2 ^ 64) : (Int64.toUInt64 (lN n) >>> (Int64.toUInt64 (Int32.toInt64 (4 : Int32)) &&& Int64.toUInt64 63)).toInt64 = lN (n / 16) := wb_shr (k := 4) hn (by decide)
theorem h_8 {n : Nat} (hn : n < 2 ^ 64) : (Int64.toUInt64 (lN n) >>> (Int64.toUInt64 (Int32.toInt64 (8 : Int32)) &&& Int64.toUInt64 63)).toInt64 = lN (n / 256) := wb_shr (k := 8) hn (by decide)
theorem h_16 {n : Nat} (hn : n < 2 ^ 64) : (Int64.toUInt64 (lN n) >>> (Int64.toUInt64 (Int32.toInt64 (16 : Int32)) &&& Int64.toUInt64 63)).toInt64 = lN (n / 65536) := wb_shr (k := 16) hn (by decide)
theorem h_32 {n : Nat} (hn : n < 2 ^ 64) : (Int64.toUInt64 (lN n) >>> (Int64.toUInt64 (Int32.toInt64 (32 : Int32)) &&& Int64.toUInt64 63)).toInt64 = lN (n / 4294967296) := wb_shr (k := 32) hn (by decide)
def pop8 (a : Nat) : Nat := a % 2 + a / 2 % 2 + a / 4 % 2 + a / 8 % 2 + a / 16 % 2 + a / 32 % 2 + a / 64 % 2 + a / 128 % 2
theorem pop8_le (a : Nat) : pop8 a ≤ 8 := by unfold pop8; omega
theorem vB_lt8 {b0 b1 b2 b3 b4 b5 b6 b7 : Nat} (h0 : b0 < 256) (h1 : b1 < 256) (h2 : b2 < 256) (h3 : b3 < 256) (h4 : b4 < 256) (h5 : b5 < 256) (h6 : b6 < 256) (h7 : b7 < 256) : vB [b0, b1, b2, b3, b4, b5, b6, b7] < 2 ^ 64 := by
  simp only [vB]
  omega
theorem bit_v {b0 b1 b2 b3 b4 b5 b6 b7 : Nat} (h0 : b0 < 256) (h1 : b1 < 256) (h2 : b2 < 256) (h3 : b3 < 256) (h4 : b4 < 256) (h5 : b5 < 256) (h6 : b6 < 256) (h7 : b7 < 256) : fJ13_bitCount_95d88 (lN (vB [b0, b1, b2, b3, b4, b5, b6, b7])) = some (nI (pop8 b0 + pop8 b1 + pop8 b2 + pop8 b3 + pop8 b4 + pop8 b5 + pop8 b6 + pop8 b7)) := by
  have d4 : ∀ b, b < 256 → laC (laB (laA b)) = pop8 b := fun b hb => (d_4 b hb).2.2.2.2
  have hq : ∀ b, b < 256 → laA b < 256 ∧ laB (laA b) < 256 := fun b hb => ⟨(d_4 b hb).2.1, by have := (d_4 b hb).2.2.1; omega⟩
  obtain ⟨s0, s1, s2, s3⟩ := swar b0 b1 b2 b3 b4 b5 b6 b7 h0 h1 h2 h3 h4 h5 h6 h7 _ _ _ _ rfl rfl rfl rfl
  have n64 := vB_lt8 h0 h1 h2 h3 h4 h5 h6 h7
  generalize hn : vB [b0, b1, b2, b3, b4, b5, b6, b7] = n at *
  generalize hv1 : n - ((n / 2) &&& kB 85 8) = v1 at *
  generalize hv2 : (v1 &&& kB 51 8) + ((v1 / 4) &&& kB 51 8) = v2 at *
  generalize hv3 : (v2 + v2 / 16) &&& kB 15 8 = v3 at *
  have v164 : v1 < 2 ^ 64 := by omega
  have v264 : v2 < 2 ^ 63 := by
    rw [s2]
    simp only [List.map, vB]
    have := (d_4 b0 h0).2.2.1
    have := (d_4 b1 h1).2.2.1
    have := (d_4 b2 h2).2.2.1
    have := (d_4 b3 h3).2.2.1
    have := (d_4 b4 h4).2.2.1
    have := (d_4 b5 h5).2.2.1
    have := (d_4 b6 h6).2.2.1
    have := (d_4 b7 h7).2.2.1
    omega
  have s3' : v3 = vB [pop8 b0, pop8 b1, pop8 b2, pop8 b3, pop8 b4, pop8 b5, pop8 b6, pop8 b7] := by
    rw [s3]
    simp only [List.map]
    rw [d4 b0 h0, d4 b1 h1, d4 b2 h2, d4 b3 h3, d4 b4 h4, d4 b5 h5, d4 b6 h6, d4 b7 h7]
  obtain ⟨f1, f2, f3, f4, f5⟩ := fold8 _ _ _ _ _ _ _ _ (pop8_le b0) (pop8_le b1) (pop8_le b2) (pop8_le b3) (pop8_le b4) (pop8_le b5) (pop8_le b6) (pop8_le b7) v3 _ _ _ s3' rfl rfl rfl
  have k85 : (6148914691236517205 : Int64) = lN (kB 85 8) := by rw [k_85]; rfl
  have k51 : (3689348814741910323 : Int64) = lN (kB 51 8) := by rw [k_51]; rfl
  have k15 : (1085102592571150095 : Int64) = lN (kB 15 8) := by rw [k_15]; rfl
  have b85 : kB 85 8 < 2 ^ 64 := by rw [k_85]; omega
  have b51 : kB 51 8 < 2 ^ 64 := by rw [k_51]; omega
  have b15 : kB 15 8 < 2 ^ 64 := by rw [k_15]; omega
  unfold fJ13_bitCount_95d88 jJ13_bitCount_95d88_24 jJ13_bitCount_95d88_41 jJ13_bitCount_95d88_55
  rw [k85, k51, k15, h_1 n64, wb_and (show n / 2 < 2 ^ 64 by omega) b85, wb_sub' n64 s0, hv1, wb_and v164 b51, h_2 v164, wb_and (show v1 / 4 < 2 ^ 64 by omega) b51, lN_add, hv2, h_4 (show v2 < 2 ^ 64 by omega), lN_add, wb_and (show v2 + v2 / 16 < 2 ^ 64 by omega) b15, hv3, h_8 f5, lN_add, h_16 f4, lN_add, h_32 f3, lN_add, lN_i, show (127 : Int32) = nI (2 ^ 7 - 1) from rfl, fa_and, Nat.and_two_pow_sub_one_eq_mod]
  have p0 := pop8_le b0
  have p1 := pop8_le b1
  have p2 := pop8_le b2
  have p3 := pop8_le b3
  have p4 := pop8_le b4
  have p5 := pop8_le b5
  have p6 := pop8_le b6
  have p7 := pop8_le b7
  congr 2
  omega
