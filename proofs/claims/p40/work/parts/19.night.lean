/-! ===== nights in numbers ===== -/
/-- how many are lost; depths, drifts, parishes, what is owed; lamp, burns, walks; the law -/
abbrev SEA : Type := Nat × (Nat → Nat) × (Nat → Nat) × (Nat → Nat) × (Nat → Nat) × Nat × Nat × Nat × ((Nat → Int32) → Int32)
def SEA.lost (w : SEA) : Nat := w.1
def SEA.dp (w : SEA) : Nat → Nat := w.2.1
def SEA.df (w : SEA) : Nat → Nat := w.2.2.1
def SEA.pa (w : SEA) : Nat → Nat := w.2.2.2.1
def SEA.ow (w : SEA) : Nat → Nat := w.2.2.2.2.1
def SEA.lamp (w : SEA) : Nat := w.2.2.2.2.2.1
def SEA.burns (w : SEA) : Nat := w.2.2.2.2.2.2.1
def SEA.walks (w : SEA) : Nat := w.2.2.2.2.2.2.2.1
def SEA.lf (w : SEA) : (Nat → Int32) → Int32 := w.2.2.2.2.2.2.2.2
/-- cells, who is home (0, 1), oil -/
abbrev STD : Type := (Nat → Nat) × (Nat → Nat) × Nat
def STD.cell (t : STD) : Nat → Nat := t.1
def STD.home (t : STD) : Nat → Nat := t.2.1
def STD.oil (t : STD) : Nat := t.2.2
def SOK (w : SEA) : Prop := w.lost ≤ 10 ∧ (∀ c, c < 64 → w.dp c < 10 ∧ w.df c < 5) ∧ (∀ i, i < w.lost → w.pa i < 4 ∧ w.ow i < 10) ∧ w.lamp < 64 ∧ (1 ≤ w.burns ∧ w.burns < 10) ∧ (1 ≤ w.walks ∧ w.walks < 10)
def TOK (w : SEA) (t : STD) : Prop := (∀ i, i < w.lost → t.cell i < 64 ∧ t.home i ≤ 1) ∧ t.oil < 1000
def besF (w : SEA) (t : STD) (i : Nat) : Nat → Nat := fun j => if t.home j = 0 ∧ j ≠ i ∧ t.cell j = t.cell i then 1 else 0
def kinF (w : SEA) (t : STD) (i : Nat) : Nat → Nat := fun j => if t.home j = 1 ∧ w.pa j = w.pa i then 1 else 0
def namF (w : SEA) (t : STD) (i : Nat) : Nat → Int32 := fun k => match k with
  | 0 => nI (farF w.lamp (t.cell i))
  | 1 => nI (w.dp (t.cell i))
  | 2 => nI (w.ow i)
  | 3 => nI (nsum (besF w t i) w.lost)
  | 4 => nI (nsum (kinF w t i) w.lost)
  | _ => nI t.oil
def clampF (v : Int32) : Int32 := if v < 0 then 0 else if 9 < v then 9 else v
def pullF (w : SEA) (t : STD) (i : Nat) : Int32 := clampF (w.lf (namF w t i))
def burnF (w : SEA) (t : STD) (way : Nat) : Bool := decide (way ≠ 4 ∧ w.burns ≤ t.oil)
def walkF (w : SEA) (t : STD) (way i : Nat) : Bool := t.home i == 0 && burnF w t way && litF w.lamp way (t.cell i) && decide (nI w.walks ≤ pullF w t i)
def goalF (w : SEA) (t : STD) (way i : Nat) : Nat := if t.home i = 0 then (if walkF w t way i = true then nearF w.lamp (t.cell i) else carF (w.df (t.cell i)) (t.cell i)) else t.cell i
def homeF (w : SEA) (t : STD) (way i : Nat) : Nat := if t.home i = 0 then (if goalF w t way i = w.lamp then 1 else 0) else t.home i
def passF (w : SEA) (t : STD) (way : Nat) : STD := (goalF w t way, fun i => if i < w.lost ∧ goalF w t way i = w.lamp then 1 else t.home i, t.oil - (if burnF w t way = true then w.burns else 0))
def stepF (w : SEA) (t : STD) (way : Nat) : Nat → Nat := fun i => if walkF w t way i = true then 1 else 0
def cameF (w : SEA) (t : STD) (way : Nat) : Nat := nsum (passF w t way).home w.lost - nsum t.home w.lost
theorem clamp_eq (v : Int32) : (if (0 : Int32) < (if v < 9 then v else 9) then (if v < 9 then v else 9) else 0) = clampF v := by
  unfold clampF
  by_cases h1 : v < 0
  · rw [if_pos h1]
    have h2 : v < 9 := by
      rw [Int32.lt_iff_toInt_lt] at h1 ⊢
      have e0 : (0 : Int32).toInt = 0 := rfl
      have e9 : (9 : Int32).toInt = 9 := rfl
      omega
    rw [if_pos h2, if_neg]
    rw [Int32.lt_iff_toInt_lt] at h1 ⊢
    omega
  · rw [if_neg h1]
    have e0 : (0 : Int32).toInt = 0 := rfl
    have e9 : (9 : Int32).toInt = 9 := rfl
    rw [Int32.lt_iff_toInt_lt, e0] at h1
    by_cases h2 : 9 < v
    · rw [if_pos h2]
      rw [Int32.lt_iff_toInt_lt, e9] at h2
      rw [if_neg (show ¬ v < 9 by rw [Int32.lt_iff_toInt_lt, e9]; omega), if_pos (by decide)]
    · rw [if_neg h2]
      rw [Int32.lt_iff_toInt_lt, e9] at h2
      by_cases h3 : v < 9
      · rw [if_pos h3]
        by_cases h4 : 0 < v
        · rw [if_pos h4]
        · rw [if_neg h4]
          rw [Int32.lt_iff_toInt_lt, e0] at h4
          exact Int32.toInt_inj.mp (by rw [e0]; omega)
      · rw [if_neg h3, if_pos (by decide)]
        rw [Int32.lt_iff_toInt_lt, e9] at h3
        exact Int32.toInt_inj.mp (by rw [e9]; omega)
theorem passF_ok {w : SEA} {t : STD} {way : Nat} (hw : SOK w) (ht : TOK w t) : TOK w (passF w t way) := by
  obtain ⟨h1, h2, h3, h4, h5, h6⟩ := hw
  refine ⟨fun i hi => ⟨?_, ?_⟩, ?_⟩
  · show goalF w t way i < 64
    have hc := (ht.1 i hi).1
    unfold goalF
    split
    · split
      · rename_i hwk
        unfold walkF at hwk
        simp only [Bool.and_eq_true] at hwk
        exact nearF_lt h4 hc (litF_ne hwk.1.2)
      · exact carF_lt hc
    · exact hc
  · show (if i < w.lost ∧ goalF w t way i = w.lamp then 1 else t.home i) ≤ 1
    have := (ht.1 i hi).2
    split <;> omega
  · show t.oil - _ < 1000
    have := ht.2
    omega
/-! what a run left as it was -/
def Only (h h' : aH) (R F : List Nat) : Prop := (∀ a, a ∉ R → ri h' a = ri h a) ∧ (∀ a, a ∉ F → fi h' a = fi h a) ∧ rj h' = rj h
theorem Only.rf (h : aH) (R F : List Nat) : Only h h R F := ⟨fun _ _ => rfl, fun _ _ => rfl, rfl⟩
theorem Only.trans {h h1 h2 : aH} {R F R1 F1 R2 F2 : List Nat} (a : Only h h1 R1 F1) (b : Only h1 h2 R2 F2) (r1 : ∀ x ∈ R1, x ∈ R) (r2 : ∀ x ∈ R2, x ∈ R) (f1 : ∀ x ∈ F1, x ∈ F) (f2 : ∀ x ∈ F2, x ∈ F) : Only h h2 R F :=
  ⟨fun q hq => (b.1 q (fun z => hq (r2 q z))).trans (a.1 q (fun z => hq (r1 q z))), fun q hq => (b.2.1 q (fun z => hq (f2 q z))).trans (a.2.1 q (fun z => hq (f1 q z))), b.2.2.trans a.2.2⟩
theorem Only.same {h h1 h2 : aH} {R F : List Nat} (a : Only h h1 R F) (b : Only h1 h2 R F) : Only h h2 R F := a.trans b (fun _ z => z) (fun _ z => z) (fun _ z => z) (fun _ z => z)
theorem Only.wide {h h1 : aH} {R F R1 F1 : List Nat} (a : Only h h1 R1 F1) (r1 : ∀ x ∈ R1, x ∈ R) (f1 : ∀ x ∈ F1, x ∈ F) : Only h h1 R F := a.trans (Only.rf h1 R F) r1 (fun _ z => z) f1 (fun _ z => z)
theorem Only.sri {h h1 : aH} {R F : List Nat} (a : Only h h1 R F) {q k : Nat} {v : Int32} (hq : q ∈ R) : Only h (sri h1 q k v) R F :=
  ⟨fun b hb => (va_up_ne _ _ (fun z => hb (by rw [z]; exact hq))).trans (a.1 b hb), a.2.1, a.2.2⟩
theorem Only.sfi {h h1 : aH} {R F : List Nat} (a : Only h h1 R F) {q k : Nat} {v : Int32} (hq : q ∈ F) : Only h (sfi h1 q k v) R F :=
  ⟨a.1, fun b hb => (va_up_ne _ _ (fun z => hb (by rw [z]; exact hq))).trans (a.2.1 b hb), a.2.2⟩
theorem Only.srow {h h1 : aH} {R F : List Nat} (a : Only h h1 R F) {q : Nat} {f : Nat → Int32} (hq : q ∈ R) : Only h (srow h1 q f) R F :=
  ⟨fun b hb => (va_up_ne _ _ (fun z => hb (by rw [z]; exact hq))).trans (a.1 b hb), a.2.1, a.2.2⟩
/-! reads behind writes -/
theorem ri_sri_ne {h : aH} {a b k : Nat} {v : Int32} (hb : b ≠ a) : ri (sri h a k v) b = ri h b := va_up_ne _ _ hb
theorem ri_sri_at {h : aH} {a k : Nat} {v : Int32} : ri (sri h a k v) a k = v := by rw [ri_sri, va_up_self]
theorem ri_sri_off {h : aH} {a k j : Nat} {v : Int32} (hj : j ≠ k) : ri (sri h a k v) a j = ri h a j := by rw [ri_sri, va_up_ne _ _ hj]
theorem fi_sri {h : aH} {a k : Nat} {v : Int32} : fi (sri h a k v) = fi h := rfl
theorem rj_sri {h : aH} {a k : Nat} {v : Int32} : rj (sri h a k v) = rj h := rfl
theorem ri_sfi {h : aH} {a k : Nat} {v : Int32} : ri (sfi h a k v) = ri h := rfl
theorem rj_sfi {h : aH} {a k : Nat} {v : Int32} : rj (sfi h a k v) = rj h := rfl
theorem fi_sfi {h : aH} {a k : Nat} {v : Int32} : fi (sfi h a k v) a = va_up (fi h a) k v := va_up_self _ _ _
theorem fi_sfi_ne {h : aH} {a b k : Nat} {v : Int32} (hb : b ≠ a) : fi (sfi h a k v) b = fi h b := va_up_ne _ _ hb
theorem fi_sfi_at {h : aH} {a k : Nat} {v : Int32} : fi (sfi h a k v) a k = v := by rw [fi_sfi, va_up_self]
theorem fi_sfi_off {h : aH} {a k j : Nat} {v : Int32} (hj : j ≠ k) : fi (sfi h a k v) a j = fi h a j := by rw [fi_sfi, va_up_ne _ _ hj]
theorem ri_srow {h : aH} {a : Nat} {f : Nat → Int32} : ri (srow h a f) a = f := va_up_self _ _ _
theorem ri_srow_ne {h : aH} {a b : Nat} {f : Nat → Int32} (hb : b ≠ a) : ri (srow h a f) b = ri h b := va_up_ne _ _ hb
theorem fi_srow {h : aH} {a : Nat} {f : Nat → Int32} : fi (srow h a f) = fi h := rfl
/-! the law's steps -/
def jopF (s x y : Int32) : Int32 := if s = 124 then bI (x ≠ 0 ∨ y ≠ 0) else if s = 38 then bI (x ≠ 0 ∧ y ≠ 0) else if s = 60 then bI (x < y) else if s = 61 then bI (x = y) else if s = 62 then bI (y < x) else if s = 43 then x + y else if s = 45 then x - y else if s = 42 then x * y else if s = 47 then (if y = 0 then 0 else x / y) else if s = 37 then (if y = 0 then 0 else x - x / y * y) else 0
def workL (st ar : Nat → Int32) (len : Nat) (nm : Nat → Int32) : Nat → List Int32 → Nat → Int32
  | 0, _, _ => 0
  | n + 1, P, i =>
    if i < len ∧ P.length < 128 then
      if st i = 1 then workL st ar len nm n (ar i :: P) (i + 1)
      else if st i = 2 then workL st ar len nm n (nm (ar i).toNatClampNeg :: P) (i + 1)
      else match P with
        | [] => 0
        | x :: r =>
          if st i = 5 then x
          else if st i = 4 then workL st ar len nm n r (if x = 0 then max (i + 1) (ar i).toNatClampNeg else i + 1)
          else if st i = 3 then workL st ar len nm n (-x :: r) (i + 1)
          else if st i = 33 then workL st ar len nm n (bI (x = 0) :: r) (i + 1)
          else match r with
            | [] => 0
            | y :: r' => workL st ar len nm n (jopF (st i) y x :: r') (i + 1)
    else 0
def workF (st ar : Nat → Int32) (len : Nat) (nm : Nat → Int32) : Int32 := if len = 0 then 6 - nm 1 / 2 - nm 2 / 3 else workL st ar len nm len [] 0
def LAWC (h : aH) (lf : (Nat → Int32) → Int32) : Prop := ∃ n, n ≤ 128 ∧ fi h 10 2 = nI n ∧ (∀ j, j < n → ri h 11 j = 2 → ∃ k, k < 6 ∧ ri h 12 j = nI k) ∧ (∀ j, j < n → ri h 11 j = 4 → ∃ k, k ≤ 128 ∧ ri h 12 j = nI k) ∧ ∀ nm, lf nm = workF (ri h 11) (ri h 12) n nm
def PileR (f : Nat → Int32) : List Int32 → Prop
  | [] => True
  | x :: r => f r.length = x ∧ PileR f r
theorem PileR.up {f : Nat → Int32} {P : List Int32} {k : Nat} {v : Int32} (h : PileR f P) (hk : P.length ≤ k) : PileR (va_up f k v) P := by
  induction P with
  | nil => trivial
  | cons x r ih =>
    have : r.length + 1 ≤ k := hk
    exact ⟨(va_up_ne _ _ (by omega)).trans h.1, ih h.2 (by omega)⟩
theorem PileR.push {f : Nat → Int32} {P : List Int32} {v : Int32} (h : PileR f P) : PileR (va_up f P.length v) (v :: P) := ⟨va_up_self _ _ _, h.up (Nat.le_refl _)⟩
