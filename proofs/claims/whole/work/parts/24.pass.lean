/-! ===== Stand: pass ===== -/
def TALF (f : Nat → Int32) (w : SEA) (t : STD) (way : Nat) : Nat → Int32 := fun k => match k with
  | 0 => f 0 + 1
  | 1 => f 1 + bI (burnF w t way = true)
  | 2 => f 2 + nI (nsum (stepF w t way) w.lost)
  | 3 => f 3 + nI (cameF w t way)
  | k => f k
def LI (h g : aH) (a : Nat) (w : SEA) (t : STD) (way i : Nat) : Prop := Only h g [13, 14, a + 2, a + 3] [] ∧ (∀ j, j < i → ri g (a + 3) j = nI (goalF w t way j)) ∧ ri g (a + 2) 2 = ri h (a + 2) 2 + nI (nsum (stepF w t way) i) ∧ ∀ k, k ≠ 2 → ri g (a + 2) k = ri h (a + 2) k
theorem LI.keep {h g g1 : aH} {a : Nat} {w : SEA} {t : STD} {way i : Nat} (H : LI h g a w t way i) (ha : 15 ≤ a) (o : Only g g1 [13, 14] []) : LI h g1 a w t way i := by
  obtain ⟨a1, a2, a3, a4⟩ := H
  refine ⟨a1.trans o (fun _ z => z) (fun x z => ?_) (fun _ z => z) (fun _ z => z), ?_, ?_, ?_⟩
  · simp only [List.mem_cons, List.not_mem_nil, or_false] at z ⊢
    omega
  · rw [o.1 (a + 3) (by simp only [List.mem_cons, List.not_mem_nil, or_false]; omega)]; exact a2
  · rw [o.1 (a + 2) (by simp only [List.mem_cons, List.not_mem_nil, or_false]; omega)]; exact a3
  · rw [o.1 (a + 2) (by simp only [List.mem_cons, List.not_mem_nil, or_false]; omega)]; exact a4
theorem LI.drift {h g : aH} {a : Nat} {w : SEA} {t : STD} {way i v : Nat} (H : LI h g a w t way i) (hs : walkF w t way i = false) (hg : goalF w t way i = v) : LI h (sri g (a + 3) i (nI v)) a w t way (i + 1) := by
  obtain ⟨a1, a2, a3, a4⟩ := H
  refine ⟨a1.sri (by simp), fun j hj => ?_, ?_, fun k hk => ?_⟩
  · by_cases h1 : j = i
    · subst h1; rw [ri_sri_at, hg]
    · rw [ri_sri_off h1]; exact a2 j (by omega)
  · rw [ri_sri_ne (by omega), a3]
    show _ = _ + nI (nsum (stepF w t way) i + stepF w t way i)
    rw [show stepF w t way i = 0 by unfold stepF; rw [if_neg (by rw [hs]; decide)]]
    rfl
  · rw [ri_sri_ne (by omega)]; exact a4 k hk
theorem LI.walk {h g : aH} {a : Nat} {w : SEA} {t : STD} {way i v : Nat} (H : LI h g a w t way i) (hs : walkF w t way i = true) (hg : goalF w t way i = v) : LI h (sri (sri g (a + 3) i (nI v)) (a + 2) 2 (ri (sri g (a + 3) i (nI v)) (a + 2) 2 + 1)) a w t way (i + 1) := by
  obtain ⟨a1, a2, a3, a4⟩ := H
  refine ⟨(a1.sri (by simp)).sri (by simp), fun j hj => ?_, ?_, fun k hk => ?_⟩
  · rw [ri_sri_ne (by omega)]
    by_cases h1 : j = i
    · subst h1; rw [ri_sri_at, hg]
    · rw [ri_sri_off h1]; exact a2 j (by omega)
  · rw [ri_sri_at, ri_sri_ne (by omega), a3]
    show _ = _ + nI (nsum (stepF w t way) i + stepF w t way i)
    rw [show stepF w t way i = 1 by unfold stepF; rw [if_pos hs], ← nI_1, Int32.add_assoc]
  · rw [ri_sri_off hk, ri_sri_ne (by omega)]; exact a4 k hk
theorem c_pass_loop1 (Z : aZ) (d : Nat) (h : aH) {a : Nat} (hA : SD a) {w : SEA} {t : STD} (hw : SOK w) (ht : TOK w t) (hs : SEAC h w) (hd : SDC h a w t) {way : Nat} (hway : way < 5) (Q : Option Value → aH → Prop)
    (k : ∀ g j4, LI h g a w t way w.lost → T0 Z mX8_pass (d + 3) g Q 143 [.ref a, .int (nI way), .int (bI (burnF w t way = true)), .int (nI w.lost), j4] []) :
    ∀ n i g j4, i + n = w.lost → LI h g a w t way i → T0 Z mX8_pass (d + 3) g Q 27 [.ref a, .int (nI way), .int (bI (burnF w t way = true)), .int (nI i), j4] [] := by
  obtain ⟨w1, w2, w3, w4, w5, w6⟩ := id hw
  have hlo := hA.lo
  have hf : ∀ i, i < w.lost → t.home i ≤ 1 := fun i hi => (ht.1 i hi).2
  intro n
  induction n with
  | zero =>
    intro i g j4 hi hL
    obtain rfl : i = w.lost := by omega
    have dg := hd.keep hL.1 (by simp only [List.mem_cons, List.not_mem_nil, or_false]; omega) (by simp)
    have d1 := dg.1
    refine T_iload dX8_pass_27 rfl ?_
    refine T_aload dX8_pass_28 rfl ?_
    refine T_getfN (by first | assumption | rfl) dX8_pass_29 lfX8_36 rfl (SD.kd0 hA) (SD.nx0 hA) ?_
    refine T_icmp_ge dX8_pass_32 (fun c32 => ?_) (fun c32 => by first | exact absurd c32 ((by exact Int32.le_refl _)) | exact absurd ((by exact Int32.le_refl _)) c32)
    exact k g j4 hL
  | succ n ih =>
    intro i g j4 hi hL
    have hlt : i < w.lost := by omega
    have dg := hd.keep hL.1 (by simp only [List.mem_cons, List.not_mem_nil, or_false]; omega) (by simp)
    have sg := hs.keep hL.1 (by intro b hb; simp only [List.mem_cons, List.not_mem_nil, or_false] at hb ⊢; omega) (by simp)
    obtain ⟨d1, d2, d3, d4⟩ := id dg
    obtain ⟨s1, s2, s3, s4, s5, s6, s7, s8⟩ := id sg
    have hc := (ht.1 i hlt).1
    refine T_iload dX8_pass_27 rfl ?_
    refine T_aload dX8_pass_28 rfl ?_
    refine T_getfN (by first | assumption | rfl) dX8_pass_29 lfX8_36 rfl (SD.kd0 hA) (SD.nx0 hA) ?_
    refine T_icmp_ge dX8_pass_32 (fun c32 => by first | exact absurd c32 ((by rw [nI_le' (by omega) (by omega)]; omega)) | exact absurd ((by rw [nI_le' (by omega) (by omega)]; omega)) c32) (fun c32 => ?_)
    refine T_aload dX8_pass_35 rfl ?_
    refine T_getr dX8_pass_36 lfX8_9 rfl (SD.kd0 hA) (SD.nx0 hA) (SD.f2 hA) ?_
    refine T_iload dX8_pass_39 rfl ?_
    refine T_ialdN (N := 10) dX8_pass_40 (SD.k2 hA) (SD.n2 hA) (SD.l2 hA) rfl (by omega) (by decide) ?_
    rw [d2 i hlt]
    refine T_istore dX8_pass_41 ?_
    show TK _ _ _ _ _ _ _ _ _ [_, _, _, _, _] _
    refine T_aload dX8_pass_43 rfl ?_
    refine T_iload dX8_pass_44 rfl ?_
    refine T0_Vp (c_isHome Z (d + 2) g hA d3 w1 hf hlt) dX8_pass_45 lvX8_54 rfl rfl (SD.kd0 hA) (SD.nx0 hA) (Nat.le_of_ble_eq_true rfl) ?_
    have drift : walkF w t way i = false → t.home i = 0 → ∀ g1, LI h g1 a w t way i → T0 Z mX8_pass (d + 3) g1 Q 122 [.ref a, .int (nI way), .int (bI (burnF w t way = true)), .int (nI i), .int (nI (t.cell i))] [] := by
      intro hwk h0 g1 hL1
      have sg1 := hs.keep hL1.1 (by intro b hb; simp only [List.mem_cons, List.not_mem_nil, or_false] at hb ⊢; omega) (by simp)
      refine T_aload dX8_pass_122 rfl ?_
      refine T_getr dX8_pass_123 lfX8_18 rfl (SD.kd0 hA) (SD.nx0 hA) (SD.f4 hA) ?_
      refine T_iload dX8_pass_126 rfl ?_
      refine T_aload dX8_pass_127 rfl ?_
      refine T_getr dX8_pass_128 lfX8_25 rfl (SD.kd0 hA) (SD.nx0 hA) (SD.f0 hA) ?_
      refine T_iload dX8_pass_131 rfl ?_
      refine T0_Vp (c_carried Z (d + 2) g1 (sg1.2.2.2.2.1 _ hc) (w2 _ hc).2 hc) dX8_pass_133 lvX8_72 rfl rfl rfl (by decide) (Nat.le_of_ble_eq_true rfl) ?_
      refine T_iastN (N := 10) dX8_pass_136 (SD.k4 hA) (SD.n4 hA) (SD.l4 hA) rfl (by omega) (by decide) ?_
      have e := hL1.drift (v := carF (w.df (t.cell i)) (t.cell i)) hwk (by unfold goalF; rw [if_pos h0, if_neg (by rw [hwk]; decide)])
      first | refine T_iinc1 dX8_pass_137 rfl ?_ | refine T_iinc dX8_pass_137 rfl ?_
      show TK _ _ _ _ _ _ _ _ _ [_, _, _, _, _] _
      refine T_goto dX8_pass_140 ?_
      exact ih (i + 1) _ _ (by omega) e
    rcases (show t.home i = 0 ∨ t.home i = 1 by have := hf i hlt; omega) with e | e
    · rw [e]
      refine T_if_eq dX8_pass_48 (fun c48 => ?_) (fun c48 => by first | exact absurd c48 ((by rfl)) | exact absurd ((by rfl)) c48)
      refine T_iload dX8_pass_62 rfl ?_
      by_cases hb : burnF w t way = true
      · rw [bI_t hb]
        have hw4 : way < 4 := by
          unfold burnF at hb
          simp only [decide_eq_true_eq] at hb
          omega
        refine T_if_eq dX8_pass_63 (fun c63 => by first | exact absurd c63 ((by decide)) | exact absurd ((by decide)) c63) (fun c63 => ?_)
        refine T_aload dX8_pass_66 rfl ?_
        refine T_getr dX8_pass_67 lfX8_25 rfl (SD.kd0 hA) (SD.nx0 hA) (SD.f0 hA) ?_
        refine T_iload dX8_pass_70 rfl ?_
        refine T_iload dX8_pass_71 rfl ?_
        refine T0_Vp (c_isLit Z (d + 2) g s1 w4 hw4 hc) dX8_pass_73 lvX8_58 rfl rfl rfl (by decide) (Nat.le_of_ble_eq_true rfl) ?_
        by_cases hl : litF w.lamp way (t.cell i) = true
        · rw [bI_t hl]
          refine T_if_eq dX8_pass_76 (fun c76 => by first | exact absurd c76 ((by decide)) | exact absurd ((by decide)) c76) (fun c76 => ?_)
          refine T_aload dX8_pass_79 rfl ?_
          refine T_iload dX8_pass_80 rfl ?_
          refine T0_V (c_pull Z d g hA hw ht sg dg hlt) dX8_pass_81 lvX8_62 rfl rfl (SD.kd0 hA) (SD.nx0 hA) (Nat.le_of_ble_eq_true rfl) (fun r h1 q => ?_)
          obtain ⟨rfl, o1⟩ := q
          have hL1 := hL.keep hlo.1 o1
          have sg1 := hs.keep hL1.1 (by intro b hb; simp only [List.mem_cons, List.not_mem_nil, or_false] at hb ⊢; omega) (by simp)
          have s31 := sg1.2.2.1
          show T0 Z mX8_pass (d + 3) h1 Q 84 _ [_]
          refine T_aload dX8_pass_84 rfl ?_
          refine T_getr dX8_pass_85 lfX8_25 rfl (SD.kd0 hA) (SD.nx0 hA) (SD.f0 hA) ?_
          refine T_getfN (by first | assumption | rfl) dX8_pass_88 lfX8_66 rfl rfl (by decide) ?_
          refine T_icmp_lt dX8_pass_91 (fun c91 => ?_) (fun c91 => ?_)
          · have hwk : walkF w t way i = false := by
              unfold walkF
              rw [decide_eq_false (Int32.not_le.mpr c91), Bool.and_false]
            have := drift hwk e h1 hL1
            rw [bI_t hb] at this
            exact this
          · have hwk : walkF w t way i = true := by
              unfold walkF
              rw [decide_eq_true (Int32.not_lt.mp c91), hb, hl, e]
              rfl
            refine T_aload dX8_pass_94 rfl ?_
            refine T_getr dX8_pass_95 lfX8_18 rfl (SD.kd0 hA) (SD.nx0 hA) (SD.f4 hA) ?_
            refine T_iload dX8_pass_98 rfl ?_
            refine T_aload dX8_pass_99 rfl ?_
            refine T_getr dX8_pass_100 lfX8_25 rfl (SD.kd0 hA) (SD.nx0 hA) (SD.f0 hA) ?_
            refine T_iload dX8_pass_103 rfl ?_
            refine T0_Vp (c_nearer Z (d + 2) h1 sg1.1 w4 hc (litF_ne hl)) dX8_pass_105 lvX8_69 rfl rfl rfl (by decide) (Nat.le_of_ble_eq_true rfl) ?_
            refine T_iastN (N := 10) dX8_pass_108 (SD.k4 hA) (SD.n4 hA) (SD.l4 hA) rfl (by omega) (by decide) ?_
            refine T_aload dX8_pass_109 rfl ?_
            refine T_getr dX8_pass_110 lfX8_15 rfl (SD.kd0 hA) (SD.nx0 hA) (SD.f3 hA) ?_
            refine T_const dX8_pass_113 ?_
            refine T_dup2 dX8_pass_114 rfl rfl ?_
            refine T_ialdN (N := 5) (i := 2) dX8_pass_115 (SD.k3 hA) (SD.n3 hA) (SD.l3 hA) rfl (by omega) (by decide) ?_
            refine T_const dX8_pass_116 ?_
            refine T_iadd dX8_pass_117 ?_
            refine T_iastN (N := 5) (i := 2) dX8_pass_118 (SD.k3 hA) (SD.n3 hA) (SD.l3 hA) rfl (by omega) (by decide) ?_
            refine T_goto dX8_pass_119 ?_
            have e2 := hL1.walk (v := nearF w.lamp (t.cell i)) hwk (by unfold goalF; rw [if_pos e, if_pos hwk])
            first | refine T_iinc1 dX8_pass_137 rfl ?_ | refine T_iinc dX8_pass_137 rfl ?_
            show TK _ _ _ _ _ _ _ _ _ [_, _, _, _, _] _
            refine T_goto dX8_pass_140 ?_
            have := ih (i + 1) _ (.int (nI (t.cell i))) (by omega) e2
            rw [bI_t hb] at this
            exact this
        · rw [bI_f hl]
          have hwk : walkF w t way i = false := by
            unfold walkF
            rw [show litF w.lamp way (t.cell i) = false by simpa using hl, Bool.and_false, Bool.false_and]
          refine T_if_eq dX8_pass_76 (fun c76 => ?_) (fun c76 => by first | exact absurd c76 ((by rfl)) | exact absurd ((by rfl)) c76)
          have := drift hwk e g hL
          rw [bI_t hb] at this
          exact this
      · rw [bI_f hb]
        have hwk : walkF w t way i = false := by
          unfold walkF
          rw [show burnF w t way = false by simpa using hb, Bool.and_false, Bool.false_and, Bool.false_and]
        refine T_if_eq dX8_pass_63 (fun c63 => ?_) (fun c63 => by first | exact absurd c63 ((by rfl)) | exact absurd ((by rfl)) c63)
        have := drift hwk e g hL
        rw [bI_f hb] at this
        exact this
    · rw [e]
      refine T_if_eq dX8_pass_48 (fun c48 => by first | exact absurd c48 ((by decide)) | exact absurd ((by decide)) c48) (fun c48 => ?_)
      have hwk : walkF w t way i = false := by
        unfold walkF
        rw [e]
        rfl
      refine T_aload dX8_pass_51 rfl ?_
      refine T_getr dX8_pass_52 lfX8_18 rfl (SD.kd0 hA) (SD.nx0 hA) (SD.f4 hA) ?_
      refine T_iload dX8_pass_55 rfl ?_
      refine T_iload dX8_pass_56 rfl ?_
      refine T_iastN (N := 10) dX8_pass_58 (SD.k4 hA) (SD.n4 hA) (SD.l4 hA) rfl (by omega) (by decide) ?_
      refine T_goto dX8_pass_59 ?_
      have e2 := hL.drift (v := t.cell i) hwk (by unfold goalF; rw [if_neg (by omega)])
      first | refine T_iinc1 dX8_pass_137 rfl ?_ | refine T_iinc dX8_pass_137 rfl ?_
      show TK _ _ _ _ _ _ _ _ _ [_, _, _, _, _] _
      refine T_goto dX8_pass_140 ?_
      exact ih (i + 1) _ _ (by omega) e2
def hmF (w : SEA) (t : STD) (way i : Nat) : Nat → Nat := fun j => if j < i ∧ goalF w t way j = w.lamp then 1 else t.home j
def LJ (h g : aH) (a : Nat) (w : SEA) (t : STD) (way i o2 : Nat) (TT : Nat → Int32) : Prop := Only h g [13, 14, a + 1, a + 2, a + 3] [a] ∧ (∀ j, j < i → ri g (a + 1) j = nI (goalF w t way j)) ∧ (∀ j, j < w.lost → ri g (a + 3) j = nI (goalF w t way j)) ∧ fi g a 5 = nI w.lost ∧ fi g a 6 = nI (bsum (hmF w t way i) w.lost) ∧ fi g a 7 = nI o2 ∧ ri g (a + 2) = TT
theorem c_pass_loop2 (Z : aZ) (d : Nat) (h : aH) {a : Nat} (hA : SD a) {w : SEA} {t : STD} (hw : SOK w) (ht : TOK w t) (hs : SEAC h w) {way : Nat} {o2 : Nat} {TT : Nat → Int32} {j2 : Value} {bf : Int32} (Q : Option Value → aH → Prop)
    (k : ∀ g, LJ h g a w t way w.lost o2 TT → T0 Z mX8_pass (d + 3) g Q 247 [.ref a, .int (nI way), j2, .int bf, .int (nI w.lost)] []) :
    ∀ n i g, i + n = w.lost → LJ h g a w t way i o2 TT → T0 Z mX8_pass (d + 3) g Q 194 [.ref a, .int (nI way), j2, .int bf, .int (nI i)] [] := by
  obtain ⟨w1, w2, w3, w4, w5, w6⟩ := id hw
  have hlo := hA.lo
  have hf : ∀ i, i < w.lost → t.home i ≤ 1 := fun i hi => (ht.1 i hi).2
  intro n
  induction n with
  | zero =>
    intro i g hi hL
    obtain rfl : i = w.lost := by omega
    have d1 := hL.2.2.2.1
    refine T_iload dX8_pass_194 rfl ?_
    refine T_aload dX8_pass_196 rfl ?_
    refine T_getfN (by first | assumption | rfl) dX8_pass_197 lfX8_36 rfl (SD.kd0 hA) (SD.nx0 hA) ?_
    refine T_icmp_ge dX8_pass_200 (fun c200 => ?_) (fun c200 => by first | exact absurd c200 ((by exact Int32.le_refl _)) | exact absurd ((by exact Int32.le_refl _)) c200)
    exact k g hL
  | succ n ih =>
    intro i g hi hL
    have hlt : i < w.lost := by omega
    obtain ⟨a1, a2, a3, a4, a5, a6, a7⟩ := id hL
    have sg := hs.keep a1 (by intro b hb; simp only [List.mem_cons, List.not_mem_nil, or_false] at hb ⊢; omega) (by intro b hb; simp only [List.mem_cons, List.not_mem_nil, or_false] at hb ⊢; omega)
    have s1 := sg.1
    have hgl : goalF w t way i < 64 := ((passF_ok (way := way) hw ht).1 i hlt).1
    refine T_iload dX8_pass_194 rfl ?_
    refine T_aload dX8_pass_196 rfl ?_
    refine T_getfN (by first | assumption | rfl) dX8_pass_197 lfX8_36 rfl (SD.kd0 hA) (SD.nx0 hA) ?_
    refine T_icmp_ge dX8_pass_200 (fun c200 => by first | exact absurd c200 ((by rw [nI_le' (by omega) (by omega)]; omega)) | exact absurd ((by rw [nI_le' (by omega) (by omega)]; omega)) c200) (fun c200 => ?_)
    refine T_aload dX8_pass_203 rfl ?_
    refine T_getr dX8_pass_204 lfX8_9 rfl (SD.kd0 hA) (SD.nx0 hA) (SD.f2 hA) ?_
    refine T_iload dX8_pass_207 rfl ?_
    refine T_aload dX8_pass_209 rfl ?_
    refine T_getr dX8_pass_210 lfX8_18 rfl (SD.kd0 hA) (SD.nx0 hA) (SD.f4 hA) ?_
    refine T_iload dX8_pass_213 rfl ?_
    refine T_ialdN (N := 10) dX8_pass_215 (SD.k4 hA) (SD.n4 hA) (SD.l4 hA) rfl (by omega) (by decide) ?_
    rw [a3 i hlt]
    refine T_iastN (N := 10) dX8_pass_216 (SD.k2 hA) (SD.n2 hA) (SD.l2 hA) rfl (by omega) (by decide) ?_
    refine T_aload dX8_pass_217 rfl ?_
    refine T_getr dX8_pass_218 lfX8_9 rfl (SD.kd0 hA) (SD.nx0 hA) (SD.f2 hA) ?_
    refine T_iload dX8_pass_221 rfl ?_
    refine T_ialdN (N := 10) dX8_pass_223 (SD.k2 hA) (SD.n2 hA) (SD.l2 hA) rfl (by omega) (by decide) ?_
    rw [ri_sri_at]
    have b1 : Only h (sri g (a + 1) i (nI (goalF w t way i))) [13, 14, a + 1, a + 2, a + 3] [a] := a1.sri (by simp)
    have b2 : ∀ j, j < i + 1 → ri (sri g (a + 1) i (nI (goalF w t way i))) (a + 1) j = nI (goalF w t way j) := by
      intro j hj
      by_cases h1 : j = i
      · subst h1; rw [ri_sri_at]
      · rw [ri_sri_off h1]; exact a2 j (by omega)
    have b3 : ∀ j, j < w.lost → ri (sri g (a + 1) i (nI (goalF w t way i))) (a + 3) j = nI (goalF w t way j) := fun j hj => by rw [ri_sri_ne (by omega)]; exact a3 j hj
    have b7 : ri (sri g (a + 1) i (nI (goalF w t way i))) (a + 2) = TT := by rw [ri_sri_ne (by omega)]; exact a7
    refine T_aload dX8_pass_224 rfl ?_
    refine T_getr dX8_pass_225 lfX8_25 rfl (SD.kd0 hA) (SD.nx0 hA) (SD.f0 hA) ?_
    refine T_getfN (by first | assumption | rfl) dX8_pass_228 lfX8_80 rfl rfl (by decide) ?_
    refine T_icmp_ne dX8_pass_231 (fun c231 => ?_) (fun c231 => ?_)
    · rw [nI_inj (by omega) (by omega)] at c231
      have e : bsum (hmF w t way (i + 1)) w.lost = bsum (hmF w t way i) w.lost := bsum_congr (fun j hj => by
        unfold hmF
        by_cases hji : j = i
        · subst hji
          rw [if_neg (fun z => c231 z.2), if_neg (fun z => c231 z.2)]
        · exact ite_iff (by constructor <;> intro z <;> exact ⟨by omega, z.2⟩) rfl rfl)
      first | refine T_iinc1 dX8_pass_241 rfl ?_ | refine T_iinc dX8_pass_241 rfl ?_
      show TK _ _ _ _ _ _ _ _ _ [_, _, _, _, _] _
      refine T_goto dX8_pass_244 ?_
      exact ih (i + 1) _ (by omega) ⟨b1, b2, b3, a4, by rw [e]; exact a5, a6, b7⟩
    · rw [nI_inj (by omega) (by omega)] at c231
      have hh : ∀ j, j < w.lost → hmF w t way i j ≤ 1 := by
        intro j hj
        unfold hmF
        have := hf j hj
        split <;> omega
      refine T_aload dX8_pass_234 rfl ?_
      refine T_iload dX8_pass_235 rfl ?_
      refine T_const dX8_pass_237 ?_
      refine T0_V (c_setHome1 Z (d + 2) _ hA (show fi (sri g (a + 1) i (nI (goalF w t way i))) a 6 = nI (bsum (hmF w t way i) w.lost) from a5) w1 hh hlt) dX8_pass_238 lvX8_83 rfl rfl (SD.kd0 hA) (SD.nx0 hA) (Nat.le_of_ble_eq_true rfl) (fun r h1 q => ?_)
      obtain ⟨rfl, rfl⟩ := q
      have e : bsum (hmF w t way (i + 1)) w.lost = bsum (va_up (hmF w t way i) i 1) w.lost := bsum_congr (fun j hj => by
        by_cases hji : j = i
        · subst hji
          rw [va_up_self]
          unfold hmF
          rw [if_pos ⟨by omega, c231⟩]
        · rw [va_up_ne _ _ hji]
          unfold hmF
          exact ite_iff (by constructor <;> intro z <;> exact ⟨by omega, z.2⟩) rfl rfl)
      show T0 Z mX8_pass (d + 3) _ Q 241 _ []
      first | refine T_iinc1 dX8_pass_241 rfl ?_ | refine T_iinc dX8_pass_241 rfl ?_
      show TK _ _ _ _ _ _ _ _ _ [_, _, _, _, _] _
      refine T_goto dX8_pass_244 ?_
      exact ih (i + 1) _ (by omega) ⟨b1.sfi (by simp), b2, b3, (fi_sfi_off (by decide)).trans a4, by rw [fi_sfi_at, e], (fi_sfi_off (by decide)).trans a6, b7⟩
theorem nsum_mono {f g : Nat → Nat} {n : Nat} (h : ∀ i, i < n → f i ≤ g i) : nsum f n ≤ nsum g n := by
  induction n with
  | zero => exact Nat.le_refl _
  | succ n ih =>
    have h1 := ih (fun i hi => h i (by omega))
    have h2 := h n (by omega)
    show nsum f n + f n ≤ nsum g n + g n
    omega
theorem c_pass (Z : aZ) (d : Nat) (h : aH) {a : Nat} (hA : SD a) {w : SEA} {t : STD} (hw : SOK w) (ht : TOK w t) (hs : SEAC h w) (hd : SDC h a w t) {way : Nat} (hway : way < 5) : C0 Z mX8_pass (d + 3) [.ref a, .int (nI way)] h (fun r h' => r = some (.int (nI (cameF w t way))) ∧ SDC h' a w (passF w t way) ∧ (∀ k, ri h' (a + 2) k = TALF (ri h (a + 2)) w t way k) ∧ Only h h' [13, 14, a + 1, a + 2, a + 3] [a]) := by
  obtain ⟨w1, w2, w3, w4, w5, w6⟩ := id hw
  obtain ⟨d1, d2, d3, d4⟩ := id hd
  obtain ⟨s1, s2, s3, s4, s5, s6, s7, s8⟩ := id hs
  have hlo := hA.lo
  have hto := ht.2
  have hf : ∀ i, i < w.lost → t.home i ≤ 1 := fun i hi => (ht.1 i hi).2
  have hpo := passF_ok (way := way) hw ht
  refine C0.of mokX8_pass (Nat.le_of_ble_eq_true rfl) ?_
  show T0 _ _ _ _ _ _ [_, _, _, _, _] _
  have main : T0 Z mX8_pass (d + 3) h (fun r h' => r = some (.int (nI (cameF w t way))) ∧ SDC h' a w (passF w t way) ∧ (∀ k, ri h' (a + 2) k = TALF (ri h (a + 2)) w t way k) ∧ Only h h' [13, 14, a + 1, a + 2, a + 3] [a]) 24 [.ref a, .int (nI way), .null, .null, .null] [.int (bI (burnF w t way = true))] := by
    refine T_istore dX8_pass_24 ?_
    show TK _ _ _ _ _ _ _ _ _ [_, _, _, _, _] _
    refine T_const dX8_pass_25 ?_
    refine T_istore dX8_pass_26 ?_
    show TK _ _ _ _ _ _ _ _ _ [_, _, _, _, _] _
    refine c_pass_loop1 Z d h hA hw ht hs hd hway _ ?_ w.lost 0 h .null (by omega) ⟨Only.rf _ _ _, fun j hj => absurd hj (Nat.not_lt_zero _), (Int32.add_zero _).symm, fun _ _ => rfl⟩
    intro g j4 hL
    have dg := hd.keep hL.1 (by simp only [List.mem_cons, List.not_mem_nil, or_false]; omega) (by simp)
    have sg := hs.keep hL.1 (by intro b hb; simp only [List.mem_cons, List.not_mem_nil, or_false] at hb ⊢; omega) (by simp)
    obtain ⟨p1, p2, p3, p4⟩ := id dg
    obtain ⟨q1, q2, q3, q4, q5, q6, q7, q8⟩ := id sg
    obtain ⟨l1, l2, l3, l4⟩ := id hL
    -- behind the loops
    have fin : ∀ (g2 : aH) (TT : Nat → Int32) (j2 : Int32), TT 3 = ri h (a + 2) 3 → (∀ k, va_up TT 3 (TT 3 + nI (cameF w t way)) k = TALF (ri h (a + 2)) w t way k) → LJ h g2 a w t way 0 (t.oil - (if burnF w t way = true then w.burns else 0)) TT → T0 Z mX8_pass (d + 3) g2 (fun r h' => r = some (.int (nI (cameF w t way))) ∧ SDC h' a w (passF w t way) ∧ (∀ k, ri h' (a + 2) k = TALF (ri h (a + 2)) w t way k) ∧ Only h h' [13, 14, a + 1, a + 2, a + 3] [a]) 183 [.ref a, .int (nI way), .int j2, .int (nI w.lost), j4] [] := by
      intro g2 TT j2 hT3 hTT hJ
      have hJ6 := hJ.2.2.2.2.1
      have e0 : bsum (hmF w t way 0) w.lost = bsum t.home w.lost := bsum_congr (fun j _ => by unfold hmF; rw [if_neg (by omega)])
      rw [e0] at hJ6
      refine T_aload dX8_pass_183 rfl ?_
      refine T_getfN (by first | assumption | rfl) dX8_pass_184 lfX8_33 rfl (SD.kd0 hA) (SD.nx0 hA) ?_
      refine T0_Sp (c_bitCount Z (d + 2) g2 _) dX8_pass_187 lsX8_75 rfl rfl (Nat.le_of_ble_eq_true rfl) ?_
      rw [bcI_bsum w1 hf]
      refine T_istore dX8_pass_190 ?_
      show TK _ _ _ _ _ _ _ _ _ [_, _, _, _, _] _
      refine T_const dX8_pass_191 ?_
      refine T_istore dX8_pass_192 ?_
      show TK _ _ _ _ _ _ _ _ _ [_, _, _, _, _] _
      refine c_pass_loop2 Z d h hA hw ht hs _ ?_ w.lost 0 g2 (by omega) hJ
      intro g3 hK
      obtain ⟨k1, k2, k3, k4, k5, k6, k7⟩ := hK
      have eh : ∀ j, j < w.lost → hmF w t way w.lost j = (passF w t way).home j := fun j hj => rfl
      have hp1 : ∀ j, j < w.lost → (passF w t way).home j ≤ 1 := fun j hj => (hpo.1 j hj).2
      rw [bsum_congr eh] at k5
      refine T_aload dX8_pass_247 rfl ?_
      refine T_getfN (by first | assumption | rfl) dX8_pass_248 lfX8_33 rfl (SD.kd0 hA) (SD.nx0 hA) ?_
      refine T0_Sp (c_bitCount Z (d + 2) g3 _) dX8_pass_251 lsX8_75 rfl rfl (Nat.le_of_ble_eq_true rfl) ?_
      rw [bcI_bsum w1 hp1]
      have hmono : nsum t.home w.lost ≤ nsum (passF w t way).home w.lost := nsum_mono (fun j hj => by
        have := hf j hj
        show _ ≤ (if j < w.lost ∧ goalF w t way j = w.lamp then 1 else t.home j)
        split <;> omega)
      refine T_iload dX8_pass_254 rfl ?_
      refine T_isub dX8_pass_255 ?_
      rw [pk_sub hmono, show nsum (passF w t way).home w.lost - nsum t.home w.lost = cameF w t way from rfl]
      refine T_istore dX8_pass_256 ?_
      show TK _ _ _ _ _ _ _ _ _ [_, _, _, _, _] _
      refine T_aload dX8_pass_258 rfl ?_
      refine T_getr dX8_pass_259 lfX8_15 rfl (SD.kd0 hA) (SD.nx0 hA) (SD.f3 hA) ?_
      refine T_const dX8_pass_262 ?_
      refine T_dup2 dX8_pass_263 rfl rfl ?_
      refine T_ialdN (N := 5) (i := 3) dX8_pass_264 (SD.k3 hA) (SD.n3 hA) (SD.l3 hA) rfl (by omega) (by decide) ?_
      refine T_iload dX8_pass_265 rfl ?_
      refine T_iadd dX8_pass_267 ?_
      refine T_iastN (N := 5) (i := 3) dX8_pass_268 (SD.k3 hA) (SD.n3 hA) (SD.l3 hA) rfl (by omega) (by decide) ?_
      rw [show ri g3 (a + 2) = TT from k7]
      refine T_iload dX8_pass_269 rfl ?_
      refine T0_ireti dX8_pass_271 ?_
      refine ⟨rfl, ⟨k4, fun j hj => ?_, k5, k6⟩, ?_, k1.sri (by simp)⟩
      · rw [ri_sri_ne (by omega)]; exact k2 j hj
      · intro k
        rw [ri_sri, k7]
        exact hTT k
    have g0 : ri g (a + 2) 0 = ri h (a + 2) 0 := l4 0 (by decide)
    have g1 : ri g (a + 2) 1 = ri h (a + 2) 1 := l4 1 (by decide)
    have g3 : ri g (a + 2) 3 = ri h (a + 2) 3 := l4 3 (by decide)
    refine T_aload dX8_pass_143 rfl ?_
    refine T_getr dX8_pass_144 lfX8_15 rfl (SD.kd0 hA) (SD.nx0 hA) (SD.f3 hA) ?_
    refine T_const dX8_pass_147 ?_
    refine T_dup2 dX8_pass_148 rfl rfl ?_
    refine T_ialdN (N := 5) (i := 0) dX8_pass_149 (SD.k3 hA) (SD.n3 hA) (SD.l3 hA) rfl (by omega) (by decide) ?_
    refine T_const dX8_pass_150 ?_
    refine T_iadd dX8_pass_151 ?_
    refine T_iastN (N := 5) (i := 0) dX8_pass_152 (SD.k3 hA) (SD.n3 hA) (SD.l3 hA) rfl (by omega) (by decide) ?_
    refine T_iload dX8_pass_153 rfl ?_
    have o1 : Only h (sri g (a + 2) 0 (ri g (a + 2) 0 + 1)) [13, 14, a + 1, a + 2, a + 3] [a] := (l1.wide (R := [13, 14, a + 1, a + 2, a + 3]) (F := [a]) (fun x z => by simp only [List.mem_cons, List.not_mem_nil, or_false] at z ⊢; omega) (by simp)).sri (by simp)
    have z6 : ∀ g', fi g' a 6 = nI (bsum t.home w.lost) → fi g' a 6 = nI (bsum (hmF w t way 0) w.lost) := fun g' e => by rw [e, show bsum (hmF w t way 0) w.lost = bsum t.home w.lost from bsum_congr (fun j _ => by unfold hmF; rw [if_neg (by omega)])]
    by_cases hb : burnF w t way = true
    · have hbo : w.burns ≤ t.oil := by
        unfold burnF at hb
        simp only [decide_eq_true_eq] at hb
        exact hb.2
      rw [bI_t hb]
      refine T_if_eq dX8_pass_154 (fun c154 => by first | exact absurd c154 ((by decide)) | exact absurd ((by decide)) c154) (fun c154 => ?_)
      have q21 : fi (sri g (a + 2) 0 (ri g (a + 2) 0 + 1)) 1 5 = nI w.burns := q2
      have p41 : fi (sri g (a + 2) 0 (ri g (a + 2) 0 + 1)) a 7 = nI t.oil := p4
      refine T_aload dX8_pass_157 rfl ?_
      refine T_dup dX8_pass_158 rfl ?_
      refine T_getfN (by first | assumption | rfl) dX8_pass_159 lfX8_21 rfl (SD.kd0 hA) (SD.nx0 hA) ?_
      refine T_aload dX8_pass_162 rfl ?_
      refine T_getr dX8_pass_163 lfX8_25 rfl (SD.kd0 hA) (SD.nx0 hA) (SD.f0 hA) ?_
      refine T_getfN (by first | assumption | rfl) dX8_pass_166 lfX8_49 rfl rfl (by decide) ?_
      refine T_isub dX8_pass_169 ?_
      rw [pk_sub hbo]
      refine T_putf dX8_pass_170 lfX8_21 rfl rfl (SD.kd0 hA) (SD.nx0 hA) ⟨rfl, rfl⟩ ?_
      refine T_aload dX8_pass_173 rfl ?_
      refine T_getr dX8_pass_174 lfX8_15 rfl (SD.kd0 hA) (SD.nx0 hA) (SD.f3 hA) ?_
      refine T_const dX8_pass_177 ?_
      refine T_dup2 dX8_pass_178 rfl rfl ?_
      refine T_ialdN (N := 5) (i := 1) dX8_pass_179 (SD.k3 hA) (SD.n3 hA) (SD.l3 hA) rfl (by omega) (by decide) ?_
      refine T_const dX8_pass_180 ?_
      refine T_iadd dX8_pass_181 ?_
      refine T_iastN (N := 5) (i := 1) dX8_pass_182 (SD.k3 hA) (SD.n3 hA) (SD.l3 hA) rfl (by omega) (by decide) ?_
      refine fin _ _ _ ?_ ?_ ⟨(o1.sfi (by simp)).sri (by simp), fun j hj => absurd hj (Nat.not_lt_zero _), fun j hj => ?_, ?_, ?_, ?_, rfl⟩
      · rw [ri_sri_off (by decide), ri_sfi, ri_sri_off (by decide)]; exact g3
      · intro k
        have c1 : bI (burnF w t way = true) = 1 := bI_t hb
        match k with
        | 0 => rw [va_up_ne _ _ (by decide), ri_sri_off (by decide), ri_sfi, ri_sri_at, g0]; rfl
        | 1 => rw [va_up_ne _ _ (by decide), ri_sri_at, ri_sfi, ri_sri_off (by decide), g1]; show _ = _ + bI _; rw [c1]
        | 2 => rw [va_up_ne _ _ (by decide), ri_sri_off (by decide), ri_sfi, ri_sri_off (by decide), l3]; rfl
        | 3 => rw [va_up_self, ri_sri_off (by decide), ri_sfi, ri_sri_off (by decide), g3]; rfl
        | k + 4 => rw [va_up_ne _ _ (by omega), ri_sri_off (by omega), ri_sfi, ri_sri_off (by omega), l4 _ (by omega)]; rfl
      · rw [ri_sri_ne (by omega), ri_sfi, ri_sri_ne (by omega)]; exact l2 j hj
      · exact (fi_sfi_off (by decide)).trans p1
      · exact z6 _ ((fi_sfi_off (by decide)).trans p3)
      · rw [if_pos hb]; exact fi_sfi_at
    · rw [bI_f hb]
      refine T_if_eq dX8_pass_154 (fun c154 => ?_) (fun c154 => by first | exact absurd c154 ((by rfl)) | exact absurd ((by rfl)) c154)
      refine fin _ _ _ ?_ ?_ ⟨o1, fun j hj => absurd hj (Nat.not_lt_zero _), fun j hj => ?_, p1, z6 _ p3, ?_, rfl⟩
      · rw [ri_sri_off (by decide)]; exact g3
      · intro k
        have c1 : bI (burnF w t way = true) = 0 := bI_f hb
        match k with
        | 0 => rw [va_up_ne _ _ (by decide), ri_sri_at, g0]; rfl
        | 1 => rw [va_up_ne _ _ (by decide), ri_sri_off (by decide), g1]; show _ = _ + bI _; rw [c1, Int32.add_zero]
        | 2 => rw [va_up_ne _ _ (by decide), ri_sri_off (by decide), l3]; rfl
        | 3 => rw [va_up_self, ri_sri_off (by decide), g3]; rfl
        | k + 4 => rw [va_up_ne _ _ (by omega), ri_sri_off (by omega), l4 _ (by omega)]; rfl
      · rw [ri_sri_ne (by omega)]; exact l2 j hj
      · rw [if_neg hb, Nat.sub_zero]; exact p4
  refine T_iload dX8_pass_0 rfl ?_
  refine T_const dX8_pass_1 ?_
  refine T_icmp_eq dX8_pass_2 (fun c2 => ?_) (fun c2 => ?_)
  · rw [show (4 : Int32) = nI 4 from rfl, nI_inj (by omega) (by omega)] at c2
    refine T_const dX8_pass_23 ?_
    have e : burnF w t way = false := decide_eq_false (fun z => z.1 c2)
    rw [bI_f (show ¬ burnF w t way = true by rw [e]; decide)] at main
    exact main
  · rw [show (4 : Int32) = nI 4 from rfl, nI_inj (by omega) (by omega)] at c2
    refine T_aload dX8_pass_5 rfl ?_
    refine T_getfN (by first | assumption | rfl) dX8_pass_6 lfX8_21 rfl (SD.kd0 hA) (SD.nx0 hA) ?_
    refine T_aload dX8_pass_9 rfl ?_
    refine T_getr dX8_pass_10 lfX8_25 rfl (SD.kd0 hA) (SD.nx0 hA) (SD.f0 hA) ?_
    refine T_getfN (by first | assumption | rfl) dX8_pass_13 lfX8_49 rfl rfl (by decide) ?_
    refine T_icmp_lt dX8_pass_16 (fun c16 => ?_) (fun c16 => ?_)
    · rw [nI_lt' (by omega) (by omega)] at c16
      refine T_const dX8_pass_23 ?_
      have e : burnF w t way = false := decide_eq_false (fun z => by omega)
      rw [bI_f (show ¬ burnF w t way = true by rw [e]; decide)] at main
      exact main
    · rw [nI_lt' (by omega) (by omega)] at c16
      refine T_const dX8_pass_19 ?_
      refine T_goto dX8_pass_20 ?_
      have e : burnF w t way = true := decide_eq_true ⟨c2, by omega⟩
      rw [bI_t e] at main
      exact main
