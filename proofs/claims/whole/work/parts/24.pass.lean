/-! ===== Stand: pass ===== -/
def TALF (f : Nat → Int32) (w : SEA) (t : STD) (way : Nat) : Nat → Int32 := fun k => match k with
  | 0 => f 0 + 1
  | 1 => f 1 + bI (burnF w t way = true)
  | 2 => f 2 + nI (nsum (stepF w t way) w.lost)
  | 3 => f 3 + nI (cameF w t way)
  | k => f k
def LI (h g : aH) (a : Nat) (w : SEA) (t : STD) (way i : Nat) : Prop := Only h g [13, 14, a + 2, a + 3] [] ∧ (∀ j, j < i → ri g (a + 3) j = nI (goalF w t way j)) ∧ ri g (a + 2) 2 = ri h (a + 2) 2 + nI (nsum (stepF w t way) i) ∧ ∀ k, k ≠ 2 → ri g (a + 2) k = ri h (a + 2) k
theorem LI.keep {h g g1 : aH} {a : Nat} {w : SEA} {t : STD} {way i : Nat} (H : LI h g a w t way i) (ha : 15 ≤ a) (o : Only g g1 [13, 14] []) : LI h g1 a w t way i := by
  obtain ⟨a1, a2, a3, a4⟩ := H
  refine ⟨a1.trans o (fun _ z => z) (fun x z => ?_) (fun _ z => z) (fun _ z => z), ?_, ?_, ?_⟩
  · simp only [List.mem_cons, List.not_mem_nil, or_false] at z ⊢
    omega
  · rw [o.1 (a + 3) (by simp only [List.mem_cons, List.not_mem_nil, or_false]; omega)]; exact a2
  · rw [o.1 (a + 2) (by simp only [List.mem_cons, List.not_mem_nil, or_false]; omega)]; exact a3
  · rw [o.1 (a + 2) (by simp only [List.mem_cons, List.not_mem_nil, or_false]; omega)]; exact a4
theorem LI.drift {h g : aH} {a : Nat} {w : SEA} {t : STD} {way i v : Nat} (H : LI h g a w t way i) (hs : walkF w t way i = false) (hg : goalF w t way i = v) : LI h (sri g (a + 3) i (nI v)) a w t way (i + 1) := by
  obtain ⟨a1, a2, a3, a4⟩ := H
  refine ⟨a1.sri (by simp), fun j hj => ?_, ?_, fun k hk => ?_⟩
  · by_cases h1 : j = i
    · subst h1; rw [ri_sri_at, hg]
    · rw [ri_sri_off h1]; exact a2 j (by omega)
  · rw [ri_sri_ne (by omega), a3]
    show _ = _ + nI (nsum (stepF w t way) i + stepF w t way i)
    rw [show stepF w t way i = 0 by unfold stepF; rw [if_neg (by rw [hs]; decide)]]
    rfl
  · rw [ri_sri_ne (by omega)]; exact a4 k hk
theorem LI.walk {h g : aH} {a : Nat} {w : SEA} {t : STD} {way i v : Nat} (H : LI h g a w t way i) (hs : walkF w t way i = true) (hg : goalF w t way i = v) : LI h (sri (sri g (a + 3) i (nI v)) (a + 2) 2 (ri (sri g (a + 3) i (nI v)) (a + 2) 2 + 1)) a w t way (i + 1) := by
  obtain ⟨a1, a2, a3, a4⟩ := H
  refine ⟨(a1.sri (by simp)).sri (by simp), fun j hj => ?_, ?_, fun k hk => ?_⟩
  · rw [ri_sri_ne (by omega)]
    by_cases h1 : j = i
    · subst h1; rw [ri_sri_at, hg]
    · rw [ri_sri_off h1]; exact a2 j (by omega)
  · rw [ri_sri_at, ri_sri_ne (by omega), a3]
    show _ = _ + nI (nsum (stepF w t way) i + stepF w t way i)
    rw [show stepF w t way i = 1 by unfold stepF; rw [if_pos hs], ← nI_1, Int32.add_assoc]
  · rw [ri_sri_off hk, ri_sri_ne (by omega)]; exact a4 k hk
theorem c_pass_loop1 (Z : aZ) (d : Nat) (h : aH) {a : Nat} (hA : SD a) {w : SEA} {t : STD} (hw : SOK w) (ht : TOK w t) (hs : SEAC h w) (hd : SDC h a w t) {way : Nat} (hway : way < 5) (Q : Option Value → aH → Prop)
    (k : ∀ g j4, LI h g a w t way w.lost → T0 Z mX8_pass (d + 3) g Q 143 [.ref a, .int (nI way), .int (bI (burnF w t way = true)), .int (nI w.lost), j4] []) :
    ∀ n i g j4, i + n = w.lost → LI h g a w t way i → T0 Z mX8_pass (d + 3) g Q 27 [.ref a, .int (nI way), .int (bI (burnF w t way = true)), .int (nI i), j4] [] := by
  obtain ⟨w1, w2, w3, w4, w5, w6⟩ := id hw
  have hlo := hA.lo
  have hf : ∀ i, i < w.lost → t.home i ≤ 1 := fun i hi => (ht.1 i hi).2
  intro n
  induction n with
  | zero =>
    intro i g j4 hi hL
    obtain rfl : i = w.lost := by omega
    have dg := hd.keep hL.1 (by simp only [List.mem_cons, List.not_mem_nil, or_false]; omega) (by simp)
    have d1 := dg.1
    refine T_iload dX8_pass_27 rfl ?_
    refine T_aload dX8_pass_28 rfl ?_
    refine T_getfN (by first | assumption | rfl) dX8_pass_29 lfX8_36 rfl (SD.kd0 hA) (SD.nx0 hA) ?_
    refine T_icmp_ge dX8_pass_32 (fun c32 => ?_) (fun c32 => by first | exact absurd c32 ((by exact Int32.le_refl _)) | exact absurd ((by exact Int32.le_refl _)) c32)
    exact k g j4 hL
  | succ n ih =>
    intro i g j4 hi hL
    have hlt : i < w.lost := by omega
    have dg := hd.keep hL.1 (by simp only [List.mem_cons, List.not_mem_nil, or_false]; omega) (by simp)
    have sg := hs.keep hL.1 (by intro b hb; simp only [List.mem_cons, List.not_mem_nil, or_false] at hb ⊢; omega) (by simp)
    obtain ⟨d1, d2, d3, d4⟩ := id dg
    obtain ⟨s1, s2, s3, s4, s5, s6, s7, s8⟩ := id sg
    have hc := (ht.1 i hlt).1
    refine T_iload dX8_pass_27 rfl ?_
    refine T_aload dX8_pass_28 rfl ?_
    refine T_getfN (by first | assumption | rfl) dX8_pass_29 lfX8_36 rfl (SD.kd0 hA) (SD.nx0 hA) ?_
    refine T_icmp_ge dX8_pass_32 (fun c32 => by first | exact absurd c32 ((by rw [nI_le' (by omega) (by omega)]; omega)) | exact absurd ((by rw [nI_le' (by omega) (by omega)]; omega)) c32) (fun c32 => ?_)
    refine T_aload dX8_pass_35 rfl ?_
    refine T_getr dX8_pass_36 lfX8_9 rfl (SD.kd0 hA) (SD.nx0 hA) (SD.f2 hA) ?_
    refine T_iload dX8_pass_39 rfl ?_
    refine T_ialdN (N := 10) dX8_pass_40 (SD.k2 hA) (SD.n2 hA) (SD.l2 hA) rfl (by omega) (by decide) ?_
    rw [d2 i hlt]
    refine T_istore dX8_pass_41 ?_
    show TK _ _ _ _ _ _ _ _ _ [_, _, _, _, _] _
    refine T_aload dX8_pass_43 rfl ?_
    refine T_iload dX8_pass_44 rfl ?_
    refine T0_Vp (c_isHome Z (d + 2) g hA d3 w1 hf hlt) dX8_pass_45 lvX8_54 rfl rfl (SD.kd0 hA) (SD.nx0 hA) (Nat.le_of_ble_eq_true rfl) ?_
    have drift : walkF w t way i = false → t.home i = 0 → ∀ g1, LI h g1 a w t way i → T0 Z mX8_pass (d + 3) g1 Q 122 [.ref a, .int (nI way), .int (bI (burnF w t way = true)), .int (nI i), .int (nI (t.cell i))] [] := by
      intro hwk h0 g1 hL1
      have sg1 := hs.keep hL1.1 (by intro b hb; simp only [List.mem_cons, List.not_mem_nil, or_false] at hb ⊢; omega) (by simp)
      refine T_aload dX8_pass_122 rfl ?_
      refine T_getr dX8_pass_123 lfX8_18 rfl (SD.kd0 hA) (SD.nx0 hA) (SD.f4 hA) ?_
      refine T_iload dX8_pass_126 rfl ?_
      refine T_aload dX8_pass_127 rfl ?_
      refine T_getr dX8_pass_128 lfX8_25 rfl (SD.kd0 hA) (SD.nx0 hA) (SD.f0 hA) ?_
      refine T_iload dX8_pass_131 rfl ?_
      refine T0_Vp (c_carried Z (d + 2) g1 (sg1.2.2.2.2.1 _ hc) (w2 _ hc).2 hc) dX8_pass_133 lvX8_72 rfl rfl rfl (by decide) (Nat.le_of_ble_eq_true rfl) ?_
      refine T_iastN (N := 10) dX8_pass_136 (SD.k4 hA) (SD.n4 hA) (SD.l4 hA) rfl (by omega) (by decide) ?_
      have e := hL1.drift (v := carF (w.df (t.cell i)) (t.cell i)) hwk (by unfold goalF; rw [if_pos h0, if_neg (by rw [hwk]; decide)])
      first | refine T_iinc1 dX8_pass_137 rfl ?_ | refine T_iinc dX8_pass_137 rfl ?_
      show TK _ _ _ _ _ _ _ _ _ [_, _, _, _, _] _
      refine T_goto dX8_pass_140 ?_
      exact ih (i + 1) _ _ (by omega) e
    rcases (show t.home i = 0 ∨ t.home i = 1 by have := hf i hlt; omega) with e | e
    · rw [e]
      refine T_if_eq dX8_pass_48 (fun c48 => ?_) (fun c48 => by first | exact absurd c48 ((by rfl)) | exact absurd ((by rfl)) c48)
      refine T_iload dX8_pass_62 rfl ?_
      by_cases hb : burnF w t way = true
      · rw [bI_t hb]
        have hw4 : way < 4 := by
          unfold burnF at hb
          simp only [decide_eq_true_eq] at hb
          omega
        refine T_if_eq dX8_pass_63 (fun c63 => by first | exact absurd c63 ((by decide)) | exact absurd ((by decide)) c63) (fun c63 => ?_)
        refine T_aload dX8_pass_66 rfl ?_
        refine T_getr dX8_pass_67 lfX8_25 rfl (SD.kd0 hA) (SD.nx0 hA) (SD.f0 hA) ?_
        refine T_iload dX8_pass_70 rfl ?_
        refine T_iload dX8_pass_71 rfl ?_
        refine T0_Vp (c_isLit Z (d + 2) g s1 w4 hw4 hc) dX8_pass_73 lvX8_58 rfl rfl rfl (by decide) (Nat.le_of_ble_eq_true rfl) ?_
        by_cases hl : litF w.lamp way (t.cell i) = true
        · rw [bI_t hl]
          refine T_if_eq dX8_pass_76 (fun c76 => by first | exact absurd c76 ((by decide)) | exact absurd ((by decide)) c76) (fun c76 => ?_)
          refine T_aload dX8_pass_79 rfl ?_
          refine T_iload dX8_pass_80 rfl ?_
          refine T0_V (c_pull Z d g hA hw ht sg dg hlt) dX8_pass_81 lvX8_62 rfl rfl (SD.kd0 hA) (SD.nx0 hA) (Nat.le_of_ble_eq_true rfl) (fun r h1 q => ?_)
          obtain ⟨rfl, o1⟩ := q
          have hL1 := hL.keep hlo.1 o1
          have sg1 := hs.keep hL1.1 (by intro b hb; simp only [List.mem_cons, List.not_mem_nil, or_false] at hb ⊢; omega) (by simp)
          have s31 := sg1.2.2.1
          show T0 Z mX8_pass (d + 3) h1 Q 84 _ [_]
          refine T_aload dX8_pass_84 rfl ?_
          refine T_getr dX8_pass_85 lfX8_25 rfl (SD.kd0 hA) (SD.nx0 hA) (SD.f0 hA) ?_
          refine T_getfN (by first | assumption | rfl) dX8_pass_88 lfX8_66 rfl rfl (by decide) ?_
          refine T_icmp_lt dX8_pass_91 (fun c91 => ?_) (fun c91 => ?_)
          · have hwk : walkF w t way i = false := by
              unfold walkF
              rw [decide_eq_false (Int32.not_le.mpr c91), Bool.and_false]
            have := drift hwk e h1 hL1
            rw [bI_t hb] at this
            exact this
          · have hwk : walkF w t way i = true := by
              unfold walkF
              rw [decide_eq_true (Int32.not_lt.mp c91), hb, hl, e]
              rfl
            refine T_aload dX8_pass_94 rfl ?_
            refine T_getr dX8_pass_95 lfX8_18 rfl (SD.kd0 hA) (SD.nx0 hA) (SD.f4 hA) ?_
            refine T_iload dX8_pass_98 rfl ?_
            refine T_aload dX8_pass_99 rfl ?_
            refine T_getr dX8_pass_100 lfX8_25 rfl (SD.kd0 hA) (SD.nx0 hA) (SD.f0 hA) ?_
            refine T_iload dX8_pass_103 rfl ?_
            refine T0_Vp (c_nearer Z (d + 2) h1 sg1.1 w4 hc (litF_ne hl)) dX8_pass_105 lvX8_69 rfl rfl rfl (by decide) (Nat.le_of_ble_eq_true rfl) ?_
            refine T_iastN (N := 10) dX8_pass_108 (SD.k4 hA) (SD.n4 hA) (SD.l4 hA) rfl (by omega) (by decide) ?_
            refine T_aload dX8_pass_109 rfl ?_
            refine T_getr dX8_pass_110 lfX8_15 rfl (SD.kd0 hA) (SD.nx0 hA) (SD.f3 hA) ?_
            refine T_const dX8_pass_113 ?_
            refine T_dup2 dX8_pass_114 rfl rfl ?_
            refine T_ialdN (N := 5) (i := 2) dX8_pass_115 (SD.k3 hA) (SD.n3 hA) (SD.l3 hA) rfl (by omega) (by decide) ?_
            refine T_const dX8_pass_116 ?_
            refine T_iadd dX8_pass_117 ?_
            refine T_iastN (N := 5) (i := 2) dX8_pass_118 (SD.k3 hA) (SD.n3 hA) (SD.l3 hA) rfl (by omega) (by decide) ?_
            refine T_goto dX8_pass_119 ?_
            have e2 := hL1.walk (v := nearF w.lamp (t.cell i)) hwk (by unfold goalF; rw [if_pos e, if_pos hwk])
            first | refine T_iinc1 dX8_pass_137 rfl ?_ | refine T_iinc dX8_pass_137 rfl ?_
            show TK _ _ _ _ _ _ _ _ _ [_, _, _, _, _] _
            refine T_goto dX8_pass_140 ?_
            have := ih (i + 1) _ (.int (nI (t.cell i))) (by omega) e2
            rw [bI_t hb] at this
            exact this
        · rw [bI_f hl]
          have hwk : walkF w t way i = false := by
            unfold walkF
            rw [show litF w.lamp way (t.cell i) = false by simpa using hl, Bool.and_false, Bool.false_and]
          refine T_if_eq dX8_pass_76 (fun c76 => ?_) (fun c76 => by first | exact absurd c76 ((by rfl)) | exact absurd ((by rfl)) c76)
          have := drift hwk e g hL
          rw [bI_t hb] at this
          exact this
      · rw [bI_f hb]
        have hwk : walkF w t way i = false := by
          unfold walkF
          rw [show burnF w t way = false by simpa using hb, Bool.and_false, Bool.false_and, Bool.false_and]
        refine T_if_eq dX8_pass_63 (fun c63 => ?_) (fun c63 => by first | exact absurd c63 ((by rfl)) | exact absurd ((by rfl)) c63)
        have := drift hwk e g hL
        rw [bI_f hb] at this
        exact this
    · rw [e]
      refine T_if_eq dX8_pass_48 (fun c48 => by first | exact absurd c48 ((by decide)) | exact absurd ((by decide)) c48) (fun c48 => ?_)
      have hwk : walkF w t way i = false := by
        unfold walkF
        rw [e]
        rfl
      refine T_aload dX8_pass_51 rfl ?_
      refine T_getr dX8_pass_52 lfX8_18 rfl (SD.kd0 hA) (SD.nx0 hA) (SD.f4 hA) ?_
      refine T_iload dX8_pass_55 rfl ?_
      refine T_iload dX8_pass_56 rfl ?_
      refine T_iastN (N := 10) dX8_pass_58 (SD.k4 hA) (SD.n4 hA) (SD.l4 hA) rfl (by omega) (by decide) ?_
      refine T_goto dX8_pass_59 ?_
      have e2 := hL.drift (v := t.cell i) hwk (by unfold goalF; rw [if_neg (by omega)])
      first | refine T_iinc1 dX8_pass_137 rfl ?_ | refine T_iinc dX8_pass_137 rfl ?_
      show TK _ _ _ _ _ _ _ _ _ [_, _, _, _, _] _
      refine T_goto dX8_pass_140 ?_
      exact ih (i + 1) _ _ (by omega) e2
