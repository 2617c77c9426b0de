/-! ===== Stand: pull ===== -/
theorem c_pull_loop (Z : aZ) (d : Nat) (h : aH) {a : Nat} (hA : SD a) {w : SEA} {t : STD} (hw : SOK w) (ht : TOK w t) (hs : SEAC h w) (hd : SDC h a w t) {one : Nat} (ho : one < w.lost) (Q : Option Value → aH → Prop)
    (k : T0 Z mX8_pull (d + 1) h Q 89 [.ref a, .int (nI one), .int (nI (nsum (besF w t one) w.lost)), .int (nI (nsum (kinF w t one) w.lost)), .int (nI w.lost)] []) :
    ∀ n i, i + n = w.lost → T0 Z mX8_pull (d + 1) h Q 7 [.ref a, .int (nI one), .int (nI (nsum (besF w t one) i)), .int (nI (nsum (kinF w t one) i)), .int (nI i)] [] := by
  obtain ⟨w1, w2, w3, w4, w5, w6⟩ := hw
  obtain ⟨d1, d2, d3, d4⟩ := id hd
  obtain ⟨s1, s2, s3, s4, s5, s6, s7, s8⟩ := hs
  have hf : ∀ i, i < w.lost → t.home i ≤ 1 := fun i hi => (ht.1 i hi).2
  intro n
  induction n with
  | zero =>
    intro i hi
    obtain rfl : i = w.lost := by omega
    refine T_iload dX8_pull_7 rfl ?_
    refine T_aload dX8_pull_9 rfl ?_
    refine T_getfN (by first | assumption | rfl) dX8_pull_10 lfX8_36 rfl (SD.kd0 hA) (SD.nx0 hA) ?_
    refine T_icmp_ge dX8_pull_13 (fun c13 => ?_) (fun c13 => by first | exact absurd c13 ((by exact Int32.le_refl _)) | exact absurd ((by exact Int32.le_refl _)) c13)
    exact k
  | succ n ih =>
    intro i hi
    have hlt : i < w.lost := by omega
    have eb : ∀ x, besF w t one i = x → nsum (besF w t one) (i + 1) = nsum (besF w t one) i + x := fun x e => by rw [← e]; rfl
    have ek : ∀ x, kinF w t one i = x → nsum (kinF w t one) (i + 1) = nsum (kinF w t one) i + x := fun x e => by rw [← e]; rfl
    refine T_iload dX8_pull_7 rfl ?_
    refine T_aload dX8_pull_9 rfl ?_
    refine T_getfN (by first | assumption | rfl) dX8_pull_10 lfX8_36 rfl (SD.kd0 hA) (SD.nx0 hA) ?_
    refine T_icmp_ge dX8_pull_13 (fun c13 => by first | exact absurd c13 ((by rw [nI_le' (by omega) (by omega)]; omega)) | exact absurd ((by rw [nI_le' (by omega) (by omega)]; omega)) c13) (fun c13 => ?_)
    refine T_aload dX8_pull_16 rfl ?_
    refine T_iload dX8_pull_17 rfl ?_
    refine T0_Vp (c_isHome Z d h hA d3 w1 hf hlt) dX8_pull_19 lvX8_54 rfl rfl (SD.kd0 hA) (SD.nx0 hA) (Nat.le_of_ble_eq_true rfl) ?_
    rcases (show t.home i = 0 ∨ t.home i = 1 by have := hf i hlt; omega) with e | e
    · rw [e]
      refine T_if_eq dX8_pull_22 (fun c22 => ?_) (fun c22 => by first | exact absurd c22 ((by rfl)) | exact absurd ((by rfl)) c22)
      have e2 : kinF w t one i = 0 := by unfold kinF; rw [if_neg (by omega)]
      have q2 := ek 0 e2
      refine T_iload dX8_pull_58 rfl ?_
      refine T_iload dX8_pull_60 rfl ?_
      refine T_icmp_eq dX8_pull_61 (fun c61 => ?_) (fun c61 => ?_)
      · rw [nI_inj (by omega) (by omega)] at c61
        have q1 := eb 0 (by unfold besF; rw [if_neg (by omega)])
        rw [← show nsum (besF w t one) (i + 1) = nsum (besF w t one) i from q1, ← show nsum (kinF w t one) (i + 1) = nsum (kinF w t one) i from q2]
        first | refine T_iinc1 dX8_pull_83 rfl ?_ | refine T_iinc dX8_pull_83 rfl ?_
        show TK _ _ _ _ _ _ _ _ _ [_, _, _, _, _] _
        refine T_goto dX8_pull_86 ?_
        exact ih (i + 1) (by omega)
      · rw [nI_inj (by omega) (by omega)] at c61
        refine T_aload dX8_pull_64 rfl ?_
        refine T_getr dX8_pull_65 lfX8_9 rfl (SD.kd0 hA) (SD.nx0 hA) (SD.f2 hA) ?_
        refine T_iload dX8_pull_68 rfl ?_
        refine T_ialdN (N := 10) dX8_pull_70 (SD.k2 hA) (SD.n2 hA) (SD.l2 hA) rfl (by omega) (by decide) ?_
        refine T_aload dX8_pull_71 rfl ?_
        refine T_getr dX8_pull_72 lfX8_9 rfl (SD.kd0 hA) (SD.nx0 hA) (SD.f2 hA) ?_
        refine T_iload dX8_pull_75 rfl ?_
        refine T_ialdN (N := 10) dX8_pull_76 (SD.k2 hA) (SD.n2 hA) (SD.l2 hA) rfl (by omega) (by decide) ?_
        rw [d2 i hlt, d2 one ho]
        have b1 := (ht.1 i hlt).1
        have b2 := (ht.1 one ho).1
        refine T_icmp_ne dX8_pull_77 (fun c77 => ?_) (fun c77 => ?_)
        · rw [nI_inj (by omega) (by omega)] at c77
          have q1 := eb 0 (by unfold besF; rw [if_neg (fun z => c77 z.2.2)])
          rw [← show nsum (besF w t one) (i + 1) = nsum (besF w t one) i from q1, ← show nsum (kinF w t one) (i + 1) = nsum (kinF w t one) i from q2]
          first | refine T_iinc1 dX8_pull_83 rfl ?_ | refine T_iinc dX8_pull_83 rfl ?_
          show TK _ _ _ _ _ _ _ _ _ [_, _, _, _, _] _
          refine T_goto dX8_pull_86 ?_
          exact ih (i + 1) (by omega)
        · rw [nI_inj (by omega) (by omega)] at c77
          have q1 := eb 1 (by unfold besF; rw [if_pos ⟨e, c61, c77⟩])
          first | refine T_iinc1 dX8_pull_80 rfl ?_ | refine T_iinc dX8_pull_80 rfl ?_
          show TK _ _ _ _ _ _ _ _ _ [_, _, _, _, _] _
          rw [← q1, ← show nsum (kinF w t one) (i + 1) = nsum (kinF w t one) i from q2]
          first | refine T_iinc1 dX8_pull_83 rfl ?_ | refine T_iinc dX8_pull_83 rfl ?_
          show TK _ _ _ _ _ _ _ _ _ [_, _, _, _, _] _
          refine T_goto dX8_pull_86 ?_
          exact ih (i + 1) (by omega)
    · rw [e]
      refine T_if_eq dX8_pull_22 (fun c22 => by first | exact absurd c22 ((by decide)) | exact absurd ((by decide)) c22) (fun c22 => ?_)
      have q1 := eb 0 (by unfold besF; rw [if_neg (by omega)])
      have p1 := (w3 i hlt).1
      have p2 := (w3 one ho).1
      refine T_iload dX8_pull_25 rfl ?_
      refine T_aload dX8_pull_26 rfl ?_
      refine T_getr dX8_pull_27 lfX8_25 rfl (SD.kd0 hA) (SD.nx0 hA) (SD.f0 hA) ?_
      refine T_getr dX8_pull_30 lfX8_87 rfl rfl (by decide) rfl ?_
      refine T_iload dX8_pull_33 rfl ?_
      refine T_ialdN (N := 10) dX8_pull_35 rfl (by decide) rfl rfl (by omega) (by decide) ?_
      refine T_aload dX8_pull_36 rfl ?_
      refine T_getr dX8_pull_37 lfX8_25 rfl (SD.kd0 hA) (SD.nx0 hA) (SD.f0 hA) ?_
      refine T_getr dX8_pull_40 lfX8_87 rfl rfl (by decide) rfl ?_
      refine T_iload dX8_pull_43 rfl ?_
      refine T_ialdN (N := 10) dX8_pull_44 rfl (by decide) rfl rfl (by omega) (by decide) ?_
      rw [s6 i hlt, s6 one ho]
      rw [← show nsum (besF w t one) (i + 1) = nsum (besF w t one) i from q1]
      refine T_icmp_ne dX8_pull_45 (fun c45 => ?_) (fun c45 => ?_)
      · rw [nI_inj (by omega) (by omega)] at c45
        have q2 := ek 0 (by unfold kinF; rw [if_neg (fun z => c45 z.2)])
        refine T_const dX8_pull_52 ?_
        refine T_iadd dX8_pull_53 ?_
        rw [show (0 : Int32) = nI 0 from rfl, nI_add, ← q2]
        refine T_istore dX8_pull_54 ?_
        show TK _ _ _ _ _ _ _ _ _ [_, _, _, _, _] _
        refine T_goto dX8_pull_55 ?_
        first | refine T_iinc1 dX8_pull_83 rfl ?_ | refine T_iinc dX8_pull_83 rfl ?_
        show TK _ _ _ _ _ _ _ _ _ [_, _, _, _, _] _
        refine T_goto dX8_pull_86 ?_
        exact ih (i + 1) (by omega)
      · rw [nI_inj (by omega) (by omega)] at c45
        have q2 := ek 1 (by unfold kinF; rw [if_pos ⟨e, c45⟩])
        refine T_const dX8_pull_48 ?_
        refine T_goto dX8_pull_49 ?_
        refine T_iadd dX8_pull_53 ?_
        rw [nI_1, ← q2]
        refine T_istore dX8_pull_54 ?_
        show TK _ _ _ _ _ _ _ _ _ [_, _, _, _, _] _
        refine T_goto dX8_pull_55 ?_
        first | refine T_iinc1 dX8_pull_83 rfl ?_ | refine T_iinc dX8_pull_83 rfl ?_
        show TK _ _ _ _ _ _ _ _ _ [_, _, _, _, _] _
        refine T_goto dX8_pull_86 ?_
        exact ih (i + 1) (by omega)
theorem c_pull (Z : aZ) (d : Nat) (h : aH) {a : Nat} (hA : SD a) {w : SEA} {t : STD} (hw : SOK w) (ht : TOK w t) (hs : SEAC h w) (hd : SDC h a w t) {one : Nat} (ho : one < w.lost) : C0 Z mX8_pull (d + 2) [.ref a, .int (nI one)] h (fun r h' => r = some (.int (pullF w t one)) ∧ Only h h' [13, 14] []) := by
  obtain ⟨w1, w2, w3, w4, w5, w6⟩ := id hw
  obtain ⟨d1, d2, d3, d4⟩ := id hd
  obtain ⟨s1, s2, s3, s4, s5, s6, s7, s8⟩ := id hs
  have hlo := hA.lo
  have hc := (ht.1 one ho).1
  refine C0.of mokX8_pull (Nat.le_of_ble_eq_true rfl) ?_
  show T0 _ _ _ _ _ _ [_, _, _, _, _] _
  refine T_const dX8_pull_0 ?_
  refine T_istore dX8_pull_1 ?_
  show TK _ _ _ _ _ _ _ _ _ [_, _, _, _, _] _
  refine T_const dX8_pull_2 ?_
  refine T_istore dX8_pull_3 ?_
  show TK _ _ _ _ _ _ _ _ _ [_, _, _, _, _] _
  refine T_const dX8_pull_4 ?_
  refine T_istore dX8_pull_5 ?_
  show TK _ _ _ _ _ _ _ _ _ [_, _, _, _, _] _
  refine c_pull_loop Z (d + 1) h hA hw ht hs hd ho _ ?_ w.lost 0 (by omega)
  refine T_aload dX8_pull_89 rfl ?_
  refine T_getr dX8_pull_90 lfX8_29 rfl (SD.kd0 hA) (SD.nx0 hA) (SD.f1 hA) ?_
  refine T_getr dX8_pull_93 lfX8_90 rfl rfl (by decide) rfl ?_
  refine T_const dX8_pull_96 ?_
  refine T_aload dX8_pull_97 rfl ?_
  refine T_getr dX8_pull_98 lfX8_25 rfl (SD.kd0 hA) (SD.nx0 hA) (SD.f0 hA) ?_
  refine T_aload dX8_pull_101 rfl ?_
  refine T_getr dX8_pull_102 lfX8_9 rfl (SD.kd0 hA) (SD.nx0 hA) (SD.f2 hA) ?_
  refine T_iload dX8_pull_105 rfl ?_
  refine T_ialdN (N := 10) dX8_pull_106 (SD.k2 hA) (SD.n2 hA) (SD.l2 hA) rfl (by omega) (by decide) ?_
  rw [d2 one ho]
  refine T0_Vp (c_far Z (d + 1) h s1 w4 hc) dX8_pull_107 lvX8_95 rfl rfl rfl (by decide) (Nat.le_of_ble_eq_true rfl) ?_
  refine T_iastN (N := 6) (i := 0) dX8_pull_110 rfl (by decide) rfl rfl (by omega) (by decide) ?_
  refine T_aload dX8_pull_111 rfl ?_
  refine T_getr dX8_pull_112 lfX8_29 rfl (SD.kd0 hA) (SD.nx0 hA) (SD.f1 hA) ?_
  refine T_getr dX8_pull_115 lfX8_90 rfl rfl (by decide) rfl ?_
  refine T_const dX8_pull_118 ?_
  refine T_aload dX8_pull_119 rfl ?_
  refine T_getr dX8_pull_120 lfX8_25 rfl (SD.kd0 hA) (SD.nx0 hA) (SD.f0 hA) ?_
  refine T_getr dX8_pull_123 lfX8_98 rfl rfl (by decide) rfl ?_
  refine T_aload dX8_pull_126 rfl ?_
  refine T_getr dX8_pull_127 lfX8_9 rfl (SD.kd0 hA) (SD.nx0 hA) (SD.f2 hA) ?_
  refine T_iload dX8_pull_130 rfl ?_
  refine T_ialdN (N := 10) dX8_pull_131 (SD.k2 hA) (SD.n2 hA) (SD.l2 hA) rfl (by omega) (by decide) ?_
  rw [ri_sri_ne (show a + 1 ≠ 13 by omega), d2 one ho]
  refine T_ialdN (N := 64) dX8_pull_132 rfl (by decide) rfl rfl (by omega) (by decide) ?_
  rw [ri_sri_ne (show (2 : Nat) ≠ 13 by decide), s4 _ hc]
  refine T_iastN (N := 6) (i := 1) dX8_pull_133 rfl (by decide) rfl rfl (by omega) (by decide) ?_
  refine T_aload dX8_pull_134 rfl ?_
  refine T_getr dX8_pull_135 lfX8_29 rfl (SD.kd0 hA) (SD.nx0 hA) (SD.f1 hA) ?_
  refine T_getr dX8_pull_138 lfX8_90 rfl rfl (by decide) rfl ?_
  refine T_const dX8_pull_141 ?_
  refine T_aload dX8_pull_142 rfl ?_
  refine T_getr dX8_pull_143 lfX8_25 rfl (SD.kd0 hA) (SD.nx0 hA) (SD.f0 hA) ?_
  refine T_getr dX8_pull_146 lfX8_101 rfl rfl (by decide) rfl ?_
  refine T_iload dX8_pull_149 rfl ?_
  refine T_ialdN (N := 10) dX8_pull_150 rfl (by decide) rfl rfl (by omega) (by decide) ?_
  rw [ri_sri_ne (show (5 : Nat) ≠ 13 by decide), ri_sri_ne (show (5 : Nat) ≠ 13 by decide), s7 one ho]
  refine T_iastN (N := 6) (i := 2) dX8_pull_151 rfl (by decide) rfl rfl (by omega) (by decide) ?_
  refine T_aload dX8_pull_152 rfl ?_
  refine T_getr dX8_pull_153 lfX8_29 rfl (SD.kd0 hA) (SD.nx0 hA) (SD.f1 hA) ?_
  refine T_getr dX8_pull_156 lfX8_90 rfl rfl (by decide) rfl ?_
  refine T_const dX8_pull_159 ?_
  refine T_iload dX8_pull_160 rfl ?_
  refine T_iastN (N := 6) (i := 3) dX8_pull_161 rfl (by decide) rfl rfl (by omega) (by decide) ?_
  refine T_aload dX8_pull_162 rfl ?_
  refine T_getr dX8_pull_163 lfX8_29 rfl (SD.kd0 hA) (SD.nx0 hA) (SD.f1 hA) ?_
  refine T_getr dX8_pull_166 lfX8_90 rfl rfl (by decide) rfl ?_
  refine T_const dX8_pull_169 ?_
  refine T_iload dX8_pull_170 rfl ?_
  refine T_iastN (N := 6) (i := 4) dX8_pull_171 rfl (by decide) rfl rfl (by omega) (by decide) ?_
  refine T_aload dX8_pull_172 rfl ?_
  refine T_getr dX8_pull_173 lfX8_29 rfl (SD.kd0 hA) (SD.nx0 hA) (SD.f1 hA) ?_
  refine T_getr dX8_pull_176 lfX8_90 rfl rfl (by decide) rfl ?_
  refine T_const dX8_pull_179 ?_
  refine T_aload dX8_pull_180 rfl ?_
  refine T_getfN (by first | assumption | rfl) dX8_pull_181 lfX8_21 rfl (SD.kd0 hA) (SD.nx0 hA) ?_
  refine T_iastN (N := 6) (i := 5) dX8_pull_184 rfl (by decide) rfl rfl (by omega) (by decide) ?_
  refine T_const dX8_pull_185 ?_
  refine T_const dX8_pull_186 ?_
  refine T_aload dX8_pull_188 rfl ?_
  refine T_getr dX8_pull_189 lfX8_29 rfl (SD.kd0 hA) (SD.nx0 hA) (SD.f1 hA) ?_
  have o6 : Only h (sri (sri (sri (sri (sri (sri h 13 0 (nI (farF w.lamp (t.cell one)))) 13 1 (nI (w.dp (t.cell one)))) 13 2 (nI (w.ow one))) 13 3 (nI (nsum (besF w t one) w.lost))) 13 4 (nI (nsum (kinF w t one) w.lost))) 13 5 (nI t.oil)) [13, 14] [] := (((((((Only.rf h _ _).sri (by decide)).sri (by decide)).sri (by decide)).sri (by decide)).sri (by decide)).sri (by decide))
  refine T0_V (c_workOut Z d _ (s8.keep o6 (by decide) (by decide) (by decide))) dX8_pull_192 lvX8_104 rfl rfl rfl (by decide) (Nat.le_of_ble_eq_true rfl) (fun r h1 q => ?_)
  obtain ⟨rfl, o7⟩ := q
  show T0 Z mX8_pull (d + 2) h1 _ 195 _ [_, _, _]
  refine T_min dX8_pull_195 lmX8_108 (Nat.le_of_ble_eq_true rfl) ?_
  refine T_max dX8_pull_198 lmX8_114 (Nat.le_of_ble_eq_true rfl) ?_
  refine T0_ireti dX8_pull_201 ⟨?_, o6.trans o7 (fun _ z => z) (by decide) (fun _ z => z) (fun _ z => z)⟩
  rw [clamp_eq]
  show some (Value.int (clampF _)) = some (Value.int (clampF _))
  rw [s8.lx _ (namF w t one) ?_]
  intro k hk
  rcases (show k = 0 ∨ k = 1 ∨ k = 2 ∨ k = 3 ∨ k = 4 ∨ k = 5 by omega) with rfl | rfl | rfl | rfl | rfl | rfl
  · rw [ri_sri_off (by decide), ri_sri_off (by decide), ri_sri_off (by decide), ri_sri_off (by decide), ri_sri_off (by decide), ri_sri_at]; rfl
  · rw [ri_sri_off (by decide), ri_sri_off (by decide), ri_sri_off (by decide), ri_sri_off (by decide), ri_sri_at]; rfl
  · rw [ri_sri_off (by decide), ri_sri_off (by decide), ri_sri_off (by decide), ri_sri_at]; rfl
  · rw [ri_sri_off (by decide), ri_sri_off (by decide), ri_sri_at]; rfl
  · rw [ri_sri_off (by decide), ri_sri_at]; rfl
  · rw [ri_sri_at]; rfl
