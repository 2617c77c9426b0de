/-! ===== Law: joined, workOut ===== -/
theorem c_joined (Z : aZ) (d : Nat) (h : aH) (s x y : Int32) : C0 Z mX3_joined d [.ref 10, .int s, .int x, .int y] h (PV h (.int (jopF s x y))) := by
  refine C0.of mokX3_joined (Nat.le_of_ble_eq_true rfl) ?_
  show T0 _ _ _ _ _ _ [_, _, _, _] _
  refine T_iload dX3_joined_0 rfl ?_
  have hps : (decode mX3_joined.1 1 = .ok (.lookupswitch (188) #[(37, 176), (38, 105), (42, 160), (43, 152), (45, 156), (47, 164), (60, 119), (61, 130), (62, 141), (124, 91)], 91)) := dX3_joined_1
  unfold jopF
  by_cases h124 : s = 124
  · subst h124
    refine T_lookup (off := 91) (tgt := 92) hps (by decide) (by decide) (by decide) ?_
    rw [if_pos rfl]
    refine T_iload dX3_joined_92 rfl ?_
    refine T_if_ne dX3_joined_93 (fun c93 => ?_) (fun c93 => ?_)
    · refine T_const dX3_joined_100 ?_
      refine T_goto dX3_joined_101 ?_
      exact T0_ireti dX3_joined_105 ⟨by first | rw [bI_t (Or.inl c93)] | rw [bI_t (Or.inr c97)] | rw [bI_f (fun (z : x ≠ 0 ∨ y ≠ 0) => z.elim (fun z => absurd c93 z) (fun z => absurd c97 z))], rfl⟩
    · refine T_iload dX3_joined_96 rfl ?_
      refine T_if_eq dX3_joined_97 (fun c97 => ?_) (fun c97 => ?_)
      · refine T_const dX3_joined_104 ?_
        exact T0_ireti dX3_joined_105 ⟨by first | rw [bI_t (Or.inl c93)] | rw [bI_t (Or.inr c97)] | rw [bI_f (fun (z : x ≠ 0 ∨ y ≠ 0) => z.elim (fun z => absurd c93 z) (fun z => absurd c97 z))], rfl⟩
      · refine T_const dX3_joined_100 ?_
        refine T_goto dX3_joined_101 ?_
        exact T0_ireti dX3_joined_105 ⟨by first | rw [bI_t (Or.inl c93)] | rw [bI_t (Or.inr c97)] | rw [bI_f (fun (z : x ≠ 0 ∨ y ≠ 0) => z.elim (fun z => absurd c93 z) (fun z => absurd c97 z))], rfl⟩
  by_cases h38 : s = 38
  · subst h38
    refine T_lookup (off := 105) (tgt := 106) hps (by decide) (by decide) (by decide) ?_
    rw [if_neg (show ¬ (38 : Int32) = 124 by decide), if_pos rfl]
    refine T_iload dX3_joined_106 rfl ?_
    refine T_if_eq dX3_joined_107 (fun c107 => ?_) (fun c107 => ?_)
    · refine T_const dX3_joined_118 ?_
      exact T0_ireti dX3_joined_119 ⟨by first | rw [bI_t (And.intro c107 c111)] | rw [bI_f (fun (z : x ≠ 0 ∧ y ≠ 0) => absurd c107 z.left)] | rw [bI_f (fun (z : x ≠ 0 ∧ y ≠ 0) => absurd c111 z.right)], rfl⟩
    · refine T_iload dX3_joined_110 rfl ?_
      refine T_if_eq dX3_joined_111 (fun c111 => ?_) (fun c111 => ?_)
      · refine T_const dX3_joined_118 ?_
        exact T0_ireti dX3_joined_119 ⟨by first | rw [bI_t (And.intro c107 c111)] | rw [bI_f (fun (z : x ≠ 0 ∧ y ≠ 0) => absurd c107 z.left)] | rw [bI_f (fun (z : x ≠ 0 ∧ y ≠ 0) => absurd c111 z.right)], rfl⟩
      · refine T_const dX3_joined_114 ?_
        refine T_goto dX3_joined_115 ?_
        exact T0_ireti dX3_joined_119 ⟨by first | rw [bI_t (And.intro c107 c111)] | rw [bI_f (fun (z : x ≠ 0 ∧ y ≠ 0) => absurd c107 z.left)] | rw [bI_f (fun (z : x ≠ 0 ∧ y ≠ 0) => absurd c111 z.right)], rfl⟩
  by_cases h60 : s = 60
  · subst h60
    refine T_lookup (off := 119) (tgt := 120) hps (by decide) (by decide) (by decide) ?_
    rw [if_neg (show ¬ (60 : Int32) = 124 by decide), if_neg (show ¬ (60 : Int32) = 38 by decide), if_pos rfl]
    refine T_iload dX3_joined_120 rfl ?_
    refine T_iload dX3_joined_121 rfl ?_
    refine T_icmp_ge dX3_joined_122 (fun c122 => ?_) (fun c122 => ?_)
    · refine T_const dX3_joined_129 ?_
      exact T0_ireti dX3_joined_130 ⟨by first | rw [bI_t (Int32.not_le.mp c122)] | rw [bI_f (Int32.not_lt.mpr c122)], rfl⟩
    · refine T_const dX3_joined_125 ?_
      refine T_goto dX3_joined_126 ?_
      exact T0_ireti dX3_joined_130 ⟨by first | rw [bI_t (Int32.not_le.mp c122)] | rw [bI_f (Int32.not_lt.mpr c122)], rfl⟩
  by_cases h61 : s = 61
  · subst h61
    refine T_lookup (off := 130) (tgt := 131) hps (by decide) (by decide) (by decide) ?_
    rw [if_neg (show ¬ (61 : Int32) = 124 by decide), if_neg (show ¬ (61 : Int32) = 38 by decide), if_neg (show ¬ (61 : Int32) = 60 by decide), if_pos rfl]
    refine T_iload dX3_joined_131 rfl ?_
    refine T_iload dX3_joined_132 rfl ?_
    refine T_icmp_ne dX3_joined_133 (fun c133 => ?_) (fun c133 => ?_)
    · refine T_const dX3_joined_140 ?_
      exact T0_ireti dX3_joined_141 ⟨by first | rw [bI_t c133] | rw [bI_f c133], rfl⟩
    · refine T_const dX3_joined_136 ?_
      refine T_goto dX3_joined_137 ?_
      exact T0_ireti dX3_joined_141 ⟨by first | rw [bI_t c133] | rw [bI_f c133], rfl⟩
  by_cases h62 : s = 62
  · subst h62
    refine T_lookup (off := 141) (tgt := 142) hps (by decide) (by decide) (by decide) ?_
    rw [if_neg (show ¬ (62 : Int32) = 124 by decide), if_neg (show ¬ (62 : Int32) = 38 by decide), if_neg (show ¬ (62 : Int32) = 60 by decide), if_neg (show ¬ (62 : Int32) = 61 by decide), if_pos rfl]
    refine T_iload dX3_joined_142 rfl ?_
    refine T_iload dX3_joined_143 rfl ?_
    refine T_icmp_le dX3_joined_144 (fun c144 => ?_) (fun c144 => ?_)
    · refine T_const dX3_joined_151 ?_
      exact T0_ireti dX3_joined_152 ⟨by first | rw [bI_t (Int32.not_le.mp c144)] | rw [bI_f (Int32.not_lt.mpr c144)], rfl⟩
    · refine T_const dX3_joined_147 ?_
      refine T_goto dX3_joined_148 ?_
      exact T0_ireti dX3_joined_152 ⟨by first | rw [bI_t (Int32.not_le.mp c144)] | rw [bI_f (Int32.not_lt.mpr c144)], rfl⟩
  by_cases h43 : s = 43
  · subst h43
    refine T_lookup (off := 152) (tgt := 153) hps (by decide) (by decide) (by decide) ?_
    rw [if_neg (show ¬ (43 : Int32) = 124 by decide), if_neg (show ¬ (43 : Int32) = 38 by decide), if_neg (show ¬ (43 : Int32) = 60 by decide), if_neg (show ¬ (43 : Int32) = 61 by decide), if_neg (show ¬ (43 : Int32) = 62 by decide), if_pos rfl]
    refine T_iload dX3_joined_153 rfl ?_
    refine T_iload dX3_joined_154 rfl ?_
    refine T_iadd dX3_joined_155 ?_
    exact T0_ireti dX3_joined_156 ⟨rfl, rfl⟩
  by_cases h45 : s = 45
  · subst h45
    refine T_lookup (off := 156) (tgt := 157) hps (by decide) (by decide) (by decide) ?_
    rw [if_neg (show ¬ (45 : Int32) = 124 by decide), if_neg (show ¬ (45 : Int32) = 38 by decide), if_neg (show ¬ (45 : Int32) = 60 by decide), if_neg (show ¬ (45 : Int32) = 61 by decide), if_neg (show ¬ (45 : Int32) = 62 by decide), if_neg (show ¬ (45 : Int32) = 43 by decide), if_pos rfl]
    refine T_iload dX3_joined_157 rfl ?_
    refine T_iload dX3_joined_158 rfl ?_
    refine T_isub dX3_joined_159 ?_
    exact T0_ireti dX3_joined_160 ⟨rfl, rfl⟩
  by_cases h42 : s = 42
  · subst h42
    refine T_lookup (off := 160) (tgt := 161) hps (by decide) (by decide) (by decide) ?_
    rw [if_neg (show ¬ (42 : Int32) = 124 by decide), if_neg (show ¬ (42 : Int32) = 38 by decide), if_neg (show ¬ (42 : Int32) = 60 by decide), if_neg (show ¬ (42 : Int32) = 61 by decide), if_neg (show ¬ (42 : Int32) = 62 by decide), if_neg (show ¬ (42 : Int32) = 43 by decide), if_neg (show ¬ (42 : Int32) = 45 by decide), if_pos rfl]
    refine T_iload dX3_joined_161 rfl ?_
    refine T_iload dX3_joined_162 rfl ?_
    refine T_imul dX3_joined_163 ?_
    exact T0_ireti dX3_joined_164 ⟨rfl, rfl⟩
  by_cases h47 : s = 47
  · subst h47
    refine T_lookup (off := 164) (tgt := 165) hps (by decide) (by decide) (by decide) ?_
    rw [if_neg (show ¬ (47 : Int32) = 124 by decide), if_neg (show ¬ (47 : Int32) = 38 by decide), if_neg (show ¬ (47 : Int32) = 60 by decide), if_neg (show ¬ (47 : Int32) = 61 by decide), if_neg (show ¬ (47 : Int32) = 62 by decide), if_neg (show ¬ (47 : Int32) = 43 by decide), if_neg (show ¬ (47 : Int32) = 45 by decide), if_neg (show ¬ (47 : Int32) = 42 by decide), if_pos rfl]
    refine T_iload dX3_joined_165 rfl ?_
    refine T_if_ne dX3_joined_166 (fun c166 => ?_) (fun c166 => ?_)
    · refine T_iload dX3_joined_173 rfl ?_
      refine T_iload dX3_joined_174 rfl ?_
      refine T_idiv dX3_joined_175 c166 ?_
      exact T0_ireti dX3_joined_176 ⟨by first | rw [if_pos c166] | rw [if_neg c166], rfl⟩
    · refine T_const dX3_joined_169 ?_
      refine T_goto dX3_joined_170 ?_
      exact T0_ireti dX3_joined_176 ⟨by first | rw [if_pos c166] | rw [if_neg c166], rfl⟩
  by_cases h37 : s = 37
  · subst h37
    refine T_lookup (off := 176) (tgt := 177) hps (by decide) (by decide) (by decide) ?_
    rw [if_neg (show ¬ (37 : Int32) = 124 by decide), if_neg (show ¬ (37 : Int32) = 38 by decide), if_neg (show ¬ (37 : Int32) = 60 by decide), if_neg (show ¬ (37 : Int32) = 61 by decide), if_neg (show ¬ (37 : Int32) = 62 by decide), if_neg (show ¬ (37 : Int32) = 43 by decide), if_neg (show ¬ (37 : Int32) = 45 by decide), if_neg (show ¬ (37 : Int32) = 42 by decide), if_neg (show ¬ (37 : Int32) = 47 by decide), if_pos rfl]
    refine T_iload dX3_joined_177 rfl ?_
    refine T_if_ne dX3_joined_178 (fun c178 => ?_) (fun c178 => ?_)
    · refine T_iload dX3_joined_185 rfl ?_
      refine T_iload dX3_joined_186 rfl ?_
      refine T_irem dX3_joined_187 c178 ?_
      exact T0_ireti dX3_joined_188 ⟨by first | rw [if_pos c178] | rw [if_neg c178], rfl⟩
    · refine T_const dX3_joined_181 ?_
      refine T_goto dX3_joined_182 ?_
      exact T0_ireti dX3_joined_188 ⟨by first | rw [if_pos c178] | rw [if_neg c178], rfl⟩
  have hne : ∀ k : Int32, s ≠ k → s.toInt ≠ k.toInt := fun k hk z => hk (Int32.toInt_inj.mp z)
  have n0 := hne 37 h37
  have n1 := hne 38 h38
  have n2 := hne 42 h42
  have n3 := hne 43 h43
  have n4 := hne 45 h45
  have n5 := hne 47 h47
  have n6 := hne 60 h60
  have n7 := hne 61 h61
  have n8 := hne 62 h62
  have n9 := hne 124 h124
  refine T_lookup (off := 188) (tgt := 189) hps (by decide) (by
    rw [show (#[(37, 176), (38, 105), (42, 160), (43, 152), (45, 156), (47, 164), (60, 119), (61, 130), (62, 141), (124, 91)] : Array (Int × Int)).toList = [(37, 176), (38, 105), (42, 160), (43, 152), (45, 156), (47, 164), (60, 119), (61, 130), (62, 141), (124, 91)] from rfl]
    rw [lv_osw h37 (show (37 : Int32).toInt = 37 from rfl), lv_osw h38 (show (38 : Int32).toInt = 38 from rfl), lv_osw h42 (show (42 : Int32).toInt = 42 from rfl), lv_osw h43 (show (43 : Int32).toInt = 43 from rfl), lv_osw h45 (show (45 : Int32).toInt = 45 from rfl), lv_osw h47 (show (47 : Int32).toInt = 47 from rfl), lv_osw h60 (show (60 : Int32).toInt = 60 from rfl), lv_osw h61 (show (61 : Int32).toInt = 61 from rfl), lv_osw h62 (show (62 : Int32).toInt = 62 from rfl), lv_osw h124 (show (124 : Int32).toInt = 124 from rfl)]
    rfl) (by decide) ?_
  rw [if_neg h124, if_neg h38, if_neg h60, if_neg h61, if_neg h62, if_neg h43, if_neg h45, if_neg h42, if_neg h47, if_neg h37]
  refine T_const dX3_joined_189 ?_
  exact T0_ireti dX3_joined_190 ⟨rfl, rfl⟩
theorem workL_eq (st ar : Nat → Int32) (n : Nat) (nm : Nat → Int32) (f : Nat) (P : List Int32) (i : Nat) : workL st ar n nm (f + 1) P i = if i < n ∧ P.length < 128 then
      if st i = 1 then workL st ar n nm f (ar i :: P) (i + 1)
      else if st i = 2 then workL st ar n nm f (nm (ar i).toNatClampNeg :: P) (i + 1)
      else match P with
        | [] => 0
        | x :: r =>
          if st i = 5 then x
          else if st i = 4 then workL st ar n nm f r (if x = 0 then max (i + 1) (ar i).toNatClampNeg else i + 1)
          else if st i = 3 then workL st ar n nm f (-x :: r) (i + 1)
          else if st i = 33 then workL st ar n nm f (bI (x = 0) :: r) (i + 1)
          else match r with
            | [] => 0
            | y :: r' => workL st ar n nm f (jopF (st i) y x :: r') (i + 1)
    else 0 := rfl
theorem c_workOut_loop (Z : aZ) (d : Nat) (h : aH) {n : Nat} (hn : n ≤ 128) (hn2 : fi h 10 2 = nI n) (hA : ∀ j, j < n → ri h 11 j = 2 → ∃ k, k < 6 ∧ ri h 12 j = nI k) (hB : ∀ j, j < n → ri h 11 j = 4 → ∃ k, k ≤ 128 ∧ ri h 12 j = nI k) (Q : Option Value → aH → Prop) :
    ∀ (f : Nat) (P : List Int32) (i : Nat) (g : aH) (j3 j4 : Value), n ≤ i + f → i ≤ 200 → P.length ≤ 128 → Only h g [14] [] → PileR (ri g 14) P → (∀ g', Only h g' [14] [] → Q (some (.int (workL (ri h 11) (ri h 12) n (ri h 13) f P i))) g') → T0 Z mX3_workOut (d + 1) g Q 32 [.ref 10, .int (nI P.length), .int (nI i), j3, j4] [] := by
  have out : ∀ (f : Nat) (P : List Int32) (i : Nat) (g : aH) (j3 j4 : Value), i ≤ 200 → P.length ≤ 128 → Only h g [14] [] → ¬ (i < n ∧ P.length < 128) → Q (some (.int 0)) g → T0 Z mX3_workOut (d + 1) g Q 32 [.ref 10, .int (nI P.length), .int (nI i), j3, j4] [] := by
    intro f P i g j3 j4 hi hP ho hx hq
    have hl : fi g 10 2 = nI n := by rw [ho.2.1 10 (by decide)]; exact hn2
    refine T_iload dX3_workOut_32 rfl ?_
    refine T_aload dX3_workOut_33 rfl ?_
    refine T_getfN (by first | assumption | rfl) dX3_workOut_34 lfX3_28 rfl rfl (by decide) ?_
    refine T_icmp_ge dX3_workOut_37 (fun c37 => ?_) (fun c37 => ?_)
    · refine T_const dX3_workOut_260 ?_
      exact T0_ireti dX3_workOut_261 hq
    · rw [nI_le' (by omega) (by omega)] at c37
      refine T_iload dX3_workOut_40 rfl ?_
      refine T_aload dX3_workOut_41 rfl ?_
      refine T_getr dX3_workOut_42 lfX3_21 rfl rfl (by decide) rfl ?_
      refine T_alen dX3_workOut_45 rfl (by decide) ?_
      refine T_icmp_ge dX3_workOut_46 (fun c46 => ?_) (fun c46 => ?_)
      · refine T_const dX3_workOut_260 ?_
        exact T0_ireti dX3_workOut_261 hq
      · exfalso
        change ¬ nI 128 ≤ nI P.length at c46
        rw [nI_le' (by omega) (by omega)] at c46
        exact hx ⟨by omega, by omega⟩
  intro f
  induction f with
  | zero =>
    intro P i g j3 j4 h1 hi hP ho hp hq
    exact out 0 P i g j3 j4 hi hP ho (fun z => by omega) (hq g ho)
  | succ f ih =>
    intro P i g j3 j4 h1 hi hP ho hp hq
    by_cases hin : i < n ∧ P.length < 128
    · have hl : fi g 10 2 = nI n := by rw [ho.2.1 10 (by decide)]; exact hn2
      have hlt := hin.1
      have hPl := hin.2
      refine T_iload dX3_workOut_32 rfl ?_
      refine T_aload dX3_workOut_33 rfl ?_
      refine T_getfN (by first | assumption | rfl) dX3_workOut_34 lfX3_28 rfl rfl (by decide) ?_
      refine T_icmp_ge dX3_workOut_37 (fun c37 => by first | exact absurd c37 ((by rw [nI_le' (by omega) (by omega)]; omega)) | exact absurd ((by rw [nI_le' (by omega) (by omega)]; omega)) c37) (fun c37 => ?_)
      refine T_iload dX3_workOut_40 rfl ?_
      refine T_aload dX3_workOut_41 rfl ?_
      refine T_getr dX3_workOut_42 lfX3_21 rfl rfl (by decide) rfl ?_
      refine T_alen dX3_workOut_45 rfl (by decide) ?_
      refine T_icmp_ge dX3_workOut_46 (fun c46 => by first | exact absurd c46 ((by show ¬ nI 128 ≤ nI P.length; rw [nI_le' (by omega) (by omega)]; omega)) | exact absurd ((by show ¬ nI 128 ≤ nI P.length; rw [nI_le' (by omega) (by omega)]; omega)) c46) (fun c46 => ?_)
      refine T_aload dX3_workOut_49 rfl ?_
      refine T_getr dX3_workOut_50 lfX3_9 rfl rfl (by decide) rfl ?_
      refine T_iload dX3_workOut_53 rfl ?_
      refine T_ialdN (N := 128) dX3_workOut_54 rfl (by decide) rfl rfl (by omega) (by decide) ?_
      refine T_istore dX3_workOut_55 ?_
      show TK _ _ _ _ _ _ _ _ _ [_, _, _, _, _] _
      refine T_aload dX3_workOut_56 rfl ?_
      refine T_getr dX3_workOut_57 lfX3_15 rfl rfl (by decide) rfl ?_
      refine T_iload dX3_workOut_60 rfl ?_
      refine T_ialdN (N := 128) dX3_workOut_61 rfl (by decide) rfl rfl (by omega) (by decide) ?_
      refine T_istore dX3_workOut_62 ?_
      show TK _ _ _ _ _ _ _ _ _ [_, _, _, _, _] _
      first | refine T_iinc1 dX3_workOut_64 rfl ?_ | refine T_iinc dX3_workOut_64 rfl ?_
      show TK _ _ _ _ _ _ _ _ _ [_, _, _, _, _] _
      rw [ho.1 11 (by decide), ho.1 12 (by decide)]
      refine T_iload dX3_workOut_67 rfl ?_
      refine T_const dX3_workOut_68 ?_
      have step : ∀ (P' : List Int32) (i' : Nat) (g1 : aH) (j3 j4 : Value), workL (ri h 11) (ri h 12) n (ri h 13) (f + 1) P i = workL (ri h 11) (ri h 12) n (ri h 13) f P' i' → n ≤ i' + f → i' ≤ 200 → P'.length ≤ 128 → Only h g1 [14] [] → PileR (ri g1 14) P' → T0 Z mX3_workOut (d + 1) g1 Q 32 [.ref 10, .int (nI P'.length), .int (nI i'), j3, j4] [] := by
        intro P' i' g1 j3 j4 e a1 a2 a3 a4 a5
        exact ih P' i' g1 j3 j4 a1 a2 a3 a4 a5 (fun g' hg => by rw [← e]; exact hq g' hg)
      have ret : ∀ v, workL (ri h 11) (ri h 12) n (ri h 13) (f + 1) P i = v → Q (some (.int v)) g := fun v e => e ▸ hq g ho
      have eW := workL_eq (ri h 11) (ri h 12) n (ri h 13) f P i
      rw [if_pos hin] at eW
      refine T_icmp_ne dX3_workOut_69 (fun c69 => ?_) (fun c69 => ?_)
      · rw [if_neg c69] at eW
        refine T_iload dX3_workOut_86 rfl ?_
        refine T_const dX3_workOut_87 ?_
        refine T_icmp_ne dX3_workOut_88 (fun c88 => ?_) (fun c88 => ?_)
        · rw [if_neg c88] at eW
          refine T_iload dX3_workOut_110 rfl ?_
          refine T_const dX3_workOut_111 ?_
          cases P with
          | nil =>
            refine T_icmp_ge dX3_workOut_112 (fun c112 => by first | exact absurd c112 ((by decide)) | exact absurd ((by decide)) c112) (fun c112 => ?_)
            refine T_const dX3_workOut_115 ?_
            exact T0_ireti dX3_workOut_116 (ret 0 eW)
          | cons x r =>
            have hx := hp.1
            have hr := hp.2
            have hrl : r.length + 1 < 128 := hPl
            simp only [List.length_cons]
            refine T_icmp_ge dX3_workOut_112 (fun c112 => ?_) (fun c112 => by first | exact absurd c112 ((by rw [show (1 : Int32) = nI 1 from rfl, nI_le' (by omega) (by omega)]; omega)) | exact absurd ((by rw [show (1 : Int32) = nI 1 from rfl, nI_le' (by omega) (by omega)]; omega)) c112)
            refine T_iload dX3_workOut_117 rfl ?_
            refine T_const dX3_workOut_118 ?_
            refine T_icmp_ne dX3_workOut_119 (fun c119 => ?_) (fun c119 => ?_)
            · replace eW := eW.trans (if_neg c119)
              refine T_iload dX3_workOut_131 rfl ?_
              refine T_const dX3_workOut_132 ?_
              refine T_icmp_ne dX3_workOut_133 (fun c133 => ?_) (fun c133 => ?_)
              · replace eW := eW.trans (if_neg c133)
                refine T_iload dX3_workOut_162 rfl ?_
                refine T_const dX3_workOut_163 ?_
                refine T_icmp_ne dX3_workOut_164 (fun c164 => ?_) (fun c164 => ?_)
                · replace eW := eW.trans (if_neg c164)
                  refine T_iload dX3_workOut_187 rfl ?_
                  refine T_const dX3_workOut_188 ?_
                  refine T_icmp_ne dX3_workOut_190 (fun c190 => ?_) (fun c190 => ?_)
                  · replace eW := eW.trans (if_neg c190)
                    refine T_iload dX3_workOut_220 rfl ?_
                    refine T_const dX3_workOut_221 ?_
                    cases r with
                    | nil =>
                      refine T_icmp_ge dX3_workOut_222 (fun c222 => by first | exact absurd c222 ((by decide)) | exact absurd ((by decide)) c222) (fun c222 => ?_)
                      refine T_const dX3_workOut_225 ?_
                      exact T0_ireti dX3_workOut_226 (ret 0 eW)
                    | cons y r' =>
                      simp only [List.length_cons] at hrl ⊢
                      refine T_icmp_ge dX3_workOut_222 (fun c222 => ?_) (fun c222 => by first | exact absurd c222 ((by rw [show (2 : Int32) = nI 2 from rfl, nI_le' (by omega) (by omega)]; omega)) | exact absurd ((by rw [show (2 : Int32) = nI 2 from rfl, nI_le' (by omega) (by omega)]; omega)) c222)
                      first | refine T_iinc1 dX3_workOut_227 rfl ?_ | refine T_iinc dX3_workOut_227 rfl ?_
                      show TK _ _ _ _ _ _ _ _ _ [_, _, _, _, _] _
                      rw [pk_m1]
                      refine T_aload dX3_workOut_230 rfl ?_
                      refine T_getr dX3_workOut_231 lfX3_21 rfl rfl (by decide) rfl ?_
                      refine T_iload dX3_workOut_234 rfl ?_
                      refine T_const dX3_workOut_235 ?_
                      refine T_isub dX3_workOut_236 ?_
                      refine T_aload dX3_workOut_237 rfl ?_
                      refine T_iload dX3_workOut_238 rfl ?_
                      refine T_aload dX3_workOut_239 rfl ?_
                      refine T_getr dX3_workOut_240 lfX3_21 rfl rfl (by decide) rfl ?_
                      refine T_iload dX3_workOut_243 rfl ?_
                      refine T_const dX3_workOut_244 ?_
                      refine T_isub dX3_workOut_245 ?_
                      refine T_ialdN (N := 128) (i := r'.length) dX3_workOut_246 rfl (by decide) rfl (nI_pred (r'.length)) (by omega) (by decide) ?_
                      refine T_aload dX3_workOut_247 rfl ?_
                      refine T_getr dX3_workOut_248 lfX3_21 rfl rfl (by decide) rfl ?_
                      refine T_iload dX3_workOut_251 rfl ?_
                      refine T_ialdN (N := 128) (i := (r'.length+1)) dX3_workOut_252 rfl (by decide) rfl rfl (by omega) (by decide) ?_
                      refine T0_Vp (c_joined Z d g (ri h 11 i) _ _) dX3_workOut_253 lvX3_45 rfl rfl rfl (by decide) (Nat.le_of_ble_eq_true rfl) ?_
                      rw [hr.1, show ri g 14 (r'.length + 1) = x from hx]
                      refine T_iastN (N := 128) (i := r'.length) dX3_workOut_256 rfl (by decide) rfl (nI_pred (r'.length)) (by omega) (by decide) ?_
                      refine T_goto dX3_workOut_257 ?_
                      exact step (jopF (ri h 11 i) y x :: r') (i + 1) _ _ _ eW (by omega) (by omega) (by show r'.length + 1 ≤ 128; omega) (ho.sri (by decide)) (by rw [ri_sri]; exact hr.2.push)
                  · replace eW := eW.trans (if_pos c190)
                    refine T_aload dX3_workOut_193 rfl ?_
                    refine T_getr dX3_workOut_194 lfX3_21 rfl rfl (by decide) rfl ?_
                    refine T_iload dX3_workOut_197 rfl ?_
                    refine T_const dX3_workOut_198 ?_
                    refine T_isub dX3_workOut_199 ?_
                    refine T_aload dX3_workOut_200 rfl ?_
                    refine T_getr dX3_workOut_201 lfX3_21 rfl rfl (by decide) rfl ?_
                    refine T_iload dX3_workOut_204 rfl ?_
                    refine T_const dX3_workOut_205 ?_
                    refine T_isub dX3_workOut_206 ?_
                    refine T_ialdN (N := 128) (i := r.length) dX3_workOut_207 rfl (by decide) rfl (nI_pred (r.length)) (by omega) (by decide) ?_
                    rw [hx]
                    refine T_if_ne dX3_workOut_208 (fun c208 => ?_) (fun c208 => ?_)
                    · rw [bI_f c208] at eW
                      refine T_const dX3_workOut_215 ?_
                      refine T_iastN (N := 128) (i := r.length) dX3_workOut_216 rfl (by decide) rfl (nI_pred (r.length)) (by omega) (by decide) ?_
                      refine T_goto dX3_workOut_217 ?_
                      refine T_goto dX3_workOut_257 ?_
                      exact step (0 :: r) (i + 1) _ _ _ eW (by omega) (by omega) (by show r.length + 1 ≤ 128; omega) (ho.sri (by decide)) (by rw [ri_sri]; exact hr.push)
                    · rw [bI_t c208] at eW
                      refine T_const dX3_workOut_211 ?_
                      refine T_goto dX3_workOut_212 ?_
                      refine T_iastN (N := 128) (i := r.length) dX3_workOut_216 rfl (by decide) rfl (nI_pred (r.length)) (by omega) (by decide) ?_
                      refine T_goto dX3_workOut_217 ?_
                      refine T_goto dX3_workOut_257 ?_
                      exact step (1 :: r) (i + 1) _ _ _ eW (by omega) (by omega) (by show r.length + 1 ≤ 128; omega) (ho.sri (by decide)) (by rw [ri_sri]; exact hr.push)
                · replace eW := eW.trans (if_pos c164)
                  refine T_aload dX3_workOut_167 rfl ?_
                  refine T_getr dX3_workOut_168 lfX3_21 rfl rfl (by decide) rfl ?_
                  refine T_iload dX3_workOut_171 rfl ?_
                  refine T_const dX3_workOut_172 ?_
                  refine T_isub dX3_workOut_173 ?_
                  refine T_aload dX3_workOut_174 rfl ?_
                  refine T_getr dX3_workOut_175 lfX3_21 rfl rfl (by decide) rfl ?_
                  refine T_iload dX3_workOut_178 rfl ?_
                  refine T_const dX3_workOut_179 ?_
                  refine T_isub dX3_workOut_180 ?_
                  refine T_ialdN (N := 128) (i := r.length) dX3_workOut_181 rfl (by decide) rfl (nI_pred (r.length)) (by omega) (by decide) ?_
                  refine T_ineg dX3_workOut_182 ?_
                  rw [hx]
                  refine T_iastN (N := 128) (i := r.length) dX3_workOut_183 rfl (by decide) rfl (nI_pred (r.length)) (by omega) (by decide) ?_
                  refine T_goto dX3_workOut_184 ?_
                  refine T_goto dX3_workOut_257 ?_
                  exact step (-x :: r) (i + 1) _ _ _ eW (by omega) (by omega) (by show r.length + 1 ≤ 128; omega) (ho.sri (by decide)) (by rw [ri_sri]; exact hr.push)
              · replace eW := eW.trans (if_pos c133)
                obtain ⟨k, hk, ek⟩ := hB i hlt c133
                rw [ek, nI_clamp (by omega)] at eW
                rw [ek]
                first | refine T_iinc1 dX3_workOut_136 rfl ?_ | refine T_iinc dX3_workOut_136 rfl ?_
                show TK _ _ _ _ _ _ _ _ _ [_, _, _, _, _] _
                rw [pk_m1]
                refine T_aload dX3_workOut_139 rfl ?_
                refine T_getr dX3_workOut_140 lfX3_21 rfl rfl (by decide) rfl ?_
                refine T_iload dX3_workOut_143 rfl ?_
                refine T_ialdN (N := 128) (i := r.length) dX3_workOut_144 rfl (by decide) rfl rfl (by omega) (by decide) ?_
                rw [hx]
                refine T_if_ne dX3_workOut_145 (fun c145 => ?_) (fun c145 => ?_)
                · rw [if_neg c145] at eW
                  refine T_iload dX3_workOut_157 rfl ?_
                  refine T_istore dX3_workOut_158 ?_
                  show TK _ _ _ _ _ _ _ _ _ [_, _, _, _, _] _
                  refine T_goto dX3_workOut_159 ?_
                  refine T_goto dX3_workOut_257 ?_
                  exact step r (i + 1) _ _ _ eW (by omega) (by omega) (by omega) ho hr
                · rw [if_pos c145] at eW
                  refine T_iload dX3_workOut_148 rfl ?_
                  refine T_iload dX3_workOut_149 rfl ?_
                  refine T_max dX3_workOut_151 lmX3_39 (Nat.le_of_ble_eq_true rfl) ?_
                  refine T_goto dX3_workOut_154 ?_
                  rw [show (if nI (i + 1) < nI k then nI k else nI (i + 1)) = nI (max (i + 1) k) by
                    by_cases hik : i + 1 < k
                    · rw [if_pos ((nI_lt' (by omega) (by omega)).mpr hik), Nat.max_eq_right (by omega)]
                    · rw [if_neg (fun z => hik ((nI_lt' (by omega) (by omega)).mp z)), Nat.max_eq_left (by omega)]]
                  refine T_istore dX3_workOut_158 ?_
                  show TK _ _ _ _ _ _ _ _ _ [_, _, _, _, _] _
                  refine T_goto dX3_workOut_159 ?_
                  refine T_goto dX3_workOut_257 ?_
                  exact step r (max (i + 1) k) _ _ _ eW (by omega) (by omega) (by omega) ho hr
            · replace eW := eW.trans (if_pos c119)
              refine T_aload dX3_workOut_122 rfl ?_
              refine T_getr dX3_workOut_123 lfX3_21 rfl rfl (by decide) rfl ?_
              refine T_iload dX3_workOut_126 rfl ?_
              refine T_const dX3_workOut_127 ?_
              refine T_isub dX3_workOut_128 ?_
              refine T_ialdN (N := 128) (i := r.length) dX3_workOut_129 rfl (by decide) rfl (nI_pred (r.length)) (by omega) (by decide) ?_
              rw [hx]
              exact T0_ireti dX3_workOut_130 (ret x eW)
        · obtain ⟨k, hk, ek⟩ := hA i hlt c88
          rw [if_pos c88, ek, nI_clamp (by omega)] at eW
          rw [ek]
          refine T_aload dX3_workOut_91 rfl ?_
          refine T_getr dX3_workOut_92 lfX3_21 rfl rfl (by decide) rfl ?_
          refine T_iload dX3_workOut_95 rfl ?_
          refine T_aload dX3_workOut_96 rfl ?_
          refine T_getr dX3_workOut_97 lfX3_18 rfl rfl (by decide) rfl ?_
          refine T_iload dX3_workOut_100 rfl ?_
          refine T_ialdN (N := 6) (i := k) dX3_workOut_102 rfl (by decide) rfl rfl (by omega) (by decide) ?_
          refine T_iastN (N := 128) dX3_workOut_103 rfl (by decide) rfl rfl (by omega) (by decide) ?_
          rw [ho.1 13 (by decide)]
          first | refine T_iinc1 dX3_workOut_104 rfl ?_ | refine T_iinc dX3_workOut_104 rfl ?_
          show TK _ _ _ _ _ _ _ _ _ [_, _, _, _, _] _
          refine T_goto dX3_workOut_107 ?_
          refine T_goto dX3_workOut_257 ?_
          exact step (ri h 13 k :: P) (i + 1) _ _ _ eW (by omega) (by omega) hPl (ho.sri (by decide)) (by rw [ri_sri]; exact hp.push)
      · rw [if_pos c69] at eW
        refine T_aload dX3_workOut_72 rfl ?_
        refine T_getr dX3_workOut_73 lfX3_21 rfl rfl (by decide) rfl ?_
        refine T_iload dX3_workOut_76 rfl ?_
        refine T_iload dX3_workOut_77 rfl ?_
        refine T_iastN (N := 128) dX3_workOut_79 rfl (by decide) rfl rfl (by omega) (by decide) ?_
        first | refine T_iinc1 dX3_workOut_80 rfl ?_ | refine T_iinc dX3_workOut_80 rfl ?_
        show TK _ _ _ _ _ _ _ _ _ [_, _, _, _, _] _
        refine T_goto dX3_workOut_83 ?_
        refine T_goto dX3_workOut_257 ?_
        exact step (ri h 12 i :: P) (i + 1) _ _ _ eW (by omega) (by omega) hPl (ho.sri (by decide)) (by rw [ri_sri]; exact hp.push)
    · refine out (f + 1) P i g j3 j4 hi hP ho hin ?_
      have := hq g ho
      unfold workL at this
      rw [if_neg hin] at this
      exact this
theorem c_workOut (Z : aZ) (d : Nat) (h : aH) {lf : (Nat → Int32) → Int32} (hL : LAWC h lf) : C0 Z mX3_workOut (d + 1) [.ref 10] h (fun r h' => r = some (.int (lf (ri h 13))) ∧ Only h h' [14] []) := by
  obtain ⟨n, hn, hn2, hA, hB, hlf⟩ := hL
  rw [hlf]
  unfold workF
  refine C0.of mokX3_workOut (Nat.le_of_ble_eq_true rfl) ?_
  show T0 _ _ _ _ _ _ [_, _, _, _, _] _
  refine T_aload dX3_workOut_0 rfl ?_
  refine T_getfN (by first | assumption | rfl) dX3_workOut_1 lfX3_28 rfl rfl (by decide) ?_
  refine T_if_ne dX3_workOut_4 (fun c4 => ?_) (fun c4 => ?_)
  · have hn0 : n ≠ 0 := fun z => c4 (by rw [z]; rfl)
    rw [if_neg hn0]
    refine T_const dX3_workOut_28 ?_
    refine T_istore dX3_workOut_29 ?_
    show TK _ _ _ _ _ _ _ _ _ [_, _, _, _, _] _
    refine T_const dX3_workOut_30 ?_
    refine T_istore dX3_workOut_31 ?_
    show TK _ _ _ _ _ _ _ _ _ [_, _, _, _, _] _
    exact c_workOut_loop Z d h hn hn2 hA hB _ n [] 0 h .null .null (by omega) (by omega) (by show 0 ≤ 128; omega) (Only.rf _ _ _) trivial (fun g' hg => ⟨rfl, hg⟩)
  · have hn0 : n = 0 := by
      rw [show (0 : Int32) = nI 0 from rfl, nI_inj (by omega) (by omega)] at c4
      exact c4
    rw [if_pos hn0]
    refine T_const dX3_workOut_7 ?_
    refine T_aload dX3_workOut_9 rfl ?_
    refine T_getr dX3_workOut_10 lfX3_18 rfl rfl (by decide) rfl ?_
    refine T_const dX3_workOut_13 ?_
    refine T_ialdN (N := 6) (i := 1) dX3_workOut_14 rfl (by decide) rfl rfl (by omega) (by decide) ?_
    refine T_const dX3_workOut_15 ?_
    refine T_idiv dX3_workOut_16 (by decide) ?_
    refine T_isub dX3_workOut_17 ?_
    refine T_aload dX3_workOut_18 rfl ?_
    refine T_getr dX3_workOut_19 lfX3_18 rfl rfl (by decide) rfl ?_
    refine T_const dX3_workOut_22 ?_
    refine T_ialdN (N := 6) (i := 2) dX3_workOut_23 rfl (by decide) rfl rfl (by omega) (by decide) ?_
    refine T_const dX3_workOut_24 ?_
    refine T_idiv dX3_workOut_25 (by decide) ?_
    refine T_isub dX3_workOut_26 ?_
    exact T0_ireti dX3_workOut_27 ⟨rfl, Only.rf _ _ _⟩
