noncomputable def fX11_walksTo (x : aH) (p1 : Int32) : Option Int32 := (fX11_alongX x p1).bind fun q2_1 => (fX11_alongY x p1).bind fun q8_2 => (fX11_sizeOf q2_1).bind fun q13_3 => (fX11_sizeOf q8_2).bind fun q17_4 => if q13_3 < q17_4 then if q8_2 ≤ (0 : Int32) then some (p1 + (8 : Int32)) else some (p1 - (8 : Int32)) else if q2_1 ≤ (0 : Int32) then some (p1 + (1 : Int32)) else some (p1 - (1 : Int32))
theorem qX11_walksTo (Z : aZ) (y : aH) {x : aH} {p1 : Int32} {q : Int32} (hf : fX11_walksTo x p1 = some q) : CX false Z mX11_walksTo 1 [.ref 73, .int p1] y x (RV (.int q) x) := by
  refine CX.of mokX11_walksTo (Nat.le_of_ble_eq_true rfl) ?_
  show TX _ _ _ _ _ _ _ _ [_, _, _, _] _
  delta fX11_walksTo at hf
  refine T_aload dX11_walksTo_0 rfl ?_
  refine T_iload dX11_walksTo_1 rfl ?_
  obtain ⟨q2_1, hc2_1, hf⟩ := bind_t hf
  refine X_Vv (qX11_alongX Z _ hc2_1) (Nat.le_of_ble_eq_true rfl) dX11_walksTo_2 lvX11_206 rfl rfl ob73 (Nat.le_of_ble_eq_true rfl) ?_
  refine T_istore dX11_walksTo_5 ?_
  show TX _ _ _ _ _ _ _ _ [_, _, _, _] _
  refine T_aload dX11_walksTo_6 rfl ?_
  refine T_iload dX11_walksTo_7 rfl ?_
  obtain ⟨q8_2, hc8_2, hf⟩ := bind_t hf
  refine X_Vv (qX11_alongY Z _ hc8_2) (Nat.le_of_ble_eq_true rfl) dX11_walksTo_8 lvX11_203 rfl rfl ob73 (Nat.le_of_ble_eq_true rfl) ?_
  refine T_istore dX11_walksTo_11 ?_
  show TX _ _ _ _ _ _ _ _ [_, _, _, _] _
  refine T_iload dX11_walksTo_12 rfl ?_
  obtain ⟨q13_3, hc13_3, hf⟩ := bind_t hf
  refine X_Sv (qX11_sizeOf _ Z _ _ hc13_3) (Nat.le_of_ble_eq_true rfl) dX11_walksTo_13 lsX11_209 rfl rfl (Nat.le_of_ble_eq_true rfl) ?_
  refine T_iload dX11_walksTo_16 rfl ?_
  obtain ⟨q17_4, hc17_4, hf⟩ := bind_t hf
  refine X_Sv (qX11_sizeOf _ Z _ _ hc17_4) (Nat.le_of_ble_eq_true rfl) dX11_walksTo_17 lsX11_209 rfl rfl (Nat.le_of_ble_eq_true rfl) ?_
  refine T_icmp_lt dX11_walksTo_20 (fun c20_5 => ?_) (fun c20_5 => ?_)
  · replace hf := ite_t c20_5 hf
    refine T_iload dX11_walksTo_39 rfl ?_
    refine T_if_le dX11_walksTo_40 (fun c40_6 => ?_) (fun c40_6 => ?_)
    · replace hf := ite_t c40_6 hf
      refine T_iload dX11_walksTo_50 rfl ?_
      refine T_const dX11_walksTo_51 ?_
      refine T_iadd dX11_walksTo_53 ?_
      obtain rfl := Option.some.inj hf
      exact X_ri dX11_walksTo_54 ⟨rfl, rfl⟩
    · replace hf := ite_f c40_6 hf
      refine T_iload dX11_walksTo_43 rfl ?_
      refine T_const dX11_walksTo_44 ?_
      refine T_isub dX11_walksTo_46 ?_
      refine T_goto dX11_walksTo_47 ?_
      obtain rfl := Option.some.inj hf
      exact X_ri dX11_walksTo_54 ⟨rfl, rfl⟩
  · replace hf := ite_f c20_5 hf
    refine T_iload dX11_walksTo_23 rfl ?_
    refine T_if_le dX11_walksTo_24 (fun c24_7 => ?_) (fun c24_7 => ?_)
    · replace hf := ite_t c24_7 hf
      refine T_iload dX11_walksTo_33 rfl ?_
      refine T_const dX11_walksTo_34 ?_
      refine T_iadd dX11_walksTo_35 ?_
      refine T_goto dX11_walksTo_36 ?_
      obtain rfl := Option.some.inj hf
      exact X_ri dX11_walksTo_54 ⟨rfl, rfl⟩
    · replace hf := ite_f c24_7 hf
      refine T_iload dX11_walksTo_27 rfl ?_
      refine T_const dX11_walksTo_28 ?_
      refine T_isub dX11_walksTo_29 ?_
      refine T_goto dX11_walksTo_30 ?_
      obtain rfl := Option.some.inj hf
      exact X_ri dX11_walksTo_54 ⟨rfl, rfl⟩
noncomputable def jX11_goesNight_164 (ih : aH → Int32 → Option aH) (x : aH) (l1 : Int32) (l2 : Int32) : Option aH := ih x (l2 + (1 : Int32))
noncomputable def jX11_goesNight_160 (ih : aH → Int32 → Option aH) (x : aH) (l1 : Int32) (l2 : Int32) (s1 : Int32) (s2 : Int32) : Option aH := jX11_goesNight_164 ih (sfi x 73 21 (s1 + s2)) l1 l2
noncomputable def jX11_goesNight_145 (ih : aH → Int32 → Option aH) (x : aH) (l1 : Int32) (l2 : Int32) (l3 : Int32) (s1 : Int32) (s2 : Int32) : Option aH := if (0 : Int32) ≤ s1 ∧ s1 < (10 : Int32) then if l3 = (0 : Int32) then jX11_goesNight_160 ih (sri x 83 (ix s1) s2) l1 l2 (fi (sri x 83 (ix s1) s2) 73 21) (0 : Int32) else jX11_goesNight_160 ih (sri x 83 (ix s1) s2) l1 l2 (fi (sri x 83 (ix s1) s2) 73 21) (1 : Int32) else none
noncomputable def jX11_goesNight_112 (ih : aH → Int32 → Option aH) (x : aH) (l1 : Int32) (l2 : Int32) (s0 : Int32) : Option aH := if s0 = (0 : Int32) then if (0 : Int32) ≤ l2 ∧ l2 < (10 : Int32) then (fX11_driftsTo x (ri x 81 (ix l2))).bind fun q142_10 => jX11_goesNight_145 ih x l1 l2 s0 l2 q142_10 else none else if (0 : Int32) ≤ l2 ∧ l2 < (10 : Int32) then (fX11_walksTo x (ri x 81 (ix l2))).bind fun q129_12 => jX11_goesNight_145 ih x l1 l2 s0 l2 q129_12 else none
noncomputable def jX11_goesNight_111 (ih : aH → Int32 → Option aH) (x : aH) (l1 : Int32) (l2 : Int32) : Option aH := jX11_goesNight_112 ih x l1 l2 (0 : Int32)
noncomputable def sX11_goesNight_41 (l1 : Int32) (ih : aH → Int32 → Option aH) (x : aH) (l2 : Int32) : Option aH := if (fi x 73 6) ≤ l2 then some x else if (0 : Int32) ≤ l2 ∧ l2 < (10 : Int32) then if (0 : Int32) ≤ l2 ∧ l2 < (10 : Int32) then if (0 : Int32) ≤ l2 ∧ l2 < (10 : Int32) then if (ri (sri x 83 (ix l2) (ri x 81 (ix l2))) 82 (ix l2)) = (0 : Int32) then if (fi (sri x 83 (ix l2) (ri x 81 (ix l2))) 73 20) = (0 : Int32) then jX11_goesNight_111 ih (sri x 83 (ix l2) (ri x 81 (ix l2))) l1 l2 else if (0 : Int32) ≤ l2 ∧ l2 < (10 : Int32) then (fX11_isSeen (sri x 83 (ix l2) (ri x 81 (ix l2))) (ri (sri x 83 (ix l2) (ri x 81 (ix l2))) 81 (ix l2)) l1).bind fun q85_15 => if q85_15 = (0 : Int32) then jX11_goesNight_111 ih (sri x 83 (ix l2) (ri x 81 (ix l2))) l1 l2 else (fX11_drawsOf (sri x 83 (ix l2) (ri x 81 (ix l2))) l2).bind fun q93_17 => if q93_17.1 < (ri q93_17.2 74 (ix (171 : Int32))) then jX11_goesNight_111 ih q93_17.2 l1 l2 else jX11_goesNight_112 ih q93_17.2 l1 l2 (1 : Int32) else none else jX11_goesNight_164 ih (sri x 83 (ix l2) (ri x 81 (ix l2))) l1 l2 else none else none else none
noncomputable def wX11_goesNight_41 (l1 : Int32) : Nat → aH → Int32 → Option aH
  | 0 => fun _ _ => none
  | n + 1 => sX11_goesNight_41 l1 (wX11_goesNight_41 l1 n)
noncomputable def jX11_goesNight_235 (ih : aH → Int32 → Option aH) (x : aH) (l2 : Int32) : Option aH := ih x (l2 + (1 : Int32))
noncomputable def sX11_goesNight_172 (ih : aH → Int32 → Option aH) (x : aH) (l2 : Int32) : Option aH := if (fi x 73 6) ≤ l2 then some x else if (0 : Int32) ≤ l2 ∧ l2 < (10 : Int32) then if (0 : Int32) ≤ l2 ∧ l2 < (10 : Int32) then if (0 : Int32) ≤ l2 ∧ l2 < (10 : Int32) then if (ri (sri x 81 (ix l2) (ri x 83 (ix l2))) 82 (ix l2)) = (0 : Int32) then if (0 : Int32) ≤ l2 ∧ l2 < (10 : Int32) then if (ri (sri x 81 (ix l2) (ri x 83 (ix l2))) 81 (ix l2)) = (ri (sri x 81 (ix l2) (ri x 83 (ix l2))) 74 (ix (168 : Int32))) then if (0 : Int32) ≤ l2 ∧ l2 < (10 : Int32) then jX11_goesNight_235 ih (sfi (sri (sri x 81 (ix l2) (ri x 83 (ix l2))) 82 (ix l2) (1 : Int32)) 73 22 ((fi (sri (sri x 81 (ix l2) (ri x 83 (ix l2))) 82 (ix l2) (1 : Int32)) 73 22) + (1 : Int32))) l2 else none else jX11_goesNight_235 ih (sri x 81 (ix l2) (ri x 83 (ix l2))) l2 else none else jX11_goesNight_235 ih (sri x 81 (ix l2) (ri x 83 (ix l2))) l2 else none else none else none
noncomputable def wX11_goesNight_172 : Nat → aH → Int32 → Option aH
  | 0 => fun _ _ => none
  | n + 1 => sX11_goesNight_172 (wX11_goesNight_172 n)
noncomputable def jX11_goesNight_26 (x : aH) (l1 : Int32) (s1 : Int32) : Option aH := if s1 = (0 : Int32) ∨ s1 = (1 : Int32) then (wX11_goesNight_41 l1 2000 (sfi (sfi (sfi x 73 20 s1) 73 21 (0 : Int32)) 73 22 (0 : Int32)) (0 : Int32)).bind fun q41_19 => (wX11_goesNight_172 2000 q41_19 (0 : Int32)).bind fun q172_28 => if (fi q172_28 73 20) = (0 : Int32) then some (sfi q172_28 73 19 ((fi q172_28 73 19) - (0 : Int32))) else some (sfi q172_28 73 19 ((fi q172_28 73 19) - (ri q172_28 74 (ix (170 : Int32))))) else none
noncomputable def jX11_goesNight_25 (x : aH) (l1 : Int32) : Option aH := jX11_goesNight_26 x l1 (0 : Int32)
noncomputable def fX11_goesNight (x : aH) (p1 : Int32) : Option aH := if p1 = (4 : Int32) then jX11_goesNight_25 x p1 else if (fi x 73 19) < (ri x 74 (ix (170 : Int32))) then jX11_goesNight_25 x p1 else jX11_goesNight_26 x p1 (1 : Int32)
theorem lX11_goesNight_41 (Z : aZ) (y : aH) (l1 : Int32) {Q : Option Value → aH → Prop} {R : aH} : ∀ (n : Nat) (x : aH) (l2 : Int32), wX11_goesNight_41 l1 n x l2 = some R → (∀ q, R = q → TX false Z mX11_goesNight 68 y q Q 170 [.ref 73, .null, .null, .null] []) → TX false Z mX11_goesNight 68 y x Q 41 [.ref 73, .int l1, .int l2, .null] [] := by
  intro n
  induction n with
  | zero => intro x l2 hf; cases hf
  | succ n ih =>
    intro x l2 hf ke
    replace hf : sX11_goesNight_41 l1 (wX11_goesNight_41 l1 n) x l2 = some R := hf
    delta sX11_goesNight_41 at hf
    refine T_iload dX11_goesNight_41 rfl ?_
    refine T_aload dX11_goesNight_42 rfl ?_
    refine X_getf dX11_goesNight_43 lfX11_93 rfl ob73 ?_
    refine T_icmp_ge dX11_goesNight_46 (fun c46_1 => ?_) (fun c46_1 => ?_)
    · replace hf := ite_t c46_1 hf
      exact X_wk (WK.s (WK.n (WK.n (WK.n WK.e)))) (ke x (Option.some.inj hf).symm)
    · replace hf := ite_f c46_1 hf
      refine T_aload dX11_goesNight_49 rfl ?_
      refine X_getr dX11_goesNight_50 lfX11_37 rfl ob73 rfl ?_
      refine T_iload dX11_goesNight_53 rfl ?_
      refine T_aload dX11_goesNight_54 rfl ?_
      refine X_getr dX11_goesNight_55 lfX11_31 rfl ob73 rfl ?_
      refine T_iload dX11_goesNight_58 rfl ?_
      obtain ⟨hb59_2, hf⟩ := opt_t hf
      refine X_iald (N := 10) dX11_goesNight_59 ar81 rfl hb59_2 ?_
      obtain ⟨hb60_3, hf⟩ := opt_t hf
      refine X_iast (N := 10) dX11_goesNight_60 ar83 rfl hb60_3 ?_
      refine T_aload dX11_goesNight_61 rfl ?_
      refine X_getr dX11_goesNight_62 lfX11_34 rfl ob73 rfl ?_
      refine T_iload dX11_goesNight_65 rfl ?_
      obtain ⟨hb66_4, hf⟩ := opt_t hf
      refine X_iald (N := 10) dX11_goesNight_66 ar82 rfl hb66_4 ?_
      have J164 : ∀ (x : aH) (l2 : Int32), jX11_goesNight_164 (wX11_goesNight_41 l1 n) x l1 l2 = some R → TX false Z mX11_goesNight 68 y x Q 164 [.ref 73, .int l1, .int l2, .null] [] := by
        intro x l2 hf
        delta jX11_goesNight_164 at hf
        refine T_iinc dX11_goesNight_164 rfl ?_
        show TX _ _ _ _ _ _ _ _ [_, _, _, _] _
        refine T_goto dX11_goesNight_167 ?_
        exact X_wk (WK.s (WK.s (WK.s (WK.n WK.e)))) (ih _ _ hf ke)
      refine T_if_ne dX11_goesNight_67 (fun c67_5 => ?_) (fun c67_5 => ?_)
      · replace hf := ite_f c67_5 hf
        exact X_wk (WK.s (WK.s (WK.s (WK.n WK.e)))) (J164 _ _ hf)
      · replace hf := ite_t c67_5 hf
        refine T_aload dX11_goesNight_70 rfl ?_
        refine X_getf dX11_goesNight_71 lfX11_214 rfl ob73 ?_
        have J112 : ∀ (x : aH) (l2 : Int32) (s0 : Int32), jX11_goesNight_112 (wX11_goesNight_41 l1 n) x l1 l2 s0 = some R → TX false Z mX11_goesNight 68 y x Q 112 [.ref 73, .int l1, .int l2, .null] [.int s0] := by
          intro x l2 s0 hf
          delta jX11_goesNight_112 at hf
          refine T_istore dX11_goesNight_112 ?_
          show TX _ _ _ _ _ _ _ _ [_, _, _, _] _
          refine T_aload dX11_goesNight_113 rfl ?_
          refine X_getr dX11_goesNight_114 lfX11_37 rfl ob73 rfl ?_
          refine T_iload dX11_goesNight_117 rfl ?_
          refine T_iload dX11_goesNight_118 rfl ?_
          have J145 : ∀ (x : aH) (l2 : Int32) (l3 : Int32) (s1 : Int32) (s2 : Int32), jX11_goesNight_145 (wX11_goesNight_41 l1 n) x l1 l2 l3 s1 s2 = some R → TX false Z mX11_goesNight 68 y x Q 145 [.ref 73, .int l1, .int l2, .int l3] [.int s2, .int s1, .ref 83] := by
            intro x l2 l3 s1 s2 hf
            delta jX11_goesNight_145 at hf
            obtain ⟨hb145_6, hf⟩ := opt_t hf
            refine X_iast (N := 10) dX11_goesNight_145 ar83 rfl hb145_6 ?_
            refine T_aload dX11_goesNight_146 rfl ?_
            refine T_dup dX11_goesNight_147 rfl ?_
            refine X_getf dX11_goesNight_148 lfX11_218 rfl ob73 ?_
            refine T_iload dX11_goesNight_151 rfl ?_
            have J160 : ∀ (x : aH) (l2 : Int32) (s1 : Int32) (s2 : Int32), jX11_goesNight_160 (wX11_goesNight_41 l1 n) x l1 l2 s1 s2 = some R → TX false Z mX11_goesNight 68 y x Q 160 [.ref 73, .int l1, .int l2, .null] [.int s2, .int s1, .ref 73] := by
              intro x l2 s1 s2 hf
              delta jX11_goesNight_160 at hf
              refine T_iadd dX11_goesNight_160 ?_
              refine X_putf dX11_goesNight_161 lfX11_218 rfl rfl ob73 ⟨rfl, rfl⟩ ?_
              exact X_wk (WK.s (WK.s (WK.s (WK.n WK.e)))) (J164 _ _ hf)
            refine T_if_eq dX11_goesNight_152 (fun c152_7 => ?_) (fun c152_7 => ?_)
            · replace hf := ite_t c152_7 hf
              refine T_const dX11_goesNight_159 ?_
              exact X_wk (WK.s (WK.s (WK.s (WK.n WK.e)))) (J160 _ _ _ _ hf)
            · replace hf := ite_f c152_7 hf
              refine T_const dX11_goesNight_155 ?_
              refine T_goto dX11_goesNight_156 ?_
              exact X_wk (WK.s (WK.s (WK.s (WK.n WK.e)))) (J160 _ _ _ _ hf)
          refine T_if_eq dX11_goesNight_119 (fun c119_8 => ?_) (fun c119_8 => ?_)
          · replace hf := ite_t c119_8 hf
            refine T_aload dX11_goesNight_135 rfl ?_
            refine T_aload dX11_goesNight_136 rfl ?_
            refine X_getr dX11_goesNight_137 lfX11_31 rfl ob73 rfl ?_
            refine T_iload dX11_goesNight_140 rfl ?_
            obtain ⟨hb141_9, hf⟩ := opt_t hf
            refine X_iald (N := 10) dX11_goesNight_141 ar81 rfl hb141_9 ?_
            obtain ⟨q142_10, hc142_10, hf⟩ := bind_t hf
            refine X_Vv (qX11_driftsTo Z _ hc142_10) (Nat.le_of_ble_eq_true rfl) dX11_goesNight_142 lvX11_233 rfl rfl ob73 (Nat.le_of_ble_eq_true rfl) ?_
            exact X_wk (WK.s (WK.s (WK.s (WK.s WK.e)))) (J145 _ _ _ _ _ hf)
          · replace hf := ite_f c119_8 hf
            refine T_aload dX11_goesNight_122 rfl ?_
            refine T_aload dX11_goesNight_123 rfl ?_
            refine X_getr dX11_goesNight_124 lfX11_31 rfl ob73 rfl ?_
            refine T_iload dX11_goesNight_127 rfl ?_
            obtain ⟨hb128_11, hf⟩ := opt_t hf
            refine X_iald (N := 10) dX11_goesNight_128 ar81 rfl hb128_11 ?_
            obtain ⟨q129_12, hc129_12, hf⟩ := bind_t hf
            refine X_Vv (qX11_walksTo Z _ hc129_12) (Nat.le_of_ble_eq_true rfl) dX11_goesNight_129 lvX11_230 rfl rfl ob73 (Nat.le_of_ble_eq_true rfl) ?_
            refine T_goto dX11_goesNight_132 ?_
            exact X_wk (WK.s (WK.s (WK.s (WK.s WK.e)))) (J145 _ _ _ _ _ hf)
        have J111 : ∀ (x : aH) (l2 : Int32), jX11_goesNight_111 (wX11_goesNight_41 l1 n) x l1 l2 = some R → TX false Z mX11_goesNight 68 y x Q 111 [.ref 73, .int l1, .int l2, .null] [] := by
          intro x l2 hf
          delta jX11_goesNight_111 at hf
          refine T_const dX11_goesNight_111 ?_
          exact X_wk (WK.s (WK.s (WK.s (WK.n WK.e)))) (J112 _ _ _ hf)
        refine T_if_eq dX11_goesNight_74 (fun c74_13 => ?_) (fun c74_13 => ?_)
        · replace hf := ite_t c74_13 hf
          exact X_wk (WK.s (WK.s (WK.s (WK.n WK.e)))) (J111 _ _ hf)
        · replace hf := ite_f c74_13 hf
          refine T_aload dX11_goesNight_77 rfl ?_
          refine T_aload dX11_goesNight_78 rfl ?_
          refine X_getr dX11_goesNight_79 lfX11_31 rfl ob73 rfl ?_
          refine T_iload dX11_goesNight_82 rfl ?_
          obtain ⟨hb83_14, hf⟩ := opt_t hf
          refine X_iald (N := 10) dX11_goesNight_83 ar81 rfl hb83_14 ?_
          refine T_iload dX11_goesNight_84 rfl ?_
          obtain ⟨q85_15, hc85_15, hf⟩ := bind_t hf
          refine X_Vv (qX11_isSeen Z _ hc85_15) (Nat.le_of_ble_eq_true rfl) dX11_goesNight_85 lvX11_224 rfl rfl ob73 (Nat.le_of_ble_eq_true rfl) ?_
          refine T_if_eq dX11_goesNight_88 (fun c88_16 => ?_) (fun c88_16 => ?_)
          · replace hf := ite_t c88_16 hf
            exact X_wk (WK.s (WK.s (WK.s (WK.n WK.e)))) (J111 _ _ hf)
          · replace hf := ite_f c88_16 hf
            refine T_aload dX11_goesNight_91 rfl ?_
            refine T_iload dX11_goesNight_92 rfl ?_
            obtain ⟨q93_17, hc93_17, hf⟩ := bind_t hf
            refine X_Vv (qX11_drawsOf Z _ hc93_17) (Nat.le_of_ble_eq_true rfl) dX11_goesNight_93 lvX11_227 rfl rfl ob73 (Nat.le_of_ble_eq_true rfl) ?_
            refine T_aload dX11_goesNight_96 rfl ?_
            refine X_getr dX11_goesNight_97 lfX11_9 rfl ob73 rfl ?_
            refine T_const dX11_goesNight_100 ?_
            refine X_iald (N := 172) dX11_goesNight_103 ar74 rfl (by decide) ?_
            refine T_icmp_lt dX11_goesNight_104 (fun c104_18 => ?_) (fun c104_18 => ?_)
            · replace hf := ite_t c104_18 hf
              exact X_wk (WK.s (WK.s (WK.s (WK.n WK.e)))) (J111 _ _ hf)
            · replace hf := ite_f c104_18 hf
              refine T_const dX11_goesNight_107 ?_
              refine T_goto dX11_goesNight_108 ?_
              exact X_wk (WK.s (WK.s (WK.s (WK.n WK.e)))) (J112 _ _ _ hf)
theorem lX11_goesNight_172 (Z : aZ) (y : aH) {Q : Option Value → aH → Prop} {R : aH} : ∀ (n : Nat) (x : aH) (l2 : Int32), wX11_goesNight_172 n x l2 = some R → (∀ q, R = q → TX false Z mX11_goesNight 68 y q Q 241 [.ref 73, .null, .null, .null] []) → TX false Z mX11_goesNight 68 y x Q 172 [.ref 73, .null, .int l2, .null] [] := by
  intro n
  induction n with
  | zero => intro x l2 hf; cases hf
  | succ n ih =>
    intro x l2 hf ke
    replace hf : sX11_goesNight_172 (wX11_goesNight_172 n) x l2 = some R := hf
    delta sX11_goesNight_172 at hf
    refine T_iload dX11_goesNight_172 rfl ?_
    refine T_aload dX11_goesNight_173 rfl ?_
    refine X_getf dX11_goesNight_174 lfX11_93 rfl ob73 ?_
    refine T_icmp_ge dX11_goesNight_177 (fun c177_20 => ?_) (fun c177_20 => ?_)
    · replace hf := ite_t c177_20 hf
      exact X_wk (WK.s (WK.n (WK.n (WK.n WK.e)))) (ke x (Option.some.inj hf).symm)
    · replace hf := ite_f c177_20 hf
      refine T_aload dX11_goesNight_180 rfl ?_
      refine X_getr dX11_goesNight_181 lfX11_31 rfl ob73 rfl ?_
      refine T_iload dX11_goesNight_184 rfl ?_
      refine T_aload dX11_goesNight_185 rfl ?_
      refine X_getr dX11_goesNight_186 lfX11_37 rfl ob73 rfl ?_
      refine T_iload dX11_goesNight_189 rfl ?_
      obtain ⟨hb190_21, hf⟩ := opt_t hf
      refine X_iald (N := 10) dX11_goesNight_190 ar83 rfl hb190_21 ?_
      obtain ⟨hb191_22, hf⟩ := opt_t hf
      refine X_iast (N := 10) dX11_goesNight_191 ar81 rfl hb191_22 ?_
      refine T_aload dX11_goesNight_192 rfl ?_
      refine X_getr dX11_goesNight_193 lfX11_34 rfl ob73 rfl ?_
      refine T_iload dX11_goesNight_196 rfl ?_
      obtain ⟨hb197_23, hf⟩ := opt_t hf
      refine X_iald (N := 10) dX11_goesNight_197 ar82 rfl hb197_23 ?_
      have J235 : ∀ (x : aH) (l2 : Int32), jX11_goesNight_235 (wX11_goesNight_172 n) x l2 = some R → TX false Z mX11_goesNight 68 y x Q 235 [.ref 73, .null, .int l2, .null] [] := by
        intro x l2 hf
        delta jX11_goesNight_235 at hf
        refine T_iinc dX11_goesNight_235 rfl ?_
        show TX _ _ _ _ _ _ _ _ [_, _, _, _] _
        refine T_goto dX11_goesNight_238 ?_
        exact X_wk (WK.s (WK.n (WK.s (WK.n WK.e)))) (ih _ _ hf ke)
      refine T_if_ne dX11_goesNight_198 (fun c198_24 => ?_) (fun c198_24 => ?_)
      · replace hf := ite_f c198_24 hf
        exact X_wk (WK.s (WK.n (WK.s (WK.n WK.e)))) (J235 _ _ hf)
      · replace hf := ite_t c198_24 hf
        refine T_aload dX11_goesNight_201 rfl ?_
        refine X_getr dX11_goesNight_202 lfX11_31 rfl ob73 rfl ?_
        refine T_iload dX11_goesNight_205 rfl ?_
        obtain ⟨hb206_25, hf⟩ := opt_t hf
        refine X_iald (N := 10) dX11_goesNight_206 ar81 rfl hb206_25 ?_
        refine T_aload dX11_goesNight_207 rfl ?_
        refine X_getr dX11_goesNight_208 lfX11_9 rfl ob73 rfl ?_
        refine T_const dX11_goesNight_211 ?_
        refine X_iald (N := 172) dX11_goesNight_214 ar74 rfl (by decide) ?_
        refine T_icmp_ne dX11_goesNight_215 (fun c215_26 => ?_) (fun c215_26 => ?_)
        · replace hf := ite_f c215_26 hf
          exact X_wk (WK.s (WK.n (WK.s (WK.n WK.e)))) (J235 _ _ hf)
        · replace hf := ite_t c215_26 hf
          refine T_aload dX11_goesNight_218 rfl ?_
          refine X_getr dX11_goesNight_219 lfX11_34 rfl ob73 rfl ?_
          refine T_iload dX11_goesNight_222 rfl ?_
          refine T_const dX11_goesNight_223 ?_
          obtain ⟨hb224_27, hf⟩ := opt_t hf
          refine X_iast (N := 10) dX11_goesNight_224 ar82 rfl hb224_27 ?_
          refine T_aload dX11_goesNight_225 rfl ?_
          refine T_dup dX11_goesNight_226 rfl ?_
          refine X_getf dX11_goesNight_227 lfX11_221 rfl ob73 ?_
          refine T_const dX11_goesNight_230 ?_
          refine T_iadd dX11_goesNight_231 ?_
          refine X_putf dX11_goesNight_232 lfX11_221 rfl rfl ob73 ⟨rfl, rfl⟩ ?_
          exact X_wk (WK.s (WK.n (WK.s (WK.n WK.e)))) (J235 _ _ hf)
theorem qX11_goesNight (Z : aZ) (y : aH) {x : aH} {p1 : Int32} {q : aH} (hf : fX11_goesNight x p1 = some q) : CX false Z mX11_goesNight 68 [.ref 73, .int p1] y x (RN q) := by
  refine CX.of mokX11_goesNight (Nat.le_of_ble_eq_true rfl) ?_
  show TX _ _ _ _ _ _ _ _ [_, _, _, _] _
  delta fX11_goesNight at hf
  refine T_aload dX11_goesNight_0 rfl ?_
  refine T_iload dX11_goesNight_1 rfl ?_
  refine T_const dX11_goesNight_2 ?_
  have J26 : ∀ (x : aH) (l1 : Int32) (s1 : Int32), jX11_goesNight_26 x l1 s1 = some q → TX false Z mX11_goesNight 68 y x (RN q) 26 [.ref 73, .int l1, .null, .null] [.int s1, .ref 73] := by
    intro x l1 s1 hf
    delta jX11_goesNight_26 at hf
    obtain ⟨h01, hf⟩ := opt_t hf
    refine X_putf dX11_goesNight_26 lfX11_214 rfl rfl ob73 (by rcases h01 with h01 | h01 <;> rw [h01] <;> exact ⟨rfl, rfl⟩) ?_
    refine T_aload dX11_goesNight_29 rfl ?_
    refine T_const dX11_goesNight_30 ?_
    refine X_putf dX11_goesNight_31 lfX11_218 rfl rfl ob73 ⟨rfl, rfl⟩ ?_
    refine T_aload dX11_goesNight_34 rfl ?_
    refine T_const dX11_goesNight_35 ?_
    refine X_putf dX11_goesNight_36 lfX11_221 rfl rfl ob73 ⟨rfl, rfl⟩ ?_
    refine T_const dX11_goesNight_39 ?_
    refine T_istore dX11_goesNight_40 ?_
    show TX _ _ _ _ _ _ _ _ [_, _, _, _] _
    obtain ⟨q41_19, hc41_19, hf⟩ := bind_t hf
    refine X_wk (WK.s (WK.s (WK.s (WK.n WK.e)))) (lX11_goesNight_41 Z _ _ 2000 _ _ hc41_19 ?_)
    intro q41_19z hr
    subst hr
    refine T_const dX11_goesNight_170 ?_
    refine T_istore dX11_goesNight_171 ?_
    show TX _ _ _ _ _ _ _ _ [_, _, _, _] _
    obtain ⟨q172_28, hc172_28, hf⟩ := bind_t hf
    refine X_wk (WK.s (WK.n (WK.s (WK.n WK.e)))) (lX11_goesNight_172 Z _ 2000 _ _ hc172_28 ?_)
    intro q172_28z hr
    subst hr
    refine T_aload dX11_goesNight_241 rfl ?_
    refine T_dup dX11_goesNight_242 rfl ?_
    refine X_getf dX11_goesNight_243 lfX11_200 rfl ob73 ?_
    refine T_aload dX11_goesNight_246 rfl ?_
    refine X_getf dX11_goesNight_247 lfX11_214 rfl ob73 ?_
    refine T_if_eq dX11_goesNight_250 (fun c250_29 => ?_) (fun c250_29 => ?_)
    · replace hf := ite_t c250_29 hf
      refine T_const dX11_goesNight_264 ?_
      refine T_isub dX11_goesNight_265 ?_
      refine X_putf dX11_goesNight_266 lfX11_200 rfl rfl ob73 ⟨rfl, rfl⟩ ?_
      obtain rfl := Option.some.inj hf
      exact X_rv dX11_goesNight_269 ⟨rfl, rfl⟩
    · replace hf := ite_f c250_29 hf
      refine T_aload dX11_goesNight_253 rfl ?_
      refine X_getr dX11_goesNight_254 lfX11_9 rfl ob73 rfl ?_
      refine T_const dX11_goesNight_257 ?_
      refine X_iald (N := 172) dX11_goesNight_260 ar74 rfl (by decide) ?_
      refine T_goto dX11_goesNight_261 ?_
      refine T_isub dX11_goesNight_265 ?_
      refine X_putf dX11_goesNight_266 lfX11_200 rfl rfl ob73 ⟨rfl, rfl⟩ ?_
      obtain rfl := Option.some.inj hf
      exact X_rv dX11_goesNight_269 ⟨rfl, rfl⟩
  have J25 : ∀ (x : aH) (l1 : Int32), jX11_goesNight_25 x l1 = some q → TX false Z mX11_goesNight 68 y x (RN q) 25 [.ref 73, .int l1, .null, .null] [.ref 73] := by
    intro x l1 hf
    delta jX11_goesNight_25 at hf
    refine T_const dX11_goesNight_25 ?_
    exact X_wk (WK.s (WK.s (WK.n (WK.n WK.e)))) (J26 _ _ _ hf)
  refine T_icmp_eq dX11_goesNight_3 (fun c3_30 => ?_) (fun c3_30 => ?_)
  · replace hf := ite_t c3_30 hf
    exact X_wk (WK.s (WK.s (WK.n (WK.n WK.e)))) (J25 _ _ hf)
  · replace hf := ite_f c3_30 hf
    refine T_aload dX11_goesNight_6 rfl ?_
    refine X_getf dX11_goesNight_7 lfX11_200 rfl ob73 ?_
    refine T_aload dX11_goesNight_10 rfl ?_
    refine X_getr dX11_goesNight_11 lfX11_9 rfl ob73 rfl ?_
    refine T_const dX11_goesNight_14 ?_
    refine X_iald (N := 172) dX11_goesNight_17 ar74 rfl (by decide) ?_
    refine T_icmp_lt dX11_goesNight_18 (fun c18_31 => ?_) (fun c18_31 => ?_)
    · replace hf := ite_t c18_31 hf
      exact X_wk (WK.s (WK.s (WK.n (WK.n WK.e)))) (J25 _ _ hf)
    · replace hf := ite_f c18_31 hf
      refine T_const dX11_goesNight_21 ?_
      refine T_goto dX11_goesNight_22 ?_
      exact X_wk (WK.s (WK.s (WK.n (WK.n WK.e)))) (J26 _ _ _ hf)
noncomputable def fX11_draws (x : aH) (p1 : Int32) : Option (Int32 × aH) := (fX11_isLost x (Int32.toInt64 p1)).bind fun q3_1 => if q3_1 = (0 : Int32) then some ((-1 : Int32), x) else (fX11_begins x).bind fun q12_3 => (fX11_drawsOf q12_3 p1).bind fun q17_4 => some (q17_4.1, q17_4.2)
theorem qX11_draws (Z : aZ) (y : aH) {x : aH} {p1 : Int32} {q : (Int32 × aH)} (hf : fX11_draws x p1 = some q) : CX false Z mX11_draws 68 [.ref 73, .int p1] y x (RV (.int q.1) q.2) := by
  refine CX.of mokX11_draws (Nat.le_of_ble_eq_true rfl) ?_
  show TX _ _ _ _ _ _ _ _ [_, _] _
  delta fX11_draws at hf
  refine T_aload dX11_draws_0 rfl ?_
  refine T_iload dX11_draws_1 rfl ?_
  refine T_i2l dX11_draws_2 ?_
  obtain ⟨q3_1, hc3_1, hf⟩ := bind_t hf
  refine X_Vv (qX11_isLost Z _ hc3_1) (Nat.le_of_ble_eq_true rfl) dX11_draws_3 lvX11_123 rfl rfl ob73 (Nat.le_of_ble_eq_true rfl) ?_
  refine T_if_ne dX11_draws_6 (fun c6_2 => ?_) (fun c6_2 => ?_)
  · replace hf := ite_f c6_2 hf
    refine T_aload dX11_draws_11 rfl ?_
    obtain ⟨q12_3, hc12_3, hf⟩ := bind_t hf
    refine X_Vn (qX11_begins Z _ hc12_3) (Nat.le_of_ble_eq_true rfl) dX11_draws_12 lvX11_236 rfl rfl ob73 (Nat.le_of_ble_eq_true rfl) ?_
    refine T_aload dX11_draws_15 rfl ?_
    refine T_iload dX11_draws_16 rfl ?_
    obtain ⟨q17_4, hc17_4, hf⟩ := bind_t hf
    refine X_Vv (qX11_drawsOf Z _ hc17_4) (Nat.le_of_ble_eq_true rfl) dX11_draws_17 lvX11_227 rfl rfl ob73 (Nat.le_of_ble_eq_true rfl) ?_
    obtain rfl := Option.some.inj hf
    exact X_ri dX11_draws_20 ⟨rfl, rfl⟩
  · replace hf := ite_t c6_2 hf
    refine T_const dX11_draws_9 ?_
    obtain rfl := Option.some.inj hf
    exact X_ri dX11_draws_10 ⟨rfl, rfl⟩
noncomputable def jX11_seen_47 (ih : Int64 → Int32 → Option Int64) (x : aH) (l1 : Int32) (l4 : Int32) (s0 : Int64) (s1 : Int64) : Option Int64 := ih (s0 ||| s1) (l4 + (1 : Int32))
noncomputable def sX11_seen_21 (x : aH) (l1 : Int32) (ih : Int64 → Int32 → Option Int64) (l2 : Int64) (l4 : Int32) : Option Int64 := if (64 : Int32) ≤ l4 then some l2 else (fX11_isSeen x l4 l1).bind fun q33_4 => if q33_4 = (0 : Int32) then jX11_seen_47 ih x l1 l4 l2 (0 : Int64) else jX11_seen_47 ih x l1 l4 l2 ((1 : Int64) <<< (Int32.toInt64 l4 &&& 63))
noncomputable def wX11_seen_21 (x : aH) (l1 : Int32) : Nat → Int64 → Int32 → Option Int64
  | 0 => fun _ _ => none
  | n + 1 => sX11_seen_21 x l1 (wX11_seen_21 x l1 n)
noncomputable def fX11_seen (x : aH) (p1 : Int32) : Option Int64 := (fX11_within (Int32.toInt64 p1) (0 : Int64) (3 : Int64)).bind fun q6_1 => if q6_1 = (0 : Int32) then some (-9223372036854775808 : Int64) else (wX11_seen_21 x p1 2000 (0 : Int64) (0 : Int32)).bind fun q21_6 => some q21_6
theorem lX11_seen_21 (Z : aZ) (y : aH) (x : aH) (l1 : Int32) {Q : Option Value → aH → Prop} {R : Int64} : ∀ (n : Nat) (l2 : Int64) (l4 : Int32), wX11_seen_21 x l1 n l2 l4 = some R → (∀ q, R = q → TX false Z mX11_seen 2 y x Q 55 [.null, .null, .long q, .null, .null] []) → TX false Z mX11_seen 2 y x Q 21 [.ref 73, .int l1, .long l2, .null, .int l4] [] := by
  intro n
  induction n with
  | zero => intro l2 l4 hf; cases hf
  | succ n ih =>
    intro l2 l4 hf ke
    replace hf : sX11_seen_21 x l1 (wX11_seen_21 x l1 n) l2 l4 = some R := hf
    delta sX11_seen_21 at hf
    refine T_iload dX11_seen_21 rfl ?_
    refine T_const dX11_seen_23 ?_
    refine T_icmp_ge dX11_seen_25 (fun c25_3 => ?_) (fun c25_3 => ?_)
    · replace hf := ite_t c25_3 hf
      exact X_wk (WK.n (WK.n (WK.s (WK.n (WK.n WK.e))))) (ke l2 (Option.some.inj hf).symm)
    · replace hf := ite_f c25_3 hf
      refine T_lload dX11_seen_28 rfl ?_
      refine T_aload dX11_seen_29 rfl ?_
      refine T_iload dX11_seen_30 rfl ?_
      refine T_iload dX11_seen_32 rfl ?_
      obtain ⟨q33_4, hc33_4, hf⟩ := bind_t hf
      refine X_Vv (qX11_isSeen Z _ hc33_4) (Nat.le_of_ble_eq_true rfl) dX11_seen_33 lvX11_224 rfl rfl ob73 (Nat.le_of_ble_eq_true rfl) ?_
      have J47 : ∀ (l4 : Int32) (s0 : Int64) (s1 : Int64), jX11_seen_47 (wX11_seen_21 x l1 n) x l1 l4 s0 s1 = some R → TX false Z mX11_seen 2 y x Q 47 [.ref 73, .int l1, .null, .null, .int l4] [.long s1, .long s0] := by
        intro l4 s0 s1 hf
        delta jX11_seen_47 at hf
        refine T_lor dX11_seen_47 ?_
        refine T_lstore dX11_seen_48 ?_
        show TX _ _ _ _ _ _ _ _ [_, _, _, _, _] _
        refine T_iinc dX11_seen_49 rfl ?_
        show TX _ _ _ _ _ _ _ _ [_, _, _, _, _] _
        refine T_goto dX11_seen_52 ?_
        exact X_wk (WK.s (WK.s (WK.s (WK.n (WK.s WK.e))))) (ih _ _ hf ke)
      refine T_if_eq dX11_seen_36 (fun c36_5 => ?_) (fun c36_5 => ?_)
      · replace hf := ite_t c36_5 hf
        refine T_constL dX11_seen_46 ?_
        exact X_wk (WK.s (WK.s (WK.n (WK.n (WK.s WK.e))))) (J47 _ _ _ hf)
      · replace hf := ite_f c36_5 hf
        refine T_constL dX11_seen_39 ?_
        refine T_iload dX11_seen_40 rfl ?_
        refine T_lshl dX11_seen_42 ?_
        refine T_goto dX11_seen_43 ?_
        exact X_wk (WK.s (WK.s (WK.n (WK.n (WK.s WK.e))))) (J47 _ _ _ hf)
theorem qX11_seen (Z : aZ) (y : aH) {x : aH} {p1 : Int32} {q : Int64} (hf : fX11_seen x p1 = some q) : CX false Z mX11_seen 2 [.ref 73, .int p1] y x (RV (.long q) x) := by
  refine CX.of mokX11_seen (Nat.le_of_ble_eq_true rfl) ?_
  show TX _ _ _ _ _ _ _ _ [_, _, _, _, _] _
  delta fX11_seen at hf
  refine T_iload dX11_seen_0 rfl ?_
  refine T_i2l dX11_seen_1 ?_
  refine T_constL dX11_seen_2 ?_
  refine T_constL dX11_seen_3 ?_
  obtain ⟨q6_1, hc6_1, hf⟩ := bind_t hf
  refine X_Sv (qX11_within _ Z _ _ hc6_1) (Nat.le_of_ble_eq_true rfl) dX11_seen_6 lsX11_96 rfl rfl (Nat.le_of_ble_eq_true rfl) ?_
  refine T_if_ne dX11_seen_9 (fun c9_2 => ?_) (fun c9_2 => ?_)
  · replace hf := ite_f c9_2 hf
    refine T_constL dX11_seen_16 ?_
    refine T_lstore dX11_seen_17 ?_
    show TX _ _ _ _ _ _ _ _ [_, _, _, _, _] _
    refine T_const dX11_seen_18 ?_
    refine T_istore dX11_seen_19 ?_
    show TX _ _ _ _ _ _ _ _ [_, _, _, _, _] _
    obtain ⟨q21_6, hc21_6, hf⟩ := bind_t hf
    refine X_wk (WK.s (WK.s (WK.s (WK.n (WK.s WK.e))))) (lX11_seen_21 Z _ _ _ 2000 _ _ hc21_6 ?_)
    intro q21_6z hr
    subst hr
    refine T_lload dX11_seen_55 rfl ?_
    obtain rfl := Option.some.inj hf
    exact X_rl dX11_seen_56 ⟨rfl, rfl⟩
  · replace hf := ite_t c9_2 hf
    refine T_constL dX11_seen_12 ?_
    obtain rfl := Option.some.inj hf
    exact X_rl dX11_seen_15 ⟨rfl, rfl⟩
noncomputable def fX11_bytesIs (x : aH) (p1 : Int32) : Option Int32 := (fX11_isShelf p1).bind fun q1_1 => if q1_1 = (0 : Int32) then some (-1 : Int32) else if (0 : Int32) ≤ p1 ∧ p1 < (6 : Int32) then if (0 : Int32) ≤ (ri x 94 (ix p1)) then if (0 : Int32) ≤ p1 ∧ p1 < (6 : Int32) then if (ri x 94 (ix p1)) = (50 : Int32) then some (1 : Int32) else some (-12 : Int32) else none else some (-11 : Int32) else none
theorem qX11_bytesIs (Z : aZ) (y : aH) {x : aH} {p1 : Int32} {q : Int32} (hf : fX11_bytesIs x p1 = some q) : CX false Z mX11_bytesIs 2 [.ref 73, .int p1] y x (RV (.int q) x) := by
  refine CX.of mokX11_bytesIs (Nat.le_of_ble_eq_true rfl) ?_
  show TX _ _ _ _ _ _ _ _ [_, _] _
  delta fX11_bytesIs at hf
  refine T_iload dX11_bytesIs_0 rfl ?_
  obtain ⟨q1_1, hc1_1, hf⟩ := bind_t hf
  refine X_Sv (qX11_isShelf _ Z _ _ hc1_1) (Nat.le_of_ble_eq_true rfl) dX11_bytesIs_1 lsX11_117 rfl rfl (Nat.le_of_ble_eq_true rfl) ?_
  refine T_if_ne dX11_bytesIs_4 (fun c4_2 => ?_) (fun c4_2 => ?_)
  · replace hf := ite_f c4_2 hf
    refine T_aload dX11_bytesIs_11 rfl ?_
    refine X_getr dX11_bytesIs_12 lfX11_70 rfl ob73 rfl ?_
    refine T_iload dX11_bytesIs_15 rfl ?_
    obtain ⟨hb16_3, hf⟩ := opt_t hf
    refine X_iald (N := 6) dX11_bytesIs_16 ar94 rfl hb16_3 ?_
    refine T_if_ge dX11_bytesIs_17 (fun c17_4 => ?_) (fun c17_4 => ?_)
    · replace hf := ite_t c17_4 hf
      refine T_aload dX11_bytesIs_25 rfl ?_
      refine X_getr dX11_bytesIs_26 lfX11_70 rfl ob73 rfl ?_
      refine T_iload dX11_bytesIs_29 rfl ?_
      obtain ⟨hb30_5, hf⟩ := opt_t hf
      refine X_iald (N := 6) dX11_bytesIs_30 ar94 rfl hb30_5 ?_
      refine T_const dX11_bytesIs_31 ?_
      refine T_icmp_ne dX11_bytesIs_33 (fun c33_6 => ?_) (fun c33_6 => ?_)
      · replace hf := ite_f c33_6 hf
        refine T_const dX11_bytesIs_40 ?_
        obtain rfl := Option.some.inj hf
        exact X_ri dX11_bytesIs_42 ⟨rfl, rfl⟩
      · replace hf := ite_t c33_6 hf
        refine T_const dX11_bytesIs_36 ?_
        refine T_goto dX11_bytesIs_37 ?_
        obtain rfl := Option.some.inj hf
        exact X_ri dX11_bytesIs_42 ⟨rfl, rfl⟩
    · replace hf := ite_f c17_4 hf
      refine T_const dX11_bytesIs_20 ?_
      refine T_goto dX11_bytesIs_22 ?_
      obtain rfl := Option.some.inj hf
      exact X_ri dX11_bytesIs_42 ⟨rfl, rfl⟩
  · replace hf := ite_t c4_2 hf
    refine T_const dX11_bytesIs_7 ?_
    refine T_goto dX11_bytesIs_8 ?_
    obtain rfl := Option.some.inj hf
    exact X_ri dX11_bytesIs_42 ⟨rfl, rfl⟩
noncomputable def sX11_nightMany_2 (x : aH) (l1 : Int32) (ih : Int32 → Option Int32) (l2 : Int32) : Option Int32 := if (40 : Int32) ≤ l2 then some l2 else if (0 : Int32) ≤ l1 ∧ l1 < (6 : Int32) then if (ri x 95 (ix l1)) ≤ l2 then some l2 else if (0 : Int32) ≤ (((60 : Int32) * l1) + l2) ∧ (((60 : Int32) * l1) + l2) < (360 : Int32) then (fX11_within (rj x 96 (ix (((60 : Int32) * l1) + l2))) (0 : Int64) (4 : Int64)).bind fun q33_5 => if q33_5 = (0 : Int32) then some l2 else ih (l2 + (1 : Int32)) else none else none
noncomputable def wX11_nightMany_2 (x : aH) (l1 : Int32) : Nat → Int32 → Option Int32
  | 0 => fun _ => none
  | n + 1 => sX11_nightMany_2 x l1 (wX11_nightMany_2 x l1 n)
noncomputable def fX11_nightMany (x : aH) (p1 : Int32) : Option Int32 := (wX11_nightMany_2 x p1 2000 (0 : Int32)).bind fun q2_7 => some q2_7
theorem lX11_nightMany_2 (Z : aZ) (y : aH) (x : aH) (l1 : Int32) {Q : Option Value → aH → Prop} {R : Int32} : ∀ (n : Nat) (l2 : Int32), wX11_nightMany_2 x l1 n l2 = some R → (∀ q, R = q → TX false Z mX11_nightMany 1 y x Q 45 [.null, .null, .int q] []) → TX false Z mX11_nightMany 1 y x Q 2 [.ref 73, .int l1, .int l2] [] := by
  intro n
  induction n with
  | zero => intro l2 hf; cases hf
  | succ n ih =>
    intro l2 hf ke
    replace hf : sX11_nightMany_2 x l1 (wX11_nightMany_2 x l1 n) l2 = some R := hf
    delta sX11_nightMany_2 at hf
    refine T_iload dX11_nightMany_2 rfl ?_
    refine T_const dX11_nightMany_3 ?_
    refine T_icmp_ge dX11_nightMany_5 (fun c5_1 => ?_) (fun c5_1 => ?_)
    · replace hf := ite_t c5_1 hf
      exact X_wk (WK.n (WK.n (WK.s WK.e))) (ke l2 (Option.some.inj hf).symm)
    · replace hf := ite_f c5_1 hf
      refine T_iload dX11_nightMany_8 rfl ?_
      refine T_aload dX11_nightMany_9 rfl ?_
      refine X_getr dX11_nightMany_10 lfX11_73 rfl ob73 rfl ?_
      refine T_iload dX11_nightMany_13 rfl ?_
      obtain ⟨hb14_2, hf⟩ := opt_t hf
      refine X_iald (N := 6) dX11_nightMany_14 ar95 rfl hb14_2 ?_
      refine T_icmp_ge dX11_nightMany_15 (fun c15_3 => ?_) (fun c15_3 => ?_)
      · replace hf := ite_t c15_3 hf
        exact X_wk (WK.n (WK.n (WK.s WK.e))) (ke l2 (Option.some.inj hf).symm)
      · replace hf := ite_f c15_3 hf
        refine T_aload dX11_nightMany_18 rfl ?_
        refine X_getr dX11_nightMany_19 lfX11_76 rfl ob73 rfl ?_
        refine T_const dX11_nightMany_22 ?_
        refine T_iload dX11_nightMany_24 rfl ?_
        refine T_imul dX11_nightMany_25 ?_
        refine T_iload dX11_nightMany_26 rfl ?_
        refine T_iadd dX11_nightMany_27 ?_
        obtain ⟨hb28_4, hf⟩ := opt_t hf
        refine X_lald (N := 360) dX11_nightMany_28 ar96 rfl hb28_4 ?_
        refine T_constL dX11_nightMany_29 ?_
        refine T_constL dX11_nightMany_30 ?_
        obtain ⟨q33_5, hc33_5, hf⟩ := bind_t hf
        refine X_Sv (qX11_within _ Z _ _ hc33_5) (Nat.le_of_ble_eq_true rfl) dX11_nightMany_33 lsX11_96 rfl rfl (Nat.le_of_ble_eq_true rfl) ?_
        refine T_if_eq dX11_nightMany_36 (fun c36_6 => ?_) (fun c36_6 => ?_)
        · replace hf := ite_t c36_6 hf
          exact X_wk (WK.n (WK.n (WK.s WK.e))) (ke l2 (Option.some.inj hf).symm)
        · replace hf := ite_f c36_6 hf
          refine T_iinc dX11_nightMany_39 rfl ?_
          show TX _ _ _ _ _ _ _ _ [_, _, _] _
          refine T_goto dX11_nightMany_42 ?_
          exact X_wk (WK.s (WK.s (WK.s WK.e))) (ih _ hf ke)
theorem qX11_nightMany (Z : aZ) (y : aH) {x : aH} {p1 : Int32} {q : Int32} (hf : fX11_nightMany x p1 = some q) : CX false Z mX11_nightMany 1 [.ref 73, .int p1] y x (RV (.int q) x) := by
  refine CX.of mokX11_nightMany (Nat.le_of_ble_eq_true rfl) ?_
  show TX _ _ _ _ _ _ _ _ [_, _, _] _
  delta fX11_nightMany at hf
  refine T_const dX11_nightMany_0 ?_
  refine T_istore dX11_nightMany_1 ?_
  show TX _ _ _ _ _ _ _ _ [_, _, _] _
  obtain ⟨q2_7, hc2_7, hf⟩ := bind_t hf
  refine X_wk (WK.s (WK.s (WK.s WK.e))) (lX11_nightMany_2 Z _ _ _ 2000 _ hc2_7 ?_)
  intro q2_7z hr
  subst hr
  refine T_iload dX11_nightMany_45 rfl ?_
  obtain rfl := Option.some.inj hf
  exact X_ri dX11_nightMany_46 ⟨rfl, rfl⟩
noncomputable def sX11_goesNights_13 (l1 : Int32) (l2 : Int32) (l3 : Int32) (ih : aH → Int32 → Option aH) (x : aH) (l4 : Int32) : Option aH := if l2 ≤ l4 then some x else if l3 ≤ l4 then some x else if (0 : Int32) ≤ (((60 : Int32) * l1) + l4) ∧ (((60 : Int32) * l1) + l4) < (360 : Int32) then (fX11_goesNight x (Int64.toInt32 (rj x 96 (ix (((60 : Int32) * l1) + l4))))).bind fun q39_6 => ih q39_6 (l4 + (1 : Int32)) else none
noncomputable def wX11_goesNights_13 (l1 : Int32) (l2 : Int32) (l3 : Int32) : Nat → aH → Int32 → Option aH
  | 0 => fun _ _ => none
  | n + 1 => sX11_goesNights_13 l1 l2 l3 (wX11_goesNights_13 l1 l2 l3 n)
noncomputable def fX11_goesNights (x : aH) (p1 : Int32) (p2 : Int32) : Option aH := (fX11_begins x).bind fun q1_1 => (fX11_nightMany q1_1 p1).bind fun q6_2 => (wX11_goesNights_13 p1 p2 q6_2 2000 q1_1 (0 : Int32)).bind fun q13_7 => some q13_7
theorem lX11_goesNights_13 (Z : aZ) (y : aH) (l1 : Int32) (l2 : Int32) (l3 : Int32) {Q : Option Value → aH → Prop} {R : aH} : ∀ (n : Nat) (x : aH) (l4 : Int32), wX11_goesNights_13 l1 l2 l3 n x l4 = some R → (∀ q, R = q → TX false Z mX11_goesNights 69 y q Q 48 [.null, .null, .null, .null, .null] []) → TX false Z mX11_goesNights 69 y x Q 13 [.ref 73, .int l1, .int l2, .int l3, .int l4] [] := by
  intro n
  induction n with
  | zero => intro x l4 hf; cases hf
  | succ n ih =>
    intro x l4 hf ke
    replace hf : sX11_goesNights_13 l1 l2 l3 (wX11_goesNights_13 l1 l2 l3 n) x l4 = some R := hf
    delta sX11_goesNights_13 at hf
    refine T_iload dX11_goesNights_13 rfl ?_
    refine T_iload dX11_goesNights_15 rfl ?_
    refine T_icmp_ge dX11_goesNights_16 (fun c16_3 => ?_) (fun c16_3 => ?_)
    · replace hf := ite_t c16_3 hf
      exact X_wk (WK.n (WK.n (WK.n (WK.n (WK.n WK.e))))) (ke x (Option.some.inj hf).symm)
    · replace hf := ite_f c16_3 hf
      refine T_iload dX11_goesNights_19 rfl ?_
      refine T_iload dX11_goesNights_21 rfl ?_
      refine T_icmp_ge dX11_goesNights_22 (fun c22_4 => ?_) (fun c22_4 => ?_)
      · replace hf := ite_t c22_4 hf
        exact X_wk (WK.n (WK.n (WK.n (WK.n (WK.n WK.e))))) (ke x (Option.some.inj hf).symm)
      · replace hf := ite_f c22_4 hf
        refine T_aload dX11_goesNights_25 rfl ?_
        refine T_aload dX11_goesNights_26 rfl ?_
        refine X_getr dX11_goesNights_27 lfX11_76 rfl ob73 rfl ?_
        refine T_const dX11_goesNights_30 ?_
        refine T_iload dX11_goesNights_32 rfl ?_
        refine T_imul dX11_goesNights_33 ?_
        refine T_iload dX11_goesNights_34 rfl ?_
        refine T_iadd dX11_goesNights_36 ?_
        obtain ⟨hb37_5, hf⟩ := opt_t hf
        refine X_lald (N := 360) dX11_goesNights_37 ar96 rfl hb37_5 ?_
        refine T_l2i dX11_goesNights_38 ?_
        obtain ⟨q39_6, hc39_6, hf⟩ := bind_t hf
        refine X_Vn (qX11_goesNight Z _ hc39_6) (Nat.le_of_ble_eq_true rfl) dX11_goesNights_39 lvX11_246 rfl rfl ob73 (Nat.le_of_ble_eq_true rfl) ?_
        refine T_iinc dX11_goesNights_42 rfl ?_
        show TX _ _ _ _ _ _ _ _ [_, _, _, _, _] _
        refine T_goto dX11_goesNights_45 ?_
        exact X_wk (WK.s (WK.s (WK.s (WK.s (WK.s WK.e))))) (ih _ _ hf ke)
theorem qX11_goesNights (Z : aZ) (y : aH) {x : aH} {p1 : Int32} {p2 : Int32} {q : aH} (hf : fX11_goesNights x p1 p2 = some q) : CX false Z mX11_goesNights 69 [.ref 73, .int p1, .int p2] y x (RN q) := by
  refine CX.of mokX11_goesNights (Nat.le_of_ble_eq_true rfl) ?_
  show TX _ _ _ _ _ _ _ _ [_, _, _, _, _] _
  delta fX11_goesNights at hf
  refine T_aload dX11_goesNights_0 rfl ?_
  obtain ⟨q1_1, hc1_1, hf⟩ := bind_t hf
  refine X_Vn (qX11_begins Z _ hc1_1) (Nat.le_of_ble_eq_true rfl) dX11_goesNights_1 lvX11_236 rfl rfl ob73 (Nat.le_of_ble_eq_true rfl) ?_
  refine T_aload dX11_goesNights_4 rfl ?_
  refine T_iload dX11_goesNights_5 rfl ?_
  obtain ⟨q6_2, hc6_2, hf⟩ := bind_t hf
  refine X_Vv (qX11_nightMany Z _ hc6_2) (Nat.le_of_ble_eq_true rfl) dX11_goesNights_6 lvX11_243 rfl rfl ob73 (Nat.le_of_ble_eq_true rfl) ?_
  refine T_istore dX11_goesNights_9 ?_
  show TX _ _ _ _ _ _ _ _ [_, _, _, _, _] _
  refine T_const dX11_goesNights_10 ?_
  refine T_istore dX11_goesNights_11 ?_
  show TX _ _ _ _ _ _ _ _ [_, _, _, _, _] _
  obtain ⟨q13_7, hc13_7, hf⟩ := bind_t hf
  refine X_wk (WK.s (WK.s (WK.s (WK.s (WK.s WK.e))))) (lX11_goesNights_13 Z _ _ _ _ 2000 _ _ hc13_7 ?_)
  intro q13_7z hr
  subst hr
  obtain rfl := Option.some.inj hf
  exact X_rv dX11_goesNights_48 ⟨rfl, rfl⟩
noncomputable def sX11_homeSet_4 (x : aH) (ih : Int32 → Int32 → Option Int32) (l1 : Int32) (l2 : Int32) : Option Int32 := if (fi x 73 6) ≤ l2 then some l1 else if (0 : Int32) ≤ l2 ∧ l2 < (10 : Int32) then ih (l1 ||| ((ri x 82 (ix l2)) <<< (l2 &&& 31))) (l2 + (1 : Int32)) else none
noncomputable def wX11_homeSet_4 (x : aH) : Nat → Int32 → Int32 → Option Int32
  | 0 => fun _ _ => none
  | n + 1 => sX11_homeSet_4 x (wX11_homeSet_4 x n)
noncomputable def fX11_homeSet (x : aH) : Option Int32 := (wX11_homeSet_4 x 2000 (0 : Int32) (0 : Int32)).bind fun q4_3 => some q4_3
theorem lX11_homeSet_4 (Z : aZ) (y : aH) (x : aH) {Q : Option Value → aH → Prop} {R : Int32} : ∀ (n : Nat) (l1 : Int32) (l2 : Int32), wX11_homeSet_4 x n l1 l2 = some R → (∀ q, R = q → TX false Z mX11_homeSet 0 y x Q 29 [.null, .int q, .null] []) → TX false Z mX11_homeSet 0 y x Q 4 [.ref 73, .int l1, .int l2] [] := by
  intro n
  induction n with
  | zero => intro l1 l2 hf; cases hf
  | succ n ih =>
    intro l1 l2 hf ke
    replace hf : sX11_homeSet_4 x (wX11_homeSet_4 x n) l1 l2 = some R := hf
    delta sX11_homeSet_4 at hf
    refine T_iload dX11_homeSet_4 rfl ?_
    refine T_aload dX11_homeSet_5 rfl ?_
    refine X_getf dX11_homeSet_6 lfX11_93 rfl ob73 ?_
    refine T_icmp_ge dX11_homeSet_9 (fun c9_1 => ?_) (fun c9_1 => ?_)
    · replace hf := ite_t c9_1 hf
      exact X_wk (WK.n (WK.s (WK.n WK.e))) (ke l1 (Option.some.inj hf).symm)
    · replace hf := ite_f c9_1 hf
      refine T_iload dX11_homeSet_12 rfl ?_
      refine T_aload dX11_homeSet_13 rfl ?_
      refine X_getr dX11_homeSet_14 lfX11_34 rfl ob73 rfl ?_
      refine T_iload dX11_homeSet_17 rfl ?_
      obtain ⟨hb18_2, hf⟩ := opt_t hf
      refine X_iald (N := 10) dX11_homeSet_18 ar82 rfl hb18_2 ?_
      refine T_iload dX11_homeSet_19 rfl ?_
      refine T_ishl dX11_homeSet_20 ?_
      refine T_ior dX11_homeSet_21 ?_
      refine T_istore dX11_homeSet_22 ?_
      show TX _ _ _ _ _ _ _ _ [_, _, _] _
      refine T_iinc dX11_homeSet_23 rfl ?_
      show TX _ _ _ _ _ _ _ _ [_, _, _] _
      refine T_goto dX11_homeSet_26 ?_
      exact X_wk (WK.s (WK.s (WK.s WK.e))) (ih _ _ hf ke)
theorem qX11_homeSet (Z : aZ) (y : aH) {x : aH} {q : Int32} (hf : fX11_homeSet x = some q) : CX false Z mX11_homeSet 0 [.ref 73] y x (RV (.int q) x) := by
  refine CX.of mokX11_homeSet (Nat.le_of_ble_eq_true rfl) ?_
  show TX _ _ _ _ _ _ _ _ [_, _, _] _
  delta fX11_homeSet at hf
  refine T_const dX11_homeSet_0 ?_
  refine T_istore dX11_homeSet_1 ?_
  show TX _ _ _ _ _ _ _ _ [_, _, _] _
  refine T_const dX11_homeSet_2 ?_
  refine T_istore dX11_homeSet_3 ?_
  show TX _ _ _ _ _ _ _ _ [_, _, _] _
  obtain ⟨q4_3, hc4_3, hf⟩ := bind_t hf
  refine X_wk (WK.s (WK.s (WK.s WK.e))) (lX11_homeSet_4 Z _ _ 2000 _ _ hc4_3 ?_)
  intro q4_3z hr
  subst hr
  refine T_iload dX11_homeSet_29 rfl ?_
  obtain rfl := Option.some.inj hf
  exact X_ri dX11_homeSet_30 ⟨rfl, rfl⟩
noncomputable def sX11_homeMany_4 (x : aH) (ih : Int32 → Int32 → Option Int32) (l1 : Int32) (l2 : Int32) : Option Int32 := if (fi x 73 6) ≤ l2 then some l1 else if (0 : Int32) ≤ l2 ∧ l2 < (10 : Int32) then ih (l1 + (ri x 82 (ix l2))) (l2 + (1 : Int32)) else none
noncomputable def wX11_homeMany_4 (x : aH) : Nat → Int32 → Int32 → Option Int32
  | 0 => fun _ _ => none
  | n + 1 => sX11_homeMany_4 x (wX11_homeMany_4 x n)
noncomputable def fX11_homeMany (x : aH) : Option Int32 := (wX11_homeMany_4 x 2000 (0 : Int32) (0 : Int32)).bind fun q4_3 => some q4_3
theorem lX11_homeMany_4 (Z : aZ) (y : aH) (x : aH) {Q : Option Value → aH → Prop} {R : Int32} : ∀ (n : Nat) (l1 : Int32) (l2 : Int32), wX11_homeMany_4 x n l1 l2 = some R → (∀ q, R = q → TX false Z mX11_homeMany 0 y x Q 27 [.null, .int q, .null] []) → TX false Z mX11_homeMany 0 y x Q 4 [.ref 73, .int l1, .int l2] [] := by
  intro n
  induction n with
  | zero => intro l1 l2 hf; cases hf
  | succ n ih =>
    intro l1 l2 hf ke
    replace hf : sX11_homeMany_4 x (wX11_homeMany_4 x n) l1 l2 = some R := hf
    delta sX11_homeMany_4 at hf
    refine T_iload dX11_homeMany_4 rfl ?_
    refine T_aload dX11_homeMany_5 rfl ?_
    refine X_getf dX11_homeMany_6 lfX11_93 rfl ob73 ?_
    refine T_icmp_ge dX11_homeMany_9 (fun c9_1 => ?_) (fun c9_1 => ?_)
    · replace hf := ite_t c9_1 hf
      exact X_wk (WK.n (WK.s (WK.n WK.e))) (ke l1 (Option.some.inj hf).symm)
    · replace hf := ite_f c9_1 hf
      refine T_iload dX11_homeMany_12 rfl ?_
      refine T_aload dX11_homeMany_13 rfl ?_
      refine X_getr dX11_homeMany_14 lfX11_34 rfl ob73 rfl ?_
      refine T_iload dX11_homeMany_17 rfl ?_
      obtain ⟨hb18_2, hf⟩ := opt_t hf
      refine X_iald (N := 10) dX11_homeMany_18 ar82 rfl hb18_2 ?_
      refine T_iadd dX11_homeMany_19 ?_
      refine T_istore dX11_homeMany_20 ?_
      show TX _ _ _ _ _ _ _ _ [_, _, _] _
      refine T_iinc dX11_homeMany_21 rfl ?_
      show TX _ _ _ _ _ _ _ _ [_, _, _] _
      refine T_goto dX11_homeMany_24 ?_
      exact X_wk (WK.s (WK.s (WK.s WK.e))) (ih _ _ hf ke)
theorem qX11_homeMany (Z : aZ) (y : aH) {x : aH} {q : Int32} (hf : fX11_homeMany x = some q) : CX false Z mX11_homeMany 0 [.ref 73] y x (RV (.int q) x) := by
  refine CX.of mokX11_homeMany (Nat.le_of_ble_eq_true rfl) ?_
  show TX _ _ _ _ _ _ _ _ [_, _, _] _
  delta fX11_homeMany at hf
  refine T_const dX11_homeMany_0 ?_
  refine T_istore dX11_homeMany_1 ?_
  show TX _ _ _ _ _ _ _ _ [_, _, _] _
  refine T_const dX11_homeMany_2 ?_
  refine T_istore dX11_homeMany_3 ?_
  show TX _ _ _ _ _ _ _ _ [_, _, _] _
  obtain ⟨q4_3, hc4_3, hf⟩ := bind_t hf
  refine X_wk (WK.s (WK.s (WK.s WK.e))) (lX11_homeMany_4 Z _ _ 2000 _ _ hc4_3 ?_)
  intro q4_3z hr
  subst hr
  refine T_iload dX11_homeMany_27 rfl ?_
  obtain rfl := Option.some.inj hf
  exact X_ri dX11_homeMany_28 ⟨rfl, rfl⟩
noncomputable def fX11_later (x : aH) (p1 : Int32) (p2 : Int32) (p3 : Int32) (p4 : Int32) : Option (Int32 × aH) := (fX11_bytesIs x p1).bind fun q2_1 => if q2_1 = (-1 : Int32) then some ((-1 : Int32), x) else (fX11_within (Int32.toInt64 p2) (0 : Int64) (40 : Int64)).bind fun q15_3 => if q15_3 = (0 : Int32) then some ((-1 : Int32), x) else (fX11_isLost x (Int32.toInt64 p3)).bind fun q24_5 => if q24_5 = (0 : Int32) then some ((-1 : Int32), x) else (fX11_within (Int32.toInt64 p4) (0 : Int64) (1 : Int64)).bind fun q35_7 => if q35_7 = (0 : Int32) then some ((-1 : Int32), x) else (fX11_bytesIs x p1).bind fun q45_9 => if (0 : Int32) ≤ q45_9 then (fX11_goesNights x p1 p2).bind fun q60_11 => if p4 = (0 : Int32) then if (0 : Int32) ≤ p3 ∧ p3 < (10 : Int32) then some ((ri q60_11 81 (ix p3)), q60_11) else none else if (0 : Int32) ≤ p3 ∧ p3 < (10 : Int32) then some ((ri q60_11 82 (ix p3)), q60_11) else none else (fX11_bytesIs x p1).bind fun q53_15 => some (q53_15, x)
theorem qX11_later (Z : aZ) (y : aH) {x : aH} {p1 : Int32} {p2 : Int32} {p3 : Int32} {p4 : Int32} {q : (Int32 × aH)} (hf : fX11_later x p1 p2 p3 p4 = some q) : CX false Z mX11_later 70 [.ref 73, .int p1, .int p2, .int p3, .int p4] y x (RV (.int q.1) q.2) := by
  refine CX.of mokX11_later (Nat.le_of_ble_eq_true rfl) ?_
  show TX _ _ _ _ _ _ _ _ [_, _, _, _, _] _
  delta fX11_later at hf
  refine T_aload dX11_later_0 rfl ?_
  refine T_iload dX11_later_1 rfl ?_
  obtain ⟨q2_1, hc2_1, hf⟩ := bind_t hf
  refine X_Vv (qX11_bytesIs Z _ hc2_1) (Nat.le_of_ble_eq_true rfl) dX11_later_2 lvX11_250 rfl rfl ob73 (Nat.le_of_ble_eq_true rfl) ?_
  refine T_const dX11_later_5 ?_
  refine T_icmp_eq dX11_later_6 (fun c6_2 => ?_) (fun c6_2 => ?_)
  · replace hf := ite_t c6_2 hf
    refine T_const dX11_later_41 ?_
    obtain rfl := Option.some.inj hf
    exact X_ri dX11_later_42 ⟨rfl, rfl⟩
  · replace hf := ite_f c6_2 hf
    refine T_iload dX11_later_9 rfl ?_
    refine T_i2l dX11_later_10 ?_
    refine T_constL dX11_later_11 ?_
    refine T_constL dX11_later_12 ?_
    obtain ⟨q15_3, hc15_3, hf⟩ := bind_t hf
    refine X_Sv (qX11_within _ Z _ _ hc15_3) (Nat.le_of_ble_eq_true rfl) dX11_later_15 lsX11_96 rfl rfl (Nat.le_of_ble_eq_true rfl) ?_
    refine T_if_eq dX11_later_18 (fun c18_4 => ?_) (fun c18_4 => ?_)
    · replace hf := ite_t c18_4 hf
      refine T_const dX11_later_41 ?_
      obtain rfl := Option.some.inj hf
      exact X_ri dX11_later_42 ⟨rfl, rfl⟩
    · replace hf := ite_f c18_4 hf
      refine T_aload dX11_later_21 rfl ?_
      refine T_iload dX11_later_22 rfl ?_
      refine T_i2l dX11_later_23 ?_
      obtain ⟨q24_5, hc24_5, hf⟩ := bind_t hf
      refine X_Vv (qX11_isLost Z _ hc24_5) (Nat.le_of_ble_eq_true rfl) dX11_later_24 lvX11_123 rfl rfl ob73 (Nat.le_of_ble_eq_true rfl) ?_
      refine T_if_eq dX11_later_27 (fun c27_6 => ?_) (fun c27_6 => ?_)
      · replace hf := ite_t c27_6 hf
        refine T_const dX11_later_41 ?_
        obtain rfl := Option.some.inj hf
        exact X_ri dX11_later_42 ⟨rfl, rfl⟩
      · replace hf := ite_f c27_6 hf
        refine T_iload dX11_later_30 rfl ?_
        refine T_i2l dX11_later_32 ?_
        refine T_constL dX11_later_33 ?_
        refine T_constL dX11_later_34 ?_
        obtain ⟨q35_7, hc35_7, hf⟩ := bind_t hf
        refine X_Sv (qX11_within _ Z _ _ hc35_7) (Nat.le_of_ble_eq_true rfl) dX11_later_35 lsX11_96 rfl rfl (Nat.le_of_ble_eq_true rfl) ?_
        refine T_if_ne dX11_later_38 (fun c38_8 => ?_) (fun c38_8 => ?_)
        · replace hf := ite_f c38_8 hf
          refine T_aload dX11_later_43 rfl ?_
          refine T_iload dX11_later_44 rfl ?_
          obtain ⟨q45_9, hc45_9, hf⟩ := bind_t hf
          refine X_Vv (qX11_bytesIs Z _ hc45_9) (Nat.le_of_ble_eq_true rfl) dX11_later_45 lvX11_250 rfl rfl ob73 (Nat.le_of_ble_eq_true rfl) ?_
          refine T_if_ge dX11_later_48 (fun c48_10 => ?_) (fun c48_10 => ?_)
          · replace hf := ite_t c48_10 hf
            refine T_aload dX11_later_57 rfl ?_
            refine T_iload dX11_later_58 rfl ?_
            refine T_iload dX11_later_59 rfl ?_
            obtain ⟨q60_11, hc60_11, hf⟩ := bind_t hf
            refine X_Vn (qX11_goesNights Z _ hc60_11) (Nat.le_of_ble_eq_true rfl) dX11_later_60 lvX11_255 rfl rfl ob73 (Nat.le_of_ble_eq_true rfl) ?_
            refine T_iload dX11_later_63 rfl ?_
            refine T_if_ne dX11_later_65 (fun c65_12 => ?_) (fun c65_12 => ?_)
            · replace hf := ite_f c65_12 hf
              refine T_aload dX11_later_77 rfl ?_
              refine X_getr dX11_later_78 lfX11_34 rfl ob73 rfl ?_
              refine T_iload dX11_later_81 rfl ?_
              obtain ⟨hb82_13, hf⟩ := opt_t hf
              refine X_iald (N := 10) dX11_later_82 ar82 rfl hb82_13 ?_
              obtain rfl := Option.some.inj hf
              exact X_ri dX11_later_83 ⟨rfl, rfl⟩
            · replace hf := ite_t c65_12 hf
              refine T_aload dX11_later_68 rfl ?_
              refine X_getr dX11_later_69 lfX11_31 rfl ob73 rfl ?_
              refine T_iload dX11_later_72 rfl ?_
              obtain ⟨hb73_14, hf⟩ := opt_t hf
              refine X_iald (N := 10) dX11_later_73 ar81 rfl hb73_14 ?_
              refine T_goto dX11_later_74 ?_
              obtain rfl := Option.some.inj hf
              exact X_ri dX11_later_83 ⟨rfl, rfl⟩
          · replace hf := ite_f c48_10 hf
            refine T_aload dX11_later_51 rfl ?_
            refine T_iload dX11_later_52 rfl ?_
            obtain ⟨q53_15, hc53_15, hf⟩ := bind_t hf
            refine X_Vv (qX11_bytesIs Z _ hc53_15) (Nat.le_of_ble_eq_true rfl) dX11_later_53 lvX11_250 rfl rfl ob73 (Nat.le_of_ble_eq_true rfl) ?_
            obtain rfl := Option.some.inj hf
            exact X_ri dX11_later_56 ⟨rfl, rfl⟩
        · replace hf := ite_t c38_8 hf
          refine T_const dX11_later_41 ?_
          obtain rfl := Option.some.inj hf
          exact X_ri dX11_later_42 ⟨rfl, rfl⟩
noncomputable def fX11_home (x : aH) (p1 : Int32) (p2 : Int32) (p3 : Int32) : Option (Int32 × aH) := (fX11_bytesIs x p1).bind fun q2_1 => if q2_1 = (-1 : Int32) then some ((-1 : Int32), x) else (fX11_within (Int32.toInt64 p2) (0 : Int64) (40 : Int64)).bind fun q15_3 => if q15_3 = (0 : Int32) then some ((-1 : Int32), x) else (fX11_within (Int32.toInt64 p3) (0 : Int64) (1 : Int64)).bind fun q25_5 => if q25_5 = (0 : Int32) then some ((-1 : Int32), x) else (fX11_bytesIs x p1).bind fun q35_7 => if (0 : Int32) ≤ q35_7 then (fX11_goesNights x p1 p2).bind fun q50_9 => if p3 = (0 : Int32) then (fX11_homeSet q50_9).bind fun q58_11 => some (q58_11, q50_9) else some ((fi q50_9 73 19), q50_9) else (fX11_bytesIs x p1).bind fun q43_12 => some (q43_12, x)
theorem qX11_home (Z : aZ) (y : aH) {x : aH} {p1 : Int32} {p2 : Int32} {p3 : Int32} {q : (Int32 × aH)} (hf : fX11_home x p1 p2 p3 = some q) : CX false Z mX11_home 70 [.ref 73, .int p1, .int p2, .int p3] y x (RV (.int q.1) q.2) := by
  refine CX.of mokX11_home (Nat.le_of_ble_eq_true rfl) ?_
  show TX _ _ _ _ _ _ _ _ [_, _, _, _] _
  delta fX11_home at hf
  refine T_aload dX11_home_0 rfl ?_
  refine T_iload dX11_home_1 rfl ?_
  obtain ⟨q2_1, hc2_1, hf⟩ := bind_t hf
  refine X_Vv (qX11_bytesIs Z _ hc2_1) (Nat.le_of_ble_eq_true rfl) dX11_home_2 lvX11_250 rfl rfl ob73 (Nat.le_of_ble_eq_true rfl) ?_
  refine T_const dX11_home_5 ?_
  refine T_icmp_eq dX11_home_6 (fun c6_2 => ?_) (fun c6_2 => ?_)
  · replace hf := ite_t c6_2 hf
    refine T_const dX11_home_31 ?_
    obtain rfl := Option.some.inj hf
    exact X_ri dX11_home_32 ⟨rfl, rfl⟩
  · replace hf := ite_f c6_2 hf
    refine T_iload dX11_home_9 rfl ?_
    refine T_i2l dX11_home_10 ?_
    refine T_constL dX11_home_11 ?_
    refine T_constL dX11_home_12 ?_
    obtain ⟨q15_3, hc15_3, hf⟩ := bind_t hf
    refine X_Sv (qX11_within _ Z _ _ hc15_3) (Nat.le_of_ble_eq_true rfl) dX11_home_15 lsX11_96 rfl rfl (Nat.le_of_ble_eq_true rfl) ?_
    refine T_if_eq dX11_home_18 (fun c18_4 => ?_) (fun c18_4 => ?_)
    · replace hf := ite_t c18_4 hf
      refine T_const dX11_home_31 ?_
      obtain rfl := Option.some.inj hf
      exact X_ri dX11_home_32 ⟨rfl, rfl⟩
    · replace hf := ite_f c18_4 hf
      refine T_iload dX11_home_21 rfl ?_
      refine T_i2l dX11_home_22 ?_
      refine T_constL dX11_home_23 ?_
      refine T_constL dX11_home_24 ?_
      obtain ⟨q25_5, hc25_5, hf⟩ := bind_t hf
      refine X_Sv (qX11_within _ Z _ _ hc25_5) (Nat.le_of_ble_eq_true rfl) dX11_home_25 lsX11_96 rfl rfl (Nat.le_of_ble_eq_true rfl) ?_
      refine T_if_ne dX11_home_28 (fun c28_6 => ?_) (fun c28_6 => ?_)
      · replace hf := ite_f c28_6 hf
        refine T_aload dX11_home_33 rfl ?_
        refine T_iload dX11_home_34 rfl ?_
        obtain ⟨q35_7, hc35_7, hf⟩ := bind_t hf
        refine X_Vv (qX11_bytesIs Z _ hc35_7) (Nat.le_of_ble_eq_true rfl) dX11_home_35 lvX11_250 rfl rfl ob73 (Nat.le_of_ble_eq_true rfl) ?_
        refine T_if_ge dX11_home_38 (fun c38_8 => ?_) (fun c38_8 => ?_)
        · replace hf := ite_t c38_8 hf
          refine T_aload dX11_home_47 rfl ?_
          refine T_iload dX11_home_48 rfl ?_
          refine T_iload dX11_home_49 rfl ?_
          obtain ⟨q50_9, hc50_9, hf⟩ := bind_t hf
          refine X_Vn (qX11_goesNights Z _ hc50_9) (Nat.le_of_ble_eq_true rfl) dX11_home_50 lvX11_255 rfl rfl ob73 (Nat.le_of_ble_eq_true rfl) ?_
          refine T_iload dX11_home_53 rfl ?_
          refine T_if_ne dX11_home_54 (fun c54_10 => ?_) (fun c54_10 => ?_)
          · replace hf := ite_f c54_10 hf
            refine T_aload dX11_home_64 rfl ?_
            refine X_getf dX11_home_65 lfX11_200 rfl ob73 ?_
            obtain rfl := Option.some.inj hf
            exact X_ri dX11_home_68 ⟨rfl, rfl⟩
          · replace hf := ite_t c54_10 hf
            refine T_aload dX11_home_57 rfl ?_
            obtain ⟨q58_11, hc58_11, hf⟩ := bind_t hf
            refine X_Vv (qX11_homeSet Z _ hc58_11) (Nat.le_of_ble_eq_true rfl) dX11_home_58 lvX11_259 rfl rfl ob73 (Nat.le_of_ble_eq_true rfl) ?_
            refine T_goto dX11_home_61 ?_
            obtain rfl := Option.some.inj hf
            exact X_ri dX11_home_68 ⟨rfl, rfl⟩
        · replace hf := ite_f c38_8 hf
          refine T_aload dX11_home_41 rfl ?_
          refine T_iload dX11_home_42 rfl ?_
          obtain ⟨q43_12, hc43_12, hf⟩ := bind_t hf
          refine X_Vv (qX11_bytesIs Z _ hc43_12) (Nat.le_of_ble_eq_true rfl) dX11_home_43 lvX11_250 rfl rfl ob73 (Nat.le_of_ble_eq_true rfl) ?_
          obtain rfl := Option.some.inj hf
          exact X_ri dX11_home_46 ⟨rfl, rfl⟩
      · replace hf := ite_t c28_6 hf
        refine T_const dX11_home_31 ?_
        obtain rfl := Option.some.inj hf
        exact X_ri dX11_home_32 ⟨rfl, rfl⟩
noncomputable def sX11_since_43 (l1 : Int32) (l2 : Int32) (l3 : Int32) (ih : aH → Int32 → Option (Sum (Int32 × aH) aH)) (x : aH) (l4 : Int32) : Option (Sum (Int32 × aH) aH) := if l3 < l4 then some (.inr x) else (fX11_goesNights x l1 l4).bind fun q53_9 => if (0 : Int32) ≤ l2 ∧ l2 < (10 : Int32) then if (ri q53_9 82 (ix l2)) = (1 : Int32) then some (.inl (l4, q53_9)) else ih q53_9 (l4 + (1 : Int32)) else none
noncomputable def wX11_since_43 (l1 : Int32) (l2 : Int32) (l3 : Int32) : Nat → aH → Int32 → Option (Sum (Int32 × aH) aH)
  | 0 => fun _ _ => none
  | n + 1 => sX11_since_43 l1 l2 l3 (wX11_since_43 l1 l2 l3 n)
noncomputable def fX11_since (x : aH) (p1 : Int32) (p2 : Int32) : Option (Int32 × aH) := (fX11_bytesIs x p1).bind fun q2_1 => if q2_1 = (-1 : Int32) then some ((-1 : Int32), x) else (fX11_isLost x (Int32.toInt64 p2)).bind fun q12_3 => if q12_3 = (0 : Int32) then some ((-1 : Int32), x) else (fX11_bytesIs x p1).bind fun q22_5 => if (0 : Int32) ≤ q22_5 then (fX11_nightMany x p1).bind fun q36_7 => (wX11_since_43 p1 p2 q36_7 2000 x (0 : Int32)).bind fun q43_12 => elS q43_12 (fun r => some r) (fun eq43_12 => some ((-2 : Int32), eq43_12)) else (fX11_bytesIs x p1).bind fun q30_13 => some (q30_13, x)
theorem lX11_since_43 (Z : aZ) (y : aH) (l1 : Int32) (l2 : Int32) (l3 : Int32) {Q : Option Value → aH → Prop} {R : (Sum (Int32 × aH) aH)} : ∀ (n : Nat) (x : aH) (l4 : Int32), wX11_since_43 l1 l2 l3 n x l4 = some R → (∀ r, R = .inl r → Q (some (.int r.1)) r.2) → (∀ q, R = .inr q → TX false Z mX11_since 70 y q Q 75 [.null, .null, .null, .null, .null] []) → TX false Z mX11_since 70 y x Q 43 [.ref 73, .int l1, .int l2, .int l3, .int l4] [] := by
  intro n
  induction n with
  | zero => intro x l4 hf; cases hf
  | succ n ih =>
    intro x l4 hf kr ke
    replace hf : sX11_since_43 l1 l2 l3 (wX11_since_43 l1 l2 l3 n) x l4 = some R := hf
    delta sX11_since_43 at hf
    refine T_iload dX11_since_43 rfl ?_
    refine T_iload dX11_since_45 rfl ?_
    refine T_icmp_gt dX11_since_46 (fun c46_8 => ?_) (fun c46_8 => ?_)
    · replace hf := ite_t c46_8 hf
      exact X_wk (WK.n (WK.n (WK.n (WK.n (WK.n WK.e))))) (ke x (Option.some.inj hf).symm)
    · replace hf := ite_f c46_8 hf
      refine T_aload dX11_since_49 rfl ?_
      refine T_iload dX11_since_50 rfl ?_
      refine T_iload dX11_since_51 rfl ?_
      obtain ⟨q53_9, hc53_9, hf⟩ := bind_t hf
      refine X_Vn (qX11_goesNights Z _ hc53_9) (Nat.le_of_ble_eq_true rfl) dX11_since_53 lvX11_255 rfl rfl ob73 (Nat.le_of_ble_eq_true rfl) ?_
      refine T_aload dX11_since_56 rfl ?_
      refine X_getr dX11_since_57 lfX11_34 rfl ob73 rfl ?_
      refine T_iload dX11_since_60 rfl ?_
      obtain ⟨hb61_10, hf⟩ := opt_t hf
      refine X_iald (N := 10) dX11_since_61 ar82 rfl hb61_10 ?_
      refine T_const dX11_since_62 ?_
      refine T_icmp_ne dX11_since_63 (fun c63_11 => ?_) (fun c63_11 => ?_)
      · replace hf := ite_f c63_11 hf
        refine T_iinc dX11_since_69 rfl ?_
        show TX _ _ _ _ _ _ _ _ [_, _, _, _, _] _
        refine T_goto dX11_since_72 ?_
        exact X_wk (WK.s (WK.s (WK.s (WK.s (WK.s WK.e))))) (ih _ _ hf kr ke)
      · replace hf := ite_t c63_11 hf
        refine T_iload dX11_since_66 rfl ?_
        exact X_ri dX11_since_68 (kr (l4, q53_9) (Option.some.inj hf).symm)
theorem qX11_since (Z : aZ) (y : aH) {x : aH} {p1 : Int32} {p2 : Int32} {q : (Int32 × aH)} (hf : fX11_since x p1 p2 = some q) : CX false Z mX11_since 70 [.ref 73, .int p1, .int p2] y x (RV (.int q.1) q.2) := by
  refine CX.of mokX11_since (Nat.le_of_ble_eq_true rfl) ?_
  show TX _ _ _ _ _ _ _ _ [_, _, _, _, _] _
  delta fX11_since at hf
  refine T_aload dX11_since_0 rfl ?_
  refine T_iload dX11_since_1 rfl ?_
  obtain ⟨q2_1, hc2_1, hf⟩ := bind_t hf
  refine X_Vv (qX11_bytesIs Z _ hc2_1) (Nat.le_of_ble_eq_true rfl) dX11_since_2 lvX11_250 rfl rfl ob73 (Nat.le_of_ble_eq_true rfl) ?_
  refine T_const dX11_since_5 ?_
  refine T_icmp_eq dX11_since_6 (fun c6_2 => ?_) (fun c6_2 => ?_)
  · replace hf := ite_t c6_2 hf
    refine T_const dX11_since_18 ?_
    obtain rfl := Option.some.inj hf
    exact X_ri dX11_since_19 ⟨rfl, rfl⟩
  · replace hf := ite_f c6_2 hf
    refine T_aload dX11_since_9 rfl ?_
    refine T_iload dX11_since_10 rfl ?_
    refine T_i2l dX11_since_11 ?_
    obtain ⟨q12_3, hc12_3, hf⟩ := bind_t hf
    refine X_Vv (qX11_isLost Z _ hc12_3) (Nat.le_of_ble_eq_true rfl) dX11_since_12 lvX11_123 rfl rfl ob73 (Nat.le_of_ble_eq_true rfl) ?_
    refine T_if_ne dX11_since_15 (fun c15_4 => ?_) (fun c15_4 => ?_)
    · replace hf := ite_f c15_4 hf
      refine T_aload dX11_since_20 rfl ?_
      refine T_iload dX11_since_21 rfl ?_
      obtain ⟨q22_5, hc22_5, hf⟩ := bind_t hf
      refine X_Vv (qX11_bytesIs Z _ hc22_5) (Nat.le_of_ble_eq_true rfl) dX11_since_22 lvX11_250 rfl rfl ob73 (Nat.le_of_ble_eq_true rfl) ?_
      refine T_if_ge dX11_since_25 (fun c25_6 => ?_) (fun c25_6 => ?_)
      · replace hf := ite_t c25_6 hf
        refine T_aload dX11_since_34 rfl ?_
        refine T_iload dX11_since_35 rfl ?_
        obtain ⟨q36_7, hc36_7, hf⟩ := bind_t hf
        refine X_Vv (qX11_nightMany Z _ hc36_7) (Nat.le_of_ble_eq_true rfl) dX11_since_36 lvX11_243 rfl rfl ob73 (Nat.le_of_ble_eq_true rfl) ?_
        refine T_istore dX11_since_39 ?_
        show TX _ _ _ _ _ _ _ _ [_, _, _, _, _] _
        refine T_const dX11_since_40 ?_
        refine T_istore dX11_since_41 ?_
        show TX _ _ _ _ _ _ _ _ [_, _, _, _, _] _
        obtain ⟨q43_12, hc43_12, hf⟩ := bind_t hf
        refine X_wk (WK.s (WK.s (WK.s (WK.s (WK.s WK.e))))) (lX11_since_43 Z _ _ _ _ 2000 _ _ hc43_12 ?_ ?_)
        · intro r hr
          subst hr
          replace hf := elS_l hf
          obtain rfl := Option.some.inj hf
          exact ⟨rfl, rfl⟩
        · intro eq43_12 hr
          subst hr
          replace hf := elS_r hf
          refine T_const dX11_since_75 ?_
          obtain rfl := Option.some.inj hf
          exact X_ri dX11_since_77 ⟨rfl, rfl⟩
      · replace hf := ite_f c25_6 hf
        refine T_aload dX11_since_28 rfl ?_
        refine T_iload dX11_since_29 rfl ?_
        obtain ⟨q30_13, hc30_13, hf⟩ := bind_t hf
        refine X_Vv (qX11_bytesIs Z _ hc30_13) (Nat.le_of_ble_eq_true rfl) dX11_since_30 lvX11_250 rfl rfl ob73 (Nat.le_of_ble_eq_true rfl) ?_
        obtain rfl := Option.some.inj hf
        exact X_ri dX11_since_33 ⟨rfl, rfl⟩
    · replace hf := ite_t c15_4 hf
      refine T_const dX11_since_18 ?_
      obtain rfl := Option.some.inj hf
      exact X_ri dX11_since_19 ⟨rfl, rfl⟩
noncomputable def sX11_triesWays_109 (g_X11_triesWays : aH → Int32 → Int32 → Option aH) (l1 : Int32) (l2 : Int32) (ih : aH → Int32 → Option aH) (x : aH) (l3 : Int32) : Option aH := if (4 : Int32) < l3 then some x else if (0 : Int32) ≤ l1 ∧ l1 < (4 : Int32) then (g_X11_triesWays (sri x 84 (ix l1) l3) (l1 + (1 : Int32)) l2).bind fun q126_4 => ih q126_4 (l3 + (1 : Int32)) else none
noncomputable def wX11_triesWays_109 (g_X11_triesWays : aH → Int32 → Int32 → Option aH) (l1 : Int32) (l2 : Int32) : Nat → aH → Int32 → Option aH
  | 0 => fun _ _ => none
  | n + 1 => sX11_triesWays_109 g_X11_triesWays l1 l2 (wX11_triesWays_109 g_X11_triesWays l1 l2 n)
noncomputable def sX11_triesWays_11 (g_X11_triesWays : aH → Int32 → Int32 → Option aH) (l2 : Int32) (ih : aH → Int32 → Option aH) (x : aH) (l3 : Int32) : Option aH := if l2 ≤ l3 then some x else if (0 : Int32) ≤ l3 ∧ l3 < (4 : Int32) then (fX11_goesNight x (ri x 84 (ix l3))).bind fun q23_9 => ih q23_9 (l3 + (1 : Int32)) else none
noncomputable def wX11_triesWays_11 (g_X11_triesWays : aH → Int32 → Int32 → Option aH) (l2 : Int32) : Nat → aH → Int32 → Option aH
  | 0 => fun _ _ => none
  | n + 1 => sX11_triesWays_11 g_X11_triesWays l2 (wX11_triesWays_11 g_X11_triesWays l2 n)
noncomputable def sX11_triesWays_83 (g_X11_triesWays : aH → Int32 → Int32 → Option aH) (l2 : Int32) (ih : aH → Int32 → Option aH) (x : aH) (l3 : Int32) : Option aH := if l2 ≤ l3 then some x else if (0 : Int32) ≤ l3 ∧ l3 < (4 : Int32) then if (0 : Int32) ≤ l3 ∧ l3 < (4 : Int32) then ih (sri x 85 (ix l3) (ri x 84 (ix l3))) (l3 + (1 : Int32)) else none else none
noncomputable def wX11_triesWays_83 (g_X11_triesWays : aH → Int32 → Int32 → Option aH) (l2 : Int32) : Nat → aH → Int32 → Option aH
  | 0 => fun _ _ => none
  | n + 1 => sX11_triesWays_83 g_X11_triesWays l2 (wX11_triesWays_83 g_X11_triesWays l2 n)
noncomputable def jX11_triesWays_65 (g_X11_triesWays : aH → Int32 → Int32 → Option aH) (x : aH) (l2 : Int32) : Option aH := (fX11_homeMany x).bind fun q67_12 => (wX11_triesWays_83 g_X11_triesWays l2 2000 (sfi (sfi x 73 26 q67_12) 73 27 (fi (sfi x 73 26 q67_12) 73 19)) (0 : Int32)).bind fun q83_16 => some q83_16
noncomputable def uX11_triesWays (g_X11_triesWays : aH → Int32 → Int32 → Option aH) (x : aH) (p1 : Int32) (p2 : Int32) : Option aH := if p1 = p2 then (fX11_begins x).bind fun q6_6 => (wX11_triesWays_11 g_X11_triesWays p2 2000 q6_6 (0 : Int32)).bind fun q11_10 => (fX11_homeMany q11_10).bind fun q33_11 => if (fi q11_10 73 26) < q33_11 then jX11_triesWays_65 g_X11_triesWays q11_10 p2 else (fX11_homeMany q11_10).bind fun q44_18 => if q44_18 = (fi q11_10 73 26) then if (fi q11_10 73 19) ≤ (fi q11_10 73 27) then some q11_10 else jX11_triesWays_65 g_X11_triesWays q11_10 p2 else some q11_10 else (wX11_triesWays_109 g_X11_triesWays p1 p2 2000 x (0 : Int32)).bind fun q109_5 => some q109_5
theorem lX11_triesWays_109 (Z : aZ) (y : aH) {D : Nat} (hK : 68 ≤ D) {g_X11_triesWays : aH → Int32 → Int32 → Option aH} (H_X11_triesWays : ∀ (x : aH) (p1 : Int32) (p2 : Int32) {q : aH}, g_X11_triesWays x p1 p2 = some q → CX false Z mX11_triesWays D [.ref 73, .int p1, .int p2] y x (RN q)) (l1 : Int32) (l2 : Int32) {Q : Option Value → aH → Prop} {R : aH} : ∀ (n : Nat) (x : aH) (l3 : Int32), wX11_triesWays_109 g_X11_triesWays l1 l2 n x l3 = some R → (∀ q, R = q → TX false Z mX11_triesWays (D + 1) y q Q 135 [.null, .null, .null, .null] []) → TX false Z mX11_triesWays (D + 1) y x Q 109 [.ref 73, .int l1, .int l2, .int l3] [] := by
  intro n
  induction n with
  | zero => intro x l3 hf; cases hf
  | succ n ih =>
    intro x l3 hf ke
    replace hf : sX11_triesWays_109 g_X11_triesWays l1 l2 (wX11_triesWays_109 g_X11_triesWays l1 l2 n) x l3 = some R := hf
    delta sX11_triesWays_109 at hf
    refine T_iload dX11_triesWays_109 rfl ?_
    refine T_const dX11_triesWays_110 ?_
    refine T_icmp_gt dX11_triesWays_111 (fun c111_2 => ?_) (fun c111_2 => ?_)
    · replace hf := ite_t c111_2 hf
      exact X_wk (WK.n (WK.n (WK.n (WK.n WK.e)))) (ke x (Option.some.inj hf).symm)
    · replace hf := ite_f c111_2 hf
      refine T_aload dX11_triesWays_114 rfl ?_
      refine X_getr dX11_triesWays_115 lfX11_40 rfl ob73 rfl ?_
      refine T_iload dX11_triesWays_118 rfl ?_
      refine T_iload dX11_triesWays_119 rfl ?_
      obtain ⟨hb120_3, hf⟩ := opt_t hf
      refine X_iast (N := 4) dX11_triesWays_120 ar84 rfl hb120_3 ?_
      refine T_aload dX11_triesWays_121 rfl ?_
      refine T_iload dX11_triesWays_122 rfl ?_
      refine T_const dX11_triesWays_123 ?_
      refine T_iadd dX11_triesWays_124 ?_
      refine T_iload dX11_triesWays_125 rfl ?_
      obtain ⟨q126_4, hc126_4, hf⟩ := bind_t hf
      refine X_Vn (H_X11_triesWays _ _ _ hc126_4) (Nat.le_refl _) dX11_triesWays_126 lvX11_271 rfl rfl ob73 (Nat.le_of_ble_eq_true rfl) ?_
      refine T_iinc dX11_triesWays_129 rfl ?_
      show TX _ _ _ _ _ _ _ _ [_, _, _, _] _
      refine T_goto dX11_triesWays_132 ?_
      exact X_wk (WK.s (WK.s (WK.s (WK.s WK.e)))) (ih _ _ hf ke)
theorem lX11_triesWays_11 (Z : aZ) (y : aH) {D : Nat} (hK : 68 ≤ D) {g_X11_triesWays : aH → Int32 → Int32 → Option aH} (H_X11_triesWays : ∀ (x : aH) (p1 : Int32) (p2 : Int32) {q : aH}, g_X11_triesWays x p1 p2 = some q → CX false Z mX11_triesWays D [.ref 73, .int p1, .int p2] y x (RN q)) (l2 : Int32) {Q : Option Value → aH → Prop} {R : aH} : ∀ (n : Nat) (x : aH) (l3 : Int32), wX11_triesWays_11 g_X11_triesWays l2 n x l3 = some R → (∀ q, R = q → TX false Z mX11_triesWays (D + 1) y q Q 32 [.ref 73, .null, .int l2, .null] []) → TX false Z mX11_triesWays (D + 1) y x Q 11 [.ref 73, .null, .int l2, .int l3] [] := by
  intro n
  induction n with
  | zero => intro x l3 hf; cases hf
  | succ n ih =>
    intro x l3 hf ke
    replace hf : sX11_triesWays_11 g_X11_triesWays l2 (wX11_triesWays_11 g_X11_triesWays l2 n) x l3 = some R := hf
    delta sX11_triesWays_11 at hf
    refine T_iload dX11_triesWays_11 rfl ?_
    refine T_iload dX11_triesWays_12 rfl ?_
    refine T_icmp_ge dX11_triesWays_13 (fun c13_7 => ?_) (fun c13_7 => ?_)
    · replace hf := ite_t c13_7 hf
      exact X_wk (WK.s (WK.n (WK.s (WK.n WK.e)))) (ke x (Option.some.inj hf).symm)
    · replace hf := ite_f c13_7 hf
      refine T_aload dX11_triesWays_16 rfl ?_
      refine T_aload dX11_triesWays_17 rfl ?_
      refine X_getr dX11_triesWays_18 lfX11_40 rfl ob73 rfl ?_
      refine T_iload dX11_triesWays_21 rfl ?_
      obtain ⟨hb22_8, hf⟩ := opt_t hf
      refine X_iald (N := 4) dX11_triesWays_22 ar84 rfl hb22_8 ?_
      obtain ⟨q23_9, hc23_9, hf⟩ := bind_t hf
      refine X_Vn (qX11_goesNight Z _ hc23_9) (Nat.le_trans (Nat.le_of_ble_eq_true rfl) hK) dX11_triesWays_23 lvX11_246 rfl rfl ob73 (Nat.le_of_ble_eq_true rfl) ?_
      refine T_iinc dX11_triesWays_26 rfl ?_
      show TX _ _ _ _ _ _ _ _ [_, _, _, _] _
      refine T_goto dX11_triesWays_29 ?_
      exact X_wk (WK.s (WK.n (WK.s (WK.s WK.e)))) (ih _ _ hf ke)
theorem lX11_triesWays_83 (Z : aZ) (y : aH) {D : Nat} (hK : 68 ≤ D) {g_X11_triesWays : aH → Int32 → Int32 → Option aH} (H_X11_triesWays : ∀ (x : aH) (p1 : Int32) (p2 : Int32) {q : aH}, g_X11_triesWays x p1 p2 = some q → CX false Z mX11_triesWays D [.ref 73, .int p1, .int p2] y x (RN q)) (l2 : Int32) {Q : Option Value → aH → Prop} {R : aH} : ∀ (n : Nat) (x : aH) (l3 : Int32), wX11_triesWays_83 g_X11_triesWays l2 n x l3 = some R → (∀ q, R = q → TX false Z mX11_triesWays (D + 1) y q Q 106 [.null, .null, .null, .null] []) → TX false Z mX11_triesWays (D + 1) y x Q 83 [.ref 73, .null, .int l2, .int l3] [] := by
  intro n
  induction n with
  | zero => intro x l3 hf; cases hf
  | succ n ih =>
    intro x l3 hf ke
    replace hf : sX11_triesWays_83 g_X11_triesWays l2 (wX11_triesWays_83 g_X11_triesWays l2 n) x l3 = some R := hf
    delta sX11_triesWays_83 at hf
    refine T_iload dX11_triesWays_83 rfl ?_
    refine T_iload dX11_triesWays_84 rfl ?_
    refine T_icmp_ge dX11_triesWays_85 (fun c85_13 => ?_) (fun c85_13 => ?_)
    · replace hf := ite_t c85_13 hf
      exact X_wk (WK.n (WK.n (WK.n (WK.n WK.e)))) (ke x (Option.some.inj hf).symm)
    · replace hf := ite_f c85_13 hf
      refine T_aload dX11_triesWays_88 rfl ?_
      refine X_getr dX11_triesWays_89 lfX11_43 rfl ob73 rfl ?_
      refine T_iload dX11_triesWays_92 rfl ?_
      refine T_aload dX11_triesWays_93 rfl ?_
      refine X_getr dX11_triesWays_94 lfX11_40 rfl ob73 rfl ?_
      refine T_iload dX11_triesWays_97 rfl ?_
      obtain ⟨hb98_14, hf⟩ := opt_t hf
      refine X_iald (N := 4) dX11_triesWays_98 ar84 rfl hb98_14 ?_
      obtain ⟨hb99_15, hf⟩ := opt_t hf
      refine X_iast (N := 4) dX11_triesWays_99 ar85 rfl hb99_15 ?_
      refine T_iinc dX11_triesWays_100 rfl ?_
      show TX _ _ _ _ _ _ _ _ [_, _, _, _] _
      refine T_goto dX11_triesWays_103 ?_
      exact X_wk (WK.s (WK.n (WK.s (WK.s WK.e)))) (ih _ _ hf ke)
theorem pX11_triesWays (Z : aZ) (y : aH) {D : Nat} (hK : 68 ≤ D) {g_X11_triesWays : aH → Int32 → Int32 → Option aH} (H_X11_triesWays : ∀ (x : aH) (p1 : Int32) (p2 : Int32) {q : aH}, g_X11_triesWays x p1 p2 = some q → CX false Z mX11_triesWays D [.ref 73, .int p1, .int p2] y x (RN q)) {x : aH} {p1 : Int32} {p2 : Int32} {q : aH} (hf : uX11_triesWays g_X11_triesWays x p1 p2 = some q) : CX false Z mX11_triesWays (D + 1) [.ref 73, .int p1, .int p2] y x (RN q) := by
  refine CX.of mokX11_triesWays (Nat.le_of_ble_eq_true rfl) ?_
  show TX _ _ _ _ _ _ _ _ [_, _, _, _] _
  delta uX11_triesWays at hf
  refine T_iload dX11_triesWays_0 rfl ?_
  refine T_iload dX11_triesWays_1 rfl ?_
  refine T_icmp_ne dX11_triesWays_2 (fun c2_1 => ?_) (fun c2_1 => ?_)
  · replace hf := ite_f c2_1 hf
    refine T_const dX11_triesWays_107 ?_
    refine T_istore dX11_triesWays_108 ?_
    show TX _ _ _ _ _ _ _ _ [_, _, _, _] _
    obtain ⟨q109_5, hc109_5, hf⟩ := bind_t hf
    refine X_wk (WK.s (WK.s (WK.s (WK.s WK.e)))) (lX11_triesWays_109 Z _ hK H_X11_triesWays _ _ 2000 _ _ hc109_5 ?_)
    intro q109_5z hr
    subst hr
    obtain rfl := Option.some.inj hf
    exact X_rv dX11_triesWays_135 ⟨rfl, rfl⟩
  · replace hf := ite_t c2_1 hf
    refine T_aload dX11_triesWays_5 rfl ?_
    obtain ⟨q6_6, hc6_6, hf⟩ := bind_t hf
    refine X_Vn (qX11_begins Z _ hc6_6) (Nat.le_trans (Nat.le_of_ble_eq_true rfl) hK) dX11_triesWays_6 lvX11_236 rfl rfl ob73 (Nat.le_of_ble_eq_true rfl) ?_
    refine T_const dX11_triesWays_9 ?_
    refine T_istore dX11_triesWays_10 ?_
    show TX _ _ _ _ _ _ _ _ [_, _, _, _] _
    obtain ⟨q11_10, hc11_10, hf⟩ := bind_t hf
    refine X_wk (WK.s (WK.n (WK.s (WK.s WK.e)))) (lX11_triesWays_11 Z _ hK H_X11_triesWays _ 2000 _ _ hc11_10 ?_)
    intro q11_10z hr
    subst hr
    refine T_aload dX11_triesWays_32 rfl ?_
    obtain ⟨q33_11, hc33_11, hf⟩ := bind_t hf
    refine X_Vv (qX11_homeMany Z _ hc33_11) (Nat.le_trans (Nat.le_of_ble_eq_true rfl) hK) dX11_triesWays_33 lvX11_262 rfl rfl ob73 (Nat.le_of_ble_eq_true rfl) ?_
    refine T_aload dX11_triesWays_36 rfl ?_
    refine X_getf dX11_triesWays_37 lfX11_265 rfl ob73 ?_
    have J65 : ∀ (x : aH) (l2 : Int32), jX11_triesWays_65 g_X11_triesWays x l2 = some q → TX false Z mX11_triesWays (D + 1) y x (RN q) 65 [.ref 73, .null, .int l2, .null] [] := by
      intro x l2 hf
      delta jX11_triesWays_65 at hf
      refine T_aload dX11_triesWays_65 rfl ?_
      refine T_aload dX11_triesWays_66 rfl ?_
      obtain ⟨q67_12, hc67_12, hf⟩ := bind_t hf
      refine X_Vv (qX11_homeMany Z _ hc67_12) (Nat.le_trans (Nat.le_of_ble_eq_true rfl) hK) dX11_triesWays_67 lvX11_262 rfl rfl ob73 (Nat.le_of_ble_eq_true rfl) ?_
      refine X_putf dX11_triesWays_70 lfX11_265 rfl rfl ob73 ⟨rfl, rfl⟩ ?_
      refine T_aload dX11_triesWays_73 rfl ?_
      refine T_aload dX11_triesWays_74 rfl ?_
      refine X_getf dX11_triesWays_75 lfX11_200 rfl ob73 ?_
      refine X_putf dX11_triesWays_78 lfX11_268 rfl rfl ob73 ⟨rfl, rfl⟩ ?_
      refine T_const dX11_triesWays_81 ?_
      refine T_istore dX11_triesWays_82 ?_
      show TX _ _ _ _ _ _ _ _ [_, _, _, _] _
      obtain ⟨q83_16, hc83_16, hf⟩ := bind_t hf
      refine X_wk (WK.s (WK.n (WK.s (WK.s WK.e)))) (lX11_triesWays_83 Z _ hK H_X11_triesWays _ 2000 _ _ hc83_16 ?_)
      intro q83_16z hr
      subst hr
      obtain rfl := Option.some.inj hf
      exact X_rv dX11_triesWays_106 ⟨rfl, rfl⟩
    refine T_icmp_gt dX11_triesWays_40 (fun c40_17 => ?_) (fun c40_17 => ?_)
    · replace hf := ite_t c40_17 hf
      exact X_wk (WK.s (WK.n (WK.s (WK.n WK.e)))) (J65 _ _ hf)
    · replace hf := ite_f c40_17 hf
      refine T_aload dX11_triesWays_43 rfl ?_
      obtain ⟨q44_18, hc44_18, hf⟩ := bind_t hf
      refine X_Vv (qX11_homeMany Z _ hc44_18) (Nat.le_trans (Nat.le_of_ble_eq_true rfl) hK) dX11_triesWays_44 lvX11_262 rfl rfl ob73 (Nat.le_of_ble_eq_true rfl) ?_
      refine T_aload dX11_triesWays_47 rfl ?_
      refine X_getf dX11_triesWays_48 lfX11_265 rfl ob73 ?_
      refine T_icmp_ne dX11_triesWays_51 (fun c51_19 => ?_) (fun c51_19 => ?_)
      · replace hf := ite_f c51_19 hf
        obtain rfl := Option.some.inj hf
        exact X_rv dX11_triesWays_106 ⟨rfl, rfl⟩
      · replace hf := ite_t c51_19 hf
        refine T_aload dX11_triesWays_54 rfl ?_
        refine X_getf dX11_triesWays_55 lfX11_200 rfl ob73 ?_
        refine T_aload dX11_triesWays_58 rfl ?_
        refine X_getf dX11_triesWays_59 lfX11_268 rfl ob73 ?_
        refine T_icmp_le dX11_triesWays_62 (fun c62_20 => ?_) (fun c62_20 => ?_)
        · replace hf := ite_t c62_20 hf
          obtain rfl := Option.some.inj hf
          exact X_rv dX11_triesWays_106 ⟨rfl, rfl⟩
        · replace hf := ite_f c62_20 hf
          exact X_wk (WK.s (WK.n (WK.s (WK.n WK.e)))) (J65 _ _ hf)
noncomputable def GX11_triesWays : Nat → (aH → Int32 → Int32 → Option aH)
  | 0 => (fun _ _ _ => none)
  | n + 1 => (uX11_triesWays ((GX11_triesWays n)))
noncomputable def fX11_triesWays (n : Nat) : aH → Int32 → Int32 → Option aH := (GX11_triesWays n)
theorem fX11_triesWays_S (n : Nat) : fX11_triesWays (n + 1) = uX11_triesWays (fX11_triesWays n) := rfl
theorem qGX11_triesWays (Z : aZ) (y : aH) : ∀ n, (∀ (x : aH) (p1 : Int32) (p2 : Int32) {q : aH}, fX11_triesWays n x p1 p2 = some q → CX false Z mX11_triesWays (n + 68) [.ref 73, .int p1, .int p2] y x (RN q)) := by
  intro n
  induction n with
  | zero => exact (by intro _ _ _ q hf; cases hf)
  | succ n ih =>
    have ih_X11_triesWays := ih
    exact (by intro _ _ _ q hf; exact (pX11_triesWays Z y (D := n + 68) (Nat.le_add_left _ _) ih_X11_triesWays hf).le (by omega))
theorem qX11_triesWays (Z : aZ) (y : aH) {x : aH} {p1 : Int32} {p2 : Int32} {q : aH} (hf : fX11_triesWays 64 x p1 p2 = some q) : CX false Z mX11_triesWays 132 [.ref 73, .int p1, .int p2] y x (RN q) := (qGX11_triesWays Z y 64) _ _ _ hf
noncomputable def fX11_best (x : aH) (p1 : Int32) (p2 : Int32) : Option (Int32 × aH) := (fX11_within (Int32.toInt64 p1) (0 : Int64) (4 : Int64)).bind fun q6_1 => if q6_1 = (0 : Int32) then some ((-1 : Int32), x) else (fX11_within (Int32.toInt64 p2) (-2 : Int64) (Int32.toInt64 (p1 - (1 : Int32)))).bind fun q21_3 => if q21_3 = (0 : Int32) then some ((-1 : Int32), x) else (fX11_triesWays 64 (sfi (sfi x 73 26 (-1 : Int32)) 73 27 (-1 : Int32)) (0 : Int32) p1).bind fun q42_5 => if p2 = (-1 : Int32) then some ((fi q42_5 73 26), q42_5) else if p2 = (-2 : Int32) then some ((fi q42_5 73 27), q42_5) else if (0 : Int32) ≤ p2 ∧ p2 < (4 : Int32) then some ((ri q42_5 85 (ix p2)), q42_5) else none
theorem qX11_best (Z : aZ) (y : aH) {x : aH} {p1 : Int32} {p2 : Int32} {q : (Int32 × aH)} (hf : fX11_best x p1 p2 = some q) : CX false Z mX11_best 133 [.ref 73, .int p1, .int p2] y x (RV (.int q.1) q.2) := by
  refine CX.of mokX11_best (Nat.le_of_ble_eq_true rfl) ?_
  show TX _ _ _ _ _ _ _ _ [_, _, _] _
  delta fX11_best at hf
  refine T_iload dX11_best_0 rfl ?_
  refine T_i2l dX11_best_1 ?_
  refine T_constL dX11_best_2 ?_
  refine T_constL dX11_best_3 ?_
  obtain ⟨q6_1, hc6_1, hf⟩ := bind_t hf
  refine X_Sv (qX11_within _ Z _ _ hc6_1) (Nat.le_of_ble_eq_true rfl) dX11_best_6 lsX11_96 rfl rfl (Nat.le_of_ble_eq_true rfl) ?_
  refine T_if_eq dX11_best_9 (fun c9_2 => ?_) (fun c9_2 => ?_)
  · replace hf := ite_t c9_2 hf
    refine T_const dX11_best_27 ?_
    obtain rfl := Option.some.inj hf
    exact X_ri dX11_best_28 ⟨rfl, rfl⟩
  · replace hf := ite_f c9_2 hf
    refine T_iload dX11_best_12 rfl ?_
    refine T_i2l dX11_best_13 ?_
    refine T_constL dX11_best_14 ?_
    refine T_iload dX11_best_17 rfl ?_
    refine T_const dX11_best_18 ?_
    refine T_isub dX11_best_19 ?_
    refine T_i2l dX11_best_20 ?_
    obtain ⟨q21_3, hc21_3, hf⟩ := bind_t hf
    refine X_Sv (qX11_within _ Z _ _ hc21_3) (Nat.le_of_ble_eq_true rfl) dX11_best_21 lsX11_96 rfl rfl (Nat.le_of_ble_eq_true rfl) ?_
    refine T_if_ne dX11_best_24 (fun c24_4 => ?_) (fun c24_4 => ?_)
    · replace hf := ite_f c24_4 hf
      refine T_aload dX11_best_29 rfl ?_
      refine T_const dX11_best_30 ?_
      refine X_putf dX11_best_31 lfX11_265 rfl rfl ob73 ⟨rfl, rfl⟩ ?_
      refine T_aload dX11_best_34 rfl ?_
      refine T_const dX11_best_35 ?_
      refine X_putf dX11_best_36 lfX11_268 rfl rfl ob73 ⟨rfl, rfl⟩ ?_
      refine T_aload dX11_best_39 rfl ?_
      refine T_const dX11_best_40 ?_
      refine T_iload dX11_best_41 rfl ?_
      obtain ⟨q42_5, hc42_5, hf⟩ := bind_t hf
      refine X_Vn (qX11_triesWays Z _ hc42_5) (Nat.le_of_ble_eq_true rfl) dX11_best_42 lvX11_271 rfl rfl ob73 (Nat.le_of_ble_eq_true rfl) ?_
      refine T_iload dX11_best_45 rfl ?_
      refine T_const dX11_best_46 ?_
      refine T_icmp_ne dX11_best_47 (fun c47_6 => ?_) (fun c47_6 => ?_)
      · replace hf := ite_f c47_6 hf
        refine T_iload dX11_best_57 rfl ?_
        refine T_const dX11_best_58 ?_
        refine T_icmp_ne dX11_best_60 (fun c60_7 => ?_) (fun c60_7 => ?_)
        · replace hf := ite_f c60_7 hf
          refine T_aload dX11_best_70 rfl ?_
          refine X_getr dX11_best_71 lfX11_43 rfl ob73 rfl ?_
          refine T_iload dX11_best_74 rfl ?_
          obtain ⟨hb75_8, hf⟩ := opt_t hf
          refine X_iald (N := 4) dX11_best_75 ar85 rfl hb75_8 ?_
          obtain rfl := Option.some.inj hf
          exact X_ri dX11_best_76 ⟨rfl, rfl⟩
        · replace hf := ite_t c60_7 hf
          refine T_aload dX11_best_63 rfl ?_
          refine X_getf dX11_best_64 lfX11_268 rfl ob73 ?_
          refine T_goto dX11_best_67 ?_
          obtain rfl := Option.some.inj hf
          exact X_ri dX11_best_76 ⟨rfl, rfl⟩
      · replace hf := ite_t c47_6 hf
        refine T_aload dX11_best_50 rfl ?_
        refine X_getf dX11_best_51 lfX11_265 rfl ob73 ?_
        refine T_goto dX11_best_54 ?_
        obtain rfl := Option.some.inj hf
        exact X_ri dX11_best_76 ⟨rfl, rfl⟩
    · replace hf := ite_t c24_4 hf
      refine T_const dX11_best_27 ?_
      obtain rfl := Option.some.inj hf
      exact X_ri dX11_best_28 ⟨rfl, rfl⟩
noncomputable def sX11_fetches_54 (g_X11_fetches : aH → Int32 → Int32 → Int32 → Option (Int32 × aH)) (l1 : Int32) (l2 : Int32) (l3 : Int32) (ih : aH → Int32 → Option (Sum (Int32 × aH) aH)) (x : aH) (l4 : Int32) : Option (Sum (Int32 × aH) aH) := if (4 : Int32) < l4 then some (.inr x) else if (0 : Int32) ≤ l2 ∧ l2 < (4 : Int32) then (g_X11_fetches (sri x 84 (ix l2) l4) l1 (l2 + (1 : Int32)) l3).bind fun q74_4 => if q74_4.1 = (0 : Int32) then ih q74_4.2 (l4 + (1 : Int32)) else some (.inl ((1 : Int32), q74_4.2)) else none
noncomputable def wX11_fetches_54 (g_X11_fetches : aH → Int32 → Int32 → Int32 → Option (Int32 × aH)) (l1 : Int32) (l2 : Int32) (l3 : Int32) : Nat → aH → Int32 → Option (Sum (Int32 × aH) aH)
  | 0 => fun _ _ => none
  | n + 1 => sX11_fetches_54 g_X11_fetches l1 l2 l3 (wX11_fetches_54 g_X11_fetches l1 l2 l3 n)
noncomputable def sX11_fetches_12 (g_X11_fetches : aH → Int32 → Int32 → Int32 → Option (Int32 × aH)) (l1 : Int32) (l3 : Int32) (ih : aH → Int32 → Option aH) (x : aH) (l4 : Int32) : Option aH := if l3 ≤ l4 then some x else if (0 : Int32) ≤ l4 ∧ l4 < (4 : Int32) then (fX11_goesNight x (ri x 84 (ix l4))).bind fun q26_10 => ih q26_10 (l4 + (1 : Int32)) else none
noncomputable def wX11_fetches_12 (g_X11_fetches : aH → Int32 → Int32 → Int32 → Option (Int32 × aH)) (l1 : Int32) (l3 : Int32) : Nat → aH → Int32 → Option aH
  | 0 => fun _ _ => none
  | n + 1 => sX11_fetches_12 g_X11_fetches l1 l3 (wX11_fetches_12 g_X11_fetches l1 l3 n)
noncomputable def uX11_fetches (g_X11_fetches : aH → Int32 → Int32 → Int32 → Option (Int32 × aH)) (x : aH) (p1 : Int32) (p2 : Int32) (p3 : Int32) : Option (Int32 × aH) := if p2 = p3 then (fX11_begins x).bind fun q6_7 => (wX11_fetches_12 g_X11_fetches p1 p3 2000 q6_7 (0 : Int32)).bind fun q12_11 => if (0 : Int32) ≤ p1 ∧ p1 < (10 : Int32) then if (ri q12_11 82 (ix p1)) = (1 : Int32) then some ((1 : Int32), q12_11) else some ((0 : Int32), q12_11) else none else (wX11_fetches_54 g_X11_fetches p1 p2 p3 2000 x (0 : Int32)).bind fun q54_6 => elS q54_6 (fun r => some r) (fun eq54_6 => some ((0 : Int32), eq54_6))
theorem lX11_fetches_54 (Z : aZ) (y : aH) {D : Nat} (hK : 68 ≤ D) {g_X11_fetches : aH → Int32 → Int32 → Int32 → Option (Int32 × aH)} (H_X11_fetches : ∀ (x : aH) (p1 : Int32) (p2 : Int32) (p3 : Int32) {q : (Int32 × aH)}, g_X11_fetches x p1 p2 p3 = some q → CX false Z mX11_fetches D [.ref 73, .int p1, .int p2, .int p3] y x (RV (.int q.1) q.2)) (l1 : Int32) (l2 : Int32) (l3 : Int32) {Q : Option Value → aH → Prop} {R : (Sum (Int32 × aH) aH)} : ∀ (n : Nat) (x : aH) (l4 : Int32), wX11_fetches_54 g_X11_fetches l1 l2 l3 n x l4 = some R → (∀ r, R = .inl r → Q (some (.int r.1)) r.2) → (∀ q, R = .inr q → TX false Z mX11_fetches (D + 1) y q Q 88 [.null, .null, .null, .null, .null] []) → TX false Z mX11_fetches (D + 1) y x Q 54 [.ref 73, .int l1, .int l2, .int l3, .int l4] [] := by
  intro n
  induction n with
  | zero => intro x l4 hf; cases hf
  | succ n ih =>
    intro x l4 hf kr ke
    replace hf : sX11_fetches_54 g_X11_fetches l1 l2 l3 (wX11_fetches_54 g_X11_fetches l1 l2 l3 n) x l4 = some R := hf
    delta sX11_fetches_54 at hf
    refine T_iload dX11_fetches_54 rfl ?_
    refine T_const dX11_fetches_56 ?_
    refine T_icmp_gt dX11_fetches_57 (fun c57_2 => ?_) (fun c57_2 => ?_)
    · replace hf := ite_t c57_2 hf
      exact X_wk (WK.n (WK.n (WK.n (WK.n (WK.n WK.e))))) (ke x (Option.some.inj hf).symm)
    · replace hf := ite_f c57_2 hf
      refine T_aload dX11_fetches_60 rfl ?_
      refine X_getr dX11_fetches_61 lfX11_40 rfl ob73 rfl ?_
      refine T_iload dX11_fetches_64 rfl ?_
      refine T_iload dX11_fetches_65 rfl ?_
      obtain ⟨hb67_3, hf⟩ := opt_t hf
      refine X_iast (N := 4) dX11_fetches_67 ar84 rfl hb67_3 ?_
      refine T_aload dX11_fetches_68 rfl ?_
      refine T_iload dX11_fetches_69 rfl ?_
      refine T_iload dX11_fetches_70 rfl ?_
      refine T_const dX11_fetches_71 ?_
      refine T_iadd dX11_fetches_72 ?_
      refine T_iload dX11_fetches_73 rfl ?_
      obtain ⟨q74_4, hc74_4, hf⟩ := bind_t hf
      refine X_Vv (H_X11_fetches _ _ _ _ hc74_4) (Nat.le_refl _) dX11_fetches_74 lvX11_276 rfl rfl ob73 (Nat.le_of_ble_eq_true rfl) ?_
      refine T_if_eq dX11_fetches_77 (fun c77_5 => ?_) (fun c77_5 => ?_)
      · replace hf := ite_t c77_5 hf
        refine T_iinc dX11_fetches_82 rfl ?_
        show TX _ _ _ _ _ _ _ _ [_, _, _, _, _] _
        refine T_goto dX11_fetches_85 ?_
        exact X_wk (WK.s (WK.s (WK.s (WK.s (WK.s WK.e))))) (ih _ _ hf kr ke)
      · replace hf := ite_f c77_5 hf
        refine T_const dX11_fetches_80 ?_
        exact X_rz dX11_fetches_81 (by first | exact Or.inl rfl | exact Or.inr rfl) (kr ((1 : Int32), q74_4.2) (Option.some.inj hf).symm)
theorem lX11_fetches_12 (Z : aZ) (y : aH) {D : Nat} (hK : 68 ≤ D) {g_X11_fetches : aH → Int32 → Int32 → Int32 → Option (Int32 × aH)} (H_X11_fetches : ∀ (x : aH) (p1 : Int32) (p2 : Int32) (p3 : Int32) {q : (Int32 × aH)}, g_X11_fetches x p1 p2 p3 = some q → CX false Z mX11_fetches D [.ref 73, .int p1, .int p2, .int p3] y x (RV (.int q.1) q.2)) (l1 : Int32) (l3 : Int32) {Q : Option Value → aH → Prop} {R : aH} : ∀ (n : Nat) (x : aH) (l4 : Int32), wX11_fetches_12 g_X11_fetches l1 l3 n x l4 = some R → (∀ q, R = q → TX false Z mX11_fetches (D + 1) y q Q 35 [.ref 73, .int l1, .null, .null, .null] []) → TX false Z mX11_fetches (D + 1) y x Q 12 [.ref 73, .int l1, .null, .int l3, .int l4] [] := by
  intro n
  induction n with
  | zero => intro x l4 hf; cases hf
  | succ n ih =>
    intro x l4 hf ke
    replace hf : sX11_fetches_12 g_X11_fetches l1 l3 (wX11_fetches_12 g_X11_fetches l1 l3 n) x l4 = some R := hf
    delta sX11_fetches_12 at hf
    refine T_iload dX11_fetches_12 rfl ?_
    refine T_iload dX11_fetches_14 rfl ?_
    refine T_icmp_ge dX11_fetches_15 (fun c15_8 => ?_) (fun c15_8 => ?_)
    · replace hf := ite_t c15_8 hf
      exact X_wk (WK.s (WK.s (WK.n (WK.n (WK.n WK.e))))) (ke x (Option.some.inj hf).symm)
    · replace hf := ite_f c15_8 hf
      refine T_aload dX11_fetches_18 rfl ?_
      refine T_aload dX11_fetches_19 rfl ?_
      refine X_getr dX11_fetches_20 lfX11_40 rfl ob73 rfl ?_
      refine T_iload dX11_fetches_23 rfl ?_
      obtain ⟨hb25_9, hf⟩ := opt_t hf
      refine X_iald (N := 4) dX11_fetches_25 ar84 rfl hb25_9 ?_
      obtain ⟨q26_10, hc26_10, hf⟩ := bind_t hf
      refine X_Vn (qX11_goesNight Z _ hc26_10) (Nat.le_trans (Nat.le_of_ble_eq_true rfl) hK) dX11_fetches_26 lvX11_246 rfl rfl ob73 (Nat.le_of_ble_eq_true rfl) ?_
      refine T_iinc dX11_fetches_29 rfl ?_
      show TX _ _ _ _ _ _ _ _ [_, _, _, _, _] _
      refine T_goto dX11_fetches_32 ?_
      exact X_wk (WK.s (WK.s (WK.n (WK.s (WK.s WK.e))))) (ih _ _ hf ke)
theorem pX11_fetches (Z : aZ) (y : aH) {D : Nat} (hK : 68 ≤ D) {g_X11_fetches : aH → Int32 → Int32 → Int32 → Option (Int32 × aH)} (H_X11_fetches : ∀ (x : aH) (p1 : Int32) (p2 : Int32) (p3 : Int32) {q : (Int32 × aH)}, g_X11_fetches x p1 p2 p3 = some q → CX false Z mX11_fetches D [.ref 73, .int p1, .int p2, .int p3] y x (RV (.int q.1) q.2)) {x : aH} {p1 : Int32} {p2 : Int32} {p3 : Int32} {q : (Int32 × aH)} (hf : uX11_fetches g_X11_fetches x p1 p2 p3 = some q) : CX false Z mX11_fetches (D + 1) [.ref 73, .int p1, .int p2, .int p3] y x (RV (.int q.1) q.2) := by
  refine CX.of mokX11_fetches (Nat.le_of_ble_eq_true rfl) ?_
  show TX _ _ _ _ _ _ _ _ [_, _, _, _, _] _
  delta uX11_fetches at hf
  refine T_iload dX11_fetches_0 rfl ?_
  refine T_iload dX11_fetches_1 rfl ?_
  refine T_icmp_ne dX11_fetches_2 (fun c2_1 => ?_) (fun c2_1 => ?_)
  · replace hf := ite_f c2_1 hf
    refine T_const dX11_fetches_51 ?_
    refine T_istore dX11_fetches_52 ?_
    show TX _ _ _ _ _ _ _ _ [_, _, _, _, _] _
    obtain ⟨q54_6, hc54_6, hf⟩ := bind_t hf
    refine X_wk (WK.s (WK.s (WK.s (WK.s (WK.s WK.e))))) (lX11_fetches_54 Z _ hK H_X11_fetches _ _ _ 2000 _ _ hc54_6 ?_ ?_)
    · intro r hr
      subst hr
      replace hf := elS_l hf
      obtain rfl := Option.some.inj hf
      exact ⟨rfl, rfl⟩
    · intro eq54_6 hr
      subst hr
      replace hf := elS_r hf
      refine T_const dX11_fetches_88 ?_
      obtain rfl := Option.some.inj hf
      exact X_rz dX11_fetches_89 (by first | exact Or.inl rfl | exact Or.inr rfl) ⟨rfl, rfl⟩
  · replace hf := ite_t c2_1 hf
    refine T_aload dX11_fetches_5 rfl ?_
    obtain ⟨q6_7, hc6_7, hf⟩ := bind_t hf
    refine X_Vn (qX11_begins Z _ hc6_7) (Nat.le_trans (Nat.le_of_ble_eq_true rfl) hK) dX11_fetches_6 lvX11_236 rfl rfl ob73 (Nat.le_of_ble_eq_true rfl) ?_
    refine T_const dX11_fetches_9 ?_
    refine T_istore dX11_fetches_10 ?_
    show TX _ _ _ _ _ _ _ _ [_, _, _, _, _] _
    obtain ⟨q12_11, hc12_11, hf⟩ := bind_t hf
    refine X_wk (WK.s (WK.s (WK.n (WK.s (WK.s WK.e))))) (lX11_fetches_12 Z _ hK H_X11_fetches _ _ 2000 _ _ hc12_11 ?_)
    intro q12_11z hr
    subst hr
    refine T_aload dX11_fetches_35 rfl ?_
    refine X_getr dX11_fetches_36 lfX11_34 rfl ob73 rfl ?_
    refine T_iload dX11_fetches_39 rfl ?_
    obtain ⟨hb40_12, hf⟩ := opt_t hf
    refine X_iald (N := 10) dX11_fetches_40 ar82 rfl hb40_12 ?_
    refine T_const dX11_fetches_41 ?_
    refine T_icmp_ne dX11_fetches_42 (fun c42_13 => ?_) (fun c42_13 => ?_)
    · replace hf := ite_f c42_13 hf
      refine T_const dX11_fetches_49 ?_
      obtain rfl := Option.some.inj hf
      exact X_rz dX11_fetches_50 (by first | exact Or.inl rfl | exact Or.inr rfl) ⟨rfl, rfl⟩
    · replace hf := ite_t c42_13 hf
      refine T_const dX11_fetches_45 ?_
      refine T_goto dX11_fetches_46 ?_
      obtain rfl := Option.some.inj hf
      exact X_rz dX11_fetches_50 (by first | exact Or.inl rfl | exact Or.inr rfl) ⟨rfl, rfl⟩
noncomputable def GX11_fetches : Nat → (aH → Int32 → Int32 → Int32 → Option (Int32 × aH))
  | 0 => (fun _ _ _ _ => none)
  | n + 1 => (uX11_fetches ((GX11_fetches n)))
noncomputable def fX11_fetches (n : Nat) : aH → Int32 → Int32 → Int32 → Option (Int32 × aH) := (GX11_fetches n)
theorem fX11_fetches_S (n : Nat) : fX11_fetches (n + 1) = uX11_fetches (fX11_fetches n) := rfl
theorem qGX11_fetches (Z : aZ) (y : aH) : ∀ n, (∀ (x : aH) (p1 : Int32) (p2 : Int32) (p3 : Int32) {q : (Int32 × aH)}, fX11_fetches n x p1 p2 p3 = some q → CX false Z mX11_fetches (n + 68) [.ref 73, .int p1, .int p2, .int p3] y x (RV (.int q.1) q.2)) := by
  intro n
  induction n with
  | zero => exact (by intro _ _ _ _ q hf; cases hf)
  | succ n ih =>
    have ih_X11_fetches := ih
    exact (by intro _ _ _ _ q hf; exact (pX11_fetches Z y (D := n + 68) (Nat.le_add_left _ _) ih_X11_fetches hf).le (by omega))
theorem qX11_fetches (Z : aZ) (y : aH) {x : aH} {p1 : Int32} {p2 : Int32} {p3 : Int32} {q : (Int32 × aH)} (hf : fX11_fetches 64 x p1 p2 p3 = some q) : CX false Z mX11_fetches 132 [.ref 73, .int p1, .int p2, .int p3] y x (RV (.int q.1) q.2) := (qGX11_fetches Z y 64) _ _ _ _ hf
noncomputable def sX11_fetch_18 (l1 : Int32) (l2 : Int32) (ih : aH → Int32 → Option (Sum (Int32 × aH) aH)) (x : aH) (l3 : Int32) : Option (Sum (Int32 × aH) aH) := if (4 : Int32) < l3 then some (.inr x) else (fX11_fetches 64 x l1 (0 : Int32) l3).bind fun q27_5 => if q27_5.1 = (0 : Int32) then ih q27_5.2 (l3 + (1 : Int32)) else if (0 : Int32) ≤ l2 then if l3 ≤ l2 then some (.inl ((-2 : Int32), q27_5.2)) else if (0 : Int32) ≤ l2 ∧ l2 < (4 : Int32) then some (.inl ((ri q27_5.2 84 (ix l2)), q27_5.2)) else none else some (.inl (l3, q27_5.2))
noncomputable def wX11_fetch_18 (l1 : Int32) (l2 : Int32) : Nat → aH → Int32 → Option (Sum (Int32 × aH) aH)
  | 0 => fun _ _ => none
  | n + 1 => sX11_fetch_18 l1 l2 (wX11_fetch_18 l1 l2 n)
noncomputable def fX11_fetch (x : aH) (p1 : Int32) (p2 : Int32) : Option (Int32 × aH) := (fX11_isLost x (Int32.toInt64 p1)).bind fun q3_1 => if q3_1 = (0 : Int32) then some ((-1 : Int32), x) else if (-1 : Int32) ≤ p2 then (wX11_fetch_18 p1 p2 2000 x (0 : Int32)).bind fun q18_10 => elS q18_10 (fun r => some r) (fun eq18_10 => some ((-2 : Int32), eq18_10)) else some ((-1 : Int32), x)
theorem lX11_fetch_18 (Z : aZ) (y : aH) (l1 : Int32) (l2 : Int32) {Q : Option Value → aH → Prop} {R : (Sum (Int32 × aH) aH)} : ∀ (n : Nat) (x : aH) (l3 : Int32), wX11_fetch_18 l1 l2 n x l3 = some R → (∀ r, R = .inl r → Q (some (.int r.1)) r.2) → (∀ q, R = .inr q → TX false Z mX11_fetch 133 y q Q 64 [.null, .null, .null, .null] []) → TX false Z mX11_fetch 133 y x Q 18 [.ref 73, .int l1, .int l2, .int l3] [] := by
  intro n
  induction n with
  | zero => intro x l3 hf; cases hf
  | succ n ih =>
    intro x l3 hf kr ke
    replace hf : sX11_fetch_18 l1 l2 (wX11_fetch_18 l1 l2 n) x l3 = some R := hf
    delta sX11_fetch_18 at hf
    refine T_iload dX11_fetch_18 rfl ?_
    refine T_const dX11_fetch_19 ?_
    refine T_icmp_gt dX11_fetch_20 (fun c20_4 => ?_) (fun c20_4 => ?_)
    · replace hf := ite_t c20_4 hf
      exact X_wk (WK.n (WK.n (WK.n (WK.n WK.e)))) (ke x (Option.some.inj hf).symm)
    · replace hf := ite_f c20_4 hf
      refine T_aload dX11_fetch_23 rfl ?_
      refine T_iload dX11_fetch_24 rfl ?_
      refine T_const dX11_fetch_25 ?_
      refine T_iload dX11_fetch_26 rfl ?_
      obtain ⟨q27_5, hc27_5, hf⟩ := bind_t hf
      refine X_Vv (qX11_fetches Z _ hc27_5) (Nat.le_of_ble_eq_true rfl) dX11_fetch_27 lvX11_276 rfl rfl ob73 (Nat.le_of_ble_eq_true rfl) ?_
      refine T_if_eq dX11_fetch_30 (fun c30_6 => ?_) (fun c30_6 => ?_)
      · replace hf := ite_t c30_6 hf
        refine T_iinc dX11_fetch_58 rfl ?_
        show TX _ _ _ _ _ _ _ _ [_, _, _, _] _
        refine T_goto dX11_fetch_61 ?_
        exact X_wk (WK.s (WK.s (WK.s (WK.s WK.e)))) (ih _ _ hf kr ke)
      · replace hf := ite_f c30_6 hf
        refine T_iload dX11_fetch_33 rfl ?_
        refine T_if_ge dX11_fetch_34 (fun c34_7 => ?_) (fun c34_7 => ?_)
        · replace hf := ite_t c34_7 hf
          refine T_iload dX11_fetch_41 rfl ?_
          refine T_iload dX11_fetch_42 rfl ?_
          refine T_icmp_ge dX11_fetch_43 (fun c43_8 => ?_) (fun c43_8 => ?_)
          · replace hf := ite_t c43_8 hf
            refine T_const dX11_fetch_55 ?_
            exact X_ri dX11_fetch_57 (kr ((-2 : Int32), q27_5.2) (Option.some.inj hf).symm)
          · replace hf := ite_f c43_8 hf
            refine T_aload dX11_fetch_46 rfl ?_
            refine X_getr dX11_fetch_47 lfX11_40 rfl ob73 rfl ?_
            refine T_iload dX11_fetch_50 rfl ?_
            obtain ⟨hb51_9, hf⟩ := opt_t hf
            refine X_iald (N := 4) dX11_fetch_51 ar84 rfl hb51_9 ?_
            refine T_goto dX11_fetch_52 ?_
            exact X_ri dX11_fetch_57 (kr ((ri q27_5.2 84 (ix l2)), q27_5.2) (Option.some.inj hf).symm)
        · replace hf := ite_f c34_7 hf
          refine T_iload dX11_fetch_37 rfl ?_
          refine T_goto dX11_fetch_38 ?_
          exact X_ri dX11_fetch_57 (kr (l3, q27_5.2) (Option.some.inj hf).symm)
theorem qX11_fetch (Z : aZ) (y : aH) {x : aH} {p1 : Int32} {p2 : Int32} {q : (Int32 × aH)} (hf : fX11_fetch x p1 p2 = some q) : CX false Z mX11_fetch 133 [.ref 73, .int p1, .int p2] y x (RV (.int q.1) q.2) := by
  refine CX.of mokX11_fetch (Nat.le_of_ble_eq_true rfl) ?_
  show TX _ _ _ _ _ _ _ _ [_, _, _, _] _
  delta fX11_fetch at hf
  refine T_aload dX11_fetch_0 rfl ?_
  refine T_iload dX11_fetch_1 rfl ?_
  refine T_i2l dX11_fetch_2 ?_
  obtain ⟨q3_1, hc3_1, hf⟩ := bind_t hf
  refine X_Vv (qX11_isLost Z _ hc3_1) (Nat.le_of_ble_eq_true rfl) dX11_fetch_3 lvX11_123 rfl rfl ob73 (Nat.le_of_ble_eq_true rfl) ?_
  refine T_if_eq dX11_fetch_6 (fun c6_2 => ?_) (fun c6_2 => ?_)
  · replace hf := ite_t c6_2 hf
    refine T_const dX11_fetch_14 ?_
    obtain rfl := Option.some.inj hf
    exact X_ri dX11_fetch_15 ⟨rfl, rfl⟩
  · replace hf := ite_f c6_2 hf
    refine T_iload dX11_fetch_9 rfl ?_
    refine T_const dX11_fetch_10 ?_
    refine T_icmp_ge dX11_fetch_11 (fun c11_3 => ?_) (fun c11_3 => ?_)
    · replace hf := ite_t c11_3 hf
      refine T_const dX11_fetch_16 ?_
      refine T_istore dX11_fetch_17 ?_
      show TX _ _ _ _ _ _ _ _ [_, _, _, _] _
      obtain ⟨q18_10, hc18_10, hf⟩ := bind_t hf
      refine X_wk (WK.s (WK.s (WK.s (WK.s WK.e)))) (lX11_fetch_18 Z _ _ _ 2000 _ _ hc18_10 ?_ ?_)
      · intro r hr
        subst hr
        replace hf := elS_l hf
        obtain rfl := Option.some.inj hf
        exact ⟨rfl, rfl⟩
      · intro eq18_10 hr
        subst hr
        replace hf := elS_r hf
        refine T_const dX11_fetch_64 ?_
        obtain rfl := Option.some.inj hf
        exact X_ri dX11_fetch_66 ⟨rfl, rfl⟩
    · replace hf := ite_f c11_3 hf
      refine T_const dX11_fetch_14 ?_
      obtain rfl := Option.some.inj hf
      exact X_ri dX11_fetch_15 ⟨rfl, rfl⟩
