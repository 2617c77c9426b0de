noncomputable def fX11_manyHome (x : aH) : Option (Int32 × aH) := (fX11_begins x).bind fun q1_1 => (fX11_homeMany q1_1).bind fun q5_2 => some (q5_2, q1_1)
theorem qX11_manyHome (Z : aZ) (y : aH) {x : aH} {q : (Int32 × aH)} (hf : fX11_manyHome x = some q) : CX false Z mX11_manyHome 1 [.ref 73] y x (RV (.int q.1) q.2) := by
  refine CX.of mokX11_manyHome (Nat.le_of_ble_eq_true rfl) ?_
  show TX _ _ _ _ _ _ _ _ [_] _
  delta fX11_manyHome at hf
  refine T_aload dX11_manyHome_0 rfl ?_
  obtain ⟨q1_1, hc1_1, hf⟩ := bind_t hf
  refine X_Vn (qX11_begins Z _ hc1_1) (Nat.le_of_ble_eq_true rfl) dX11_manyHome_1 lvX11_236 rfl rfl ob73 (Nat.le_of_ble_eq_true rfl) ?_
  refine T_aload dX11_manyHome_4 rfl ?_
  obtain ⟨q5_2, hc5_2, hf⟩ := bind_t hf
  refine X_Vv (qX11_homeMany Z _ hc5_2) (Nat.le_of_ble_eq_true rfl) dX11_manyHome_5 lvX11_262 rfl rfl ob73 (Nat.le_of_ble_eq_true rfl) ?_
  obtain rfl := Option.some.inj hf
  exact X_ri dX11_manyHome_8 ⟨rfl, rfl⟩
noncomputable def fX11_isBody (x : aH) (p1 : Int32) : Option Int32 := (fX11_within (Int32.toInt64 p1) (0 : Int64) (Int32.toInt64 ((fi x 73 36) - (1 : Int32)))).bind fun q10_1 => if q10_1 = (0 : Int32) ∨ q10_1 = (1 : Int32) then some q10_1 else none
theorem qX11_isBody (Z : aZ) (y : aH) {x : aH} {p1 : Int32} {q : Int32} (hf : fX11_isBody x p1 = some q) : CX false Z mX11_isBody 1 [.ref 73, .int p1] y x (RV (.int q) x) := by
  refine CX.of mokX11_isBody (Nat.le_of_ble_eq_true rfl) ?_
  show TX _ _ _ _ _ _ _ _ [_, _] _
  delta fX11_isBody at hf
  refine T_iload dX11_isBody_0 rfl ?_
  refine T_i2l dX11_isBody_1 ?_
  refine T_constL dX11_isBody_2 ?_
  refine T_aload dX11_isBody_3 rfl ?_
  refine X_getf dX11_isBody_4 lfX11_329 rfl ob73 ?_
  refine T_const dX11_isBody_7 ?_
  refine T_isub dX11_isBody_8 ?_
  refine T_i2l dX11_isBody_9 ?_
  obtain ⟨q10_1, hc10_1, hf⟩ := bind_t hf
  refine X_Sv (qX11_within _ Z _ _ hc10_1) (Nat.le_of_ble_eq_true rfl) dX11_isBody_10 lsX11_96 rfl rfl (Nat.le_of_ble_eq_true rfl) ?_
  obtain ⟨h01, hf⟩ := opt_t hf
  obtain rfl := Option.some.inj hf
  exact X_rz dX11_isBody_13 h01 ⟨rfl, rfl⟩
noncomputable def fX11_kindOf (x : aH) (p1 : Int32) : Option Int32 := if (0 : Int32) ≤ p1 ∧ p1 < (50 : Int32) then some (ri x 92 (ix p1)) else none
theorem qX11_kindOf (Z : aZ) (y : aH) {x : aH} {p1 : Int32} {q : Int32} (hf : fX11_kindOf x p1 = some q) : CX false Z mX11_kindOf 0 [.ref 73, .int p1] y x (RV (.int q) x) := by
  refine CX.of mokX11_kindOf (Nat.le_of_ble_eq_true rfl) ?_
  show TX _ _ _ _ _ _ _ _ [_, _] _
  delta fX11_kindOf at hf
  refine T_aload dX11_kindOf_0 rfl ?_
  refine X_getr dX11_kindOf_1 lfX11_64 rfl ob73 rfl ?_
  refine T_iload dX11_kindOf_4 rfl ?_
  obtain ⟨hb5_1, hf⟩ := opt_t hf
  refine X_iald (N := 50) dX11_kindOf_5 ar92 rfl hb5_1 ?_
  obtain rfl := Option.some.inj hf
  exact X_ri dX11_kindOf_6 ⟨rfl, rfl⟩
noncomputable def fX11_body (x : aH) (p1 : Int32) : Option (Int32 × aH) := (fX11_within (Int32.toInt64 p1) (0 : Int64) (7 : Int64)).bind fun q6_1 => if q6_1 = (0 : Int32) then some ((-1 : Int32), x) else if (fi x 73 36) = (50 : Int32) then some ((-3 : Int32), x) else if (0 : Int32) ≤ (fi x 73 36) ∧ (fi x 73 36) < (50 : Int32) then some (((fi (sfi (sri x 92 (ix (fi x 73 36)) p1) 73 36 ((fi (sri x 92 (ix (fi x 73 36)) p1) 73 36) + (1 : Int32))) 73 36) - (1 : Int32)), (sfi (sri x 92 (ix (fi x 73 36)) p1) 73 36 ((fi (sri x 92 (ix (fi x 73 36)) p1) 73 36) + (1 : Int32)))) else none
theorem qX11_body (Z : aZ) (y : aH) {x : aH} {p1 : Int32} {q : (Int32 × aH)} (hf : fX11_body x p1 = some q) : CX false Z mX11_body 1 [.ref 73, .int p1] y x (RV (.int q.1) q.2) := by
  refine CX.of mokX11_body (Nat.le_of_ble_eq_true rfl) ?_
  show TX _ _ _ _ _ _ _ _ [_, _] _
  delta fX11_body at hf
  refine T_iload dX11_body_0 rfl ?_
  refine T_i2l dX11_body_1 ?_
  refine T_constL dX11_body_2 ?_
  refine T_constL dX11_body_3 ?_
  obtain ⟨q6_1, hc6_1, hf⟩ := bind_t hf
  refine X_Sv (qX11_within _ Z _ _ hc6_1) (Nat.le_of_ble_eq_true rfl) dX11_body_6 lsX11_96 rfl rfl (Nat.le_of_ble_eq_true rfl) ?_
  refine T_if_ne dX11_body_9 (fun c9_2 => ?_) (fun c9_2 => ?_)
  · replace hf := ite_f c9_2 hf
    refine T_aload dX11_body_14 rfl ?_
    refine X_getf dX11_body_15 lfX11_329 rfl ob73 ?_
    refine T_const dX11_body_18 ?_
    refine T_icmp_ne dX11_body_20 (fun c20_3 => ?_) (fun c20_3 => ?_)
    · replace hf := ite_f c20_3 hf
      refine T_aload dX11_body_26 rfl ?_
      refine X_getr dX11_body_27 lfX11_64 rfl ob73 rfl ?_
      refine T_aload dX11_body_30 rfl ?_
      refine X_getf dX11_body_31 lfX11_329 rfl ob73 ?_
      refine T_iload dX11_body_34 rfl ?_
      obtain ⟨hb35_4, hf⟩ := opt_t hf
      refine X_iast (N := 50) dX11_body_35 ar92 rfl hb35_4 ?_
      refine T_aload dX11_body_36 rfl ?_
      refine T_dup dX11_body_37 rfl ?_
      refine X_getf dX11_body_38 lfX11_329 rfl ob73 ?_
      refine T_const dX11_body_41 ?_
      refine T_iadd dX11_body_42 ?_
      refine X_putf dX11_body_43 lfX11_329 rfl rfl ob73 ⟨rfl, rfl⟩ ?_
      refine T_aload dX11_body_46 rfl ?_
      refine X_getf dX11_body_47 lfX11_329 rfl ob73 ?_
      refine T_const dX11_body_50 ?_
      refine T_isub dX11_body_51 ?_
      obtain rfl := Option.some.inj hf
      exact X_ri dX11_body_52 ⟨rfl, rfl⟩
    · replace hf := ite_t c20_3 hf
      refine T_const dX11_body_23 ?_
      obtain rfl := Option.some.inj hf
      exact X_ri dX11_body_25 ⟨rfl, rfl⟩
  · replace hf := ite_t c9_2 hf
    refine T_const dX11_body_12 ?_
    obtain rfl := Option.some.inj hf
    exact X_ri dX11_body_13 ⟨rfl, rfl⟩
noncomputable def fX11_above (p0 : Int32) : Option Int32 := if p0 = (3 : Int32) then some (2 : Int32) else if p0 = (4 : Int32) then some (1 : Int32) else if p0 = (5 : Int32) then some (3 : Int32) else if p0 = (7 : Int32) then some (4 : Int32) else some (0 : Int32)
theorem qX11_above (sd : Bool) (Z : aZ) (y : aH) (x : aH) {p0 : Int32} {q : Int32} (hf : fX11_above p0 = some q) : CX sd Z mX11_above 0 [.int p0] y x (RV (.int q) x) := by
  refine CX.of mokX11_above (Nat.le_of_ble_eq_true rfl) ?_
  show TX _ _ _ _ _ _ _ _ [_] _
  delta fX11_above at hf
  refine T_iload dX11_above_0 rfl ?_
  refine T_const dX11_above_1 ?_
  refine T_icmp_ne dX11_above_2 (fun c2_1 => ?_) (fun c2_1 => ?_)
  · replace hf := ite_f c2_1 hf
    refine T_iload dX11_above_9 rfl ?_
    refine T_const dX11_above_10 ?_
    refine T_icmp_ne dX11_above_11 (fun c11_2 => ?_) (fun c11_2 => ?_)
    · replace hf := ite_f c11_2 hf
      refine T_iload dX11_above_18 rfl ?_
      refine T_const dX11_above_19 ?_
      refine T_icmp_ne dX11_above_20 (fun c20_3 => ?_) (fun c20_3 => ?_)
      · replace hf := ite_f c20_3 hf
        refine T_iload dX11_above_27 rfl ?_
        refine T_const dX11_above_28 ?_
        refine T_icmp_ne dX11_above_30 (fun c30_4 => ?_) (fun c30_4 => ?_)
        · replace hf := ite_f c30_4 hf
          refine T_const dX11_above_37 ?_
          obtain rfl := Option.some.inj hf
          exact X_ri dX11_above_38 ⟨rfl, rfl⟩
        · replace hf := ite_t c30_4 hf
          refine T_const dX11_above_33 ?_
          refine T_goto dX11_above_34 ?_
          obtain rfl := Option.some.inj hf
          exact X_ri dX11_above_38 ⟨rfl, rfl⟩
      · replace hf := ite_t c20_3 hf
        refine T_const dX11_above_23 ?_
        refine T_goto dX11_above_24 ?_
        obtain rfl := Option.some.inj hf
        exact X_ri dX11_above_38 ⟨rfl, rfl⟩
    · replace hf := ite_t c11_2 hf
      refine T_const dX11_above_14 ?_
      refine T_goto dX11_above_15 ?_
      obtain rfl := Option.some.inj hf
      exact X_ri dX11_above_38 ⟨rfl, rfl⟩
  · replace hf := ite_t c2_1 hf
    refine T_const dX11_above_5 ?_
    refine T_goto dX11_above_6 ?_
    obtain rfl := Option.some.inj hf
    exact X_ri dX11_above_38 ⟨rfl, rfl⟩
noncomputable def fX11_runs (x : aH) (p1 : Int32) : Option aH := if (24 : Int32) ≤ (fi x 73 39) then some (sfi x 73 39 ((fi x 73 39) + (1 : Int32))) else if (0 : Int32) ≤ (fi x 73 39) ∧ (fi x 73 39) < (24 : Int32) then some (sfi (sri x 93 (ix (fi x 73 39)) p1) 73 39 ((fi (sri x 93 (ix (fi x 73 39)) p1) 73 39) + (1 : Int32))) else none
theorem qX11_runs (Z : aZ) (y : aH) {x : aH} {p1 : Int32} {q : aH} (hf : fX11_runs x p1 = some q) : CX false Z mX11_runs 0 [.ref 73, .int p1] y x (RN q) := by
  refine CX.of mokX11_runs (Nat.le_of_ble_eq_true rfl) ?_
  show TX _ _ _ _ _ _ _ _ [_, _] _
  delta fX11_runs at hf
  refine T_aload dX11_runs_0 rfl ?_
  refine X_getf dX11_runs_1 lfX11_332 rfl ob73 ?_
  refine T_const dX11_runs_4 ?_
  refine T_icmp_ge dX11_runs_6 (fun c6_1 => ?_) (fun c6_1 => ?_)
  · replace hf := ite_t c6_1 hf
    refine T_aload dX11_runs_19 rfl ?_
    refine T_dup dX11_runs_20 rfl ?_
    refine X_getf dX11_runs_21 lfX11_332 rfl ob73 ?_
    refine T_const dX11_runs_24 ?_
    refine T_iadd dX11_runs_25 ?_
    refine X_putf dX11_runs_26 lfX11_332 rfl rfl ob73 ⟨rfl, rfl⟩ ?_
    obtain rfl := Option.some.inj hf
    exact X_rv dX11_runs_29 ⟨rfl, rfl⟩
  · replace hf := ite_f c6_1 hf
    refine T_aload dX11_runs_9 rfl ?_
    refine X_getr dX11_runs_10 lfX11_67 rfl ob73 rfl ?_
    refine T_aload dX11_runs_13 rfl ?_
    refine X_getf dX11_runs_14 lfX11_332 rfl ob73 ?_
    refine T_iload dX11_runs_17 rfl ?_
    obtain ⟨hb18_2, hf⟩ := opt_t hf
    refine X_iast (N := 24) dX11_runs_18 ar93 rfl hb18_2 ?_
    refine T_aload dX11_runs_19 rfl ?_
    refine T_dup dX11_runs_20 rfl ?_
    refine X_getf dX11_runs_21 lfX11_332 rfl ob73 ?_
    refine T_const dX11_runs_24 ?_
    refine T_iadd dX11_runs_25 ?_
    refine X_putf dX11_runs_26 lfX11_332 rfl rfl ob73 ⟨rfl, rfl⟩ ?_
    obtain rfl := Option.some.inj hf
    exact X_rv dX11_runs_29 ⟨rfl, rfl⟩
noncomputable def jX11_turnsAs_16 (g_X11_turnsAs : aH → Int32 → Int32 → Option (Int32 × aH)) (x : aH) (l2 : Int32) : Option (Int32 × aH) := (fX11_runs x (20 : Int32)).bind fun q19_1 => (g_X11_turnsAs q19_1 (0 : Int32) l2).bind fun q25_2 => some ((q25_2.1 + (3 : Int32)), q25_2.2)
noncomputable def uX11_turnsAs (g_X11_turnsAs : aH → Int32 → Int32 → Option (Int32 × aH)) (x : aH) (p1 : Int32) (p2 : Int32) : Option (Int32 × aH) := if p1 = (1 : Int32) then jX11_turnsAs_16 g_X11_turnsAs x p2 else if p1 = (4 : Int32) then jX11_turnsAs_16 g_X11_turnsAs x p2 else if p1 = (7 : Int32) then jX11_turnsAs_16 g_X11_turnsAs x p2 else if p1 = (6 : Int32) then (fX11_runs x (70 : Int32)).bind fun q40_8 => (g_X11_turnsAs q40_8 (0 : Int32) p2).bind fun q46_9 => some ((q46_9.1 * (2 : Int32)), q46_9.2) else (fX11_runs x (1 : Int32)).bind fun q54_7 => some ((p2 + (fi q54_7 73 41)), q54_7)
theorem pX11_turnsAs (Z : aZ) (y : aH) {D : Nat} (hK : 0 ≤ D) {g_X11_turnsAs : aH → Int32 → Int32 → Option (Int32 × aH)} (H_X11_turnsAs : ∀ (x : aH) (p1 : Int32) (p2 : Int32) {q : (Int32 × aH)}, g_X11_turnsAs x p1 p2 = some q → CX false Z mX11_turnsAs D [.ref 73, .int p1, .int p2] y x (RV (.int q.1) q.2)) {x : aH} {p1 : Int32} {p2 : Int32} {q : (Int32 × aH)} (hf : uX11_turnsAs g_X11_turnsAs x p1 p2 = some q) : CX false Z mX11_turnsAs (D + 1) [.ref 73, .int p1, .int p2] y x (RV (.int q.1) q.2) := by
  refine CX.of mokX11_turnsAs (Nat.le_of_ble_eq_true rfl) ?_
  show TX _ _ _ _ _ _ _ _ [_, _, _] _
  delta uX11_turnsAs at hf
  refine T_iload dX11_turnsAs_0 rfl ?_
  refine T_const dX11_turnsAs_1 ?_
  have J16 : ∀ (x : aH) (l2 : Int32), jX11_turnsAs_16 g_X11_turnsAs x l2 = some q → TX false Z mX11_turnsAs (D + 1) y x (RV (.int q.1) q.2) 16 [.ref 73, .null, .int l2] [] := by
    intro x l2 hf
    delta jX11_turnsAs_16 at hf
    refine T_aload dX11_turnsAs_16 rfl ?_
    refine T_const dX11_turnsAs_17 ?_
    obtain ⟨q19_1, hc19_1, hf⟩ := bind_t hf
    refine X_Vn (qX11_runs Z _ hc19_1) (Nat.le_trans (Nat.le_of_ble_eq_true rfl) hK) dX11_turnsAs_19 lvX11_335 rfl rfl ob73 (Nat.le_of_ble_eq_true rfl) ?_
    refine T_aload dX11_turnsAs_22 rfl ?_
    refine T_const dX11_turnsAs_23 ?_
    refine T_iload dX11_turnsAs_24 rfl ?_
    obtain ⟨q25_2, hc25_2, hf⟩ := bind_t hf
    refine X_Vv (H_X11_turnsAs _ _ _ hc25_2) (Nat.le_refl _) dX11_turnsAs_25 lvX11_338 rfl rfl ob73 (Nat.le_of_ble_eq_true rfl) ?_
    refine T_const dX11_turnsAs_28 ?_
    refine T_iadd dX11_turnsAs_29 ?_
    obtain rfl := Option.some.inj hf
    exact X_ri dX11_turnsAs_30 ⟨rfl, rfl⟩
  refine T_icmp_eq dX11_turnsAs_2 (fun c2_3 => ?_) (fun c2_3 => ?_)
  · replace hf := ite_t c2_3 hf
    exact X_wk (WK.s (WK.n (WK.s WK.e))) (J16 _ _ hf)
  · replace hf := ite_f c2_3 hf
    refine T_iload dX11_turnsAs_5 rfl ?_
    refine T_const dX11_turnsAs_6 ?_
    refine T_icmp_eq dX11_turnsAs_7 (fun c7_4 => ?_) (fun c7_4 => ?_)
    · replace hf := ite_t c7_4 hf
      exact X_wk (WK.s (WK.n (WK.s WK.e))) (J16 _ _ hf)
    · replace hf := ite_f c7_4 hf
      refine T_iload dX11_turnsAs_10 rfl ?_
      refine T_const dX11_turnsAs_11 ?_
      refine T_icmp_ne dX11_turnsAs_13 (fun c13_5 => ?_) (fun c13_5 => ?_)
      · replace hf := ite_f c13_5 hf
        refine T_iload dX11_turnsAs_31 rfl ?_
        refine T_const dX11_turnsAs_32 ?_
        refine T_icmp_ne dX11_turnsAs_34 (fun c34_6 => ?_) (fun c34_6 => ?_)
        · replace hf := ite_f c34_6 hf
          refine T_aload dX11_turnsAs_52 rfl ?_
          refine T_const dX11_turnsAs_53 ?_
          obtain ⟨q54_7, hc54_7, hf⟩ := bind_t hf
          refine X_Vn (qX11_runs Z _ hc54_7) (Nat.le_trans (Nat.le_of_ble_eq_true rfl) hK) dX11_turnsAs_54 lvX11_335 rfl rfl ob73 (Nat.le_of_ble_eq_true rfl) ?_
          refine T_iload dX11_turnsAs_57 rfl ?_
          refine T_aload dX11_turnsAs_58 rfl ?_
          refine X_getf dX11_turnsAs_59 lfX11_341 rfl ob73 ?_
          refine T_iadd dX11_turnsAs_62 ?_
          obtain rfl := Option.some.inj hf
          exact X_ri dX11_turnsAs_63 ⟨rfl, rfl⟩
        · replace hf := ite_t c34_6 hf
          refine T_aload dX11_turnsAs_37 rfl ?_
          refine T_const dX11_turnsAs_38 ?_
          obtain ⟨q40_8, hc40_8, hf⟩ := bind_t hf
          refine X_Vn (qX11_runs Z _ hc40_8) (Nat.le_trans (Nat.le_of_ble_eq_true rfl) hK) dX11_turnsAs_40 lvX11_335 rfl rfl ob73 (Nat.le_of_ble_eq_true rfl) ?_
          refine T_aload dX11_turnsAs_43 rfl ?_
          refine T_const dX11_turnsAs_44 ?_
          refine T_iload dX11_turnsAs_45 rfl ?_
          obtain ⟨q46_9, hc46_9, hf⟩ := bind_t hf
          refine X_Vv (H_X11_turnsAs _ _ _ hc46_9) (Nat.le_refl _) dX11_turnsAs_46 lvX11_338 rfl rfl ob73 (Nat.le_of_ble_eq_true rfl) ?_
          refine T_const dX11_turnsAs_49 ?_
          refine T_imul dX11_turnsAs_50 ?_
          obtain rfl := Option.some.inj hf
          exact X_ri dX11_turnsAs_51 ⟨rfl, rfl⟩
      · replace hf := ite_t c13_5 hf
        exact X_wk (WK.s (WK.n (WK.s WK.e))) (J16 _ _ hf)
noncomputable def GX11_turnsAs : Nat → (aH → Int32 → Int32 → Option (Int32 × aH))
  | 0 => (fun _ _ _ => none)
  | n + 1 => (uX11_turnsAs ((GX11_turnsAs n)))
noncomputable def fX11_turnsAs (n : Nat) : aH → Int32 → Int32 → Option (Int32 × aH) := (GX11_turnsAs n)
theorem fX11_turnsAs_S (n : Nat) : fX11_turnsAs (n + 1) = uX11_turnsAs (fX11_turnsAs n) := rfl
theorem qGX11_turnsAs (Z : aZ) (y : aH) : ∀ n, (∀ (x : aH) (p1 : Int32) (p2 : Int32) {q : (Int32 × aH)}, fX11_turnsAs n x p1 p2 = some q → CX false Z mX11_turnsAs (n + 0) [.ref 73, .int p1, .int p2] y x (RV (.int q.1) q.2)) := by
  intro n
  induction n with
  | zero => exact (by intro _ _ _ q hf; cases hf)
  | succ n ih =>
    have ih_X11_turnsAs := ih
    exact (by intro _ _ _ q hf; exact (pX11_turnsAs Z y (D := n + 0) (Nat.le_add_left _ _) ih_X11_turnsAs hf).le (by omega))
theorem qX11_turnsAs (Z : aZ) (y : aH) {x : aH} {p1 : Int32} {p2 : Int32} {q : (Int32 × aH)} (hf : fX11_turnsAs 64 x p1 p2 = some q) : CX false Z mX11_turnsAs 64 [.ref 73, .int p1, .int p2] y x (RV (.int q.1) q.2) := (qGX11_turnsAs Z y 64) _ _ _ hf
noncomputable def jX11_warnsAs_10 (g_X11_warnsAs : aH → Int32 → Int32 → Option (Int32 × aH)) (x : aH) (l2 : Int32) : Option (Int32 × aH) := (fX11_runs x (40 : Int32)).bind fun q13_1 => (g_X11_warnsAs q13_1 (2 : Int32) l2).bind fun q19_2 => some ((q19_2.1 * (3 : Int32)), q19_2.2)
noncomputable def jX11_warnsAs_36 (g_X11_warnsAs : aH → Int32 → Int32 → Option (Int32 × aH)) (x : aH) (l2 : Int32) : Option (Int32 × aH) := (fX11_runs x (50 : Int32)).bind fun q39_5 => (g_X11_warnsAs q39_5 (1 : Int32) l2).bind fun q45_6 => (fX11_turnsAs 64 q45_6.2 (fi q45_6.2 73 40) (2 : Int32)).bind fun q56_7 => some ((q45_6.1 - q56_7.1), q56_7.2)
noncomputable def uX11_warnsAs (g_X11_warnsAs : aH → Int32 → Int32 → Option (Int32 × aH)) (x : aH) (p1 : Int32) (p2 : Int32) : Option (Int32 × aH) := if p1 = (3 : Int32) then jX11_warnsAs_10 g_X11_warnsAs x p2 else if p1 = (5 : Int32) then jX11_warnsAs_10 g_X11_warnsAs x p2 else if p1 = (4 : Int32) then jX11_warnsAs_36 g_X11_warnsAs x p2 else if p1 = (7 : Int32) then jX11_warnsAs_36 g_X11_warnsAs x p2 else (fX11_runs x (11 : Int32)).bind fun q64_10 => some ((p2 ^^^ (fi q64_10 73 41)), q64_10)
theorem pX11_warnsAs (Z : aZ) (y : aH) {D : Nat} (hK : 64 ≤ D) {g_X11_warnsAs : aH → Int32 → Int32 → Option (Int32 × aH)} (H_X11_warnsAs : ∀ (x : aH) (p1 : Int32) (p2 : Int32) {q : (Int32 × aH)}, g_X11_warnsAs x p1 p2 = some q → CX false Z mX11_warnsAs D [.ref 73, .int p1, .int p2] y x (RV (.int q.1) q.2)) {x : aH} {p1 : Int32} {p2 : Int32} {q : (Int32 × aH)} (hf : uX11_warnsAs g_X11_warnsAs x p1 p2 = some q) : CX false Z mX11_warnsAs (D + 1) [.ref 73, .int p1, .int p2] y x (RV (.int q.1) q.2) := by
  refine CX.of mokX11_warnsAs (Nat.le_of_ble_eq_true rfl) ?_
  show TX _ _ _ _ _ _ _ _ [_, _, _, _] _
  delta uX11_warnsAs at hf
  refine T_iload dX11_warnsAs_0 rfl ?_
  refine T_const dX11_warnsAs_1 ?_
  have J10 : ∀ (x : aH) (l2 : Int32), jX11_warnsAs_10 g_X11_warnsAs x l2 = some q → TX false Z mX11_warnsAs (D + 1) y x (RV (.int q.1) q.2) 10 [.ref 73, .null, .int l2, .null] [] := by
    intro x l2 hf
    delta jX11_warnsAs_10 at hf
    refine T_aload dX11_warnsAs_10 rfl ?_
    refine T_const dX11_warnsAs_11 ?_
    obtain ⟨q13_1, hc13_1, hf⟩ := bind_t hf
    refine X_Vn (qX11_runs Z _ hc13_1) (Nat.le_trans (Nat.le_of_ble_eq_true rfl) hK) dX11_warnsAs_13 lvX11_335 rfl rfl ob73 (Nat.le_of_ble_eq_true rfl) ?_
    refine T_aload dX11_warnsAs_16 rfl ?_
    refine T_const dX11_warnsAs_17 ?_
    refine T_iload dX11_warnsAs_18 rfl ?_
    obtain ⟨q19_2, hc19_2, hf⟩ := bind_t hf
    refine X_Vv (H_X11_warnsAs _ _ _ hc19_2) (Nat.le_refl _) dX11_warnsAs_19 lvX11_350 rfl rfl ob73 (Nat.le_of_ble_eq_true rfl) ?_
    refine T_const dX11_warnsAs_22 ?_
    refine T_imul dX11_warnsAs_23 ?_
    obtain rfl := Option.some.inj hf
    exact X_ri dX11_warnsAs_24 ⟨rfl, rfl⟩
  refine T_icmp_eq dX11_warnsAs_2 (fun c2_3 => ?_) (fun c2_3 => ?_)
  · replace hf := ite_t c2_3 hf
    exact X_wk (WK.s (WK.n (WK.s (WK.n WK.e)))) (J10 _ _ hf)
  · replace hf := ite_f c2_3 hf
    refine T_iload dX11_warnsAs_5 rfl ?_
    refine T_const dX11_warnsAs_6 ?_
    refine T_icmp_ne dX11_warnsAs_7 (fun c7_4 => ?_) (fun c7_4 => ?_)
    · replace hf := ite_f c7_4 hf
      refine T_iload dX11_warnsAs_25 rfl ?_
      refine T_const dX11_warnsAs_26 ?_
      have J36 : ∀ (x : aH) (l2 : Int32), jX11_warnsAs_36 g_X11_warnsAs x l2 = some q → TX false Z mX11_warnsAs (D + 1) y x (RV (.int q.1) q.2) 36 [.ref 73, .null, .int l2, .null] [] := by
        intro x l2 hf
        delta jX11_warnsAs_36 at hf
        refine T_aload dX11_warnsAs_36 rfl ?_
        refine T_const dX11_warnsAs_37 ?_
        obtain ⟨q39_5, hc39_5, hf⟩ := bind_t hf
        refine X_Vn (qX11_runs Z _ hc39_5) (Nat.le_trans (Nat.le_of_ble_eq_true rfl) hK) dX11_warnsAs_39 lvX11_335 rfl rfl ob73 (Nat.le_of_ble_eq_true rfl) ?_
        refine T_aload dX11_warnsAs_42 rfl ?_
        refine T_const dX11_warnsAs_43 ?_
        refine T_iload dX11_warnsAs_44 rfl ?_
        obtain ⟨q45_6, hc45_6, hf⟩ := bind_t hf
        refine X_Vv (H_X11_warnsAs _ _ _ hc45_6) (Nat.le_refl _) dX11_warnsAs_45 lvX11_350 rfl rfl ob73 (Nat.le_of_ble_eq_true rfl) ?_
        refine T_istore dX11_warnsAs_48 ?_
        show TX _ _ _ _ _ _ _ _ [_, _, _, _] _
        refine T_iload dX11_warnsAs_49 rfl ?_
        refine T_aload dX11_warnsAs_50 rfl ?_
        refine T_aload dX11_warnsAs_51 rfl ?_
        refine X_getf dX11_warnsAs_52 lfX11_347 rfl ob73 ?_
        refine T_const dX11_warnsAs_55 ?_
        obtain ⟨q56_7, hc56_7, hf⟩ := bind_t hf
        refine X_Vv (qX11_turnsAs Z _ hc56_7) (Nat.le_trans (Nat.le_of_ble_eq_true rfl) hK) dX11_warnsAs_56 lvX11_338 rfl rfl ob73 (Nat.le_of_ble_eq_true rfl) ?_
        refine T_isub dX11_warnsAs_59 ?_
        obtain rfl := Option.some.inj hf
        exact X_ri dX11_warnsAs_60 ⟨rfl, rfl⟩
      refine T_icmp_eq dX11_warnsAs_27 (fun c27_8 => ?_) (fun c27_8 => ?_)
      · replace hf := ite_t c27_8 hf
        exact X_wk (WK.s (WK.n (WK.s (WK.n WK.e)))) (J36 _ _ hf)
      · replace hf := ite_f c27_8 hf
        refine T_iload dX11_warnsAs_30 rfl ?_
        refine T_const dX11_warnsAs_31 ?_
        refine T_icmp_ne dX11_warnsAs_33 (fun c33_9 => ?_) (fun c33_9 => ?_)
        · replace hf := ite_f c33_9 hf
          refine T_aload dX11_warnsAs_61 rfl ?_
          refine T_const dX11_warnsAs_62 ?_
          obtain ⟨q64_10, hc64_10, hf⟩ := bind_t hf
          refine X_Vn (qX11_runs Z _ hc64_10) (Nat.le_trans (Nat.le_of_ble_eq_true rfl) hK) dX11_warnsAs_64 lvX11_335 rfl rfl ob73 (Nat.le_of_ble_eq_true rfl) ?_
          refine T_iload dX11_warnsAs_67 rfl ?_
          refine T_aload dX11_warnsAs_68 rfl ?_
          refine X_getf dX11_warnsAs_69 lfX11_341 rfl ob73 ?_
          refine T_ixor dX11_warnsAs_72 ?_
          obtain rfl := Option.some.inj hf
          exact X_ri dX11_warnsAs_73 ⟨rfl, rfl⟩
        · replace hf := ite_t c33_9 hf
          exact X_wk (WK.s (WK.n (WK.s (WK.n WK.e)))) (J36 _ _ hf)
    · replace hf := ite_t c7_4 hf
      exact X_wk (WK.s (WK.n (WK.s (WK.n WK.e)))) (J10 _ _ hf)
noncomputable def GX11_warnsAs : Nat → (aH → Int32 → Int32 → Option (Int32 × aH))
  | 0 => (fun _ _ _ => none)
  | n + 1 => (uX11_warnsAs ((GX11_warnsAs n)))
noncomputable def fX11_warnsAs (n : Nat) : aH → Int32 → Int32 → Option (Int32 × aH) := (GX11_warnsAs n)
theorem fX11_warnsAs_S (n : Nat) : fX11_warnsAs (n + 1) = uX11_warnsAs (fX11_warnsAs n) := rfl
theorem qGX11_warnsAs (Z : aZ) (y : aH) : ∀ n, (∀ (x : aH) (p1 : Int32) (p2 : Int32) {q : (Int32 × aH)}, fX11_warnsAs n x p1 p2 = some q → CX false Z mX11_warnsAs (n + 64) [.ref 73, .int p1, .int p2] y x (RV (.int q.1) q.2)) := by
  intro n
  induction n with
  | zero => exact (by intro _ _ _ q hf; cases hf)
  | succ n ih =>
    have ih_X11_warnsAs := ih
    exact (by intro _ _ _ q hf; exact (pX11_warnsAs Z y (D := n + 64) (Nat.le_add_left _ _) ih_X11_warnsAs hf).le (by omega))
theorem qX11_warnsAs (Z : aZ) (y : aH) {x : aH} {p1 : Int32} {p2 : Int32} {q : (Int32 × aH)} (hf : fX11_warnsAs 64 x p1 p2 = some q) : CX false Z mX11_warnsAs 128 [.ref 73, .int p1, .int p2] y x (RV (.int q.1) q.2) := (qGX11_warnsAs Z y 64) _ _ _ hf
noncomputable def jX11_burnsAs_10 (g_X11_burnsAs : aH → Int32 → Int32 → Option (Int32 × aH)) (x : aH) (l2 : Int32) : Option (Int32 × aH) := (fX11_runs x (41 : Int32)).bind fun q13_1 => (g_X11_burnsAs q13_1 (2 : Int32) (l2 + (1 : Int32))).bind fun q21_2 => some (q21_2.1, q21_2.2)
noncomputable def uX11_burnsAs (g_X11_burnsAs : aH → Int32 → Int32 → Option (Int32 × aH)) (x : aH) (p1 : Int32) (p2 : Int32) : Option (Int32 × aH) := if p1 = (3 : Int32) then jX11_burnsAs_10 g_X11_burnsAs x p2 else if p1 = (5 : Int32) then jX11_burnsAs_10 g_X11_burnsAs x p2 else if p1 = (2 : Int32) then (fX11_runs x (30 : Int32)).bind fun q33_12 => (g_X11_burnsAs q33_12 (0 : Int32) p2).bind fun q39_13 => some ((-q39_13.1), q39_13.2) else if p1 = (7 : Int32) then (fX11_runs x (80 : Int32)).bind fun q53_9 => (g_X11_burnsAs q53_9 (4 : Int32) p2).bind fun q59_10 => (fX11_warnsAs 64 q59_10.2 (fi q59_10.2 73 40) (2 : Int32)).bind fun q70_11 => some ((q59_10.1 + q70_11.1), q70_11.2) else (fX11_runs x (10 : Int32)).bind fun q78_7 => (fX11_turnsAs 64 q78_7 (fi q78_7 73 40) p2).bind fun q87_8 => some ((q87_8.1 * (2 : Int32)), q87_8.2)
theorem pX11_burnsAs (Z : aZ) (y : aH) {D : Nat} (hK : 128 ≤ D) {g_X11_burnsAs : aH → Int32 → Int32 → Option (Int32 × aH)} (H_X11_burnsAs : ∀ (x : aH) (p1 : Int32) (p2 : Int32) {q : (Int32 × aH)}, g_X11_burnsAs x p1 p2 = some q → CX false Z mX11_burnsAs D [.ref 73, .int p1, .int p2] y x (RV (.int q.1) q.2)) {x : aH} {p1 : Int32} {p2 : Int32} {q : (Int32 × aH)} (hf : uX11_burnsAs g_X11_burnsAs x p1 p2 = some q) : CX false Z mX11_burnsAs (D + 1) [.ref 73, .int p1, .int p2] y x (RV (.int q.1) q.2) := by
  refine CX.of mokX11_burnsAs (Nat.le_of_ble_eq_true rfl) ?_
  show TX _ _ _ _ _ _ _ _ [_, _, _, _] _
  delta uX11_burnsAs at hf
  refine T_iload dX11_burnsAs_0 rfl ?_
  refine T_const dX11_burnsAs_1 ?_
  have J10 : ∀ (x : aH) (l2 : Int32), jX11_burnsAs_10 g_X11_burnsAs x l2 = some q → TX false Z mX11_burnsAs (D + 1) y x (RV (.int q.1) q.2) 10 [.ref 73, .null, .int l2, .null] [] := by
    intro x l2 hf
    delta jX11_burnsAs_10 at hf
    refine T_aload dX11_burnsAs_10 rfl ?_
    refine T_const dX11_burnsAs_11 ?_
    obtain ⟨q13_1, hc13_1, hf⟩ := bind_t hf
    refine X_Vn (qX11_runs Z _ hc13_1) (Nat.le_trans (Nat.le_of_ble_eq_true rfl) hK) dX11_burnsAs_13 lvX11_335 rfl rfl ob73 (Nat.le_of_ble_eq_true rfl) ?_
    refine T_aload dX11_burnsAs_16 rfl ?_
    refine T_const dX11_burnsAs_17 ?_
    refine T_iload dX11_burnsAs_18 rfl ?_
    refine T_const dX11_burnsAs_19 ?_
    refine T_iadd dX11_burnsAs_20 ?_
    obtain ⟨q21_2, hc21_2, hf⟩ := bind_t hf
    refine X_Vv (H_X11_burnsAs _ _ _ hc21_2) (Nat.le_refl _) dX11_burnsAs_21 lvX11_344 rfl rfl ob73 (Nat.le_of_ble_eq_true rfl) ?_
    obtain rfl := Option.some.inj hf
    exact X_ri dX11_burnsAs_24 ⟨rfl, rfl⟩
  refine T_icmp_eq dX11_burnsAs_2 (fun c2_3 => ?_) (fun c2_3 => ?_)
  · replace hf := ite_t c2_3 hf
    exact X_wk (WK.s (WK.n (WK.s (WK.n WK.e)))) (J10 _ _ hf)
  · replace hf := ite_f c2_3 hf
    refine T_iload dX11_burnsAs_5 rfl ?_
    refine T_const dX11_burnsAs_6 ?_
    refine T_icmp_ne dX11_burnsAs_7 (fun c7_4 => ?_) (fun c7_4 => ?_)
    · replace hf := ite_f c7_4 hf
      refine T_iload dX11_burnsAs_25 rfl ?_
      refine T_const dX11_burnsAs_26 ?_
      refine T_icmp_ne dX11_burnsAs_27 (fun c27_5 => ?_) (fun c27_5 => ?_)
      · replace hf := ite_f c27_5 hf
        refine T_iload dX11_burnsAs_44 rfl ?_
        refine T_const dX11_burnsAs_45 ?_
        refine T_icmp_ne dX11_burnsAs_47 (fun c47_6 => ?_) (fun c47_6 => ?_)
        · replace hf := ite_f c47_6 hf
          refine T_aload dX11_burnsAs_75 rfl ?_
          refine T_const dX11_burnsAs_76 ?_
          obtain ⟨q78_7, hc78_7, hf⟩ := bind_t hf
          refine X_Vn (qX11_runs Z _ hc78_7) (Nat.le_trans (Nat.le_of_ble_eq_true rfl) hK) dX11_burnsAs_78 lvX11_335 rfl rfl ob73 (Nat.le_of_ble_eq_true rfl) ?_
          refine T_aload dX11_burnsAs_81 rfl ?_
          refine T_aload dX11_burnsAs_82 rfl ?_
          refine X_getf dX11_burnsAs_83 lfX11_347 rfl ob73 ?_
          refine T_iload dX11_burnsAs_86 rfl ?_
          obtain ⟨q87_8, hc87_8, hf⟩ := bind_t hf
          refine X_Vv (qX11_turnsAs Z _ hc87_8) (Nat.le_trans (Nat.le_of_ble_eq_true rfl) hK) dX11_burnsAs_87 lvX11_338 rfl rfl ob73 (Nat.le_of_ble_eq_true rfl) ?_
          refine T_const dX11_burnsAs_90 ?_
          refine T_imul dX11_burnsAs_91 ?_
          obtain rfl := Option.some.inj hf
          exact X_ri dX11_burnsAs_92 ⟨rfl, rfl⟩
        · replace hf := ite_t c47_6 hf
          refine T_aload dX11_burnsAs_50 rfl ?_
          refine T_const dX11_burnsAs_51 ?_
          obtain ⟨q53_9, hc53_9, hf⟩ := bind_t hf
          refine X_Vn (qX11_runs Z _ hc53_9) (Nat.le_trans (Nat.le_of_ble_eq_true rfl) hK) dX11_burnsAs_53 lvX11_335 rfl rfl ob73 (Nat.le_of_ble_eq_true rfl) ?_
          refine T_aload dX11_burnsAs_56 rfl ?_
          refine T_const dX11_burnsAs_57 ?_
          refine T_iload dX11_burnsAs_58 rfl ?_
          obtain ⟨q59_10, hc59_10, hf⟩ := bind_t hf
          refine X_Vv (H_X11_burnsAs _ _ _ hc59_10) (Nat.le_refl _) dX11_burnsAs_59 lvX11_344 rfl rfl ob73 (Nat.le_of_ble_eq_true rfl) ?_
          refine T_istore dX11_burnsAs_62 ?_
          show TX _ _ _ _ _ _ _ _ [_, _, _, _] _
          refine T_iload dX11_burnsAs_63 rfl ?_
          refine T_aload dX11_burnsAs_64 rfl ?_
          refine T_aload dX11_burnsAs_65 rfl ?_
          refine X_getf dX11_burnsAs_66 lfX11_347 rfl ob73 ?_
          refine T_const dX11_burnsAs_69 ?_
          obtain ⟨q70_11, hc70_11, hf⟩ := bind_t hf
          refine X_Vv (qX11_warnsAs Z _ hc70_11) (Nat.le_trans (Nat.le_of_ble_eq_true rfl) hK) dX11_burnsAs_70 lvX11_350 rfl rfl ob73 (Nat.le_of_ble_eq_true rfl) ?_
          refine T_iadd dX11_burnsAs_73 ?_
          obtain rfl := Option.some.inj hf
          exact X_ri dX11_burnsAs_74 ⟨rfl, rfl⟩
      · replace hf := ite_t c27_5 hf
        refine T_aload dX11_burnsAs_30 rfl ?_
        refine T_const dX11_burnsAs_31 ?_
        obtain ⟨q33_12, hc33_12, hf⟩ := bind_t hf
        refine X_Vn (qX11_runs Z _ hc33_12) (Nat.le_trans (Nat.le_of_ble_eq_true rfl) hK) dX11_burnsAs_33 lvX11_335 rfl rfl ob73 (Nat.le_of_ble_eq_true rfl) ?_
        refine T_aload dX11_burnsAs_36 rfl ?_
        refine T_const dX11_burnsAs_37 ?_
        refine T_iload dX11_burnsAs_38 rfl ?_
        obtain ⟨q39_13, hc39_13, hf⟩ := bind_t hf
        refine X_Vv (H_X11_burnsAs _ _ _ hc39_13) (Nat.le_refl _) dX11_burnsAs_39 lvX11_344 rfl rfl ob73 (Nat.le_of_ble_eq_true rfl) ?_
        refine T_ineg dX11_burnsAs_42 ?_
        obtain rfl := Option.some.inj hf
        exact X_ri dX11_burnsAs_43 ⟨rfl, rfl⟩
    · replace hf := ite_t c7_4 hf
      exact X_wk (WK.s (WK.n (WK.s (WK.n WK.e)))) (J10 _ _ hf)
noncomputable def GX11_burnsAs : Nat → (aH → Int32 → Int32 → Option (Int32 × aH))
  | 0 => (fun _ _ _ => none)
  | n + 1 => (uX11_burnsAs ((GX11_burnsAs n)))
noncomputable def fX11_burnsAs (n : Nat) : aH → Int32 → Int32 → Option (Int32 × aH) := (GX11_burnsAs n)
theorem fX11_burnsAs_S (n : Nat) : fX11_burnsAs (n + 1) = uX11_burnsAs (fX11_burnsAs n) := rfl
theorem qGX11_burnsAs (Z : aZ) (y : aH) : ∀ n, (∀ (x : aH) (p1 : Int32) (p2 : Int32) {q : (Int32 × aH)}, fX11_burnsAs n x p1 p2 = some q → CX false Z mX11_burnsAs (n + 128) [.ref 73, .int p1, .int p2] y x (RV (.int q.1) q.2)) := by
  intro n
  induction n with
  | zero => exact (by intro _ _ _ q hf; cases hf)
  | succ n ih =>
    have ih_X11_burnsAs := ih
    exact (by intro _ _ _ q hf; exact (pX11_burnsAs Z y (D := n + 128) (Nat.le_add_left _ _) ih_X11_burnsAs hf).le (by omega))
theorem qX11_burnsAs (Z : aZ) (y : aH) {x : aH} {p1 : Int32} {p2 : Int32} {q : (Int32 × aH)} (hf : fX11_burnsAs 64 x p1 p2 = some q) : CX false Z mX11_burnsAs 192 [.ref 73, .int p1, .int p2] y x (RV (.int q.1) q.2) := (qGX11_burnsAs Z y 64) _ _ _ hf
noncomputable def uX11_tellsAs (g_X11_tellsAs : aH → Int32 → Int32 → Option (Int32 × aH)) (x : aH) (p1 : Int32) (p2 : Int32) : Option (Int32 × aH) := if p1 = (5 : Int32) then (fX11_runs x (60 : Int32)).bind fun q8_8 => (g_X11_tellsAs q8_8 (3 : Int32) p2).bind fun q14_9 => some ((q14_9.1 ^^^ (5 : Int32)), q14_9.2) else if p1 = (7 : Int32) then (fX11_runs x (81 : Int32)).bind fun q29_6 => (g_X11_tellsAs q29_6 (4 : Int32) p2).bind fun q35_7 => some ((q35_7.1 - (1 : Int32)), q35_7.2) else (fX11_runs x (2 : Int32)).bind fun q43_3 => (fX11_burnsAs 64 q43_3 (fi q43_3 73 40) p2).bind fun q52_4 => (fX11_warnsAs 64 q52_4.2 (fi q52_4.2 73 40) (1 : Int32)).bind fun q63_5 => some ((q52_4.1 - q63_5.1), q63_5.2)
theorem pX11_tellsAs (Z : aZ) (y : aH) {D : Nat} (hK : 192 ≤ D) {g_X11_tellsAs : aH → Int32 → Int32 → Option (Int32 × aH)} (H_X11_tellsAs : ∀ (x : aH) (p1 : Int32) (p2 : Int32) {q : (Int32 × aH)}, g_X11_tellsAs x p1 p2 = some q → CX false Z mX11_tellsAs D [.ref 73, .int p1, .int p2] y x (RV (.int q.1) q.2)) {x : aH} {p1 : Int32} {p2 : Int32} {q : (Int32 × aH)} (hf : uX11_tellsAs g_X11_tellsAs x p1 p2 = some q) : CX false Z mX11_tellsAs (D + 1) [.ref 73, .int p1, .int p2] y x (RV (.int q.1) q.2) := by
  refine CX.of mokX11_tellsAs (Nat.le_of_ble_eq_true rfl) ?_
  show TX _ _ _ _ _ _ _ _ [_, _, _, _] _
  delta uX11_tellsAs at hf
  refine T_iload dX11_tellsAs_0 rfl ?_
  refine T_const dX11_tellsAs_1 ?_
  refine T_icmp_ne dX11_tellsAs_2 (fun c2_1 => ?_) (fun c2_1 => ?_)
  · replace hf := ite_f c2_1 hf
    refine T_iload dX11_tellsAs_20 rfl ?_
    refine T_const dX11_tellsAs_21 ?_
    refine T_icmp_ne dX11_tellsAs_23 (fun c23_2 => ?_) (fun c23_2 => ?_)
    · replace hf := ite_f c23_2 hf
      refine T_aload dX11_tellsAs_41 rfl ?_
      refine T_const dX11_tellsAs_42 ?_
      obtain ⟨q43_3, hc43_3, hf⟩ := bind_t hf
      refine X_Vn (qX11_runs Z _ hc43_3) (Nat.le_trans (Nat.le_of_ble_eq_true rfl) hK) dX11_tellsAs_43 lvX11_335 rfl rfl ob73 (Nat.le_of_ble_eq_true rfl) ?_
      refine T_aload dX11_tellsAs_46 rfl ?_
      refine T_aload dX11_tellsAs_47 rfl ?_
      refine X_getf dX11_tellsAs_48 lfX11_347 rfl ob73 ?_
      refine T_iload dX11_tellsAs_51 rfl ?_
      obtain ⟨q52_4, hc52_4, hf⟩ := bind_t hf
      refine X_Vv (qX11_burnsAs Z _ hc52_4) (Nat.le_trans (Nat.le_of_ble_eq_true rfl) hK) dX11_tellsAs_52 lvX11_344 rfl rfl ob73 (Nat.le_of_ble_eq_true rfl) ?_
      refine T_istore dX11_tellsAs_55 ?_
      show TX _ _ _ _ _ _ _ _ [_, _, _, _] _
      refine T_iload dX11_tellsAs_56 rfl ?_
      refine T_aload dX11_tellsAs_57 rfl ?_
      refine T_aload dX11_tellsAs_58 rfl ?_
      refine X_getf dX11_tellsAs_59 lfX11_347 rfl ob73 ?_
      refine T_const dX11_tellsAs_62 ?_
      obtain ⟨q63_5, hc63_5, hf⟩ := bind_t hf
      refine X_Vv (qX11_warnsAs Z _ hc63_5) (Nat.le_trans (Nat.le_of_ble_eq_true rfl) hK) dX11_tellsAs_63 lvX11_350 rfl rfl ob73 (Nat.le_of_ble_eq_true rfl) ?_
      refine T_isub dX11_tellsAs_66 ?_
      obtain rfl := Option.some.inj hf
      exact X_ri dX11_tellsAs_67 ⟨rfl, rfl⟩
    · replace hf := ite_t c23_2 hf
      refine T_aload dX11_tellsAs_26 rfl ?_
      refine T_const dX11_tellsAs_27 ?_
      obtain ⟨q29_6, hc29_6, hf⟩ := bind_t hf
      refine X_Vn (qX11_runs Z _ hc29_6) (Nat.le_trans (Nat.le_of_ble_eq_true rfl) hK) dX11_tellsAs_29 lvX11_335 rfl rfl ob73 (Nat.le_of_ble_eq_true rfl) ?_
      refine T_aload dX11_tellsAs_32 rfl ?_
      refine T_const dX11_tellsAs_33 ?_
      refine T_iload dX11_tellsAs_34 rfl ?_
      obtain ⟨q35_7, hc35_7, hf⟩ := bind_t hf
      refine X_Vv (H_X11_tellsAs _ _ _ hc35_7) (Nat.le_refl _) dX11_tellsAs_35 lvX11_353 rfl rfl ob73 (Nat.le_of_ble_eq_true rfl) ?_
      refine T_const dX11_tellsAs_38 ?_
      refine T_isub dX11_tellsAs_39 ?_
      obtain rfl := Option.some.inj hf
      exact X_ri dX11_tellsAs_40 ⟨rfl, rfl⟩
  · replace hf := ite_t c2_1 hf
    refine T_aload dX11_tellsAs_5 rfl ?_
    refine T_const dX11_tellsAs_6 ?_
    obtain ⟨q8_8, hc8_8, hf⟩ := bind_t hf
    refine X_Vn (qX11_runs Z _ hc8_8) (Nat.le_trans (Nat.le_of_ble_eq_true rfl) hK) dX11_tellsAs_8 lvX11_335 rfl rfl ob73 (Nat.le_of_ble_eq_true rfl) ?_
    refine T_aload dX11_tellsAs_11 rfl ?_
    refine T_const dX11_tellsAs_12 ?_
    refine T_iload dX11_tellsAs_13 rfl ?_
    obtain ⟨q14_9, hc14_9, hf⟩ := bind_t hf
    refine X_Vv (H_X11_tellsAs _ _ _ hc14_9) (Nat.le_refl _) dX11_tellsAs_14 lvX11_353 rfl rfl ob73 (Nat.le_of_ble_eq_true rfl) ?_
    refine T_const dX11_tellsAs_17 ?_
    refine T_ixor dX11_tellsAs_18 ?_
    obtain rfl := Option.some.inj hf
    exact X_ri dX11_tellsAs_19 ⟨rfl, rfl⟩
noncomputable def GX11_tellsAs : Nat → (aH → Int32 → Int32 → Option (Int32 × aH))
  | 0 => (fun _ _ _ => none)
  | n + 1 => (uX11_tellsAs ((GX11_tellsAs n)))
noncomputable def fX11_tellsAs (n : Nat) : aH → Int32 → Int32 → Option (Int32 × aH) := (GX11_tellsAs n)
theorem fX11_tellsAs_S (n : Nat) : fX11_tellsAs (n + 1) = uX11_tellsAs (fX11_tellsAs n) := rfl
theorem qGX11_tellsAs (Z : aZ) (y : aH) : ∀ n, (∀ (x : aH) (p1 : Int32) (p2 : Int32) {q : (Int32 × aH)}, fX11_tellsAs n x p1 p2 = some q → CX false Z mX11_tellsAs (n + 192) [.ref 73, .int p1, .int p2] y x (RV (.int q.1) q.2)) := by
  intro n
  induction n with
  | zero => exact (by intro _ _ _ q hf; cases hf)
  | succ n ih =>
    have ih_X11_tellsAs := ih
    exact (by intro _ _ _ q hf; exact (pX11_tellsAs Z y (D := n + 192) (Nat.le_add_left _ _) ih_X11_tellsAs hf).le (by omega))
theorem qX11_tellsAs (Z : aZ) (y : aH) {x : aH} {p1 : Int32} {p2 : Int32} {q : (Int32 × aH)} (hf : fX11_tellsAs 64 x p1 p2 = some q) : CX false Z mX11_tellsAs 256 [.ref 73, .int p1, .int p2] y x (RV (.int q.1) q.2) := (qGX11_tellsAs Z y 64) _ _ _ hf
noncomputable def fX11_act (x : aH) (p1 : Int32) (p2 : Int32) (p3 : Int32) : Option (Int32 × aH) := (fX11_isBody (sfi x 73 39 (0 : Int32)) p1).bind fun q7_1 => if q7_1 = (0 : Int32) then some ((0 : Int32), (sfi x 73 39 (0 : Int32))) else if (0 : Int32) ≤ p1 ∧ p1 < (50 : Int32) then if p2 = (0 : Int32) then (fX11_turnsAs 64 (sfi (sfi (sfi x 73 39 (0 : Int32)) 73 40 (ri (sfi x 73 39 (0 : Int32)) 92 (ix p1))) 73 41 p1) (fi (sfi (sfi (sfi x 73 39 (0 : Int32)) 73 40 (ri (sfi x 73 39 (0 : Int32)) 92 (ix p1))) 73 41 p1) 73 40) p3).bind fun q66_5 => some (q66_5.1, q66_5.2) else if p2 = (1 : Int32) then (fX11_burnsAs 64 (sfi (sfi (sfi x 73 39 (0 : Int32)) 73 40 (ri (sfi x 73 39 (0 : Int32)) 92 (ix p1))) 73 41 p1) (fi (sfi (sfi (sfi x 73 39 (0 : Int32)) 73 40 (ri (sfi x 73 39 (0 : Int32)) 92 (ix p1))) 73 41 p1) 73 40) p3).bind fun q76_7 => some (q76_7.1, q76_7.2) else if p2 = (2 : Int32) then (fX11_warnsAs 64 (sfi (sfi (sfi x 73 39 (0 : Int32)) 73 40 (ri (sfi x 73 39 (0 : Int32)) 92 (ix p1))) 73 41 p1) (fi (sfi (sfi (sfi x 73 39 (0 : Int32)) 73 40 (ri (sfi x 73 39 (0 : Int32)) 92 (ix p1))) 73 41 p1) 73 40) p3).bind fun q86_9 => some (q86_9.1, q86_9.2) else if p2 = (3 : Int32) then (fX11_tellsAs 64 (sfi (sfi (sfi x 73 39 (0 : Int32)) 73 40 (ri (sfi x 73 39 (0 : Int32)) 92 (ix p1))) 73 41 p1) (fi (sfi (sfi (sfi x 73 39 (0 : Int32)) 73 40 (ri (sfi x 73 39 (0 : Int32)) 92 (ix p1))) 73 41 p1) 73 40) p3).bind fun q96_11 => some (q96_11.1, q96_11.2) else some ((0 : Int32), (sfi (sfi (sfi x 73 39 (0 : Int32)) 73 40 (ri (sfi x 73 39 (0 : Int32)) 92 (ix p1))) 73 41 p1)) else none
theorem qX11_act (Z : aZ) (y : aH) {x : aH} {p1 : Int32} {p2 : Int32} {p3 : Int32} {q : (Int32 × aH)} (hf : fX11_act x p1 p2 p3 = some q) : CX false Z mX11_act 257 [.ref 73, .int p1, .int p2, .int p3] y x (RV (.int q.1) q.2) := by
  refine CX.of mokX11_act (Nat.le_of_ble_eq_true rfl) ?_
  show TX _ _ _ _ _ _ _ _ [_, _, _, _] _
  delta fX11_act at hf
  refine T_aload dX11_act_0 rfl ?_
  refine T_const dX11_act_1 ?_
  refine X_putf dX11_act_2 lfX11_332 rfl rfl ob73 ⟨rfl, rfl⟩ ?_
  refine T_aload dX11_act_5 rfl ?_
  refine T_iload dX11_act_6 rfl ?_
  obtain ⟨q7_1, hc7_1, hf⟩ := bind_t hf
  refine X_Vv (qX11_isBody Z _ hc7_1) (Nat.le_of_ble_eq_true rfl) dX11_act_7 lvX11_356 rfl rfl ob73 (Nat.le_of_ble_eq_true rfl) ?_
  refine T_if_ne dX11_act_10 (fun c10_2 => ?_) (fun c10_2 => ?_)
  · replace hf := ite_f c10_2 hf
    refine T_aload dX11_act_15 rfl ?_
    refine T_aload dX11_act_16 rfl ?_
    refine X_getr dX11_act_17 lfX11_64 rfl ob73 rfl ?_
    refine T_iload dX11_act_20 rfl ?_
    obtain ⟨hb21_3, hf⟩ := opt_t hf
    refine X_iald (N := 50) dX11_act_21 ar92 rfl hb21_3 ?_
    refine X_putf dX11_act_22 lfX11_347 rfl rfl ob73 ⟨rfl, rfl⟩ ?_
    refine T_aload dX11_act_25 rfl ?_
    refine T_iload dX11_act_26 rfl ?_
    refine X_putf dX11_act_27 lfX11_341 rfl rfl ob73 ⟨rfl, rfl⟩ ?_
    refine T_iload dX11_act_30 rfl ?_
    by_cases c31_4 : p2 = (0 : Int32)
    · replace hf := ite_t c31_4 hf
      refine T_tabE (off := 29) (tgt := 60) c31_4 dX11_act_31 (by decide) (by decide) (by decide) (by decide) ?_
      refine T_aload dX11_act_60 rfl ?_
      refine T_aload dX11_act_61 rfl ?_
      refine X_getf dX11_act_62 lfX11_347 rfl ob73 ?_
      refine T_iload dX11_act_65 rfl ?_
      obtain ⟨q66_5, hc66_5, hf⟩ := bind_t hf
      refine X_Vv (qX11_turnsAs Z _ hc66_5) (Nat.le_of_ble_eq_true rfl) dX11_act_66 lvX11_338 rfl rfl ob73 (Nat.le_of_ble_eq_true rfl) ?_
      obtain rfl := Option.some.inj hf
      exact X_ri dX11_act_69 ⟨rfl, rfl⟩
    replace hf := ite_f c31_4 hf
    by_cases c31_6 : p2 = (1 : Int32)
    · replace hf := ite_t c31_6 hf
      refine T_tabE (off := 39) (tgt := 70) c31_6 dX11_act_31 (by decide) (by decide) (by decide) (by decide) ?_
      refine T_aload dX11_act_70 rfl ?_
      refine T_aload dX11_act_71 rfl ?_
      refine X_getf dX11_act_72 lfX11_347 rfl ob73 ?_
      refine T_iload dX11_act_75 rfl ?_
      obtain ⟨q76_7, hc76_7, hf⟩ := bind_t hf
      refine X_Vv (qX11_burnsAs Z _ hc76_7) (Nat.le_of_ble_eq_true rfl) dX11_act_76 lvX11_344 rfl rfl ob73 (Nat.le_of_ble_eq_true rfl) ?_
      obtain rfl := Option.some.inj hf
      exact X_ri dX11_act_79 ⟨rfl, rfl⟩
    replace hf := ite_f c31_6 hf
    by_cases c31_8 : p2 = (2 : Int32)
    · replace hf := ite_t c31_8 hf
      refine T_tabE (off := 49) (tgt := 80) c31_8 dX11_act_31 (by decide) (by decide) (by decide) (by decide) ?_
      refine T_aload dX11_act_80 rfl ?_
      refine T_aload dX11_act_81 rfl ?_
      refine X_getf dX11_act_82 lfX11_347 rfl ob73 ?_
      refine T_iload dX11_act_85 rfl ?_
      obtain ⟨q86_9, hc86_9, hf⟩ := bind_t hf
      refine X_Vv (qX11_warnsAs Z _ hc86_9) (Nat.le_of_ble_eq_true rfl) dX11_act_86 lvX11_350 rfl rfl ob73 (Nat.le_of_ble_eq_true rfl) ?_
      obtain rfl := Option.some.inj hf
      exact X_ri dX11_act_89 ⟨rfl, rfl⟩
    replace hf := ite_f c31_8 hf
    by_cases c31_10 : p2 = (3 : Int32)
    · replace hf := ite_t c31_10 hf
      refine T_tabE (off := 59) (tgt := 90) c31_10 dX11_act_31 (by decide) (by decide) (by decide) (by decide) ?_
      refine T_aload dX11_act_90 rfl ?_
      refine T_aload dX11_act_91 rfl ?_
      refine X_getf dX11_act_92 lfX11_347 rfl ob73 ?_
      refine T_iload dX11_act_95 rfl ?_
      obtain ⟨q96_11, hc96_11, hf⟩ := bind_t hf
      refine X_Vv (qX11_tellsAs Z _ hc96_11) (Nat.le_of_ble_eq_true rfl) dX11_act_96 lvX11_353 rfl rfl ob73 (Nat.le_of_ble_eq_true rfl) ?_
      obtain rfl := Option.some.inj hf
      exact X_ri dX11_act_99 ⟨rfl, rfl⟩
    replace hf := ite_f c31_10 hf
    refine T_tabOut (tgt := 100) ⟨dX11_act_31, by decide⟩ (by
    have n0 := ne_toInt c31_4; rw [show (0 : Int32).toInt = 0 from rfl] at n0
    have n1 := ne_toInt c31_6; rw [show (1 : Int32).toInt = 1 from rfl] at n1
    have n2 := ne_toInt c31_8; rw [show (2 : Int32).toInt = 2 from rfl] at n2
    have n3 := ne_toInt c31_10; rw [show (3 : Int32).toInt = 3 from rfl] at n3
    omega) ?_
    refine T_const dX11_act_100 ?_
    obtain rfl := Option.some.inj hf
    exact X_ri dX11_act_101 ⟨rfl, rfl⟩
  · replace hf := ite_t c10_2 hf
    refine T_const dX11_act_13 ?_
    obtain rfl := Option.some.inj hf
    exact X_ri dX11_act_14 ⟨rfl, rfl⟩
noncomputable def fX11_trace (x : aH) (p1 : Int32) : Option Int32 := if p1 < (0 : Int32) then some (-1 : Int32) else if (fi x 73 39) ≤ p1 then some (-1 : Int32) else if (24 : Int32) ≤ p1 then some (-1 : Int32) else if (0 : Int32) ≤ p1 ∧ p1 < (24 : Int32) then some (ri x 93 (ix p1)) else none
theorem qX11_trace (Z : aZ) (y : aH) {x : aH} {p1 : Int32} {q : Int32} (hf : fX11_trace x p1 = some q) : CX false Z mX11_trace 0 [.ref 73, .int p1] y x (RV (.int q) x) := by
  refine CX.of mokX11_trace (Nat.le_of_ble_eq_true rfl) ?_
  show TX _ _ _ _ _ _ _ _ [_, _] _
  delta fX11_trace at hf
  refine T_iload dX11_trace_0 rfl ?_
  refine T_if_lt dX11_trace_1 (fun c1_1 => ?_) (fun c1_1 => ?_)
  · replace hf := ite_t c1_1 hf
    refine T_const dX11_trace_27 ?_
    obtain rfl := Option.some.inj hf
    exact X_ri dX11_trace_28 ⟨rfl, rfl⟩
  · replace hf := ite_f c1_1 hf
    refine T_iload dX11_trace_4 rfl ?_
    refine T_aload dX11_trace_5 rfl ?_
    refine X_getf dX11_trace_6 lfX11_332 rfl ob73 ?_
    refine T_icmp_ge dX11_trace_9 (fun c9_2 => ?_) (fun c9_2 => ?_)
    · replace hf := ite_t c9_2 hf
      refine T_const dX11_trace_27 ?_
      obtain rfl := Option.some.inj hf
      exact X_ri dX11_trace_28 ⟨rfl, rfl⟩
    · replace hf := ite_f c9_2 hf
      refine T_iload dX11_trace_12 rfl ?_
      refine T_const dX11_trace_13 ?_
      refine T_icmp_ge dX11_trace_15 (fun c15_3 => ?_) (fun c15_3 => ?_)
      · replace hf := ite_t c15_3 hf
        refine T_const dX11_trace_27 ?_
        obtain rfl := Option.some.inj hf
        exact X_ri dX11_trace_28 ⟨rfl, rfl⟩
      · replace hf := ite_f c15_3 hf
        refine T_aload dX11_trace_18 rfl ?_
        refine X_getr dX11_trace_19 lfX11_67 rfl ob73 rfl ?_
        refine T_iload dX11_trace_22 rfl ?_
        obtain ⟨hb23_4, hf⟩ := opt_t hf
        refine X_iald (N := 24) dX11_trace_23 ar93 rfl hb23_4 ?_
        refine T_goto dX11_trace_24 ?_
        obtain rfl := Option.some.inj hf
        exact X_ri dX11_trace_28 ⟨rfl, rfl⟩
noncomputable def jX11_keep_22 (x : aH) (l1 : Int32) (l2 : Int32) : Option (Int32 × aH) := if (0 : Int32) ≤ l1 ∧ l1 < (6 : Int32) then if (0 : Int32) ≤ l1 ∧ l1 < (6 : Int32) then some ((1 : Int32), (sri (sri x 94 (ix l1) l2) 95 (ix l1) (0 : Int32))) else none else none
noncomputable def fX11_keep (x : aH) (p1 : Int32) (p2 : Int32) : Option (Int32 × aH) := (fX11_isShelf p1).bind fun q1_1 => if q1_1 = (0 : Int32) then some ((-1 : Int32), x) else if p2 = (-1 : Int32) then jX11_keep_22 x p1 p2 else (fX11_isBody x p2).bind fun q14_6 => if q14_6 = (0 : Int32) then some ((-1 : Int32), x) else jX11_keep_22 x p1 p2
theorem qX11_keep (Z : aZ) (y : aH) {x : aH} {p1 : Int32} {p2 : Int32} {q : (Int32 × aH)} (hf : fX11_keep x p1 p2 = some q) : CX false Z mX11_keep 2 [.ref 73, .int p1, .int p2] y x (RV (.int q.1) q.2) := by
  refine CX.of mokX11_keep (Nat.le_of_ble_eq_true rfl) ?_
  show TX _ _ _ _ _ _ _ _ [_, _, _] _
  delta fX11_keep at hf
  refine T_iload dX11_keep_0 rfl ?_
  obtain ⟨q1_1, hc1_1, hf⟩ := bind_t hf
  refine X_Sv (qX11_isShelf _ Z _ _ hc1_1) (Nat.le_of_ble_eq_true rfl) dX11_keep_1 lsX11_117 rfl rfl (Nat.le_of_ble_eq_true rfl) ?_
  refine T_if_eq dX11_keep_4 (fun c4_2 => ?_) (fun c4_2 => ?_)
  · replace hf := ite_t c4_2 hf
    refine T_const dX11_keep_20 ?_
    obtain rfl := Option.some.inj hf
    exact X_ri dX11_keep_21 ⟨rfl, rfl⟩
  · replace hf := ite_f c4_2 hf
    refine T_iload dX11_keep_7 rfl ?_
    refine T_const dX11_keep_8 ?_
    have J22 : ∀ (x : aH) (l1 : Int32) (l2 : Int32), jX11_keep_22 x l1 l2 = some q → TX false Z mX11_keep 2 y x (RV (.int q.1) q.2) 22 [.ref 73, .int l1, .int l2] [] := by
      intro x l1 l2 hf
      delta jX11_keep_22 at hf
      refine T_aload dX11_keep_22 rfl ?_
      refine X_getr dX11_keep_23 lfX11_70 rfl ob73 rfl ?_
      refine T_iload dX11_keep_26 rfl ?_
      refine T_iload dX11_keep_27 rfl ?_
      obtain ⟨hb28_3, hf⟩ := opt_t hf
      refine X_iast (N := 6) dX11_keep_28 ar94 rfl hb28_3 ?_
      refine T_aload dX11_keep_29 rfl ?_
      refine X_getr dX11_keep_30 lfX11_73 rfl ob73 rfl ?_
      refine T_iload dX11_keep_33 rfl ?_
      refine T_const dX11_keep_34 ?_
      obtain ⟨hb35_4, hf⟩ := opt_t hf
      refine X_iast (N := 6) dX11_keep_35 ar95 rfl hb35_4 ?_
      refine T_const dX11_keep_36 ?_
      obtain rfl := Option.some.inj hf
      exact X_ri dX11_keep_37 ⟨rfl, rfl⟩
    refine T_icmp_eq dX11_keep_9 (fun c9_5 => ?_) (fun c9_5 => ?_)
    · replace hf := ite_t c9_5 hf
      exact X_wk (WK.s (WK.s (WK.s WK.e))) (J22 _ _ _ hf)
    · replace hf := ite_f c9_5 hf
      refine T_aload dX11_keep_12 rfl ?_
      refine T_iload dX11_keep_13 rfl ?_
      obtain ⟨q14_6, hc14_6, hf⟩ := bind_t hf
      refine X_Vv (qX11_isBody Z _ hc14_6) (Nat.le_of_ble_eq_true rfl) dX11_keep_14 lvX11_356 rfl rfl ob73 (Nat.le_of_ble_eq_true rfl) ?_
      refine T_if_ne dX11_keep_17 (fun c17_7 => ?_) (fun c17_7 => ?_)
      · replace hf := ite_f c17_7 hf
        exact X_wk (WK.s (WK.s (WK.s WK.e))) (J22 _ _ _ hf)
      · replace hf := ite_t c17_7 hf
        refine T_const dX11_keep_20 ?_
        obtain rfl := Option.some.inj hf
        exact X_ri dX11_keep_21 ⟨rfl, rfl⟩
noncomputable def sX11_row_57 (l1 : Int32) (ih : aH → Int32 → Option aH) (x : aH) (l4 : Int32) : Option aH := if (((60 : Int32) * l1) + (60 : Int32)) ≤ l4 then some x else if (0 : Int32) ≤ l4 ∧ l4 < (360 : Int32) then ih (srj x 96 (ix l4) (0 : Int64)) (l4 + (1 : Int32)) else none
noncomputable def wX11_row_57 (l1 : Int32) : Nat → aH → Int32 → Option aH
  | 0 => fun _ _ => none
  | n + 1 => sX11_row_57 l1 (wX11_row_57 l1 n)
noncomputable def fX11_row (x : aH) (p1 : Int32) (p2 : Int32) (p3 : Int32) : Option (Int32 × aH) := (fX11_isShelf p1).bind fun q1_1 => if q1_1 = (0 : Int32) then some ((-1 : Int32), x) else (fX11_within (Int32.toInt64 p2) (0 : Int64) (4 : Int64)).bind fun q13_3 => if q13_3 = (0 : Int32) then some ((-1 : Int32), x) else if p3 ≤ (60 : Int32) then if (0 : Int32) ≤ p3 then if (0 : Int32) ≤ p1 ∧ p1 < (6 : Int32) then if (0 : Int32) ≤ p1 ∧ p1 < (6 : Int32) then (wX11_row_57 p1 2000 (sri (sri x 94 (ix p1) ((50 : Int32) + p2)) 95 (ix p1) p3) ((60 : Int32) * p1)).bind fun q57_11 => some ((1 : Int32), q57_11) else none else none else some ((-14 : Int32), x) else some ((-1 : Int32), x)
theorem lX11_row_57 (Z : aZ) (y : aH) (l1 : Int32) {Q : Option Value → aH → Prop} {R : aH} : ∀ (n : Nat) (x : aH) (l4 : Int32), wX11_row_57 l1 n x l4 = some R → (∀ q, R = q → TX false Z mX11_row 2 y q Q 83 [.null, .null, .null, .null, .null] []) → TX false Z mX11_row 2 y x Q 57 [.ref 73, .int l1, .null, .null, .int l4] [] := by
  intro n
  induction n with
  | zero => intro x l4 hf; cases hf
  | succ n ih =>
    intro x l4 hf ke
    replace hf : sX11_row_57 l1 (wX11_row_57 l1 n) x l4 = some R := hf
    delta sX11_row_57 at hf
    refine T_iload dX11_row_57 rfl ?_
    refine T_const dX11_row_59 ?_
    refine T_iload dX11_row_61 rfl ?_
    refine T_imul dX11_row_62 ?_
    refine T_const dX11_row_63 ?_
    refine T_iadd dX11_row_65 ?_
    refine T_icmp_ge dX11_row_66 (fun c66_9 => ?_) (fun c66_9 => ?_)
    · replace hf := ite_t c66_9 hf
      exact X_wk (WK.n (WK.n (WK.n (WK.n (WK.n WK.e))))) (ke x (Option.some.inj hf).symm)
    · replace hf := ite_f c66_9 hf
      refine T_aload dX11_row_69 rfl ?_
      refine X_getr dX11_row_70 lfX11_76 rfl ob73 rfl ?_
      refine T_iload dX11_row_73 rfl ?_
      refine T_constL dX11_row_75 ?_
      obtain ⟨hb76_10, hf⟩ := opt_t hf
      refine X_last (N := 360) dX11_row_76 ar96 rfl hb76_10 ?_
      refine T_iinc dX11_row_77 rfl ?_
      show TX _ _ _ _ _ _ _ _ [_, _, _, _, _] _
      refine T_goto dX11_row_80 ?_
      exact X_wk (WK.s (WK.s (WK.n (WK.n (WK.s WK.e))))) (ih _ _ hf ke)
theorem qX11_row (Z : aZ) (y : aH) {x : aH} {p1 : Int32} {p2 : Int32} {p3 : Int32} {q : (Int32 × aH)} (hf : fX11_row x p1 p2 p3 = some q) : CX false Z mX11_row 2 [.ref 73, .int p1, .int p2, .int p3] y x (RV (.int q.1) q.2) := by
  refine CX.of mokX11_row (Nat.le_of_ble_eq_true rfl) ?_
  show TX _ _ _ _ _ _ _ _ [_, _, _, _, _] _
  delta fX11_row at hf
  refine T_iload dX11_row_0 rfl ?_
  obtain ⟨q1_1, hc1_1, hf⟩ := bind_t hf
  refine X_Sv (qX11_isShelf _ Z _ _ hc1_1) (Nat.le_of_ble_eq_true rfl) dX11_row_1 lsX11_117 rfl rfl (Nat.le_of_ble_eq_true rfl) ?_
  refine T_if_eq dX11_row_4 (fun c4_2 => ?_) (fun c4_2 => ?_)
  · replace hf := ite_t c4_2 hf
    refine T_const dX11_row_25 ?_
    obtain rfl := Option.some.inj hf
    exact X_ri dX11_row_26 ⟨rfl, rfl⟩
  · replace hf := ite_f c4_2 hf
    refine T_iload dX11_row_7 rfl ?_
    refine T_i2l dX11_row_8 ?_
    refine T_constL dX11_row_9 ?_
    refine T_constL dX11_row_10 ?_
    obtain ⟨q13_3, hc13_3, hf⟩ := bind_t hf
    refine X_Sv (qX11_within _ Z _ _ hc13_3) (Nat.le_of_ble_eq_true rfl) dX11_row_13 lsX11_96 rfl rfl (Nat.le_of_ble_eq_true rfl) ?_
    refine T_if_eq dX11_row_16 (fun c16_4 => ?_) (fun c16_4 => ?_)
    · replace hf := ite_t c16_4 hf
      refine T_const dX11_row_25 ?_
      obtain rfl := Option.some.inj hf
      exact X_ri dX11_row_26 ⟨rfl, rfl⟩
    · replace hf := ite_f c16_4 hf
      refine T_iload dX11_row_19 rfl ?_
      refine T_const dX11_row_20 ?_
      refine T_icmp_le dX11_row_22 (fun c22_5 => ?_) (fun c22_5 => ?_)
      · replace hf := ite_t c22_5 hf
        refine T_iload dX11_row_27 rfl ?_
        refine T_if_ge dX11_row_28 (fun c28_6 => ?_) (fun c28_6 => ?_)
        · replace hf := ite_t c28_6 hf
          refine T_aload dX11_row_34 rfl ?_
          refine X_getr dX11_row_35 lfX11_70 rfl ob73 rfl ?_
          refine T_iload dX11_row_38 rfl ?_
          refine T_const dX11_row_39 ?_
          refine T_iload dX11_row_41 rfl ?_
          refine T_iadd dX11_row_42 ?_
          obtain ⟨hb43_7, hf⟩ := opt_t hf
          refine X_iast (N := 6) dX11_row_43 ar94 rfl hb43_7 ?_
          refine T_aload dX11_row_44 rfl ?_
          refine X_getr dX11_row_45 lfX11_73 rfl ob73 rfl ?_
          refine T_iload dX11_row_48 rfl ?_
          refine T_iload dX11_row_49 rfl ?_
          obtain ⟨hb50_8, hf⟩ := opt_t hf
          refine X_iast (N := 6) dX11_row_50 ar95 rfl hb50_8 ?_
          refine T_const dX11_row_51 ?_
          refine T_iload dX11_row_53 rfl ?_
          refine T_imul dX11_row_54 ?_
          refine T_istore dX11_row_55 ?_
          show TX _ _ _ _ _ _ _ _ [_, _, _, _, _] _
          obtain ⟨q57_11, hc57_11, hf⟩ := bind_t hf
          refine X_wk (WK.s (WK.s (WK.n (WK.n (WK.s WK.e))))) (lX11_row_57 Z _ _ 2000 _ _ hc57_11 ?_)
          intro q57_11z hr
          subst hr
          refine T_const dX11_row_83 ?_
          obtain rfl := Option.some.inj hf
          exact X_ri dX11_row_84 ⟨rfl, rfl⟩
        · replace hf := ite_f c28_6 hf
          refine T_const dX11_row_31 ?_
          obtain rfl := Option.some.inj hf
          exact X_ri dX11_row_33 ⟨rfl, rfl⟩
      · replace hf := ite_f c22_5 hf
        refine T_const dX11_row_25 ?_
        obtain rfl := Option.some.inj hf
        exact X_ri dX11_row_26 ⟨rfl, rfl⟩
noncomputable def fX11_refusal (x : aH) (p1 : Int32) (p2 : Int32) : Option Int32 := (fX11_isShelf p1).bind fun q1_1 => if q1_1 = (0 : Int32) then some (-1 : Int32) else if (0 : Int32) ≤ p1 ∧ p1 < (6 : Int32) then if (0 : Int32) ≤ (ri x 94 (ix p1)) then if (0 : Int32) ≤ p1 ∧ p1 < (6 : Int32) then if (50 : Int32) ≤ (ri x 94 (ix p1)) then if p2 < (0 : Int32) then some (-13 : Int32) else if (0 : Int32) ≤ p1 ∧ p1 < (6 : Int32) then if (ri x 95 (ix p1)) ≤ p2 then some (-13 : Int32) else some (0 : Int32) else none else some (-12 : Int32) else none else some (-11 : Int32) else none
theorem qX11_refusal (Z : aZ) (y : aH) {x : aH} {p1 : Int32} {p2 : Int32} {q : Int32} (hf : fX11_refusal x p1 p2 = some q) : CX false Z mX11_refusal 2 [.ref 73, .int p1, .int p2] y x (RV (.int q) x) := by
  refine CX.of mokX11_refusal (Nat.le_of_ble_eq_true rfl) ?_
  show TX _ _ _ _ _ _ _ _ [_, _, _] _
  delta fX11_refusal at hf
  refine T_iload dX11_refusal_0 rfl ?_
  obtain ⟨q1_1, hc1_1, hf⟩ := bind_t hf
  refine X_Sv (qX11_isShelf _ Z _ _ hc1_1) (Nat.le_of_ble_eq_true rfl) dX11_refusal_1 lsX11_117 rfl rfl (Nat.le_of_ble_eq_true rfl) ?_
  refine T_if_ne dX11_refusal_4 (fun c4_2 => ?_) (fun c4_2 => ?_)
  · replace hf := ite_f c4_2 hf
    refine T_aload dX11_refusal_9 rfl ?_
    refine X_getr dX11_refusal_10 lfX11_70 rfl ob73 rfl ?_
    refine T_iload dX11_refusal_13 rfl ?_
    obtain ⟨hb14_3, hf⟩ := opt_t hf
    refine X_iald (N := 6) dX11_refusal_14 ar94 rfl hb14_3 ?_
    refine T_if_ge dX11_refusal_15 (fun c15_4 => ?_) (fun c15_4 => ?_)
    · replace hf := ite_t c15_4 hf
      refine T_aload dX11_refusal_21 rfl ?_
      refine X_getr dX11_refusal_22 lfX11_70 rfl ob73 rfl ?_
      refine T_iload dX11_refusal_25 rfl ?_
      obtain ⟨hb26_5, hf⟩ := opt_t hf
      refine X_iald (N := 6) dX11_refusal_26 ar94 rfl hb26_5 ?_
      refine T_const dX11_refusal_27 ?_
      refine T_icmp_ge dX11_refusal_29 (fun c29_6 => ?_) (fun c29_6 => ?_)
      · replace hf := ite_t c29_6 hf
        refine T_iload dX11_refusal_35 rfl ?_
        refine T_if_lt dX11_refusal_36 (fun c36_7 => ?_) (fun c36_7 => ?_)
        · replace hf := ite_t c36_7 hf
          refine T_const dX11_refusal_53 ?_
          obtain rfl := Option.some.inj hf
          exact X_ri dX11_refusal_55 ⟨rfl, rfl⟩
        · replace hf := ite_f c36_7 hf
          refine T_iload dX11_refusal_39 rfl ?_
          refine T_aload dX11_refusal_40 rfl ?_
          refine X_getr dX11_refusal_41 lfX11_73 rfl ob73 rfl ?_
          refine T_iload dX11_refusal_44 rfl ?_
          obtain ⟨hb45_8, hf⟩ := opt_t hf
          refine X_iald (N := 6) dX11_refusal_45 ar95 rfl hb45_8 ?_
          refine T_icmp_ge dX11_refusal_46 (fun c46_9 => ?_) (fun c46_9 => ?_)
          · replace hf := ite_t c46_9 hf
            refine T_const dX11_refusal_53 ?_
            obtain rfl := Option.some.inj hf
            exact X_ri dX11_refusal_55 ⟨rfl, rfl⟩
          · replace hf := ite_f c46_9 hf
            refine T_const dX11_refusal_49 ?_
            refine T_goto dX11_refusal_50 ?_
            obtain rfl := Option.some.inj hf
            exact X_ri dX11_refusal_55 ⟨rfl, rfl⟩
      · replace hf := ite_f c29_6 hf
        refine T_const dX11_refusal_32 ?_
        obtain rfl := Option.some.inj hf
        exact X_ri dX11_refusal_34 ⟨rfl, rfl⟩
    · replace hf := ite_f c15_4 hf
      refine T_const dX11_refusal_18 ?_
      obtain rfl := Option.some.inj hf
      exact X_ri dX11_refusal_20 ⟨rfl, rfl⟩
  · replace hf := ite_t c4_2 hf
    refine T_const dX11_refusal_7 ?_
    obtain rfl := Option.some.inj hf
    exact X_ri dX11_refusal_8 ⟨rfl, rfl⟩
noncomputable def fX11_asSort (p0 : Int32) (p1 : Int64) : Option Int64 := if p0 = (0 : Int32) then some (Int32.toInt64 (Int8.toInt32 (Int32.toInt8 (Int64.toInt32 p1)))) else if p0 = (1 : Int32) then some (Int32.toInt64 (Int16.toInt32 (Int32.toInt16 (Int64.toInt32 p1)))) else if p0 = (2 : Int32) then some (Int32.toInt64 (Int64.toInt32 p1)) else if p0 = (4 : Int32) then if (lg_cmp p1 (0 : Int64)) = (0 : Int32) then some (0 : Int64) else some (1 : Int64) else some p1
theorem qX11_asSort (sd : Bool) (Z : aZ) (y : aH) (x : aH) {p0 : Int32} {p1 : Int64} {q : Int64} (hf : fX11_asSort p0 p1 = some q) : CX sd Z mX11_asSort 0 [.int p0, .long p1] y x (RV (.long q) x) := by
  refine CX.of mokX11_asSort (Nat.le_of_ble_eq_true rfl) ?_
  show TX _ _ _ _ _ _ _ _ [_, _, _] _
  delta fX11_asSort at hf
  refine T_iload dX11_asSort_0 rfl ?_
  refine T_if_ne dX11_asSort_1 (fun c1_1 => ?_) (fun c1_1 => ?_)
  · replace hf := ite_f c1_1 hf
    refine T_iload dX11_asSort_11 rfl ?_
    refine T_const dX11_asSort_12 ?_
    refine T_icmp_ne dX11_asSort_13 (fun c13_2 => ?_) (fun c13_2 => ?_)
    · replace hf := ite_f c13_2 hf
      refine T_iload dX11_asSort_23 rfl ?_
      refine T_const dX11_asSort_24 ?_
      refine T_icmp_ne dX11_asSort_25 (fun c25_3 => ?_) (fun c25_3 => ?_)
      · replace hf := ite_f c25_3 hf
        refine T_iload dX11_asSort_34 rfl ?_
        refine T_const dX11_asSort_35 ?_
        refine T_icmp_ne dX11_asSort_36 (fun c36_4 => ?_) (fun c36_4 => ?_)
        · replace hf := ite_f c36_4 hf
          refine T_lload dX11_asSort_53 rfl ?_
          obtain rfl := Option.some.inj hf
          exact X_rl dX11_asSort_54 ⟨rfl, rfl⟩
        · replace hf := ite_t c36_4 hf
          refine T_lload dX11_asSort_39 rfl ?_
          refine T_constL dX11_asSort_40 ?_
          refine T_lcmp dX11_asSort_41 ?_
          refine T_if_eq dX11_asSort_42 (fun c42_5 => ?_) (fun c42_5 => ?_)
          · replace hf := ite_t c42_5 hf
            refine T_constL dX11_asSort_49 ?_
            refine T_goto dX11_asSort_50 ?_
            obtain rfl := Option.some.inj hf
            exact X_rl dX11_asSort_54 ⟨rfl, rfl⟩
          · replace hf := ite_f c42_5 hf
            refine T_constL dX11_asSort_45 ?_
            refine T_goto dX11_asSort_46 ?_
            obtain rfl := Option.some.inj hf
            exact X_rl dX11_asSort_54 ⟨rfl, rfl⟩
      · replace hf := ite_t c25_3 hf
        refine T_lload dX11_asSort_28 rfl ?_
        refine T_l2i dX11_asSort_29 ?_
        refine T_i2l dX11_asSort_30 ?_
        refine T_goto dX11_asSort_31 ?_
        obtain rfl := Option.some.inj hf
        exact X_rl dX11_asSort_54 ⟨rfl, rfl⟩
    · replace hf := ite_t c13_2 hf
      refine T_lload dX11_asSort_16 rfl ?_
      refine T_l2i dX11_asSort_17 ?_
      refine T_i2s dX11_asSort_18 ?_
      refine T_i2l dX11_asSort_19 ?_
      refine T_goto dX11_asSort_20 ?_
      obtain rfl := Option.some.inj hf
      exact X_rl dX11_asSort_54 ⟨rfl, rfl⟩
  · replace hf := ite_t c1_1 hf
    refine T_lload dX11_asSort_4 rfl ?_
    refine T_l2i dX11_asSort_5 ?_
    refine T_i2b dX11_asSort_6 ?_
    refine T_i2l dX11_asSort_7 ?_
    refine T_goto dX11_asSort_8 ?_
    obtain rfl := Option.some.inj hf
    exact X_rl dX11_asSort_54 ⟨rfl, rfl⟩
noncomputable def jX11_put_37 (x : aH) (l5 : Int32) : Option (Int32 × aH) := if l5 = (0 : Int32) then some ((1 : Int32), x) else some (l5, x)
noncomputable def fX11_put (x : aH) (p1 : Int32) (p2 : Int32) (p3 : Int64) : Option (Int32 × aH) := (fX11_refusal x p1 p2).bind fun q3_1 => if q3_1 = (0 : Int32) then if (0 : Int32) ≤ p1 ∧ p1 < (6 : Int32) then (fX11_asSort ((ri x 94 (ix p1)) - (50 : Int32)) p3).bind fun q33_5 => if (0 : Int32) ≤ (((60 : Int32) * p1) + p2) ∧ (((60 : Int32) * p1) + p2) < (360 : Int32) then jX11_put_37 (srj x 96 (ix (((60 : Int32) * p1) + p2)) q33_5) q3_1 else none else none else jX11_put_37 x q3_1
theorem qX11_put (Z : aZ) (y : aH) {x : aH} {p1 : Int32} {p2 : Int32} {p3 : Int64} {q : (Int32 × aH)} (hf : fX11_put x p1 p2 p3 = some q) : CX false Z mX11_put 3 [.ref 73, .int p1, .int p2, .long p3] y x (RV (.int q.1) q.2) := by
  refine CX.of mokX11_put (Nat.le_of_ble_eq_true rfl) ?_
  show TX _ _ _ _ _ _ _ _ [_, _, _, _, _, _] _
  delta fX11_put at hf
  refine T_aload dX11_put_0 rfl ?_
  refine T_iload dX11_put_1 rfl ?_
  refine T_iload dX11_put_2 rfl ?_
  obtain ⟨q3_1, hc3_1, hf⟩ := bind_t hf
  refine X_Vv (qX11_refusal Z _ hc3_1) (Nat.le_of_ble_eq_true rfl) dX11_put_3 lvX11_359 rfl rfl ob73 (Nat.le_of_ble_eq_true rfl) ?_
  refine T_istore dX11_put_6 ?_
  show TX _ _ _ _ _ _ _ _ [_, _, _, _, _, _] _
  refine T_iload dX11_put_8 rfl ?_
  have J37 : ∀ (x : aH) (l5 : Int32), jX11_put_37 x l5 = some q → TX false Z mX11_put 3 y x (RV (.int q.1) q.2) 37 [.null, .null, .null, .null, .null, .int l5] [] := by
    intro x l5 hf
    delta jX11_put_37 at hf
    refine T_iload dX11_put_37 rfl ?_
    refine T_if_ne dX11_put_39 (fun c39_2 => ?_) (fun c39_2 => ?_)
    · replace hf := ite_f c39_2 hf
      refine T_iload dX11_put_46 rfl ?_
      obtain rfl := Option.some.inj hf
      exact X_ri dX11_put_48 ⟨rfl, rfl⟩
    · replace hf := ite_t c39_2 hf
      refine T_const dX11_put_42 ?_
      refine T_goto dX11_put_43 ?_
      obtain rfl := Option.some.inj hf
      exact X_ri dX11_put_48 ⟨rfl, rfl⟩
  refine T_if_ne dX11_put_10 (fun c10_3 => ?_) (fun c10_3 => ?_)
  · replace hf := ite_f c10_3 hf
    exact X_wk (WK.n (WK.n (WK.n (WK.n (WK.n (WK.s WK.e)))))) (J37 _ _ hf)
  · replace hf := ite_t c10_3 hf
    refine T_aload dX11_put_13 rfl ?_
    refine X_getr dX11_put_14 lfX11_76 rfl ob73 rfl ?_
    refine T_const dX11_put_17 ?_
    refine T_iload dX11_put_19 rfl ?_
    refine T_imul dX11_put_20 ?_
    refine T_iload dX11_put_21 rfl ?_
    refine T_iadd dX11_put_22 ?_
    refine T_aload dX11_put_23 rfl ?_
    refine X_getr dX11_put_24 lfX11_70 rfl ob73 rfl ?_
    refine T_iload dX11_put_27 rfl ?_
    obtain ⟨hb28_4, hf⟩ := opt_t hf
    refine X_iald (N := 6) dX11_put_28 ar94 rfl hb28_4 ?_
    refine T_const dX11_put_29 ?_
    refine T_isub dX11_put_31 ?_
    refine T_lload dX11_put_32 rfl ?_
    obtain ⟨q33_5, hc33_5, hf⟩ := bind_t hf
    refine X_Sv (qX11_asSort _ Z _ _ hc33_5) (Nat.le_of_ble_eq_true rfl) dX11_put_33 lsX11_362 rfl rfl (Nat.le_of_ble_eq_true rfl) ?_
    obtain ⟨hb36_6, hf⟩ := opt_t hf
    refine X_last (N := 360) dX11_put_36 ar96 rfl hb36_6 ?_
    exact X_wk (WK.n (WK.n (WK.n (WK.n (WK.n (WK.s WK.e)))))) (J37 _ _ hf)
noncomputable def fX11_element (x : aH) (p1 : Int32) (p2 : Int32) : Option Int64 := (fX11_refusal x p1 p2).bind fun q3_1 => if q3_1 = (0 : Int32) then if (0 : Int32) ≤ (((60 : Int32) * p1) + p2) ∧ (((60 : Int32) * p1) + p2) < (360 : Int32) then some (rj x 96 (ix (((60 : Int32) * p1) + p2))) else none else some (-9223372036854775808 : Int64)
theorem qX11_element (Z : aZ) (y : aH) {x : aH} {p1 : Int32} {p2 : Int32} {q : Int64} (hf : fX11_element x p1 p2 = some q) : CX false Z mX11_element 3 [.ref 73, .int p1, .int p2] y x (RV (.long q) x) := by
  refine CX.of mokX11_element (Nat.le_of_ble_eq_true rfl) ?_
  show TX _ _ _ _ _ _ _ _ [_, _, _] _
  delta fX11_element at hf
  refine T_aload dX11_element_0 rfl ?_
  refine T_iload dX11_element_1 rfl ?_
  refine T_iload dX11_element_2 rfl ?_
  obtain ⟨q3_1, hc3_1, hf⟩ := bind_t hf
  refine X_Vv (qX11_refusal Z _ hc3_1) (Nat.le_of_ble_eq_true rfl) dX11_element_3 lvX11_359 rfl rfl ob73 (Nat.le_of_ble_eq_true rfl) ?_
  refine T_if_eq dX11_element_6 (fun c6_2 => ?_) (fun c6_2 => ?_)
  · replace hf := ite_t c6_2 hf
    refine T_aload dX11_element_15 rfl ?_
    refine X_getr dX11_element_16 lfX11_76 rfl ob73 rfl ?_
    refine T_const dX11_element_19 ?_
    refine T_iload dX11_element_21 rfl ?_
    refine T_imul dX11_element_22 ?_
    refine T_iload dX11_element_23 rfl ?_
    refine T_iadd dX11_element_24 ?_
    obtain ⟨hb25_3, hf⟩ := opt_t hf
    refine X_lald (N := 360) dX11_element_25 ar96 rfl hb25_3 ?_
    obtain rfl := Option.some.inj hf
    exact X_rl dX11_element_26 ⟨rfl, rfl⟩
  · replace hf := ite_f c6_2 hf
    refine T_constL dX11_element_9 ?_
    refine T_goto dX11_element_12 ?_
    obtain rfl := Option.some.inj hf
    exact X_rl dX11_element_26 ⟨rfl, rfl⟩
noncomputable def sX11_shift_113 (l1 : Int32) (l2 : Int32) (l3 : Int32) (l4 : Int32) (l5 : Int32) (ih : aH → Int32 → Option aH) (x : aH) (l6 : Int32) : Option aH := if l5 ≤ l6 then some x else if (0 : Int32) ≤ ((((60 : Int32) * l1) + l2) + l6) ∧ ((((60 : Int32) * l1) + l2) + l6) < (360 : Int32) then if (0 : Int32) ≤ l6 ∧ l6 < (60 : Int32) then ih (srj x 97 (ix l6) (rj x 96 (ix ((((60 : Int32) * l1) + l2) + l6)))) (l6 + (1 : Int32)) else none else none
noncomputable def wX11_shift_113 (l1 : Int32) (l2 : Int32) (l3 : Int32) (l4 : Int32) (l5 : Int32) : Nat → aH → Int32 → Option aH
  | 0 => fun _ _ => none
  | n + 1 => sX11_shift_113 l1 l2 l3 l4 l5 (wX11_shift_113 l1 l2 l3 l4 l5 n)
noncomputable def sX11_shift_150 (l3 : Int32) (l4 : Int32) (l5 : Int32) (ih : aH → Int32 → Option aH) (x : aH) (l6 : Int32) : Option aH := if l5 ≤ l6 then some x else if (0 : Int32) ≤ l6 ∧ l6 < (60 : Int32) then if (0 : Int32) ≤ ((((60 : Int32) * l3) + l4) + l6) ∧ ((((60 : Int32) * l3) + l4) + l6) < (360 : Int32) then ih (srj x 96 (ix ((((60 : Int32) * l3) + l4) + l6)) (rj x 97 (ix l6))) (l6 + (1 : Int32)) else none else none
noncomputable def wX11_shift_150 (l3 : Int32) (l4 : Int32) (l5 : Int32) : Nat → aH → Int32 → Option aH
  | 0 => fun _ _ => none
  | n + 1 => sX11_shift_150 l3 l4 l5 (wX11_shift_150 l3 l4 l5 n)
noncomputable def fX11_shift (x : aH) (p1 : Int32) (p2 : Int32) (p3 : Int32) (p4 : Int32) (p5 : Int32) : Option (Int32 × aH) := (fX11_isShelf p1).bind fun q1_1 => if q1_1 = (0 : Int32) then some ((-1 : Int32), x) else (fX11_isShelf p3).bind fun q8_3 => if q8_3 = (0 : Int32) then some ((-1 : Int32), x) else if (0 : Int32) ≤ p1 ∧ p1 < (6 : Int32) then if (ri x 94 (ix p1)) < (0 : Int32) then some ((-11 : Int32), x) else if (0 : Int32) ≤ p3 ∧ p3 < (6 : Int32) then if (0 : Int32) ≤ (ri x 94 (ix p3)) then if (0 : Int32) ≤ p1 ∧ p1 < (6 : Int32) then if (ri x 94 (ix p1)) < (50 : Int32) then some ((-12 : Int32), x) else if (0 : Int32) ≤ p1 ∧ p1 < (6 : Int32) then if (0 : Int32) ≤ p3 ∧ p3 < (6 : Int32) then if (ri x 94 (ix p1)) = (ri x 94 (ix p3)) then if p5 < (0 : Int32) then some ((-13 : Int32), x) else if p2 < (0 : Int32) then some ((-13 : Int32), x) else if p4 < (0 : Int32) then some ((-13 : Int32), x) else if (0 : Int32) ≤ p1 ∧ p1 < (6 : Int32) then if ((ri x 95 (ix p1)) - p5) < p2 then some ((-13 : Int32), x) else if (0 : Int32) ≤ p3 ∧ p3 < (6 : Int32) then if p4 ≤ ((ri x 95 (ix p3)) - p5) then (wX11_shift_113 p1 p2 p3 p4 p5 2000 x (0 : Int32)).bind fun q113_24 => (wX11_shift_150 p3 p4 p5 2000 q113_24 (0 : Int32)).bind fun q150_28 => some (p5, q150_28) else some ((-13 : Int32), x) else none else none else some ((-12 : Int32), x) else none else none else none else some ((-11 : Int32), x) else none else none
theorem lX11_shift_113 (Z : aZ) (y : aH) (l1 : Int32) (l2 : Int32) (l3 : Int32) (l4 : Int32) (l5 : Int32) {Q : Option Value → aH → Prop} {R : aH} : ∀ (n : Nat) (x : aH) (l6 : Int32), wX11_shift_113 l1 l2 l3 l4 l5 n x l6 = some R → (∀ q, R = q → TX false Z mX11_shift 2 y q Q 147 [.ref 73, .null, .null, .int l3, .int l4, .int l5, .null] []) → TX false Z mX11_shift 2 y x Q 113 [.ref 73, .int l1, .int l2, .int l3, .int l4, .int l5, .int l6] [] := by
  intro n
  induction n with
  | zero => intro x l6 hf; cases hf
  | succ n ih =>
    intro x l6 hf ke
    replace hf : sX11_shift_113 l1 l2 l3 l4 l5 (wX11_shift_113 l1 l2 l3 l4 l5 n) x l6 = some R := hf
    delta sX11_shift_113 at hf
    refine T_iload dX11_shift_113 rfl ?_
    refine T_iload dX11_shift_115 rfl ?_
    refine T_icmp_ge dX11_shift_117 (fun c117_21 => ?_) (fun c117_21 => ?_)
    · replace hf := ite_t c117_21 hf
      exact X_wk (WK.s (WK.n (WK.n (WK.s (WK.s (WK.s (WK.n WK.e))))))) (ke x (Option.some.inj hf).symm)
    · replace hf := ite_f c117_21 hf
      refine T_aload dX11_shift_120 rfl ?_
      refine X_getr dX11_shift_121 lfX11_80 rfl ob73 rfl ?_
      refine T_iload dX11_shift_124 rfl ?_
      refine T_aload dX11_shift_126 rfl ?_
      refine X_getr dX11_shift_127 lfX11_76 rfl ob73 rfl ?_
      refine T_const dX11_shift_130 ?_
      refine T_iload dX11_shift_132 rfl ?_
      refine T_imul dX11_shift_133 ?_
      refine T_iload dX11_shift_134 rfl ?_
      refine T_iadd dX11_shift_135 ?_
      refine T_iload dX11_shift_136 rfl ?_
      refine T_iadd dX11_shift_138 ?_
      obtain ⟨hb139_22, hf⟩ := opt_t hf
      refine X_lald (N := 360) dX11_shift_139 ar96 rfl hb139_22 ?_
      obtain ⟨hb140_23, hf⟩ := opt_t hf
      refine X_last (N := 60) dX11_shift_140 ar97 rfl hb140_23 ?_
      refine T_iinc dX11_shift_141 rfl ?_
      show TX _ _ _ _ _ _ _ _ [_, _, _, _, _, _, _] _
      refine T_goto dX11_shift_144 ?_
      exact X_wk (WK.s (WK.s (WK.s (WK.s (WK.s (WK.s (WK.s WK.e))))))) (ih _ _ hf ke)
theorem lX11_shift_150 (Z : aZ) (y : aH) (l3 : Int32) (l4 : Int32) (l5 : Int32) {Q : Option Value → aH → Prop} {R : aH} : ∀ (n : Nat) (x : aH) (l6 : Int32), wX11_shift_150 l3 l4 l5 n x l6 = some R → (∀ q, R = q → TX false Z mX11_shift 2 y q Q 185 [.null, .null, .null, .null, .null, .int l5, .null] []) → TX false Z mX11_shift 2 y x Q 150 [.ref 73, .null, .null, .int l3, .int l4, .int l5, .int l6] [] := by
  intro n
  induction n with
  | zero => intro x l6 hf; cases hf
  | succ n ih =>
    intro x l6 hf ke
    replace hf : sX11_shift_150 l3 l4 l5 (wX11_shift_150 l3 l4 l5 n) x l6 = some R := hf
    delta sX11_shift_150 at hf
    refine T_iload dX11_shift_150 rfl ?_
    refine T_iload dX11_shift_152 rfl ?_
    refine T_icmp_ge dX11_shift_154 (fun c154_25 => ?_) (fun c154_25 => ?_)
    · replace hf := ite_t c154_25 hf
      exact X_wk (WK.n (WK.n (WK.n (WK.n (WK.n (WK.s (WK.n WK.e))))))) (ke x (Option.some.inj hf).symm)
    · replace hf := ite_f c154_25 hf
      refine T_aload dX11_shift_157 rfl ?_
      refine X_getr dX11_shift_158 lfX11_76 rfl ob73 rfl ?_
      refine T_const dX11_shift_161 ?_
      refine T_iload dX11_shift_163 rfl ?_
      refine T_imul dX11_shift_164 ?_
      refine T_iload dX11_shift_165 rfl ?_
      refine T_iadd dX11_shift_167 ?_
      refine T_iload dX11_shift_168 rfl ?_
      refine T_iadd dX11_shift_170 ?_
      refine T_aload dX11_shift_171 rfl ?_
      refine X_getr dX11_shift_172 lfX11_80 rfl ob73 rfl ?_
      refine T_iload dX11_shift_175 rfl ?_
      obtain ⟨hb177_26, hf⟩ := opt_t hf
      refine X_lald (N := 60) dX11_shift_177 ar97 rfl hb177_26 ?_
      obtain ⟨hb178_27, hf⟩ := opt_t hf
      refine X_last (N := 360) dX11_shift_178 ar96 rfl hb178_27 ?_
      refine T_iinc dX11_shift_179 rfl ?_
      show TX _ _ _ _ _ _ _ _ [_, _, _, _, _, _, _] _
      refine T_goto dX11_shift_182 ?_
      exact X_wk (WK.s (WK.n (WK.n (WK.s (WK.s (WK.s (WK.s WK.e))))))) (ih _ _ hf ke)
theorem qX11_shift (Z : aZ) (y : aH) {x : aH} {p1 : Int32} {p2 : Int32} {p3 : Int32} {p4 : Int32} {p5 : Int32} {q : (Int32 × aH)} (hf : fX11_shift x p1 p2 p3 p4 p5 = some q) : CX false Z mX11_shift 2 [.ref 73, .int p1, .int p2, .int p3, .int p4, .int p5] y x (RV (.int q.1) q.2) := by
  refine CX.of mokX11_shift (Nat.le_of_ble_eq_true rfl) ?_
  show TX _ _ _ _ _ _ _ _ [_, _, _, _, _, _, _] _
  delta fX11_shift at hf
  refine T_iload dX11_shift_0 rfl ?_
  obtain ⟨q1_1, hc1_1, hf⟩ := bind_t hf
  refine X_Sv (qX11_isShelf _ Z _ _ hc1_1) (Nat.le_of_ble_eq_true rfl) dX11_shift_1 lsX11_117 rfl rfl (Nat.le_of_ble_eq_true rfl) ?_
  refine T_if_eq dX11_shift_4 (fun c4_2 => ?_) (fun c4_2 => ?_)
  · replace hf := ite_t c4_2 hf
    refine T_const dX11_shift_14 ?_
    obtain rfl := Option.some.inj hf
    exact X_ri dX11_shift_15 ⟨rfl, rfl⟩
  · replace hf := ite_f c4_2 hf
    refine T_iload dX11_shift_7 rfl ?_
    obtain ⟨q8_3, hc8_3, hf⟩ := bind_t hf
    refine X_Sv (qX11_isShelf _ Z _ _ hc8_3) (Nat.le_of_ble_eq_true rfl) dX11_shift_8 lsX11_117 rfl rfl (Nat.le_of_ble_eq_true rfl) ?_
    refine T_if_ne dX11_shift_11 (fun c11_4 => ?_) (fun c11_4 => ?_)
    · replace hf := ite_f c11_4 hf
      refine T_aload dX11_shift_16 rfl ?_
      refine X_getr dX11_shift_17 lfX11_70 rfl ob73 rfl ?_
      refine T_iload dX11_shift_20 rfl ?_
      obtain ⟨hb21_5, hf⟩ := opt_t hf
      refine X_iald (N := 6) dX11_shift_21 ar94 rfl hb21_5 ?_
      refine T_if_lt dX11_shift_22 (fun c22_6 => ?_) (fun c22_6 => ?_)
      · replace hf := ite_t c22_6 hf
        refine T_const dX11_shift_34 ?_
        obtain rfl := Option.some.inj hf
        exact X_ri dX11_shift_36 ⟨rfl, rfl⟩
      · replace hf := ite_f c22_6 hf
        refine T_aload dX11_shift_25 rfl ?_
        refine X_getr dX11_shift_26 lfX11_70 rfl ob73 rfl ?_
        refine T_iload dX11_shift_29 rfl ?_
        obtain ⟨hb30_7, hf⟩ := opt_t hf
        refine X_iald (N := 6) dX11_shift_30 ar94 rfl hb30_7 ?_
        refine T_if_ge dX11_shift_31 (fun c31_8 => ?_) (fun c31_8 => ?_)
        · replace hf := ite_t c31_8 hf
          refine T_aload dX11_shift_37 rfl ?_
          refine X_getr dX11_shift_38 lfX11_70 rfl ob73 rfl ?_
          refine T_iload dX11_shift_41 rfl ?_
          obtain ⟨hb42_9, hf⟩ := opt_t hf
          refine X_iald (N := 6) dX11_shift_42 ar94 rfl hb42_9 ?_
          refine T_const dX11_shift_43 ?_
          refine T_icmp_lt dX11_shift_45 (fun c45_10 => ?_) (fun c45_10 => ?_)
          · replace hf := ite_t c45_10 hf
            refine T_const dX11_shift_63 ?_
            obtain rfl := Option.some.inj hf
            exact X_ri dX11_shift_65 ⟨rfl, rfl⟩
          · replace hf := ite_f c45_10 hf
            refine T_aload dX11_shift_48 rfl ?_
            refine X_getr dX11_shift_49 lfX11_70 rfl ob73 rfl ?_
            refine T_iload dX11_shift_52 rfl ?_
            obtain ⟨hb53_11, hf⟩ := opt_t hf
            refine X_iald (N := 6) dX11_shift_53 ar94 rfl hb53_11 ?_
            refine T_aload dX11_shift_54 rfl ?_
            refine X_getr dX11_shift_55 lfX11_70 rfl ob73 rfl ?_
            refine T_iload dX11_shift_58 rfl ?_
            obtain ⟨hb59_12, hf⟩ := opt_t hf
            refine X_iald (N := 6) dX11_shift_59 ar94 rfl hb59_12 ?_
            refine T_icmp_eq dX11_shift_60 (fun c60_13 => ?_) (fun c60_13 => ?_)
            · replace hf := ite_t c60_13 hf
              refine T_iload dX11_shift_66 rfl ?_
              refine T_if_lt dX11_shift_68 (fun c68_14 => ?_) (fun c68_14 => ?_)
              · replace hf := ite_t c68_14 hf
                refine T_const dX11_shift_107 ?_
                obtain rfl := Option.some.inj hf
                exact X_ri dX11_shift_109 ⟨rfl, rfl⟩
              · replace hf := ite_f c68_14 hf
                refine T_iload dX11_shift_71 rfl ?_
                refine T_if_lt dX11_shift_72 (fun c72_15 => ?_) (fun c72_15 => ?_)
                · replace hf := ite_t c72_15 hf
                  refine T_const dX11_shift_107 ?_
                  obtain rfl := Option.some.inj hf
                  exact X_ri dX11_shift_109 ⟨rfl, rfl⟩
                · replace hf := ite_f c72_15 hf
                  refine T_iload dX11_shift_75 rfl ?_
                  refine T_if_lt dX11_shift_77 (fun c77_16 => ?_) (fun c77_16 => ?_)
                  · replace hf := ite_t c77_16 hf
                    refine T_const dX11_shift_107 ?_
                    obtain rfl := Option.some.inj hf
                    exact X_ri dX11_shift_109 ⟨rfl, rfl⟩
                  · replace hf := ite_f c77_16 hf
                    refine T_iload dX11_shift_80 rfl ?_
                    refine T_aload dX11_shift_81 rfl ?_
                    refine X_getr dX11_shift_82 lfX11_73 rfl ob73 rfl ?_
                    refine T_iload dX11_shift_85 rfl ?_
                    obtain ⟨hb86_17, hf⟩ := opt_t hf
                    refine X_iald (N := 6) dX11_shift_86 ar95 rfl hb86_17 ?_
                    refine T_iload dX11_shift_87 rfl ?_
                    refine T_isub dX11_shift_89 ?_
                    refine T_icmp_gt dX11_shift_90 (fun c90_18 => ?_) (fun c90_18 => ?_)
                    · replace hf := ite_t c90_18 hf
                      refine T_const dX11_shift_107 ?_
                      obtain rfl := Option.some.inj hf
                      exact X_ri dX11_shift_109 ⟨rfl, rfl⟩
                    · replace hf := ite_f c90_18 hf
                      refine T_iload dX11_shift_93 rfl ?_
                      refine T_aload dX11_shift_95 rfl ?_
                      refine X_getr dX11_shift_96 lfX11_73 rfl ob73 rfl ?_
                      refine T_iload dX11_shift_99 rfl ?_
                      obtain ⟨hb100_19, hf⟩ := opt_t hf
                      refine X_iald (N := 6) dX11_shift_100 ar95 rfl hb100_19 ?_
                      refine T_iload dX11_shift_101 rfl ?_
                      refine T_isub dX11_shift_103 ?_
                      refine T_icmp_le dX11_shift_104 (fun c104_20 => ?_) (fun c104_20 => ?_)
                      · replace hf := ite_t c104_20 hf
                        refine T_const dX11_shift_110 ?_
                        refine T_istore dX11_shift_111 ?_
                        show TX _ _ _ _ _ _ _ _ [_, _, _, _, _, _, _] _
                        obtain ⟨q113_24, hc113_24, hf⟩ := bind_t hf
                        refine X_wk (WK.s (WK.s (WK.s (WK.s (WK.s (WK.s (WK.s WK.e))))))) (lX11_shift_113 Z _ _ _ _ _ _ 2000 _ _ hc113_24 ?_)
                        intro q113_24z hr
                        subst hr
                        refine T_const dX11_shift_147 ?_
                        refine T_istore dX11_shift_148 ?_
                        show TX _ _ _ _ _ _ _ _ [_, _, _, _, _, _, _] _
                        obtain ⟨q150_28, hc150_28, hf⟩ := bind_t hf
                        refine X_wk (WK.s (WK.n (WK.n (WK.s (WK.s (WK.s (WK.s WK.e))))))) (lX11_shift_150 Z _ _ _ _ 2000 _ _ hc150_28 ?_)
                        intro q150_28z hr
                        subst hr
                        refine T_iload dX11_shift_185 rfl ?_
                        obtain rfl := Option.some.inj hf
                        exact X_ri dX11_shift_187 ⟨rfl, rfl⟩
                      · replace hf := ite_f c104_20 hf
                        refine T_const dX11_shift_107 ?_
                        obtain rfl := Option.some.inj hf
                        exact X_ri dX11_shift_109 ⟨rfl, rfl⟩
            · replace hf := ite_f c60_13 hf
              refine T_const dX11_shift_63 ?_
              obtain rfl := Option.some.inj hf
              exact X_ri dX11_shift_65 ⟨rfl, rfl⟩
        · replace hf := ite_f c31_8 hf
          refine T_const dX11_shift_34 ?_
          obtain rfl := Option.some.inj hf
          exact X_ri dX11_shift_36 ⟨rfl, rfl⟩
    · replace hf := ite_t c11_4 hf
      refine T_const dX11_shift_14 ?_
      obtain rfl := Option.some.inj hf
      exact X_ri dX11_shift_15 ⟨rfl, rfl⟩
noncomputable def sX11_taken_58 (x : aH) (l1 : Int32) (l2 : Int32) (ih : Int32 → Option Int32) (l3 : Int32) : Option Int32 := if l3 = l2 then some l3 else if l3 ≤ (0 : Int32) then some l3 else (fX11_above l3).bind fun q68_13 => ih q68_13
noncomputable def wX11_taken_58 (x : aH) (l1 : Int32) (l2 : Int32) : Nat → Int32 → Option Int32
  | 0 => fun _ => none
  | n + 1 => sX11_taken_58 x l1 l2 (wX11_taken_58 x l1 l2 n)
noncomputable def fX11_taken (x : aH) (p1 : Int32) (p2 : Int32) : Option Int32 := (fX11_isShelf p1).bind fun q1_1 => if q1_1 = (0 : Int32) then some (-1 : Int32) else (fX11_within (Int32.toInt64 p2) (0 : Int64) (7 : Int64)).bind fun q13_3 => if q13_3 = (0 : Int32) then some (-1 : Int32) else if (0 : Int32) ≤ p1 ∧ p1 < (6 : Int32) then if (0 : Int32) ≤ (ri x 94 (ix p1)) then if (0 : Int32) ≤ p1 ∧ p1 < (6 : Int32) then if (ri x 94 (ix p1)) < (50 : Int32) then if (0 : Int32) ≤ p1 ∧ p1 < (6 : Int32) then (fX11_kindOf x (ri x 94 (ix p1))).bind fun q54_10 => (wX11_taken_58 x p1 p2 2000 q54_10).bind fun q58_14 => if q58_14 = p2 then if (0 : Int32) ≤ p1 ∧ p1 < (6 : Int32) then (fX11_kindOf x (ri x 94 (ix p1))).bind fun q87_17 => some q87_17 else none else some (-12 : Int32) else none else some (-12 : Int32) else none else some (-11 : Int32) else none
theorem lX11_taken_58 (Z : aZ) (y : aH) (x : aH) (l1 : Int32) (l2 : Int32) {Q : Option Value → aH → Prop} {R : Int32} : ∀ (n : Nat) (l3 : Int32), wX11_taken_58 x l1 l2 n l3 = some R → (∀ q, R = q → TX false Z mX11_taken 2 y x Q 75 [.ref 73, .int l1, .int l2, .int q] []) → TX false Z mX11_taken 2 y x Q 58 [.ref 73, .int l1, .int l2, .int l3] [] := by
  intro n
  induction n with
  | zero => intro l3 hf; cases hf
  | succ n ih =>
    intro l3 hf ke
    replace hf : sX11_taken_58 x l1 l2 (wX11_taken_58 x l1 l2 n) l3 = some R := hf
    delta sX11_taken_58 at hf
    refine T_iload dX11_taken_58 rfl ?_
    refine T_iload dX11_taken_59 rfl ?_
    refine T_icmp_eq dX11_taken_60 (fun c60_11 => ?_) (fun c60_11 => ?_)
    · replace hf := ite_t c60_11 hf
      exact X_wk (WK.s (WK.s (WK.s (WK.s WK.e)))) (ke l3 (Option.some.inj hf).symm)
    · replace hf := ite_f c60_11 hf
      refine T_iload dX11_taken_63 rfl ?_
      refine T_if_le dX11_taken_64 (fun c64_12 => ?_) (fun c64_12 => ?_)
      · replace hf := ite_t c64_12 hf
        exact X_wk (WK.s (WK.s (WK.s (WK.s WK.e)))) (ke l3 (Option.some.inj hf).symm)
      · replace hf := ite_f c64_12 hf
        refine T_iload dX11_taken_67 rfl ?_
        obtain ⟨q68_13, hc68_13, hf⟩ := bind_t hf
        refine X_Sv (qX11_above _ Z _ _ hc68_13) (Nat.le_of_ble_eq_true rfl) dX11_taken_68 lsX11_369 rfl rfl (Nat.le_of_ble_eq_true rfl) ?_
        refine T_istore dX11_taken_71 ?_
        show TX _ _ _ _ _ _ _ _ [_, _, _, _] _
        refine T_goto dX11_taken_72 ?_
        exact X_wk (WK.s (WK.s (WK.s (WK.s WK.e)))) (ih _ hf ke)
theorem qX11_taken (Z : aZ) (y : aH) {x : aH} {p1 : Int32} {p2 : Int32} {q : Int32} (hf : fX11_taken x p1 p2 = some q) : CX false Z mX11_taken 2 [.ref 73, .int p1, .int p2] y x (RV (.int q) x) := by
  refine CX.of mokX11_taken (Nat.le_of_ble_eq_true rfl) ?_
  show TX _ _ _ _ _ _ _ _ [_, _, _, _] _
  delta fX11_taken at hf
  refine T_iload dX11_taken_0 rfl ?_
  obtain ⟨q1_1, hc1_1, hf⟩ := bind_t hf
  refine X_Sv (qX11_isShelf _ Z _ _ hc1_1) (Nat.le_of_ble_eq_true rfl) dX11_taken_1 lsX11_117 rfl rfl (Nat.le_of_ble_eq_true rfl) ?_
  refine T_if_eq dX11_taken_4 (fun c4_2 => ?_) (fun c4_2 => ?_)
  · replace hf := ite_t c4_2 hf
    refine T_const dX11_taken_19 ?_
    obtain rfl := Option.some.inj hf
    exact X_ri dX11_taken_20 ⟨rfl, rfl⟩
  · replace hf := ite_f c4_2 hf
    refine T_iload dX11_taken_7 rfl ?_
    refine T_i2l dX11_taken_8 ?_
    refine T_constL dX11_taken_9 ?_
    refine T_constL dX11_taken_10 ?_
    obtain ⟨q13_3, hc13_3, hf⟩ := bind_t hf
    refine X_Sv (qX11_within _ Z _ _ hc13_3) (Nat.le_of_ble_eq_true rfl) dX11_taken_13 lsX11_96 rfl rfl (Nat.le_of_ble_eq_true rfl) ?_
    refine T_if_ne dX11_taken_16 (fun c16_4 => ?_) (fun c16_4 => ?_)
    · replace hf := ite_f c16_4 hf
      refine T_aload dX11_taken_21 rfl ?_
      refine X_getr dX11_taken_22 lfX11_70 rfl ob73 rfl ?_
      refine T_iload dX11_taken_25 rfl ?_
      obtain ⟨hb26_5, hf⟩ := opt_t hf
      refine X_iald (N := 6) dX11_taken_26 ar94 rfl hb26_5 ?_
      refine T_if_ge dX11_taken_27 (fun c27_6 => ?_) (fun c27_6 => ?_)
      · replace hf := ite_t c27_6 hf
        refine T_aload dX11_taken_33 rfl ?_
        refine X_getr dX11_taken_34 lfX11_70 rfl ob73 rfl ?_
        refine T_iload dX11_taken_37 rfl ?_
        obtain ⟨hb38_7, hf⟩ := opt_t hf
        refine X_iald (N := 6) dX11_taken_38 ar94 rfl hb38_7 ?_
        refine T_const dX11_taken_39 ?_
        refine T_icmp_lt dX11_taken_41 (fun c41_8 => ?_) (fun c41_8 => ?_)
        · replace hf := ite_t c41_8 hf
          refine T_aload dX11_taken_47 rfl ?_
          refine T_aload dX11_taken_48 rfl ?_
          refine X_getr dX11_taken_49 lfX11_70 rfl ob73 rfl ?_
          refine T_iload dX11_taken_52 rfl ?_
          obtain ⟨hb53_9, hf⟩ := opt_t hf
          refine X_iald (N := 6) dX11_taken_53 ar94 rfl hb53_9 ?_
          obtain ⟨q54_10, hc54_10, hf⟩ := bind_t hf
          refine X_Vv (qX11_kindOf Z _ hc54_10) (Nat.le_of_ble_eq_true rfl) dX11_taken_54 lvX11_366 rfl rfl ob73 (Nat.le_of_ble_eq_true rfl) ?_
          refine T_istore dX11_taken_57 ?_
          show TX _ _ _ _ _ _ _ _ [_, _, _, _] _
          obtain ⟨q58_14, hc58_14, hf⟩ := bind_t hf
          refine X_wk (WK.s (WK.s (WK.s (WK.s WK.e)))) (lX11_taken_58 Z _ _ _ _ 2000 _ hc58_14 ?_)
          intro q58_14z hr
          subst hr
          refine T_iload dX11_taken_75 rfl ?_
          refine T_iload dX11_taken_76 rfl ?_
          refine T_icmp_ne dX11_taken_77 (fun c77_15 => ?_) (fun c77_15 => ?_)
          · replace hf := ite_f c77_15 hf
            refine T_const dX11_taken_93 ?_
            obtain rfl := Option.some.inj hf
            exact X_ri dX11_taken_95 ⟨rfl, rfl⟩
          · replace hf := ite_t c77_15 hf
            refine T_aload dX11_taken_80 rfl ?_
            refine T_aload dX11_taken_81 rfl ?_
            refine X_getr dX11_taken_82 lfX11_70 rfl ob73 rfl ?_
            refine T_iload dX11_taken_85 rfl ?_
            obtain ⟨hb86_16, hf⟩ := opt_t hf
            refine X_iald (N := 6) dX11_taken_86 ar94 rfl hb86_16 ?_
            obtain ⟨q87_17, hc87_17, hf⟩ := bind_t hf
            refine X_Vv (qX11_kindOf Z _ hc87_17) (Nat.le_of_ble_eq_true rfl) dX11_taken_87 lvX11_366 rfl rfl ob73 (Nat.le_of_ble_eq_true rfl) ?_
            refine T_goto dX11_taken_90 ?_
            obtain rfl := Option.some.inj hf
            exact X_ri dX11_taken_95 ⟨rfl, rfl⟩
        · replace hf := ite_f c41_8 hf
          refine T_const dX11_taken_44 ?_
          obtain rfl := Option.some.inj hf
          exact X_ri dX11_taken_46 ⟨rfl, rfl⟩
      · replace hf := ite_f c27_6 hf
        refine T_const dX11_taken_30 ?_
        obtain rfl := Option.some.inj hf
        exact X_ri dX11_taken_32 ⟨rfl, rfl⟩
    · replace hf := ite_t c16_4 hf
      refine T_const dX11_taken_19 ?_
      obtain rfl := Option.some.inj hf
      exact X_ri dX11_taken_20 ⟨rfl, rfl⟩
noncomputable def fX11_count (x : aH) (p1 : Int32) : Option (Int32 × aH) := if p1 = (0 : Int32) then some ((fi x 73 6), x) else if p1 = (1 : Int32) then (fX11_manyHome x).bind fun q46_3 => some (q46_3.1, q46_3.2) else if p1 = (2 : Int32) then some ((fi x 73 8), x) else if p1 = (3 : Int32) then some ((fi x 73 5), x) else if p1 = (4 : Int32) then some ((fi x 73 36), x) else if p1 = (5 : Int32) then some ((fi x 73 39), x) else some ((-1 : Int32), x)
theorem qX11_count (Z : aZ) (y : aH) {x : aH} {p1 : Int32} {q : (Int32 × aH)} (hf : fX11_count x p1 = some q) : CX false Z mX11_count 2 [.ref 73, .int p1] y x (RV (.int q.1) q.2) := by
  refine CX.of mokX11_count (Nat.le_of_ble_eq_true rfl) ?_
  show TX _ _ _ _ _ _ _ _ [_, _] _
  delta fX11_count at hf
  refine T_iload dX11_count_0 rfl ?_
  by_cases c1_1 : p1 = (0 : Int32)
  · replace hf := ite_t c1_1 hf
    refine T_tabE (off := 39) (tgt := 40) c1_1 dX11_count_1 (by decide) (by decide) (by decide) (by decide) ?_
    refine T_aload dX11_count_40 rfl ?_
    refine X_getf dX11_count_41 lfX11_93 rfl ob73 ?_
    obtain rfl := Option.some.inj hf
    exact X_ri dX11_count_44 ⟨rfl, rfl⟩
  replace hf := ite_f c1_1 hf
  by_cases c1_2 : p1 = (1 : Int32)
  · replace hf := ite_t c1_2 hf
    refine T_tabE (off := 44) (tgt := 45) c1_2 dX11_count_1 (by decide) (by decide) (by decide) (by decide) ?_
    refine T_aload dX11_count_45 rfl ?_
    obtain ⟨q46_3, hc46_3, hf⟩ := bind_t hf
    refine X_Vv (qX11_manyHome Z _ hc46_3) (Nat.le_of_ble_eq_true rfl) dX11_count_46 lvX11_372 rfl rfl ob73 (Nat.le_of_ble_eq_true rfl) ?_
    obtain rfl := Option.some.inj hf
    exact X_ri dX11_count_49 ⟨rfl, rfl⟩
  replace hf := ite_f c1_2 hf
  by_cases c1_4 : p1 = (2 : Int32)
  · replace hf := ite_t c1_4 hf
    refine T_tabE (off := 49) (tgt := 50) c1_4 dX11_count_1 (by decide) (by decide) (by decide) (by decide) ?_
    refine T_aload dX11_count_50 rfl ?_
    refine X_getf dX11_count_51 lfX11_147 rfl ob73 ?_
    obtain rfl := Option.some.inj hf
    exact X_ri dX11_count_54 ⟨rfl, rfl⟩
  replace hf := ite_f c1_4 hf
  by_cases c1_5 : p1 = (3 : Int32)
  · replace hf := ite_t c1_5 hf
    refine T_tabE (off := 54) (tgt := 55) c1_5 dX11_count_1 (by decide) (by decide) (by decide) (by decide) ?_
    refine T_aload dX11_count_55 rfl ?_
    refine X_getf dX11_count_56 lfX11_87 rfl ob73 ?_
    obtain rfl := Option.some.inj hf
    exact X_ri dX11_count_59 ⟨rfl, rfl⟩
  replace hf := ite_f c1_5 hf
  by_cases c1_6 : p1 = (4 : Int32)
  · replace hf := ite_t c1_6 hf
    refine T_tabE (off := 59) (tgt := 60) c1_6 dX11_count_1 (by decide) (by decide) (by decide) (by decide) ?_
    refine T_aload dX11_count_60 rfl ?_
    refine X_getf dX11_count_61 lfX11_329 rfl ob73 ?_
    obtain rfl := Option.some.inj hf
    exact X_ri dX11_count_64 ⟨rfl, rfl⟩
  replace hf := ite_f c1_6 hf
  by_cases c1_7 : p1 = (5 : Int32)
  · replace hf := ite_t c1_7 hf
    refine T_tabE (off := 64) (tgt := 65) c1_7 dX11_count_1 (by decide) (by decide) (by decide) (by decide) ?_
    refine T_aload dX11_count_65 rfl ?_
    refine X_getf dX11_count_66 lfX11_332 rfl ob73 ?_
    obtain rfl := Option.some.inj hf
    exact X_ri dX11_count_69 ⟨rfl, rfl⟩
  replace hf := ite_f c1_7 hf
  refine T_tabOut (tgt := 70) ⟨dX11_count_1, by decide⟩ (by
    have n0 := ne_toInt c1_1; rw [show (0 : Int32).toInt = 0 from rfl] at n0
    have n1 := ne_toInt c1_2; rw [show (1 : Int32).toInt = 1 from rfl] at n1
    have n2 := ne_toInt c1_4; rw [show (2 : Int32).toInt = 2 from rfl] at n2
    have n3 := ne_toInt c1_5; rw [show (3 : Int32).toInt = 3 from rfl] at n3
    have n4 := ne_toInt c1_6; rw [show (4 : Int32).toInt = 4 from rfl] at n4
    have n5 := ne_toInt c1_7; rw [show (5 : Int32).toInt = 5 from rfl] at n5
    omega) ?_
  refine T_const dX11_count_70 ?_
  obtain rfl := Option.some.inj hf
  exact X_ri dX11_count_71 ⟨rfl, rfl⟩
