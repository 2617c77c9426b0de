noncomputable def jX2_ago_53 (ih : Int64 → Int32 → Option Int64) (x : aH) (l2 : Int32) (l3 : Int64) (l5 : Int32) (l6 : Int64) (l8 : Int32) : Option Int64 := ih l6 (l8 + (1 : Int32))
noncomputable def sX2_ago_19 (x : aH) (l2 : Int32) (l3 : Int64) (l5 : Int32) (ih : Int64 → Int32 → Option Int64) (l6 : Int64) (l8 : Int32) : Option Int64 := if (64 : Int32) ≤ l8 then some l6 else (fX5_carried x l8).bind fun q33_3 => if (lg_cmp (((Int64.toUInt64 l3 >>> (Int64.toUInt64 (Int32.toInt64 q33_3) &&& Int64.toUInt64 63)).toInt64) &&& (1 : Int64)) (0 : Int64)) = (0 : Int32) then jX2_ago_53 ih x l2 l3 l5 l6 l8 else jX2_ago_53 ih x l2 l3 l5 (l6 ||| ((1 : Int64) <<< (Int32.toInt64 l8 &&& 63))) l8
noncomputable def wX2_ago_19 (x : aH) (l2 : Int32) (l3 : Int64) (l5 : Int32) : Nat → Int64 → Int32 → Option Int64
  | 0 => fun _ _ => none
  | n + 1 => sX2_ago_19 x l2 l3 l5 (wX2_ago_19 x l2 l3 l5 n)
noncomputable def sX2_ago_7 (x : aH) (l2 : Int32) (ih : Int64 → Int32 → Option Int64) (l3 : Int64) (l5 : Int32) : Option Int64 := if l2 ≤ l5 then some l3 else (wX2_ago_19 x l2 l3 l5 2000 (0 : Int64) (0 : Int32)).bind fun q19_5 => ih q19_5 (l5 + (1 : Int32))
noncomputable def wX2_ago_7 (x : aH) (l2 : Int32) : Nat → Int64 → Int32 → Option Int64
  | 0 => fun _ _ => none
  | n + 1 => sX2_ago_7 x l2 (wX2_ago_7 x l2 n)
noncomputable def fX2_ago (x : aH) (p1 : Int32) (p2 : Int32) : Option Int64 := (wX2_ago_7 x p2 2000 ((1 : Int64) <<< (Int32.toInt64 p1 &&& 63)) (0 : Int32)).bind fun q7_6 => some q7_6
theorem lX2_ago_19 (Z : aZ) (y : aH) (x : aH) (l2 : Int32) (l3 : Int64) (l5 : Int32) {Q : Option Value → aH → Prop} {R : Int64} : ∀ (n : Nat) (l6 : Int64) (l8 : Int32), wX2_ago_19 x l2 l3 l5 n l6 l8 = some R → (∀ q, R = q → TX true Z mX2_ago 1 y x Q 59 [.ref 47, .null, .int l2, .null, .null, .int l5, .long q, .null, .null] []) → TX true Z mX2_ago 1 y x Q 19 [.ref 47, .null, .int l2, .long l3, .null, .int l5, .long l6, .null, .int l8] [] := by
  intro n
  induction n with
  | zero => intro l6 l8 hf; cases hf
  | succ n ih =>
    intro l6 l8 hf ke
    replace hf : sX2_ago_19 x l2 l3 l5 (wX2_ago_19 x l2 l3 l5 n) l6 l8 = some R := hf
    delta sX2_ago_19 at hf
    refine T_iload dX2_ago_19 rfl ?_
    refine T_const dX2_ago_21 ?_
    refine T_icmp_ge dX2_ago_23 (fun c23_2 => ?_) (fun c23_2 => ?_)
    · replace hf := ite_t c23_2 hf
      exact X_wk (WK.s (WK.n (WK.s (WK.n (WK.n (WK.s (WK.s (WK.n (WK.n WK.e))))))))) (ke l6 (Option.some.inj hf).symm)
    · replace hf := ite_f c23_2 hf
      refine T_lload dX2_ago_26 rfl ?_
      refine T_aload dX2_ago_27 rfl ?_
      refine X_getr dX2_ago_28 lfX2_9 rfl ob47 rfl ?_
      refine T_iload dX2_ago_31 rfl ?_
      obtain ⟨q33_3, hc33_3, hf⟩ := bind_t hf
      refine X_Vv (qX5_carried Z _ hc33_3) (Nat.le_of_ble_eq_true rfl) dX2_ago_33 lvX2_15 rfl rfl ob1 (Nat.le_of_ble_eq_true rfl) ?_
      refine T_lushr dX2_ago_36 ?_
      refine T_constL dX2_ago_37 ?_
      refine T_land dX2_ago_38 ?_
      refine T_constL dX2_ago_39 ?_
      refine T_lcmp dX2_ago_40 ?_
      have J53 : ∀ (l6 : Int64) (l8 : Int32), jX2_ago_53 (wX2_ago_19 x l2 l3 l5 n) x l2 l3 l5 l6 l8 = some R → TX true Z mX2_ago 1 y x Q 53 [.ref 47, .null, .int l2, .long l3, .null, .int l5, .long l6, .null, .int l8] [] := by
        intro l6 l8 hf
        delta jX2_ago_53 at hf
        refine T_iinc dX2_ago_53 rfl ?_
        show TX _ _ _ _ _ _ _ _ [_, _, _, _, _, _, _, _, _] _
        refine T_goto dX2_ago_56 ?_
        exact X_wk (WK.s (WK.n (WK.s (WK.s (WK.n (WK.s (WK.s (WK.n (WK.s WK.e))))))))) (ih _ _ hf ke)
      refine T_if_eq dX2_ago_41 (fun c41_4 => ?_) (fun c41_4 => ?_)
      · replace hf := ite_t c41_4 hf
        exact X_wk (WK.s (WK.n (WK.s (WK.s (WK.n (WK.s (WK.s (WK.n (WK.s WK.e))))))))) (J53 _ _ hf)
      · replace hf := ite_f c41_4 hf
        refine T_lload dX2_ago_44 rfl ?_
        refine T_constL dX2_ago_46 ?_
        refine T_iload dX2_ago_47 rfl ?_
        refine T_lshl dX2_ago_49 ?_
        refine T_lor dX2_ago_50 ?_
        refine T_lstore dX2_ago_51 ?_
        show TX _ _ _ _ _ _ _ _ [_, _, _, _, _, _, _, _, _] _
        exact X_wk (WK.s (WK.n (WK.s (WK.s (WK.n (WK.s (WK.s (WK.n (WK.s WK.e))))))))) (J53 _ _ hf)
theorem lX2_ago_7 (Z : aZ) (y : aH) (x : aH) (l2 : Int32) {Q : Option Value → aH → Prop} {R : Int64} : ∀ (n : Nat) (l3 : Int64) (l5 : Int32), wX2_ago_7 x l2 n l3 l5 = some R → (∀ q, R = q → TX true Z mX2_ago 1 y x Q 68 [.null, .null, .null, .long q, .null, .null, .null, .null, .null] []) → TX true Z mX2_ago 1 y x Q 7 [.ref 47, .null, .int l2, .long l3, .null, .int l5, .null, .null, .null] [] := by
  intro n
  induction n with
  | zero => intro l3 l5 hf; cases hf
  | succ n ih =>
    intro l3 l5 hf ke
    replace hf : sX2_ago_7 x l2 (wX2_ago_7 x l2 n) l3 l5 = some R := hf
    delta sX2_ago_7 at hf
    refine T_iload dX2_ago_7 rfl ?_
    refine T_iload dX2_ago_9 rfl ?_
    refine T_icmp_ge dX2_ago_10 (fun c10_1 => ?_) (fun c10_1 => ?_)
    · replace hf := ite_t c10_1 hf
      exact X_wk (WK.n (WK.n (WK.n (WK.s (WK.n (WK.n (WK.n (WK.n (WK.n WK.e))))))))) (ke l3 (Option.some.inj hf).symm)
    · replace hf := ite_f c10_1 hf
      refine T_constL dX2_ago_13 ?_
      refine T_lstore dX2_ago_14 ?_
      show TX _ _ _ _ _ _ _ _ [_, _, _, _, _, _, _, _, _] _
      refine T_const dX2_ago_16 ?_
      refine T_istore dX2_ago_17 ?_
      show TX _ _ _ _ _ _ _ _ [_, _, _, _, _, _, _, _, _] _
      obtain ⟨q19_5, hc19_5, hf⟩ := bind_t hf
      refine X_wk (WK.s (WK.n (WK.s (WK.s (WK.n (WK.s (WK.s (WK.n (WK.s WK.e))))))))) (lX2_ago_19 Z _ _ _ _ _ 2000 _ _ hc19_5 ?_)
      intro q19_5z hr
      subst hr
      refine T_lload dX2_ago_59 rfl ?_
      refine T_lstore dX2_ago_61 ?_
      show TX _ _ _ _ _ _ _ _ [_, _, _, _, _, _, _, _, _] _
      refine T_iinc dX2_ago_62 rfl ?_
      show TX _ _ _ _ _ _ _ _ [_, _, _, _, _, _, _, _, _] _
      refine T_goto dX2_ago_65 ?_
      exact X_wk (WK.s (WK.n (WK.s (WK.s (WK.n (WK.s (WK.n (WK.n (WK.n WK.e))))))))) (ih _ _ hf ke)
theorem qX2_ago (Z : aZ) (y : aH) {x : aH} {p1 : Int32} {p2 : Int32} {q : Int64} (hf : fX2_ago x p1 p2 = some q) : CX true Z mX2_ago 1 [.ref 47, .int p1, .int p2] y x (RV (.long q) x) := by
  refine CX.of mokX2_ago (Nat.le_of_ble_eq_true rfl) ?_
  show TX _ _ _ _ _ _ _ _ [_, _, _, _, _, _, _, _, _] _
  delta fX2_ago at hf
  refine T_constL dX2_ago_0 ?_
  refine T_iload dX2_ago_1 rfl ?_
  refine T_lshl dX2_ago_2 ?_
  refine T_lstore dX2_ago_3 ?_
  show TX _ _ _ _ _ _ _ _ [_, _, _, _, _, _, _, _, _] _
  refine T_const dX2_ago_4 ?_
  refine T_istore dX2_ago_5 ?_
  show TX _ _ _ _ _ _ _ _ [_, _, _, _, _, _, _, _, _] _
  obtain ⟨q7_6, hc7_6, hf⟩ := bind_t hf
  refine X_wk (WK.s (WK.n (WK.s (WK.s (WK.n (WK.s (WK.n (WK.n (WK.n WK.e))))))))) (lX2_ago_7 Z _ _ _ 2000 _ _ hc7_6 ?_)
  intro q7_6z hr
  subst hr
  refine T_lload dX2_ago_68 rfl ?_
  obtain rfl := Option.some.inj hf
  exact X_rl dX2_ago_69 ⟨rfl, rfl⟩
noncomputable def jX2_firstUnlike_93 (p1 : Nat) (ih : Int32 → Int32 → Int32 → Option (Sum Int32 Unit)) (x : aH) (l4 : Int32) (l6 : Int32) (s0 : Int32) : Option (Sum Int32 Unit) := ih l4 s0 (l6 + (1 : Int32))
noncomputable def jX2_firstUnlike_88 (p1 : Nat) (ih : Int32 → Int32 → Int32 → Option (Sum Int32 Unit)) (x : aH) (l4 : Int32) (l6 : Int32) : Option (Sum Int32 Unit) := jX2_firstUnlike_93 p1 ih x l4 l6 (1 : Int32)
noncomputable def jX2_firstUnlike_69 (p1 : Nat) (ih : Int32 → Int32 → Int32 → Option (Sum Int32 Unit)) (x : aH) (l5 : Int32) (l6 : Int32) (s0 : Int32) : Option (Sum Int32 Unit) := if l5 = (0 : Int32) then if s0 = (fi x 1 4) then jX2_firstUnlike_88 p1 ih x s0 l6 else jX2_firstUnlike_93 p1 ih x s0 l6 (0 : Int32) else jX2_firstUnlike_88 p1 ih x s0 l6
noncomputable def jX2_firstUnlike_50 (p1 : Nat) (ih : Int32 → Int32 → Int32 → Option (Sum Int32 Unit)) (x : aH) (l4 : Int32) (l5 : Int32) (l6 : Int32) : Option (Sum Int32 Unit) := if l5 = (0 : Int32) then (fX5_carried x l4).bind fun q66_7 => jX2_firstUnlike_69 p1 ih x l5 l6 q66_7 else jX2_firstUnlike_69 p1 ih x l5 l6 l4
noncomputable def sX2_firstUnlike_9 (p1 : Nat) (x : aH) (ih : Int32 → Int32 → Int32 → Option (Sum Int32 Unit)) (l4 : Int32) (l5 : Int32) (l6 : Int32) : Option (Sum Int32 Unit) := if (fi x p1 2) ≤ l6 then some (.inr ()) else if (49 : Int32) ≤ l6 then some (.inr ()) else (fX7_number x p1 l6).bind fun q28_3 => if q28_3 = (64 : Int32) then jX2_firstUnlike_50 p1 ih x l4 l5 l6 else (fX7_number x p1 l6).bind fun q39_9 => if q39_9 = l4 then jX2_firstUnlike_50 p1 ih x l4 l5 l6 else some (.inl l6)
noncomputable def wX2_firstUnlike_9 (p1 : Nat) (x : aH) : Nat → Int32 → Int32 → Int32 → Option (Sum Int32 Unit)
  | 0 => fun _ _ _ => none
  | n + 1 => sX2_firstUnlike_9 p1 x (wX2_firstUnlike_9 p1 x n)
noncomputable def fX2_firstUnlike (x : aH) (p1 : Nat) (p2 : Int32) (p3 : Int32) : Option Int32 := (wX2_firstUnlike_9 p1 x 2000 p2 p3 (0 : Int32)).bind fun q9_11 => elS q9_11 (fun r => some r) (fun eq9_11 => some (-2 : Int32))
theorem lX2_firstUnlike_9 (Z : aZ) (y : aH) {p1 : Nat} (hp1 : SH p1) (x : aH) {Q : Option Value → aH → Prop} {R : (Sum Int32 Unit)} : ∀ (n : Nat) (l4 : Int32) (l5 : Int32) (l6 : Int32), wX2_firstUnlike_9 p1 x n l4 l5 l6 = some R → (∀ r, R = .inl r → Q (some (.int r)) x) → (∀ q, R = .inr q → TX true Z mX2_firstUnlike 1 y x Q 101 [.null, .null, .null, .null, .null, .null, .null] []) → TX true Z mX2_firstUnlike 1 y x Q 9 [.ref 47, .ref p1, .null, .null, .int l4, .int l5, .int l6] [] := by
  intro n
  induction n with
  | zero => intro l4 l5 l6 hf; cases hf
  | succ n ih =>
    intro l4 l5 l6 hf kr ke
    replace hf : sX2_firstUnlike_9 p1 x (wX2_firstUnlike_9 p1 x n) l4 l5 l6 = some R := hf
    delta sX2_firstUnlike_9 at hf
    refine T_iload dX2_firstUnlike_9 rfl ?_
    refine T_aload dX2_firstUnlike_11 rfl ?_
    refine X_getf dX2_firstUnlike_12 lfX2_21 rfl (SH.ob hp1) ?_
    refine T_icmp_ge dX2_firstUnlike_15 (fun c15_1 => ?_) (fun c15_1 => ?_)
    · replace hf := ite_t c15_1 hf
      exact X_wk (WK.n (WK.n (WK.n (WK.n (WK.n (WK.n (WK.n WK.e))))))) (ke () (Option.some.inj hf).symm)
    · replace hf := ite_f c15_1 hf
      refine T_iload dX2_firstUnlike_18 rfl ?_
      refine T_const dX2_firstUnlike_20 ?_
      refine T_icmp_ge dX2_firstUnlike_22 (fun c22_2 => ?_) (fun c22_2 => ?_)
      · replace hf := ite_t c22_2 hf
        exact X_wk (WK.n (WK.n (WK.n (WK.n (WK.n (WK.n (WK.n WK.e))))))) (ke () (Option.some.inj hf).symm)
      · replace hf := ite_f c22_2 hf
        refine T_aload dX2_firstUnlike_25 rfl ?_
        refine T_iload dX2_firstUnlike_26 rfl ?_
        obtain ⟨q28_3, hc28_3, hf⟩ := bind_t hf
        refine X_Vv (qX7_number Z _ hp1 hc28_3) (Nat.le_of_ble_eq_true rfl) dX2_firstUnlike_28 lvX2_27 rfl rfl (SH.ob hp1) (Nat.le_of_ble_eq_true rfl) ?_
        refine T_const dX2_firstUnlike_31 ?_
        have J50 : ∀ (l4 : Int32) (l5 : Int32) (l6 : Int32), jX2_firstUnlike_50 p1 (wX2_firstUnlike_9 p1 x n) x l4 l5 l6 = some R → TX true Z mX2_firstUnlike 1 y x Q 50 [.ref 47, .ref p1, .null, .null, .int l4, .int l5, .int l6] [] := by
          intro l4 l5 l6 hf
          delta jX2_firstUnlike_50 at hf
          refine T_iload dX2_firstUnlike_50 rfl ?_
          have J69 : ∀ (l5 : Int32) (l6 : Int32) (s0 : Int32), jX2_firstUnlike_69 p1 (wX2_firstUnlike_9 p1 x n) x l5 l6 s0 = some R → TX true Z mX2_firstUnlike 1 y x Q 69 [.ref 47, .ref p1, .null, .null, .null, .int l5, .int l6] [.int s0] := by
            intro l5 l6 s0 hf
            delta jX2_firstUnlike_69 at hf
            refine T_istore dX2_firstUnlike_69 ?_
            show TX _ _ _ _ _ _ _ _ [_, _, _, _, _, _, _] _
            refine T_iload dX2_firstUnlike_71 rfl ?_
            have J93 : ∀ (l4 : Int32) (l6 : Int32) (s0 : Int32), jX2_firstUnlike_93 p1 (wX2_firstUnlike_9 p1 x n) x l4 l6 s0 = some R → TX true Z mX2_firstUnlike 1 y x Q 93 [.ref 47, .ref p1, .null, .null, .int l4, .null, .int l6] [.int s0] := by
              intro l4 l6 s0 hf
              delta jX2_firstUnlike_93 at hf
              refine T_istore dX2_firstUnlike_93 ?_
              show TX _ _ _ _ _ _ _ _ [_, _, _, _, _, _, _] _
              refine T_iinc dX2_firstUnlike_95 rfl ?_
              show TX _ _ _ _ _ _ _ _ [_, _, _, _, _, _, _] _
              refine T_goto dX2_firstUnlike_98 ?_
              exact X_wk (WK.s (WK.s (WK.n (WK.n (WK.s (WK.s (WK.s WK.e))))))) (ih _ _ _ hf kr ke)
            have J88 : ∀ (l4 : Int32) (l6 : Int32), jX2_firstUnlike_88 p1 (wX2_firstUnlike_9 p1 x n) x l4 l6 = some R → TX true Z mX2_firstUnlike 1 y x Q 88 [.ref 47, .ref p1, .null, .null, .int l4, .null, .int l6] [] := by
              intro l4 l6 hf
              delta jX2_firstUnlike_88 at hf
              refine T_const dX2_firstUnlike_88 ?_
              refine T_goto dX2_firstUnlike_89 ?_
              exact X_wk (WK.s (WK.s (WK.n (WK.n (WK.s (WK.n (WK.s WK.e))))))) (J93 _ _ _ hf)
            refine T_if_ne dX2_firstUnlike_73 (fun c73_4 => ?_) (fun c73_4 => ?_)
            · replace hf := ite_f c73_4 hf
              exact X_wk (WK.s (WK.s (WK.n (WK.n (WK.s (WK.n (WK.s WK.e))))))) (J88 _ _ hf)
            · replace hf := ite_t c73_4 hf
              refine T_iload dX2_firstUnlike_76 rfl ?_
              refine T_aload dX2_firstUnlike_78 rfl ?_
              refine X_getr dX2_firstUnlike_79 lfX2_9 rfl ob47 rfl ?_
              refine X_getf dX2_firstUnlike_82 lfX2_30 rfl ob1 ?_
              refine T_icmp_ne dX2_firstUnlike_85 (fun c85_5 => ?_) (fun c85_5 => ?_)
              · replace hf := ite_f c85_5 hf
                refine T_const dX2_firstUnlike_92 ?_
                exact X_wk (WK.s (WK.s (WK.n (WK.n (WK.s (WK.n (WK.s WK.e))))))) (J93 _ _ _ hf)
              · replace hf := ite_t c85_5 hf
                exact X_wk (WK.s (WK.s (WK.n (WK.n (WK.s (WK.n (WK.s WK.e))))))) (J88 _ _ hf)
          refine T_if_eq dX2_firstUnlike_52 (fun c52_6 => ?_) (fun c52_6 => ?_)
          · replace hf := ite_t c52_6 hf
            refine T_aload dX2_firstUnlike_60 rfl ?_
            refine X_getr dX2_firstUnlike_61 lfX2_9 rfl ob47 rfl ?_
            refine T_iload dX2_firstUnlike_64 rfl ?_
            obtain ⟨q66_7, hc66_7, hf⟩ := bind_t hf
            refine X_Vv (qX5_carried Z _ hc66_7) (Nat.le_of_ble_eq_true rfl) dX2_firstUnlike_66 lvX2_15 rfl rfl ob1 (Nat.le_of_ble_eq_true rfl) ?_
            exact X_wk (WK.s (WK.s (WK.n (WK.n (WK.n (WK.s (WK.s WK.e))))))) (J69 _ _ _ hf)
          · replace hf := ite_f c52_6 hf
            refine T_iload dX2_firstUnlike_55 rfl ?_
            refine T_goto dX2_firstUnlike_57 ?_
            exact X_wk (WK.s (WK.s (WK.n (WK.n (WK.n (WK.s (WK.s WK.e))))))) (J69 _ _ _ hf)
        refine T_icmp_eq dX2_firstUnlike_33 (fun c33_8 => ?_) (fun c33_8 => ?_)
        · replace hf := ite_t c33_8 hf
          exact X_wk (WK.s (WK.s (WK.n (WK.n (WK.s (WK.s (WK.s WK.e))))))) (J50 _ _ _ hf)
        · replace hf := ite_f c33_8 hf
          refine T_aload dX2_firstUnlike_36 rfl ?_
          refine T_iload dX2_firstUnlike_37 rfl ?_
          obtain ⟨q39_9, hc39_9, hf⟩ := bind_t hf
          refine X_Vv (qX7_number Z _ hp1 hc39_9) (Nat.le_of_ble_eq_true rfl) dX2_firstUnlike_39 lvX2_27 rfl rfl (SH.ob hp1) (Nat.le_of_ble_eq_true rfl) ?_
          refine T_iload dX2_firstUnlike_42 rfl ?_
          refine T_icmp_eq dX2_firstUnlike_44 (fun c44_10 => ?_) (fun c44_10 => ?_)
          · replace hf := ite_t c44_10 hf
            exact X_wk (WK.s (WK.s (WK.n (WK.n (WK.s (WK.s (WK.s WK.e))))))) (J50 _ _ _ hf)
          · replace hf := ite_f c44_10 hf
            refine T_iload dX2_firstUnlike_47 rfl ?_
            exact X_ri dX2_firstUnlike_49 (kr l6 (Option.some.inj hf).symm)
theorem qX2_firstUnlike (Z : aZ) (y : aH) {x : aH} {p1 : Nat} {p2 : Int32} {p3 : Int32} (hp1 : SH p1) {q : Int32} (hf : fX2_firstUnlike x p1 p2 p3 = some q) : CX true Z mX2_firstUnlike 1 [.ref 47, .ref p1, .int p2, .int p3] y x (RV (.int q) x) := by
  refine CX.of mokX2_firstUnlike (Nat.le_of_ble_eq_true rfl) ?_
  show TX _ _ _ _ _ _ _ _ [_, _, _, _, _, _, _] _
  delta fX2_firstUnlike at hf
  refine T_iload dX2_firstUnlike_0 rfl ?_
  refine T_istore dX2_firstUnlike_1 ?_
  show TX _ _ _ _ _ _ _ _ [_, _, _, _, _, _, _] _
  refine T_iload dX2_firstUnlike_3 rfl ?_
  refine T_istore dX2_firstUnlike_4 ?_
  show TX _ _ _ _ _ _ _ _ [_, _, _, _, _, _, _] _
  refine T_const dX2_firstUnlike_6 ?_
  refine T_istore dX2_firstUnlike_7 ?_
  show TX _ _ _ _ _ _ _ _ [_, _, _, _, _, _, _] _
  obtain ⟨q9_11, hc9_11, hf⟩ := bind_t hf
  refine X_wk (WK.s (WK.s (WK.n (WK.n (WK.s (WK.s (WK.s WK.e))))))) (lX2_firstUnlike_9 Z _ hp1 _ 2000 _ _ _ hc9_11 ?_ ?_)
  · intro r hr
    subst hr
    replace hf := elS_l hf
    obtain rfl := Option.some.inj hf
    exact ⟨rfl, rfl⟩
  · intro eq9_11 hr
    subst hr
    replace hf := elS_r hf
    refine T_const dX2_firstUnlike_101 ?_
    obtain rfl := Option.some.inj hf
    exact X_ri dX2_firstUnlike_103 ⟨rfl, rfl⟩
noncomputable def jX2_from_36 (p1 : Nat) (ih : Int32 → Int32 → Option (Sum Int32 Int32)) (x : aH) (l2 : Int32) (l3 : Int32) (l4 : Int32) (l5 : Int32) : Option (Sum Int32 Int32) := ih l4 (l5 + (1 : Int32))
noncomputable def sX2_from_6 (p1 : Nat) (x : aH) (l2 : Int32) (l3 : Int32) (ih : Int32 → Int32 → Option (Sum Int32 Int32)) (l4 : Int32) (l5 : Int32) : Option (Sum Int32 Int32) := if (64 : Int32) ≤ l5 then some (.inr l4) else (fX2_firstUnlike x p1 l5 l2).bind fun q18_2 => if q18_2 = (-2 : Int32) then if l3 = (0 : Int32) then jX2_from_36 p1 ih x l2 l3 (l4 + (1 : Int32)) l5 else some (.inl l5) else jX2_from_36 p1 ih x l2 l3 l4 l5
noncomputable def wX2_from_6 (p1 : Nat) (x : aH) (l2 : Int32) (l3 : Int32) : Nat → Int32 → Int32 → Option (Sum Int32 Int32)
  | 0 => fun _ _ => none
  | n + 1 => sX2_from_6 p1 x l2 l3 (wX2_from_6 p1 x l2 l3 n)
noncomputable def fX2_from (x : aH) (p1 : Nat) (p2 : Int32) (p3 : Int32) : Option Int32 := (wX2_from_6 p1 x p2 p3 2000 (0 : Int32) (0 : Int32)).bind fun q6_5 => elS q6_5 (fun r => some r) (fun eq6_5 => if p3 = (0 : Int32) then some eq6_5 else some (-2 : Int32))
theorem lX2_from_6 (Z : aZ) (y : aH) {p1 : Nat} (hp1 : SH p1) (x : aH) (l2 : Int32) (l3 : Int32) {Q : Option Value → aH → Prop} {R : (Sum Int32 Int32)} : ∀ (n : Nat) (l4 : Int32) (l5 : Int32), wX2_from_6 p1 x l2 l3 n l4 l5 = some R → (∀ r, R = .inl r → Q (some (.int r)) x) → (∀ q, R = .inr q → TX true Z mX2_from 2 y x Q 42 [.null, .null, .null, .int l3, .int q, .null] []) → TX true Z mX2_from 2 y x Q 6 [.ref 47, .ref p1, .int l2, .int l3, .int l4, .int l5] [] := by
  intro n
  induction n with
  | zero => intro l4 l5 hf; cases hf
  | succ n ih =>
    intro l4 l5 hf kr ke
    replace hf : sX2_from_6 p1 x l2 l3 (wX2_from_6 p1 x l2 l3 n) l4 l5 = some R := hf
    delta sX2_from_6 at hf
    refine T_iload dX2_from_6 rfl ?_
    refine T_const dX2_from_8 ?_
    refine T_icmp_ge dX2_from_10 (fun c10_1 => ?_) (fun c10_1 => ?_)
    · replace hf := ite_t c10_1 hf
      exact X_wk (WK.n (WK.n (WK.n (WK.s (WK.s (WK.n WK.e)))))) (ke l4 (Option.some.inj hf).symm)
    · replace hf := ite_f c10_1 hf
      refine T_aload dX2_from_13 rfl ?_
      refine T_aload dX2_from_14 rfl ?_
      refine T_iload dX2_from_15 rfl ?_
      refine T_iload dX2_from_17 rfl ?_
      obtain ⟨q18_2, hc18_2, hf⟩ := bind_t hf
      refine X_Vv (qX2_firstUnlike Z _ hp1 hc18_2) (Nat.le_of_ble_eq_true rfl) dX2_from_18 lvX2_33 rfl rfl ob47 (Nat.le_of_ble_eq_true rfl) ?_
      refine T_const dX2_from_21 ?_
      have J36 : ∀ (l4 : Int32) (l5 : Int32), jX2_from_36 p1 (wX2_from_6 p1 x l2 l3 n) x l2 l3 l4 l5 = some R → TX true Z mX2_from 2 y x Q 36 [.ref 47, .ref p1, .int l2, .int l3, .int l4, .int l5] [] := by
        intro l4 l5 hf
        delta jX2_from_36 at hf
        refine T_iinc dX2_from_36 rfl ?_
        show TX _ _ _ _ _ _ _ _ [_, _, _, _, _, _] _
        refine T_goto dX2_from_39 ?_
        exact X_wk (WK.s (WK.s (WK.s (WK.s (WK.s (WK.s WK.e)))))) (ih _ _ hf kr ke)
      refine T_icmp_ne dX2_from_23 (fun c23_3 => ?_) (fun c23_3 => ?_)
      · replace hf := ite_f c23_3 hf
        exact X_wk (WK.s (WK.s (WK.s (WK.s (WK.s (WK.s WK.e)))))) (J36 _ _ hf)
      · replace hf := ite_t c23_3 hf
        refine T_iload dX2_from_26 rfl ?_
        refine T_if_eq dX2_from_27 (fun c27_4 => ?_) (fun c27_4 => ?_)
        · replace hf := ite_t c27_4 hf
          refine T_iinc dX2_from_33 rfl ?_
          show TX _ _ _ _ _ _ _ _ [_, _, _, _, _, _] _
          exact X_wk (WK.s (WK.s (WK.s (WK.s (WK.s (WK.s WK.e)))))) (J36 _ _ hf)
        · replace hf := ite_f c27_4 hf
          refine T_iload dX2_from_30 rfl ?_
          exact X_ri dX2_from_32 (kr l5 (Option.some.inj hf).symm)
theorem qX2_from (Z : aZ) (y : aH) {x : aH} {p1 : Nat} {p2 : Int32} {p3 : Int32} (hp1 : SH p1) {q : Int32} (hf : fX2_from x p1 p2 p3 = some q) : CX true Z mX2_from 2 [.ref 47, .ref p1, .int p2, .int p3] y x (RV (.int q) x) := by
  refine CX.of mokX2_from (Nat.le_of_ble_eq_true rfl) ?_
  show TX _ _ _ _ _ _ _ _ [_, _, _, _, _, _] _
  delta fX2_from at hf
  refine T_const dX2_from_0 ?_
  refine T_istore dX2_from_1 ?_
  show TX _ _ _ _ _ _ _ _ [_, _, _, _, _, _] _
  refine T_const dX2_from_3 ?_
  refine T_istore dX2_from_4 ?_
  show TX _ _ _ _ _ _ _ _ [_, _, _, _, _, _] _
  obtain ⟨q6_5, hc6_5, hf⟩ := bind_t hf
  refine X_wk (WK.s (WK.s (WK.s (WK.s (WK.s (WK.s WK.e)))))) (lX2_from_6 Z _ hp1 _ _ _ 2000 _ _ hc6_5 ?_ ?_)
  · intro r hr
    subst hr
    replace hf := elS_l hf
    obtain rfl := Option.some.inj hf
    exact ⟨rfl, rfl⟩
  · intro eq6_5 hr
    subst hr
    replace hf := elS_r hf
    refine T_iload dX2_from_42 rfl ?_
    refine T_if_eq dX2_from_43 (fun c43_6 => ?_) (fun c43_6 => ?_)
    · replace hf := ite_t c43_6 hf
      refine T_iload dX2_from_51 rfl ?_
      obtain rfl := Option.some.inj hf
      exact X_ri dX2_from_53 ⟨rfl, rfl⟩
    · replace hf := ite_f c43_6 hf
      refine T_const dX2_from_46 ?_
      refine T_goto dX2_from_48 ?_
      obtain rfl := Option.some.inj hf
      exact X_ri dX2_from_53 ⟨rfl, rfl⟩
noncomputable def fX4_isLostOne (x : aH) (p1 : Int32) : Option Int32 := if p1 < (0 : Int32) then some (0 : Int32) else if (fi x 48 3) ≤ p1 then some (0 : Int32) else some (1 : Int32)
theorem qX4_isLostOne (Z : aZ) (y : aH) {x : aH} {p1 : Int32} {q : Int32} (hf : fX4_isLostOne x p1 = some q) : CX true Z mX4_isLostOne 0 [.ref 48, .int p1] y x (RV (.int q) x) := by
  refine CX.of mokX4_isLostOne (Nat.le_of_ble_eq_true rfl) ?_
  show TX _ _ _ _ _ _ _ _ [_, _] _
  delta fX4_isLostOne at hf
  refine T_iload dX4_isLostOne_0 rfl ?_
  refine T_if_lt dX4_isLostOne_1 (fun c1_1 => ?_) (fun c1_1 => ?_)
  · replace hf := ite_t c1_1 hf
    refine T_const dX4_isLostOne_16 ?_
    obtain rfl := Option.some.inj hf
    exact X_rz dX4_isLostOne_17 (by first | exact Or.inl rfl | exact Or.inr rfl) ⟨rfl, rfl⟩
  · replace hf := ite_f c1_1 hf
    refine T_iload dX4_isLostOne_4 rfl ?_
    refine T_aload dX4_isLostOne_5 rfl ?_
    refine X_getf dX4_isLostOne_6 lfX4_21 rfl ob48 ?_
    refine T_icmp_ge dX4_isLostOne_9 (fun c9_2 => ?_) (fun c9_2 => ?_)
    · replace hf := ite_t c9_2 hf
      refine T_const dX4_isLostOne_16 ?_
      obtain rfl := Option.some.inj hf
      exact X_rz dX4_isLostOne_17 (by first | exact Or.inl rfl | exact Or.inr rfl) ⟨rfl, rfl⟩
    · replace hf := ite_f c9_2 hf
      refine T_const dX4_isLostOne_12 ?_
      refine T_goto dX4_isLostOne_13 ?_
      obtain rfl := Option.some.inj hf
      exact X_rz dX4_isLostOne_17 (by first | exact Or.inl rfl | exact Or.inr rfl) ⟨rfl, rfl⟩
noncomputable def jX4_read_104 (p1 : Nat) (ih : aH → Int32 → Option aH) (x : aH) (l3 : Int32) : Option aH := ih x (l3 + (2 : Int32))
noncomputable def sX4_read_12 (p1 : Nat) (ih : aH → Int32 → Option aH) (x : aH) (l3 : Int32) : Option aH := if (fi x p1 2) ≤ (l3 + (1 : Int32)) then some x else if (20 : Int32) ≤ (fi x 48 2) then some x else (fX7_number x p1 l3).bind fun q33_3 => (fX7_number x p1 (l3 + (1 : Int32))).bind fun q42_4 => if q33_3 = q42_4 then jX4_read_104 p1 ih x l3 else (fX4_isLostOne x q33_3).bind fun q57_6 => if q57_6 = (0 : Int32) then jX4_read_104 p1 ih x l3 else (fX4_isLostOne x q42_4).bind fun q66_8 => if q66_8 = (0 : Int32) then jX4_read_104 p1 ih x l3 else if (0 : Int32) ≤ (fi x 48 2) ∧ (fi x 48 2) < (20 : Int32) then if (0 : Int32) ≤ (fi (sri x 49 (ix (fi x 48 2)) q33_3) 48 2) ∧ (fi (sri x 49 (ix (fi x 48 2)) q33_3) 48 2) < (20 : Int32) then jX4_read_104 p1 ih (sfi (sri (sri x 49 (ix (fi x 48 2)) q33_3) 50 (ix (fi (sri x 49 (ix (fi x 48 2)) q33_3) 48 2)) q42_4) 48 2 ((fi (sri (sri x 49 (ix (fi x 48 2)) q33_3) 50 (ix (fi (sri x 49 (ix (fi x 48 2)) q33_3) 48 2)) q42_4) 48 2) + (1 : Int32))) l3 else none else none
noncomputable def wX4_read_12 (p1 : Nat) : Nat → aH → Int32 → Option aH
  | 0 => fun _ _ => none
  | n + 1 => sX4_read_12 p1 (wX4_read_12 p1 n)
noncomputable def fX4_read (x : aH) (p1 : Nat) (p2 : Int32) : Option aH := (wX4_read_12 p1 2000 (sfi (sfi x 48 3 p2) 48 2 (0 : Int32)) (0 : Int32)).bind fun q12_12 => some q12_12
theorem lX4_read_12 (Z : aZ) (y : aH) {p1 : Nat} (hp1 : SH p1) {Q : Option Value → aH → Prop} {R : aH} : ∀ (n : Nat) (x : aH) (l3 : Int32), wX4_read_12 p1 n x l3 = some R → (∀ q, R = q → TX true Z mX4_read 1 y q Q 110 [.null, .null, .null, .null, .null, .null] []) → TX true Z mX4_read 1 y x Q 12 [.ref 48, .ref p1, .null, .int l3, .null, .null] [] := by
  intro n
  induction n with
  | zero => intro x l3 hf; cases hf
  | succ n ih =>
    intro x l3 hf ke
    replace hf : sX4_read_12 p1 (wX4_read_12 p1 n) x l3 = some R := hf
    delta sX4_read_12 at hf
    refine T_iload dX4_read_12 rfl ?_
    refine T_const dX4_read_13 ?_
    refine T_iadd dX4_read_14 ?_
    refine T_aload dX4_read_15 rfl ?_
    refine X_getf dX4_read_16 lfX4_28 rfl (SH.ob hp1) ?_
    refine T_icmp_ge dX4_read_19 (fun c19_1 => ?_) (fun c19_1 => ?_)
    · replace hf := ite_t c19_1 hf
      exact X_wk (WK.n (WK.n (WK.n (WK.n (WK.n (WK.n WK.e)))))) (ke x (Option.some.inj hf).symm)
    · replace hf := ite_f c19_1 hf
      refine T_aload dX4_read_22 rfl ?_
      refine X_getf dX4_read_23 lfX4_25 rfl ob48 ?_
      refine T_const dX4_read_26 ?_
      refine T_icmp_ge dX4_read_28 (fun c28_2 => ?_) (fun c28_2 => ?_)
      · replace hf := ite_t c28_2 hf
        exact X_wk (WK.n (WK.n (WK.n (WK.n (WK.n (WK.n WK.e)))))) (ke x (Option.some.inj hf).symm)
      · replace hf := ite_f c28_2 hf
        refine T_aload dX4_read_31 rfl ?_
        refine T_iload dX4_read_32 rfl ?_
        obtain ⟨q33_3, hc33_3, hf⟩ := bind_t hf
        refine X_Vv (qX7_number Z _ hp1 hc33_3) (Nat.le_of_ble_eq_true rfl) dX4_read_33 lvX4_33 rfl rfl (SH.ob hp1) (Nat.le_of_ble_eq_true rfl) ?_
        refine T_istore dX4_read_36 ?_
        show TX _ _ _ _ _ _ _ _ [_, _, _, _, _, _] _
        refine T_aload dX4_read_38 rfl ?_
        refine T_iload dX4_read_39 rfl ?_
        refine T_const dX4_read_40 ?_
        refine T_iadd dX4_read_41 ?_
        obtain ⟨q42_4, hc42_4, hf⟩ := bind_t hf
        refine X_Vv (qX7_number Z _ hp1 hc42_4) (Nat.le_of_ble_eq_true rfl) dX4_read_42 lvX4_33 rfl rfl (SH.ob hp1) (Nat.le_of_ble_eq_true rfl) ?_
        refine T_istore dX4_read_45 ?_
        show TX _ _ _ _ _ _ _ _ [_, _, _, _, _, _] _
        refine T_iload dX4_read_47 rfl ?_
        refine T_iload dX4_read_49 rfl ?_
        have J104 : ∀ (x : aH) (l3 : Int32), jX4_read_104 p1 (wX4_read_12 p1 n) x l3 = some R → TX true Z mX4_read 1 y x Q 104 [.ref 48, .ref p1, .null, .int l3, .null, .null] [] := by
          intro x l3 hf
          delta jX4_read_104 at hf
          refine T_iinc dX4_read_104 rfl ?_
          show TX _ _ _ _ _ _ _ _ [_, _, _, _, _, _] _
          refine T_goto dX4_read_107 ?_
          exact X_wk (WK.s (WK.s (WK.n (WK.s (WK.n (WK.n WK.e)))))) (ih _ _ hf ke)
        refine T_icmp_eq dX4_read_51 (fun c51_5 => ?_) (fun c51_5 => ?_)
        · replace hf := ite_t c51_5 hf
          exact X_wk (WK.s (WK.s (WK.n (WK.s (WK.n (WK.n WK.e)))))) (J104 _ _ hf)
        · replace hf := ite_f c51_5 hf
          refine T_aload dX4_read_54 rfl ?_
          refine T_iload dX4_read_55 rfl ?_
          obtain ⟨q57_6, hc57_6, hf⟩ := bind_t hf
          refine X_Vv (qX4_isLostOne Z _ hc57_6) (Nat.le_of_ble_eq_true rfl) dX4_read_57 lvX4_37 rfl rfl ob48 (Nat.le_of_ble_eq_true rfl) ?_
          refine T_if_eq dX4_read_60 (fun c60_7 => ?_) (fun c60_7 => ?_)
          · replace hf := ite_t c60_7 hf
            exact X_wk (WK.s (WK.s (WK.n (WK.s (WK.n (WK.n WK.e)))))) (J104 _ _ hf)
          · replace hf := ite_f c60_7 hf
            refine T_aload dX4_read_63 rfl ?_
            refine T_iload dX4_read_64 rfl ?_
            obtain ⟨q66_8, hc66_8, hf⟩ := bind_t hf
            refine X_Vv (qX4_isLostOne Z _ hc66_8) (Nat.le_of_ble_eq_true rfl) dX4_read_66 lvX4_37 rfl rfl ob48 (Nat.le_of_ble_eq_true rfl) ?_
            refine T_if_eq dX4_read_69 (fun c69_9 => ?_) (fun c69_9 => ?_)
            · replace hf := ite_t c69_9 hf
              exact X_wk (WK.s (WK.s (WK.n (WK.s (WK.n (WK.n WK.e)))))) (J104 _ _ hf)
            · replace hf := ite_f c69_9 hf
              refine T_aload dX4_read_72 rfl ?_
              refine X_getr dX4_read_73 lfX4_11 rfl ob48 rfl ?_
              refine T_aload dX4_read_76 rfl ?_
              refine X_getf dX4_read_77 lfX4_25 rfl ob48 ?_
              refine T_iload dX4_read_80 rfl ?_
              obtain ⟨hb82_10, hf⟩ := opt_t hf
              refine X_iast (N := 20) dX4_read_82 ar49 rfl hb82_10 ?_
              refine T_aload dX4_read_83 rfl ?_
              refine X_getr dX4_read_84 lfX4_15 rfl ob48 rfl ?_
              refine T_aload dX4_read_87 rfl ?_
              refine X_getf dX4_read_88 lfX4_25 rfl ob48 ?_
              refine T_iload dX4_read_91 rfl ?_
              obtain ⟨hb93_11, hf⟩ := opt_t hf
              refine X_iast (N := 20) dX4_read_93 ar50 rfl hb93_11 ?_
              refine T_aload dX4_read_94 rfl ?_
              refine T_dup dX4_read_95 rfl ?_
              refine X_getf dX4_read_96 lfX4_25 rfl ob48 ?_
              refine T_const dX4_read_99 ?_
              refine T_iadd dX4_read_100 ?_
              refine X_putf dX4_read_101 lfX4_25 rfl rfl ob48 ⟨rfl, rfl⟩ ?_
              exact X_wk (WK.s (WK.s (WK.n (WK.s (WK.n (WK.n WK.e)))))) (J104 _ _ hf)
theorem qX4_read (Z : aZ) (y : aH) {x : aH} {p1 : Nat} {p2 : Int32} (hp1 : SH p1) {q : aH} (hf : fX4_read x p1 p2 = some q) : CX true Z mX4_read 1 [.ref 48, .ref p1, .int p2] y x (RN q) := by
  refine CX.of mokX4_read (Nat.le_of_ble_eq_true rfl) ?_
  show TX _ _ _ _ _ _ _ _ [_, _, _, _, _, _] _
  delta fX4_read at hf
  refine T_aload dX4_read_0 rfl ?_
  refine T_iload dX4_read_1 rfl ?_
  refine X_putf dX4_read_2 lfX4_21 rfl rfl ob48 ⟨rfl, rfl⟩ ?_
  refine T_aload dX4_read_5 rfl ?_
  refine T_const dX4_read_6 ?_
  refine X_putf dX4_read_7 lfX4_25 rfl rfl ob48 ⟨rfl, rfl⟩ ?_
  refine T_const dX4_read_10 ?_
  refine T_istore dX4_read_11 ?_
  show TX _ _ _ _ _ _ _ _ [_, _, _, _, _, _] _
  obtain ⟨q12_12, hc12_12, hf⟩ := bind_t hf
  refine X_wk (WK.s (WK.s (WK.n (WK.s (WK.n (WK.n WK.e)))))) (lX4_read_12 Z _ hp1 2000 _ _ hc12_12 ?_)
  intro q12_12z hr
  subst hr
  obtain rfl := Option.some.inj hf
  exact X_rv dX4_read_110 ⟨rfl, rfl⟩
noncomputable def jX4_lacking_45 (ih : Int32 → Int32 → Option Int32) (x : aH) (l1 : Int32) (l2 : Int32) (l4 : Int32) (s0 : Int32) (s1 : Int32) : Option Int32 := ih (s0 + s1) (l4 + (1 : Int32))
noncomputable def jX4_lacking_44 (ih : Int32 → Int32 → Option Int32) (x : aH) (l1 : Int32) (l2 : Int32) (l4 : Int32) (s0 : Int32) : Option Int32 := jX4_lacking_45 ih x l1 l2 l4 s0 (0 : Int32)
noncomputable def sX4_lacking_5 (x : aH) (l1 : Int32) (l2 : Int32) (ih : Int32 → Int32 → Option Int32) (l3 : Int32) (l4 : Int32) : Option Int32 := if (fi x 48 2) ≤ l4 then some l3 else if (0 : Int32) ≤ l4 ∧ l4 < (20 : Int32) then if (ri x 50 (ix l4)) = l1 then if (0 : Int32) ≤ l4 ∧ l4 < (20 : Int32) then if ((l2 >>> ((ri x 49 (ix l4)) &&& 31)) &&& (1 : Int32)) = (0 : Int32) then jX4_lacking_45 ih x l1 l2 l4 l3 (1 : Int32) else jX4_lacking_44 ih x l1 l2 l4 l3 else none else jX4_lacking_44 ih x l1 l2 l4 l3 else none
noncomputable def wX4_lacking_5 (x : aH) (l1 : Int32) (l2 : Int32) : Nat → Int32 → Int32 → Option Int32
  | 0 => fun _ _ => none
  | n + 1 => sX4_lacking_5 x l1 l2 (wX4_lacking_5 x l1 l2 n)
noncomputable def fX4_lacking (x : aH) (p1 : Int32) (p2 : Int32) : Option Int32 := (wX4_lacking_5 x p1 p2 2000 (0 : Int32) (0 : Int32)).bind fun q5_6 => some q5_6
theorem lX4_lacking_5 (Z : aZ) (y : aH) (x : aH) (l1 : Int32) (l2 : Int32) {Q : Option Value → aH → Prop} {R : Int32} : ∀ (n : Nat) (l3 : Int32) (l4 : Int32), wX4_lacking_5 x l1 l2 n l3 l4 = some R → (∀ q, R = q → TX true Z mX4_lacking 0 y x Q 53 [.null, .null, .null, .int q, .null] []) → TX true Z mX4_lacking 0 y x Q 5 [.ref 48, .int l1, .int l2, .int l3, .int l4] [] := by
  intro n
  induction n with
  | zero => intro l3 l4 hf; cases hf
  | succ n ih =>
    intro l3 l4 hf ke
    replace hf : sX4_lacking_5 x l1 l2 (wX4_lacking_5 x l1 l2 n) l3 l4 = some R := hf
    delta sX4_lacking_5 at hf
    refine T_iload dX4_lacking_5 rfl ?_
    refine T_aload dX4_lacking_7 rfl ?_
    refine X_getf dX4_lacking_8 lfX4_25 rfl ob48 ?_
    refine T_icmp_ge dX4_lacking_11 (fun c11_1 => ?_) (fun c11_1 => ?_)
    · replace hf := ite_t c11_1 hf
      exact X_wk (WK.n (WK.n (WK.n (WK.s (WK.n WK.e))))) (ke l3 (Option.some.inj hf).symm)
    · replace hf := ite_f c11_1 hf
      refine T_iload dX4_lacking_14 rfl ?_
      refine T_aload dX4_lacking_15 rfl ?_
      refine X_getr dX4_lacking_16 lfX4_15 rfl ob48 rfl ?_
      refine T_iload dX4_lacking_19 rfl ?_
      obtain ⟨hb21_2, hf⟩ := opt_t hf
      refine X_iald (N := 20) dX4_lacking_21 ar50 rfl hb21_2 ?_
      refine T_iload dX4_lacking_22 rfl ?_
      have J45 : ∀ (l4 : Int32) (s0 : Int32) (s1 : Int32), jX4_lacking_45 (wX4_lacking_5 x l1 l2 n) x l1 l2 l4 s0 s1 = some R → TX true Z mX4_lacking 0 y x Q 45 [.ref 48, .int l1, .int l2, .null, .int l4] [.int s1, .int s0] := by
        intro l4 s0 s1 hf
        delta jX4_lacking_45 at hf
        refine T_iadd dX4_lacking_45 ?_
        refine T_istore dX4_lacking_46 ?_
        show TX _ _ _ _ _ _ _ _ [_, _, _, _, _] _
        refine T_iinc dX4_lacking_47 rfl ?_
        show TX _ _ _ _ _ _ _ _ [_, _, _, _, _] _
        refine T_goto dX4_lacking_50 ?_
        exact X_wk (WK.s (WK.s (WK.s (WK.s (WK.s WK.e))))) (ih _ _ hf ke)
      have J44 : ∀ (l4 : Int32) (s0 : Int32), jX4_lacking_44 (wX4_lacking_5 x l1 l2 n) x l1 l2 l4 s0 = some R → TX true Z mX4_lacking 0 y x Q 44 [.ref 48, .int l1, .int l2, .null, .int l4] [.int s0] := by
        intro l4 s0 hf
        delta jX4_lacking_44 at hf
        refine T_const dX4_lacking_44 ?_
        exact X_wk (WK.s (WK.s (WK.s (WK.n (WK.s WK.e))))) (J45 _ _ _ hf)
      refine T_icmp_ne dX4_lacking_23 (fun c23_3 => ?_) (fun c23_3 => ?_)
      · replace hf := ite_f c23_3 hf
        exact X_wk (WK.s (WK.s (WK.s (WK.n (WK.s WK.e))))) (J44 _ _ hf)
      · replace hf := ite_t c23_3 hf
        refine T_iload dX4_lacking_26 rfl ?_
        refine T_aload dX4_lacking_27 rfl ?_
        refine X_getr dX4_lacking_28 lfX4_11 rfl ob48 rfl ?_
        refine T_iload dX4_lacking_31 rfl ?_
        obtain ⟨hb33_4, hf⟩ := opt_t hf
        refine X_iald (N := 20) dX4_lacking_33 ar49 rfl hb33_4 ?_
        refine T_ishr dX4_lacking_34 ?_
        refine T_const dX4_lacking_35 ?_
        refine T_iand dX4_lacking_36 ?_
        refine T_if_ne dX4_lacking_37 (fun c37_5 => ?_) (fun c37_5 => ?_)
        · replace hf := ite_f c37_5 hf
          exact X_wk (WK.s (WK.s (WK.s (WK.n (WK.s WK.e))))) (J44 _ _ hf)
        · replace hf := ite_t c37_5 hf
          refine T_const dX4_lacking_40 ?_
          refine T_goto dX4_lacking_41 ?_
          exact X_wk (WK.s (WK.s (WK.s (WK.n (WK.s WK.e))))) (J45 _ _ _ hf)
theorem qX4_lacking (Z : aZ) (y : aH) {x : aH} {p1 : Int32} {p2 : Int32} {q : Int32} (hf : fX4_lacking x p1 p2 = some q) : CX true Z mX4_lacking 0 [.ref 48, .int p1, .int p2] y x (RV (.int q) x) := by
  refine CX.of mokX4_lacking (Nat.le_of_ble_eq_true rfl) ?_
  show TX _ _ _ _ _ _ _ _ [_, _, _, _, _] _
  delta fX4_lacking at hf
  refine T_const dX4_lacking_0 ?_
  refine T_istore dX4_lacking_1 ?_
  show TX _ _ _ _ _ _ _ _ [_, _, _, _, _] _
  refine T_const dX4_lacking_2 ?_
  refine T_istore dX4_lacking_3 ?_
  show TX _ _ _ _ _ _ _ _ [_, _, _, _, _] _
  obtain ⟨q5_6, hc5_6, hf⟩ := bind_t hf
  refine X_wk (WK.s (WK.s (WK.s (WK.s (WK.s WK.e))))) (lX4_lacking_5 Z _ _ _ _ 2000 _ _ hc5_6 ?_)
  intro q5_6z hr
  subst hr
  refine T_iload dX4_lacking_53 rfl ?_
  obtain rfl := Option.some.inj hf
  exact X_ri dX4_lacking_54 ⟨rfl, rfl⟩
noncomputable def fX4_isNext (x : aH) (p1 : Int32) (p2 : Int32) : Option Int32 := if ((p2 >>> (p1 &&& 31)) &&& (1 : Int32)) = (0 : Int32) then (fX4_lacking x p1 p2).bind fun q11_2 => if q11_2 = (0 : Int32) then some (1 : Int32) else some (0 : Int32) else some (0 : Int32)
theorem qX4_isNext (Z : aZ) (y : aH) {x : aH} {p1 : Int32} {p2 : Int32} {q : Int32} (hf : fX4_isNext x p1 p2 = some q) : CX true Z mX4_isNext 1 [.ref 48, .int p1, .int p2] y x (RV (.int q) x) := by
  refine CX.of mokX4_isNext (Nat.le_of_ble_eq_true rfl) ?_
  show TX _ _ _ _ _ _ _ _ [_, _, _] _
  delta fX4_isNext at hf
  refine T_iload dX4_isNext_0 rfl ?_
  refine T_iload dX4_isNext_1 rfl ?_
  refine T_ishr dX4_isNext_2 ?_
  refine T_const dX4_isNext_3 ?_
  refine T_iand dX4_isNext_4 ?_
  refine T_if_ne dX4_isNext_5 (fun c5_1 => ?_) (fun c5_1 => ?_)
  · replace hf := ite_f c5_1 hf
    refine T_const dX4_isNext_21 ?_
    obtain rfl := Option.some.inj hf
    exact X_rz dX4_isNext_22 (by first | exact Or.inl rfl | exact Or.inr rfl) ⟨rfl, rfl⟩
  · replace hf := ite_t c5_1 hf
    refine T_aload dX4_isNext_8 rfl ?_
    refine T_iload dX4_isNext_9 rfl ?_
    refine T_iload dX4_isNext_10 rfl ?_
    obtain ⟨q11_2, hc11_2, hf⟩ := bind_t hf
    refine X_Vv (qX4_lacking Z _ hc11_2) (Nat.le_of_ble_eq_true rfl) dX4_isNext_11 lvX4_41 rfl rfl ob48 (Nat.le_of_ble_eq_true rfl) ?_
    refine T_if_ne dX4_isNext_14 (fun c14_3 => ?_) (fun c14_3 => ?_)
    · replace hf := ite_f c14_3 hf
      refine T_const dX4_isNext_21 ?_
      obtain rfl := Option.some.inj hf
      exact X_rz dX4_isNext_22 (by first | exact Or.inl rfl | exact Or.inr rfl) ⟨rfl, rfl⟩
    · replace hf := ite_t c14_3 hf
      refine T_const dX4_isNext_17 ?_
      refine T_goto dX4_isNext_18 ?_
      obtain rfl := Option.some.inj hf
      exact X_rz dX4_isNext_22 (by first | exact Or.inl rfl | exact Or.inr rfl) ⟨rfl, rfl⟩
noncomputable def jX4_next_29 (ih : Int32 → Int32 → Option Int32) (x : aH) (l1 : Int32) (l3 : Int32) (s0 : Int32) (s1 : Int32) : Option Int32 := ih (s0 ||| s1) (l3 + (1 : Int32))
noncomputable def sX4_next_4 (x : aH) (l1 : Int32) (ih : Int32 → Int32 → Option Int32) (l2 : Int32) (l3 : Int32) : Option Int32 := if (fi x 48 3) ≤ l3 then some l2 else (fX4_isNext x l3 l1).bind fun q16_2 => if q16_2 = (0 : Int32) then jX4_next_29 ih x l1 l3 l2 (0 : Int32) else jX4_next_29 ih x l1 l3 l2 ((1 : Int32) <<< (l3 &&& 31))
noncomputable def wX4_next_4 (x : aH) (l1 : Int32) : Nat → Int32 → Int32 → Option Int32
  | 0 => fun _ _ => none
  | n + 1 => sX4_next_4 x l1 (wX4_next_4 x l1 n)
noncomputable def fX4_next (x : aH) (p1 : Int32) : Option Int32 := (wX4_next_4 x p1 2000 (0 : Int32) (0 : Int32)).bind fun q4_4 => some q4_4
theorem lX4_next_4 (Z : aZ) (y : aH) (x : aH) (l1 : Int32) {Q : Option Value → aH → Prop} {R : Int32} : ∀ (n : Nat) (l2 : Int32) (l3 : Int32), wX4_next_4 x l1 n l2 l3 = some R → (∀ q, R = q → TX true Z mX4_next 2 y x Q 37 [.null, .null, .int q, .null] []) → TX true Z mX4_next 2 y x Q 4 [.ref 48, .int l1, .int l2, .int l3] [] := by
  intro n
  induction n with
  | zero => intro l2 l3 hf; cases hf
  | succ n ih =>
    intro l2 l3 hf ke
    replace hf : sX4_next_4 x l1 (wX4_next_4 x l1 n) l2 l3 = some R := hf
    delta sX4_next_4 at hf
    refine T_iload dX4_next_4 rfl ?_
    refine T_aload dX4_next_5 rfl ?_
    refine X_getf dX4_next_6 lfX4_21 rfl ob48 ?_
    refine T_icmp_ge dX4_next_9 (fun c9_1 => ?_) (fun c9_1 => ?_)
    · replace hf := ite_t c9_1 hf
      exact X_wk (WK.n (WK.n (WK.s (WK.n WK.e)))) (ke l2 (Option.some.inj hf).symm)
    · replace hf := ite_f c9_1 hf
      refine T_iload dX4_next_12 rfl ?_
      refine T_aload dX4_next_13 rfl ?_
      refine T_iload dX4_next_14 rfl ?_
      refine T_iload dX4_next_15 rfl ?_
      obtain ⟨q16_2, hc16_2, hf⟩ := bind_t hf
      refine X_Vv (qX4_isNext Z _ hc16_2) (Nat.le_of_ble_eq_true rfl) dX4_next_16 lvX4_45 rfl rfl ob48 (Nat.le_of_ble_eq_true rfl) ?_
      have J29 : ∀ (l3 : Int32) (s0 : Int32) (s1 : Int32), jX4_next_29 (wX4_next_4 x l1 n) x l1 l3 s0 s1 = some R → TX true Z mX4_next 2 y x Q 29 [.ref 48, .int l1, .null, .int l3] [.int s1, .int s0] := by
        intro l3 s0 s1 hf
        delta jX4_next_29 at hf
        refine T_ior dX4_next_29 ?_
        refine T_istore dX4_next_30 ?_
        show TX _ _ _ _ _ _ _ _ [_, _, _, _] _
        refine T_iinc dX4_next_31 rfl ?_
        show TX _ _ _ _ _ _ _ _ [_, _, _, _] _
        refine T_goto dX4_next_34 ?_
        exact X_wk (WK.s (WK.s (WK.s (WK.s WK.e)))) (ih _ _ hf ke)
      refine T_if_eq dX4_next_19 (fun c19_3 => ?_) (fun c19_3 => ?_)
      · replace hf := ite_t c19_3 hf
        refine T_const dX4_next_28 ?_
        exact X_wk (WK.s (WK.s (WK.n (WK.s WK.e)))) (J29 _ _ _ hf)
      · replace hf := ite_f c19_3 hf
        refine T_const dX4_next_22 ?_
        refine T_iload dX4_next_23 rfl ?_
        refine T_ishl dX4_next_24 ?_
        refine T_goto dX4_next_25 ?_
        exact X_wk (WK.s (WK.s (WK.n (WK.s WK.e)))) (J29 _ _ _ hf)
theorem qX4_next (Z : aZ) (y : aH) {x : aH} {p1 : Int32} {q : Int32} (hf : fX4_next x p1 = some q) : CX true Z mX4_next 2 [.ref 48, .int p1] y x (RV (.int q) x) := by
  refine CX.of mokX4_next (Nat.le_of_ble_eq_true rfl) ?_
  show TX _ _ _ _ _ _ _ _ [_, _, _, _] _
  delta fX4_next at hf
  refine T_const dX4_next_0 ?_
  refine T_istore dX4_next_1 ?_
  show TX _ _ _ _ _ _ _ _ [_, _, _, _] _
  refine T_const dX4_next_2 ?_
  refine T_istore dX4_next_3 ?_
  show TX _ _ _ _ _ _ _ _ [_, _, _, _] _
  obtain ⟨q4_4, hc4_4, hf⟩ := bind_t hf
  refine X_wk (WK.s (WK.s (WK.s (WK.s WK.e)))) (lX4_next_4 Z _ _ _ 2000 _ _ hc4_4 ?_)
  intro q4_4z hr
  subst hr
  refine T_iload dX4_next_37 rfl ?_
  obtain rfl := Option.some.inj hf
  exact X_ri dX4_next_38 ⟨rfl, rfl⟩
noncomputable def sX4_inOrder_20 (x : aH) (l1 : Int32) (l2 : Int32) (l3 : Int32) (l4 : Int32) (ih : Int32 → Option Int32) (l5 : Int32) : Option Int32 := if (fi x 48 3) ≤ l5 then some l5 else (fX4_isNext x l5 l2).bind fun q33_3 => if q33_3 = (0 : Int32) then ih (l5 + (1 : Int32)) else some l5
noncomputable def wX4_inOrder_20 (x : aH) (l1 : Int32) (l2 : Int32) (l3 : Int32) (l4 : Int32) : Nat → Int32 → Option Int32
  | 0 => fun _ => none
  | n + 1 => sX4_inOrder_20 x l1 l2 l3 l4 (wX4_inOrder_20 x l1 l2 l3 l4 n)
noncomputable def jX4_inOrder_69 (ih : Int32 → Int32 → Int32 → Option (Sum Int32 Int32)) (x : aH) (l1 : Int32) (l2 : Int32) (l4 : Int32) (l5 : Int32) (s0 : Int32) : Option (Sum Int32 Int32) := ih (l2 ||| ((1 : Int32) <<< (l5 &&& 31))) s0 (l4 + (1 : Int32))
noncomputable def sX4_inOrder_8 (x : aH) (l1 : Int32) (ih : Int32 → Int32 → Int32 → Option (Sum Int32 Int32)) (l2 : Int32) (l3 : Int32) (l4 : Int32) : Option (Sum Int32 Int32) := if (fi x 48 3) ≤ l4 then some (.inr l3) else (wX4_inOrder_20 x l1 l2 l3 l4 2000 (0 : Int32)).bind fun q20_5 => if q20_5 = (fi x 48 3) then some (.inl (-2 : Int32)) else if l4 = l1 then jX4_inOrder_69 ih x l1 l2 l4 q20_5 q20_5 else jX4_inOrder_69 ih x l1 l2 l4 q20_5 l3
noncomputable def wX4_inOrder_8 (x : aH) (l1 : Int32) : Nat → Int32 → Int32 → Int32 → Option (Sum Int32 Int32)
  | 0 => fun _ _ _ => none
  | n + 1 => sX4_inOrder_8 x l1 (wX4_inOrder_8 x l1 n)
noncomputable def fX4_inOrder (x : aH) (p1 : Int32) : Option Int32 := (wX4_inOrder_8 x p1 2000 (0 : Int32) (-2 : Int32) (0 : Int32)).bind fun q8_8 => elS q8_8 (fun r => some r) (fun eq8_8 => some eq8_8)
theorem lX4_inOrder_20 (Z : aZ) (y : aH) (x : aH) (l1 : Int32) (l2 : Int32) (l3 : Int32) (l4 : Int32) {Q : Option Value → aH → Prop} {R : Int32} : ∀ (n : Nat) (l5 : Int32), wX4_inOrder_20 x l1 l2 l3 l4 n l5 = some R → (∀ q, R = q → TX true Z mX4_inOrder 2 y x Q 45 [.ref 48, .int l1, .int l2, .int l3, .int l4, .int q] []) → TX true Z mX4_inOrder 2 y x Q 20 [.ref 48, .int l1, .int l2, .int l3, .int l4, .int l5] [] := by
  intro n
  induction n with
  | zero => intro l5 hf; cases hf
  | succ n ih =>
    intro l5 hf ke
    replace hf : sX4_inOrder_20 x l1 l2 l3 l4 (wX4_inOrder_20 x l1 l2 l3 l4 n) l5 = some R := hf
    delta sX4_inOrder_20 at hf
    refine T_iload dX4_inOrder_20 rfl ?_
    refine T_aload dX4_inOrder_22 rfl ?_
    refine X_getf dX4_inOrder_23 lfX4_21 rfl ob48 ?_
    refine T_icmp_ge dX4_inOrder_26 (fun c26_2 => ?_) (fun c26_2 => ?_)
    · replace hf := ite_t c26_2 hf
      exact X_wk (WK.s (WK.s (WK.s (WK.s (WK.s (WK.s WK.e)))))) (ke l5 (Option.some.inj hf).symm)
    · replace hf := ite_f c26_2 hf
      refine T_aload dX4_inOrder_29 rfl ?_
      refine T_iload dX4_inOrder_30 rfl ?_
      refine T_iload dX4_inOrder_32 rfl ?_
      obtain ⟨q33_3, hc33_3, hf⟩ := bind_t hf
      refine X_Vv (qX4_isNext Z _ hc33_3) (Nat.le_of_ble_eq_true rfl) dX4_inOrder_33 lvX4_45 rfl rfl ob48 (Nat.le_of_ble_eq_true rfl) ?_
      refine T_if_ne dX4_inOrder_36 (fun c36_4 => ?_) (fun c36_4 => ?_)
      · replace hf := ite_f c36_4 hf
        exact X_wk (WK.s (WK.s (WK.s (WK.s (WK.s (WK.s WK.e)))))) (ke l5 (Option.some.inj hf).symm)
      · replace hf := ite_t c36_4 hf
        refine T_iinc dX4_inOrder_39 rfl ?_
        show TX _ _ _ _ _ _ _ _ [_, _, _, _, _, _] _
        refine T_goto dX4_inOrder_42 ?_
        exact X_wk (WK.s (WK.s (WK.s (WK.s (WK.s (WK.s WK.e)))))) (ih _ hf ke)
theorem lX4_inOrder_8 (Z : aZ) (y : aH) (x : aH) (l1 : Int32) {Q : Option Value → aH → Prop} {R : (Sum Int32 Int32)} : ∀ (n : Nat) (l2 : Int32) (l3 : Int32) (l4 : Int32), wX4_inOrder_8 x l1 n l2 l3 l4 = some R → (∀ r, R = .inl r → Q (some (.int r)) x) → (∀ q, R = .inr q → TX true Z mX4_inOrder 2 y x Q 83 [.null, .null, .null, .int q, .null, .null] []) → TX true Z mX4_inOrder 2 y x Q 8 [.ref 48, .int l1, .int l2, .int l3, .int l4, .null] [] := by
  intro n
  induction n with
  | zero => intro l2 l3 l4 hf; cases hf
  | succ n ih =>
    intro l2 l3 l4 hf kr ke
    replace hf : sX4_inOrder_8 x l1 (wX4_inOrder_8 x l1 n) l2 l3 l4 = some R := hf
    delta sX4_inOrder_8 at hf
    refine T_iload dX4_inOrder_8 rfl ?_
    refine T_aload dX4_inOrder_10 rfl ?_
    refine X_getf dX4_inOrder_11 lfX4_21 rfl ob48 ?_
    refine T_icmp_ge dX4_inOrder_14 (fun c14_1 => ?_) (fun c14_1 => ?_)
    · replace hf := ite_t c14_1 hf
      exact X_wk (WK.n (WK.n (WK.n (WK.s (WK.n (WK.n WK.e)))))) (ke l3 (Option.some.inj hf).symm)
    · replace hf := ite_f c14_1 hf
      refine T_const dX4_inOrder_17 ?_
      refine T_istore dX4_inOrder_18 ?_
      show TX _ _ _ _ _ _ _ _ [_, _, _, _, _, _] _
      obtain ⟨q20_5, hc20_5, hf⟩ := bind_t hf
      refine X_wk (WK.s (WK.s (WK.s (WK.s (WK.s (WK.s WK.e)))))) (lX4_inOrder_20 Z _ _ _ _ _ _ 2000 _ hc20_5 ?_)
      intro q20_5z hr
      subst hr
      refine T_iload dX4_inOrder_45 rfl ?_
      refine T_aload dX4_inOrder_47 rfl ?_
      refine X_getf dX4_inOrder_48 lfX4_21 rfl ob48 ?_
      refine T_icmp_ne dX4_inOrder_51 (fun c51_6 => ?_) (fun c51_6 => ?_)
      · replace hf := ite_f c51_6 hf
        refine T_iload dX4_inOrder_57 rfl ?_
        refine T_iload dX4_inOrder_59 rfl ?_
        have J69 : ∀ (l2 : Int32) (l4 : Int32) (l5 : Int32) (s0 : Int32), jX4_inOrder_69 (wX4_inOrder_8 x l1 n) x l1 l2 l4 l5 s0 = some R → TX true Z mX4_inOrder 2 y x Q 69 [.ref 48, .int l1, .int l2, .null, .int l4, .int l5] [.int s0] := by
          intro l2 l4 l5 s0 hf
          delta jX4_inOrder_69 at hf
          refine T_istore dX4_inOrder_69 ?_
          show TX _ _ _ _ _ _ _ _ [_, _, _, _, _, _] _
          refine T_iload dX4_inOrder_70 rfl ?_
          refine T_const dX4_inOrder_71 ?_
          refine T_iload dX4_inOrder_72 rfl ?_
          refine T_ishl dX4_inOrder_74 ?_
          refine T_ior dX4_inOrder_75 ?_
          refine T_istore dX4_inOrder_76 ?_
          show TX _ _ _ _ _ _ _ _ [_, _, _, _, _, _] _
          refine T_iinc dX4_inOrder_77 rfl ?_
          show TX _ _ _ _ _ _ _ _ [_, _, _, _, _, _] _
          refine T_goto dX4_inOrder_80 ?_
          exact X_wk (WK.s (WK.s (WK.s (WK.s (WK.s (WK.n WK.e)))))) (ih _ _ _ hf kr ke)
        refine T_icmp_ne dX4_inOrder_60 (fun c60_7 => ?_) (fun c60_7 => ?_)
        · replace hf := ite_f c60_7 hf
          refine T_iload dX4_inOrder_68 rfl ?_
          exact X_wk (WK.s (WK.s (WK.s (WK.n (WK.s (WK.s WK.e)))))) (J69 _ _ _ _ hf)
        · replace hf := ite_t c60_7 hf
          refine T_iload dX4_inOrder_63 rfl ?_
          refine T_goto dX4_inOrder_65 ?_
          exact X_wk (WK.s (WK.s (WK.s (WK.n (WK.s (WK.s WK.e)))))) (J69 _ _ _ _ hf)
      · replace hf := ite_t c51_6 hf
        refine T_const dX4_inOrder_54 ?_
        exact X_ri dX4_inOrder_56 (kr (-2 : Int32) (Option.some.inj hf).symm)
theorem qX4_inOrder (Z : aZ) (y : aH) {x : aH} {p1 : Int32} {q : Int32} (hf : fX4_inOrder x p1 = some q) : CX true Z mX4_inOrder 2 [.ref 48, .int p1] y x (RV (.int q) x) := by
  refine CX.of mokX4_inOrder (Nat.le_of_ble_eq_true rfl) ?_
  show TX _ _ _ _ _ _ _ _ [_, _, _, _, _, _] _
  delta fX4_inOrder at hf
  refine T_const dX4_inOrder_0 ?_
  refine T_istore dX4_inOrder_1 ?_
  show TX _ _ _ _ _ _ _ _ [_, _, _, _, _, _] _
  refine T_const dX4_inOrder_2 ?_
  refine T_istore dX4_inOrder_4 ?_
  show TX _ _ _ _ _ _ _ _ [_, _, _, _, _, _] _
  refine T_const dX4_inOrder_5 ?_
  refine T_istore dX4_inOrder_6 ?_
  show TX _ _ _ _ _ _ _ _ [_, _, _, _, _, _] _
  obtain ⟨q8_8, hc8_8, hf⟩ := bind_t hf
  refine X_wk (WK.s (WK.s (WK.s (WK.s (WK.s (WK.n WK.e)))))) (lX4_inOrder_8 Z _ _ _ 2000 _ _ _ hc8_8 ?_ ?_)
  · intro r hr
    subst hr
    replace hf := elS_l hf
    obtain rfl := Option.some.inj hf
    exact ⟨rfl, rfl⟩
  · intro eq8_8 hr
    subst hr
    replace hf := elS_r hf
    refine T_iload dX4_inOrder_83 rfl ?_
    obtain rfl := Option.some.inj hf
    exact X_ri dX4_inOrder_84 ⟨rfl, rfl⟩
noncomputable def sX4_ringFrom_20 (x : aH) (l1 : Int32) (l2 : Int32) (l3 : Int32) (ih : Int32 → Int32 → Option Int32) (l4 : Int32) (l5 : Int32) : Option Int32 := if (fi x 48 2) ≤ l5 then some l4 else if (0 : Int32) ≤ l5 ∧ l5 < (20 : Int32) then if (0 : Int32) ≤ l5 ∧ l5 < (20 : Int32) then ih (l4 ||| (((l2 >>> ((ri x 49 (ix l5)) &&& 31)) &&& (1 : Int32)) <<< ((ri x 50 (ix l5)) &&& 31))) (l5 + (1 : Int32)) else none else none
noncomputable def wX4_ringFrom_20 (x : aH) (l1 : Int32) (l2 : Int32) (l3 : Int32) : Nat → Int32 → Int32 → Option Int32
  | 0 => fun _ _ => none
  | n + 1 => sX4_ringFrom_20 x l1 l2 l3 (wX4_ringFrom_20 x l1 l2 l3 n)
noncomputable def sX4_ringFrom_6 (x : aH) (l1 : Int32) (ih : Int32 → Int32 → Option (Sum Int32 Unit)) (l2 : Int32) (l3 : Int32) : Option (Sum Int32 Unit) := if (fi x 48 3) < l3 then some (.inr ()) else (wX4_ringFrom_20 x l1 l2 l3 2000 (0 : Int32) (0 : Int32)).bind fun q20_5 => if ((q20_5 >>> (l1 &&& 31)) &&& (1 : Int32)) = (0 : Int32) then ih q20_5 (l3 + (1 : Int32)) else some (.inl l3)
noncomputable def wX4_ringFrom_6 (x : aH) (l1 : Int32) : Nat → Int32 → Int32 → Option (Sum Int32 Unit)
  | 0 => fun _ _ => none
  | n + 1 => sX4_ringFrom_6 x l1 (wX4_ringFrom_6 x l1 n)
noncomputable def fX4_ringFrom (x : aH) (p1 : Int32) : Option Int32 := (wX4_ringFrom_6 x p1 2000 ((1 : Int32) <<< (p1 &&& 31)) (1 : Int32)).bind fun q6_7 => elS q6_7 (fun r => some r) (fun eq6_7 => some (0 : Int32))
theorem lX4_ringFrom_20 (Z : aZ) (y : aH) (x : aH) (l1 : Int32) (l2 : Int32) (l3 : Int32) {Q : Option Value → aH → Prop} {R : Int32} : ∀ (n : Nat) (l4 : Int32) (l5 : Int32), wX4_ringFrom_20 x l1 l2 l3 n l4 l5 = some R → (∀ q, R = q → TX true Z mX4_ringFrom 0 y x Q 59 [.ref 48, .int l1, .null, .int l3, .int q, .null] []) → TX true Z mX4_ringFrom 0 y x Q 20 [.ref 48, .int l1, .int l2, .int l3, .int l4, .int l5] [] := by
  intro n
  induction n with
  | zero => intro l4 l5 hf; cases hf
  | succ n ih =>
    intro l4 l5 hf ke
    replace hf : sX4_ringFrom_20 x l1 l2 l3 (wX4_ringFrom_20 x l1 l2 l3 n) l4 l5 = some R := hf
    delta sX4_ringFrom_20 at hf
    refine T_iload dX4_ringFrom_20 rfl ?_
    refine T_aload dX4_ringFrom_22 rfl ?_
    refine X_getf dX4_ringFrom_23 lfX4_25 rfl ob48 ?_
    refine T_icmp_ge dX4_ringFrom_26 (fun c26_2 => ?_) (fun c26_2 => ?_)
    · replace hf := ite_t c26_2 hf
      exact X_wk (WK.s (WK.s (WK.n (WK.s (WK.s (WK.n WK.e)))))) (ke l4 (Option.some.inj hf).symm)
    · replace hf := ite_f c26_2 hf
      refine T_iload dX4_ringFrom_29 rfl ?_
      refine T_iload dX4_ringFrom_31 rfl ?_
      refine T_aload dX4_ringFrom_32 rfl ?_
      refine X_getr dX4_ringFrom_33 lfX4_11 rfl ob48 rfl ?_
      refine T_iload dX4_ringFrom_36 rfl ?_
      obtain ⟨hb38_3, hf⟩ := opt_t hf
      refine X_iald (N := 20) dX4_ringFrom_38 ar49 rfl hb38_3 ?_
      refine T_ishr dX4_ringFrom_39 ?_
      refine T_const dX4_ringFrom_40 ?_
      refine T_iand dX4_ringFrom_41 ?_
      refine T_aload dX4_ringFrom_42 rfl ?_
      refine X_getr dX4_ringFrom_43 lfX4_15 rfl ob48 rfl ?_
      refine T_iload dX4_ringFrom_46 rfl ?_
      obtain ⟨hb48_4, hf⟩ := opt_t hf
      refine X_iald (N := 20) dX4_ringFrom_48 ar50 rfl hb48_4 ?_
      refine T_ishl dX4_ringFrom_49 ?_
      refine T_ior dX4_ringFrom_50 ?_
      refine T_istore dX4_ringFrom_51 ?_
      show TX _ _ _ _ _ _ _ _ [_, _, _, _, _, _] _
      refine T_iinc dX4_ringFrom_53 rfl ?_
      show TX _ _ _ _ _ _ _ _ [_, _, _, _, _, _] _
      refine T_goto dX4_ringFrom_56 ?_
      exact X_wk (WK.s (WK.s (WK.s (WK.s (WK.s (WK.s WK.e)))))) (ih _ _ hf ke)
theorem lX4_ringFrom_6 (Z : aZ) (y : aH) (x : aH) (l1 : Int32) {Q : Option Value → aH → Prop} {R : (Sum Int32 Unit)} : ∀ (n : Nat) (l2 : Int32) (l3 : Int32), wX4_ringFrom_6 x l1 n l2 l3 = some R → (∀ r, R = .inl r → Q (some (.int r)) x) → (∀ q, R = .inr q → TX true Z mX4_ringFrom 0 y x Q 79 [.null, .null, .null, .null, .null, .null] []) → TX true Z mX4_ringFrom 0 y x Q 6 [.ref 48, .int l1, .int l2, .int l3, .null, .null] [] := by
  intro n
  induction n with
  | zero => intro l2 l3 hf; cases hf
  | succ n ih =>
    intro l2 l3 hf kr ke
    replace hf : sX4_ringFrom_6 x l1 (wX4_ringFrom_6 x l1 n) l2 l3 = some R := hf
    delta sX4_ringFrom_6 at hf
    refine T_iload dX4_ringFrom_6 rfl ?_
    refine T_aload dX4_ringFrom_7 rfl ?_
    refine X_getf dX4_ringFrom_8 lfX4_21 rfl ob48 ?_
    refine T_icmp_gt dX4_ringFrom_11 (fun c11_1 => ?_) (fun c11_1 => ?_)
    · replace hf := ite_t c11_1 hf
      exact X_wk (WK.n (WK.n (WK.n (WK.n (WK.n (WK.n WK.e)))))) (ke () (Option.some.inj hf).symm)
    · replace hf := ite_f c11_1 hf
      refine T_const dX4_ringFrom_14 ?_
      refine T_istore dX4_ringFrom_15 ?_
      show TX _ _ _ _ _ _ _ _ [_, _, _, _, _, _] _
      refine T_const dX4_ringFrom_17 ?_
      refine T_istore dX4_ringFrom_18 ?_
      show TX _ _ _ _ _ _ _ _ [_, _, _, _, _, _] _
      obtain ⟨q20_5, hc20_5, hf⟩ := bind_t hf
      refine X_wk (WK.s (WK.s (WK.s (WK.s (WK.s (WK.s WK.e)))))) (lX4_ringFrom_20 Z _ _ _ _ _ 2000 _ _ hc20_5 ?_)
      intro q20_5z hr
      subst hr
      refine T_iload dX4_ringFrom_59 rfl ?_
      refine T_iload dX4_ringFrom_61 rfl ?_
      refine T_ishr dX4_ringFrom_62 ?_
      refine T_const dX4_ringFrom_63 ?_
      refine T_iand dX4_ringFrom_64 ?_
      refine T_if_eq dX4_ringFrom_65 (fun c65_6 => ?_) (fun c65_6 => ?_)
      · replace hf := ite_t c65_6 hf
        refine T_iload dX4_ringFrom_70 rfl ?_
        refine T_istore dX4_ringFrom_72 ?_
        show TX _ _ _ _ _ _ _ _ [_, _, _, _, _, _] _
        refine T_iinc dX4_ringFrom_73 rfl ?_
        show TX _ _ _ _ _ _ _ _ [_, _, _, _, _, _] _
        refine T_goto dX4_ringFrom_76 ?_
        exact X_wk (WK.s (WK.s (WK.s (WK.s (WK.n (WK.n WK.e)))))) (ih _ _ hf kr ke)
      · replace hf := ite_f c65_6 hf
        refine T_iload dX4_ringFrom_68 rfl ?_
        exact X_ri dX4_ringFrom_69 (kr l3 (Option.some.inj hf).symm)
theorem qX4_ringFrom (Z : aZ) (y : aH) {x : aH} {p1 : Int32} {q : Int32} (hf : fX4_ringFrom x p1 = some q) : CX true Z mX4_ringFrom 0 [.ref 48, .int p1] y x (RV (.int q) x) := by
  refine CX.of mokX4_ringFrom (Nat.le_of_ble_eq_true rfl) ?_
  show TX _ _ _ _ _ _ _ _ [_, _, _, _, _, _] _
  delta fX4_ringFrom at hf
  refine T_const dX4_ringFrom_0 ?_
  refine T_iload dX4_ringFrom_1 rfl ?_
  refine T_ishl dX4_ringFrom_2 ?_
  refine T_istore dX4_ringFrom_3 ?_
  show TX _ _ _ _ _ _ _ _ [_, _, _, _, _, _] _
  refine T_const dX4_ringFrom_4 ?_
  refine T_istore dX4_ringFrom_5 ?_
  show TX _ _ _ _ _ _ _ _ [_, _, _, _, _, _] _
  obtain ⟨q6_7, hc6_7, hf⟩ := bind_t hf
  refine X_wk (WK.s (WK.s (WK.s (WK.s (WK.n (WK.n WK.e)))))) (lX4_ringFrom_6 Z _ _ _ 2000 _ _ hc6_7 ?_ ?_)
  · intro r hr
    subst hr
    replace hf := elS_l hf
    obtain rfl := Option.some.inj hf
    exact ⟨rfl, rfl⟩
  · intro eq6_7 hr
    subst hr
    replace hf := elS_r hf
    refine T_const dX4_ringFrom_79 ?_
    obtain rfl := Option.some.inj hf
    exact X_ri dX4_ringFrom_80 ⟨rfl, rfl⟩
noncomputable def jX4_smallestRing_36 (ih : Int32 → Int32 → Option Int32) (x : aH) (l1 : Int32) (l2 : Int32) : Option Int32 := ih l1 (l2 + (1 : Int32))
noncomputable def jX4_smallestRing_34 (ih : Int32 → Int32 → Option Int32) (x : aH) (l2 : Int32) (l3 : Int32) : Option Int32 := jX4_smallestRing_36 ih x l3 l2
noncomputable def sX4_smallestRing_5 (x : aH) (ih : Int32 → Int32 → Option Int32) (l1 : Int32) (l2 : Int32) : Option Int32 := if (fi x 48 3) ≤ l2 then some l1 else (fX4_ringFrom x l2).bind fun q15_2 => if q15_2 ≤ (0 : Int32) then jX4_smallestRing_36 ih x l1 l2 else if l1 = (-2 : Int32) then jX4_smallestRing_34 ih x l2 q15_2 else if l1 ≤ q15_2 then jX4_smallestRing_36 ih x l1 l2 else jX4_smallestRing_34 ih x l2 q15_2
noncomputable def wX4_smallestRing_5 (x : aH) : Nat → Int32 → Int32 → Option Int32
  | 0 => fun _ _ => none
  | n + 1 => sX4_smallestRing_5 x (wX4_smallestRing_5 x n)
noncomputable def fX4_smallestRing (x : aH) : Option Int32 := (wX4_smallestRing_5 x 2000 (-2 : Int32) (0 : Int32)).bind fun q5_6 => some q5_6
theorem lX4_smallestRing_5 (Z : aZ) (y : aH) (x : aH) {Q : Option Value → aH → Prop} {R : Int32} : ∀ (n : Nat) (l1 : Int32) (l2 : Int32), wX4_smallestRing_5 x n l1 l2 = some R → (∀ q, R = q → TX true Z mX4_smallestRing 1 y x Q 42 [.null, .int q, .null, .null] []) → TX true Z mX4_smallestRing 1 y x Q 5 [.ref 48, .int l1, .int l2, .null] [] := by
  intro n
  induction n with
  | zero => intro l1 l2 hf; cases hf
  | succ n ih =>
    intro l1 l2 hf ke
    replace hf : sX4_smallestRing_5 x (wX4_smallestRing_5 x n) l1 l2 = some R := hf
    delta sX4_smallestRing_5 at hf
    refine T_iload dX4_smallestRing_5 rfl ?_
    refine T_aload dX4_smallestRing_6 rfl ?_
    refine X_getf dX4_smallestRing_7 lfX4_21 rfl ob48 ?_
    refine T_icmp_ge dX4_smallestRing_10 (fun c10_1 => ?_) (fun c10_1 => ?_)
    · replace hf := ite_t c10_1 hf
      exact X_wk (WK.n (WK.s (WK.n (WK.n WK.e)))) (ke l1 (Option.some.inj hf).symm)
    · replace hf := ite_f c10_1 hf
      refine T_aload dX4_smallestRing_13 rfl ?_
      refine T_iload dX4_smallestRing_14 rfl ?_
      obtain ⟨q15_2, hc15_2, hf⟩ := bind_t hf
      refine X_Vv (qX4_ringFrom Z _ hc15_2) (Nat.le_of_ble_eq_true rfl) dX4_smallestRing_15 lvX4_49 rfl rfl ob48 (Nat.le_of_ble_eq_true rfl) ?_
      refine T_istore dX4_smallestRing_18 ?_
      show TX _ _ _ _ _ _ _ _ [_, _, _, _] _
      refine T_iload dX4_smallestRing_19 rfl ?_
      have J36 : ∀ (l1 : Int32) (l2 : Int32), jX4_smallestRing_36 (wX4_smallestRing_5 x n) x l1 l2 = some R → TX true Z mX4_smallestRing 1 y x Q 36 [.ref 48, .int l1, .int l2, .null] [] := by
        intro l1 l2 hf
        delta jX4_smallestRing_36 at hf
        refine T_iinc dX4_smallestRing_36 rfl ?_
        show TX _ _ _ _ _ _ _ _ [_, _, _, _] _
        refine T_goto dX4_smallestRing_39 ?_
        exact X_wk (WK.s (WK.s (WK.s (WK.n WK.e)))) (ih _ _ hf ke)
      refine T_if_le dX4_smallestRing_20 (fun c20_3 => ?_) (fun c20_3 => ?_)
      · replace hf := ite_t c20_3 hf
        exact X_wk (WK.s (WK.s (WK.s (WK.n WK.e)))) (J36 _ _ hf)
      · replace hf := ite_f c20_3 hf
        refine T_iload dX4_smallestRing_23 rfl ?_
        refine T_const dX4_smallestRing_24 ?_
        have J34 : ∀ (l2 : Int32) (l3 : Int32), jX4_smallestRing_34 (wX4_smallestRing_5 x n) x l2 l3 = some R → TX true Z mX4_smallestRing 1 y x Q 34 [.ref 48, .null, .int l2, .int l3] [] := by
          intro l2 l3 hf
          delta jX4_smallestRing_34 at hf
          refine T_iload dX4_smallestRing_34 rfl ?_
          refine T_istore dX4_smallestRing_35 ?_
          show TX _ _ _ _ _ _ _ _ [_, _, _, _] _
          exact X_wk (WK.s (WK.s (WK.s (WK.n WK.e)))) (J36 _ _ hf)
        refine T_icmp_eq dX4_smallestRing_26 (fun c26_4 => ?_) (fun c26_4 => ?_)
        · replace hf := ite_t c26_4 hf
          exact X_wk (WK.s (WK.n (WK.s (WK.s WK.e)))) (J34 _ _ hf)
        · replace hf := ite_f c26_4 hf
          refine T_iload dX4_smallestRing_29 rfl ?_
          refine T_iload dX4_smallestRing_30 rfl ?_
          refine T_icmp_ge dX4_smallestRing_31 (fun c31_5 => ?_) (fun c31_5 => ?_)
          · replace hf := ite_t c31_5 hf
            exact X_wk (WK.s (WK.s (WK.s (WK.n WK.e)))) (J36 _ _ hf)
          · replace hf := ite_f c31_5 hf
            exact X_wk (WK.s (WK.n (WK.s (WK.s WK.e)))) (J34 _ _ hf)
theorem qX4_smallestRing (Z : aZ) (y : aH) {x : aH} {q : Int32} (hf : fX4_smallestRing x = some q) : CX true Z mX4_smallestRing 1 [.ref 48] y x (RV (.int q) x) := by
  refine CX.of mokX4_smallestRing (Nat.le_of_ble_eq_true rfl) ?_
  show TX _ _ _ _ _ _ _ _ [_, _, _, _] _
  delta fX4_smallestRing at hf
  refine T_const dX4_smallestRing_0 ?_
  refine T_istore dX4_smallestRing_2 ?_
  show TX _ _ _ _ _ _ _ _ [_, _, _, _] _
  refine T_const dX4_smallestRing_3 ?_
  refine T_istore dX4_smallestRing_4 ?_
  show TX _ _ _ _ _ _ _ _ [_, _, _, _] _
  obtain ⟨q5_6, hc5_6, hf⟩ := bind_t hf
  refine X_wk (WK.s (WK.s (WK.s (WK.n WK.e)))) (lX4_smallestRing_5 Z _ _ 2000 _ _ hc5_6 ?_)
  intro q5_6z hr
  subst hr
  refine T_iload dX4_smallestRing_42 rfl ?_
  obtain rfl := Option.some.inj hf
  exact X_ri dX4_smallestRing_43 ⟨rfl, rfl⟩
noncomputable def jX4_fewestDropped_76 (ih : Int32 → Int32 → Option Int32) (x : aH) (l1 : Int32) (l2 : Int32) (l3 : Int32) (l4 : Int32) : Option Int32 := ih l3 (l4 + (1 : Int32))
noncomputable def sX4_fewestDropped_29 (x : aH) (l1 : Int32) (l2 : Int32) (ih : Int32 → Int32 → Option Int32) (l3 : Int32) (l4 : Int32) : Option Int32 := if (fi x 48 3) ≤ l4 then some l3 else if ((l2 >>> (l4 &&& 31)) &&& (1 : Int32)) = (0 : Int32) then jX4_fewestDropped_76 ih x l1 l2 l3 l4 else if (0 : Int32) ≤ (l2 ^^^ ((1 : Int32) <<< (l4 &&& 31))) ∧ (l2 ^^^ ((1 : Int32) <<< (l4 &&& 31))) < (1024 : Int32) then (fX4_lacking x l4 (l2 ^^^ ((1 : Int32) <<< (l4 &&& 31)))).bind fun q68_5 => jX4_fewestDropped_76 ih x l1 l2 (if ((ri x 51 (ix (l2 ^^^ ((1 : Int32) <<< (l4 &&& 31))))) + q68_5) < l3 then ((ri x 51 (ix (l2 ^^^ ((1 : Int32) <<< (l4 &&& 31))))) + q68_5) else l3) l4 else none
noncomputable def wX4_fewestDropped_29 (x : aH) (l1 : Int32) (l2 : Int32) : Nat → Int32 → Int32 → Option Int32
  | 0 => fun _ _ => none
  | n + 1 => sX4_fewestDropped_29 x l1 l2 (wX4_fewestDropped_29 x l1 l2 n)
noncomputable def sX4_fewestDropped_18 (l1 : Int32) (ih : aH → Int32 → Option aH) (x : aH) (l2 : Int32) : Option aH := if l1 < l2 then some x else (wX4_fewestDropped_29 x l1 l2 2000 (20 : Int32) (0 : Int32)).bind fun q29_6 => if (0 : Int32) ≤ l2 ∧ l2 < (1024 : Int32) then ih (sri x 51 (ix l2) q29_6) (l2 + (1 : Int32)) else none
noncomputable def wX4_fewestDropped_18 (l1 : Int32) : Nat → aH → Int32 → Option aH
  | 0 => fun _ _ => none
  | n + 1 => sX4_fewestDropped_18 l1 (wX4_fewestDropped_18 l1 n)
noncomputable def fX4_fewestDropped (x : aH) : Option (Int32 × aH) := (wX4_fewestDropped_18 (((1 : Int32) <<< ((fi x 48 3) &&& 31)) - (1 : Int32)) 2000 (sri x 51 (ix (0 : Int32)) (0 : Int32)) (1 : Int32)).bind fun q18_8 => if (0 : Int32) ≤ (((1 : Int32) <<< ((fi x 48 3) &&& 31)) - (1 : Int32)) ∧ (((1 : Int32) <<< ((fi x 48 3) &&& 31)) - (1 : Int32)) < (1024 : Int32) then some ((ri q18_8 51 (ix (((1 : Int32) <<< ((fi x 48 3) &&& 31)) - (1 : Int32)))), q18_8) else none
theorem lX4_fewestDropped_29 (Z : aZ) (y : aH) (x : aH) (l1 : Int32) (l2 : Int32) {Q : Option Value → aH → Prop} {R : Int32} : ∀ (n : Nat) (l3 : Int32) (l4 : Int32), wX4_fewestDropped_29 x l1 l2 n l3 l4 = some R → (∀ q, R = q → TX true Z mX4_fewestDropped 1 y x Q 82 [.ref 48, .int l1, .int l2, .int q, .null, .null] []) → TX true Z mX4_fewestDropped 1 y x Q 29 [.ref 48, .int l1, .int l2, .int l3, .int l4, .null] [] := by
  intro n
  induction n with
  | zero => intro l3 l4 hf; cases hf
  | succ n ih =>
    intro l3 l4 hf ke
    replace hf : sX4_fewestDropped_29 x l1 l2 (wX4_fewestDropped_29 x l1 l2 n) l3 l4 = some R := hf
    delta sX4_fewestDropped_29 at hf
    refine T_iload dX4_fewestDropped_29 rfl ?_
    refine T_aload dX4_fewestDropped_31 rfl ?_
    refine X_getf dX4_fewestDropped_32 lfX4_21 rfl ob48 ?_
    refine T_icmp_ge dX4_fewestDropped_35 (fun c35_2 => ?_) (fun c35_2 => ?_)
    · replace hf := ite_t c35_2 hf
      exact X_wk (WK.s (WK.s (WK.s (WK.s (WK.n (WK.n WK.e)))))) (ke l3 (Option.some.inj hf).symm)
    · replace hf := ite_f c35_2 hf
      refine T_iload dX4_fewestDropped_38 rfl ?_
      refine T_iload dX4_fewestDropped_39 rfl ?_
      refine T_ishr dX4_fewestDropped_41 ?_
      refine T_const dX4_fewestDropped_42 ?_
      refine T_iand dX4_fewestDropped_43 ?_
      have J76 : ∀ (l3 : Int32) (l4 : Int32), jX4_fewestDropped_76 (wX4_fewestDropped_29 x l1 l2 n) x l1 l2 l3 l4 = some R → TX true Z mX4_fewestDropped 1 y x Q 76 [.ref 48, .int l1, .int l2, .int l3, .int l4, .null] [] := by
        intro l3 l4 hf
        delta jX4_fewestDropped_76 at hf
        refine T_iinc dX4_fewestDropped_76 rfl ?_
        show TX _ _ _ _ _ _ _ _ [_, _, _, _, _, _] _
        refine T_goto dX4_fewestDropped_79 ?_
        exact X_wk (WK.s (WK.s (WK.s (WK.s (WK.s (WK.n WK.e)))))) (ih _ _ hf ke)
      refine T_if_eq dX4_fewestDropped_44 (fun c44_3 => ?_) (fun c44_3 => ?_)
      · replace hf := ite_t c44_3 hf
        exact X_wk (WK.s (WK.s (WK.s (WK.s (WK.s (WK.n WK.e)))))) (J76 _ _ hf)
      · replace hf := ite_f c44_3 hf
        refine T_iload dX4_fewestDropped_47 rfl ?_
        refine T_const dX4_fewestDropped_48 ?_
        refine T_iload dX4_fewestDropped_49 rfl ?_
        refine T_ishl dX4_fewestDropped_51 ?_
        refine T_ixor dX4_fewestDropped_52 ?_
        refine T_istore dX4_fewestDropped_53 ?_
        show TX _ _ _ _ _ _ _ _ [_, _, _, _, _, _] _
        refine T_iload dX4_fewestDropped_55 rfl ?_
        refine T_aload dX4_fewestDropped_56 rfl ?_
        refine X_getr dX4_fewestDropped_57 lfX4_18 rfl ob48 rfl ?_
        refine T_iload dX4_fewestDropped_60 rfl ?_
        obtain ⟨hb62_4, hf⟩ := opt_t hf
        refine X_iald (N := 1024) dX4_fewestDropped_62 ar51 rfl hb62_4 ?_
        refine T_aload dX4_fewestDropped_63 rfl ?_
        refine T_iload dX4_fewestDropped_64 rfl ?_
        refine T_iload dX4_fewestDropped_66 rfl ?_
        obtain ⟨q68_5, hc68_5, hf⟩ := bind_t hf
        refine X_Vv (qX4_lacking Z _ hc68_5) (Nat.le_of_ble_eq_true rfl) dX4_fewestDropped_68 lvX4_41 rfl rfl ob48 (Nat.le_of_ble_eq_true rfl) ?_
        refine T_iadd dX4_fewestDropped_71 ?_
        refine T_min dX4_fewestDropped_72 lmX4_52 (Nat.le_of_ble_eq_true rfl) ?_
        refine T_istore dX4_fewestDropped_75 ?_
        show TX _ _ _ _ _ _ _ _ [_, _, _, _, _, _] _
        exact X_wk (WK.s (WK.s (WK.s (WK.s (WK.s (WK.n WK.e)))))) (J76 _ _ hf)
theorem lX4_fewestDropped_18 (Z : aZ) (y : aH) (l1 : Int32) {Q : Option Value → aH → Prop} {R : aH} : ∀ (n : Nat) (x : aH) (l2 : Int32), wX4_fewestDropped_18 l1 n x l2 = some R → (∀ q, R = q → TX true Z mX4_fewestDropped 1 y q Q 95 [.ref 48, .int l1, .null, .null, .null, .null] []) → TX true Z mX4_fewestDropped 1 y x Q 18 [.ref 48, .int l1, .int l2, .null, .null, .null] [] := by
  intro n
  induction n with
  | zero => intro x l2 hf; cases hf
  | succ n ih =>
    intro x l2 hf ke
    replace hf : sX4_fewestDropped_18 l1 (wX4_fewestDropped_18 l1 n) x l2 = some R := hf
    delta sX4_fewestDropped_18 at hf
    refine T_iload dX4_fewestDropped_18 rfl ?_
    refine T_iload dX4_fewestDropped_19 rfl ?_
    refine T_icmp_gt dX4_fewestDropped_20 (fun c20_1 => ?_) (fun c20_1 => ?_)
    · replace hf := ite_t c20_1 hf
      exact X_wk (WK.s (WK.s (WK.n (WK.n (WK.n (WK.n WK.e)))))) (ke x (Option.some.inj hf).symm)
    · replace hf := ite_f c20_1 hf
      refine T_const dX4_fewestDropped_23 ?_
      refine T_istore dX4_fewestDropped_25 ?_
      show TX _ _ _ _ _ _ _ _ [_, _, _, _, _, _] _
      refine T_const dX4_fewestDropped_26 ?_
      refine T_istore dX4_fewestDropped_27 ?_
      show TX _ _ _ _ _ _ _ _ [_, _, _, _, _, _] _
      obtain ⟨q29_6, hc29_6, hf⟩ := bind_t hf
      refine X_wk (WK.s (WK.s (WK.s (WK.s (WK.s (WK.n WK.e)))))) (lX4_fewestDropped_29 Z _ _ _ _ 2000 _ _ hc29_6 ?_)
      intro q29_6z hr
      subst hr
      refine T_aload dX4_fewestDropped_82 rfl ?_
      refine X_getr dX4_fewestDropped_83 lfX4_18 rfl ob48 rfl ?_
      refine T_iload dX4_fewestDropped_86 rfl ?_
      refine T_iload dX4_fewestDropped_87 rfl ?_
      obtain ⟨hb88_7, hf⟩ := opt_t hf
      refine X_iast (N := 1024) dX4_fewestDropped_88 ar51 rfl hb88_7 ?_
      refine T_iinc dX4_fewestDropped_89 rfl ?_
      show TX _ _ _ _ _ _ _ _ [_, _, _, _, _, _] _
      refine T_goto dX4_fewestDropped_92 ?_
      exact X_wk (WK.s (WK.s (WK.s (WK.n (WK.n (WK.n WK.e)))))) (ih _ _ hf ke)
theorem qX4_fewestDropped (Z : aZ) (y : aH) {x : aH} {q : (Int32 × aH)} (hf : fX4_fewestDropped x = some q) : CX true Z mX4_fewestDropped 1 [.ref 48] y x (RV (.int q.1) q.2) := by
  refine CX.of mokX4_fewestDropped (Nat.le_of_ble_eq_true rfl) ?_
  show TX _ _ _ _ _ _ _ _ [_, _, _, _, _, _] _
  delta fX4_fewestDropped at hf
  refine T_const dX4_fewestDropped_0 ?_
  refine T_aload dX4_fewestDropped_1 rfl ?_
  refine X_getf dX4_fewestDropped_2 lfX4_21 rfl ob48 ?_
  refine T_ishl dX4_fewestDropped_5 ?_
  refine T_const dX4_fewestDropped_6 ?_
  refine T_isub dX4_fewestDropped_7 ?_
  refine T_istore dX4_fewestDropped_8 ?_
  show TX _ _ _ _ _ _ _ _ [_, _, _, _, _, _] _
  refine T_aload dX4_fewestDropped_9 rfl ?_
  refine X_getr dX4_fewestDropped_10 lfX4_18 rfl ob48 rfl ?_
  refine T_const dX4_fewestDropped_13 ?_
  refine T_const dX4_fewestDropped_14 ?_
  refine X_iast (N := 1024) dX4_fewestDropped_15 ar51 rfl (by decide) ?_
  refine T_const dX4_fewestDropped_16 ?_
  refine T_istore dX4_fewestDropped_17 ?_
  show TX _ _ _ _ _ _ _ _ [_, _, _, _, _, _] _
  obtain ⟨q18_8, hc18_8, hf⟩ := bind_t hf
  refine X_wk (WK.s (WK.s (WK.s (WK.n (WK.n (WK.n WK.e)))))) (lX4_fewestDropped_18 Z _ _ 2000 _ _ hc18_8 ?_)
  intro q18_8z hr
  subst hr
  refine T_aload dX4_fewestDropped_95 rfl ?_
  refine X_getr dX4_fewestDropped_96 lfX4_18 rfl ob48 rfl ?_
  refine T_iload dX4_fewestDropped_99 rfl ?_
  obtain ⟨hb100_9, hf⟩ := opt_t hf
  refine X_iald (N := 1024) dX4_fewestDropped_100 ar51 rfl hb100_9 ?_
  obtain rfl := Option.some.inj hf
  exact X_ri dX4_fewestDropped_101 ⟨rfl, rfl⟩
noncomputable def fX6_isNight (x : aH) (p1 : Nat) (p2 : Int32) : Option Int32 := if (fi x p1 2) ≤ p2 then some (0 : Int32) else (fX7_number x p1 p2).bind fun q10_2 => if q10_2 < (0 : Int32) then some (0 : Int32) else (fX7_number x p1 p2).bind fun q18_4 => if (4 : Int32) < q18_4 then some (0 : Int32) else some (1 : Int32)
theorem qX6_isNight (Z : aZ) (y : aH) {x : aH} {p1 : Nat} {p2 : Int32} (hp1 : SH p1) {q : Int32} (hf : fX6_isNight x p1 p2 = some q) : CX true Z mX6_isNight 1 [.ref 23, .ref p1, .int p2] y x (RV (.int q) x) := by
  refine CX.of mokX6_isNight (Nat.le_of_ble_eq_true rfl) ?_
  show TX _ _ _ _ _ _ _ _ [_, _, _] _
  delta fX6_isNight at hf
  refine T_iload dX6_isNight_0 rfl ?_
  refine T_aload dX6_isNight_1 rfl ?_
  refine X_getf dX6_isNight_2 lfX6_27 rfl (SH.ob hp1) ?_
  refine T_icmp_ge dX6_isNight_5 (fun c5_1 => ?_) (fun c5_1 => ?_)
  · replace hf := ite_t c5_1 hf
    refine T_const dX6_isNight_29 ?_
    obtain rfl := Option.some.inj hf
    exact X_rz dX6_isNight_30 (by first | exact Or.inl rfl | exact Or.inr rfl) ⟨rfl, rfl⟩
  · replace hf := ite_f c5_1 hf
    refine T_aload dX6_isNight_8 rfl ?_
    refine T_iload dX6_isNight_9 rfl ?_
    obtain ⟨q10_2, hc10_2, hf⟩ := bind_t hf
    refine X_Vv (qX7_number Z _ hp1 hc10_2) (Nat.le_of_ble_eq_true rfl) dX6_isNight_10 lvX6_33 rfl rfl (SH.ob hp1) (Nat.le_of_ble_eq_true rfl) ?_
    refine T_if_lt dX6_isNight_13 (fun c13_3 => ?_) (fun c13_3 => ?_)
    · replace hf := ite_t c13_3 hf
      refine T_const dX6_isNight_29 ?_
      obtain rfl := Option.some.inj hf
      exact X_rz dX6_isNight_30 (by first | exact Or.inl rfl | exact Or.inr rfl) ⟨rfl, rfl⟩
    · replace hf := ite_f c13_3 hf
      refine T_aload dX6_isNight_16 rfl ?_
      refine T_iload dX6_isNight_17 rfl ?_
      obtain ⟨q18_4, hc18_4, hf⟩ := bind_t hf
      refine X_Vv (qX7_number Z _ hp1 hc18_4) (Nat.le_of_ble_eq_true rfl) dX6_isNight_18 lvX6_33 rfl rfl (SH.ob hp1) (Nat.le_of_ble_eq_true rfl) ?_
      refine T_const dX6_isNight_21 ?_
      refine T_icmp_gt dX6_isNight_22 (fun c22_5 => ?_) (fun c22_5 => ?_)
      · replace hf := ite_t c22_5 hf
        refine T_const dX6_isNight_29 ?_
        obtain rfl := Option.some.inj hf
        exact X_rz dX6_isNight_30 (by first | exact Or.inl rfl | exact Or.inr rfl) ⟨rfl, rfl⟩
      · replace hf := ite_f c22_5 hf
        refine T_const dX6_isNight_25 ?_
        refine T_goto dX6_isNight_26 ?_
        obtain rfl := Option.some.inj hf
        exact X_rz dX6_isNight_30 (by first | exact Or.inl rfl | exact Or.inr rfl) ⟨rfl, rfl⟩
noncomputable def sX6_behind_17 (p1 : Nat) (p2 : Nat) (l3 : Int32) (l4 : Nat) (ih : aH → Int32 → Option aH) (x : aH) (l5 : Int32) : Option aH := if l3 ≤ l5 then some x else (fX6_isNight x p2 l5).bind fun q27_3 => if q27_3 = (0 : Int32) then some x else (fX7_number x p2 l5).bind fun q38_5 => (fX8_pass x l4 q38_5).bind fun q41_6 => ih q41_6.2 (l5 + (1 : Int32))
noncomputable def wX6_behind_17 (p1 : Nat) (p2 : Nat) (l3 : Int32) (l4 : Nat) : Nat → aH → Int32 → Option aH
  | 0 => fun _ _ => none
  | n + 1 => sX6_behind_17 p1 p2 l3 l4 (wX6_behind_17 p1 p2 l3 l4 n)
noncomputable def fX6_behind (x : aH) (p1 : Nat) (p2 : Nat) (p3 : Int32) : Option (Nat × aH) := (fX8_become x (27 + 4 * ix (0 : Int32)) p1).bind fun q11_1 => (wX6_behind_17 p1 p2 p3 (27 + 4 * ix (0 : Int32)) 2000 q11_1 (0 : Int32)).bind fun q17_7 => some ((27 + 4 * ix (0 : Int32)), q17_7)
theorem lX6_behind_17 (Z : aZ) (y : aH) {p1 : Nat} (hp1 : SD p1) {p2 : Nat} (hp2 : SH p2) (l3 : Int32) (l4 : Nat) (hl4 : SD l4) {Q : Option Value → aH → Prop} {R : aH} : ∀ (n : Nat) (x : aH) (l5 : Int32), wX6_behind_17 p1 p2 l3 l4 n x l5 = some R → (∀ q, R = q → TX true Z mX6_behind 4 y q Q 51 [.null, .null, .null, .null, .ref l4, .null] []) → TX true Z mX6_behind 4 y x Q 17 [.ref 23, .null, .ref p2, .int l3, .ref l4, .int l5] [] := by
  intro n
  induction n with
  | zero => intro x l5 hf; cases hf
  | succ n ih =>
    intro x l5 hf ke
    replace hf : sX6_behind_17 p1 p2 l3 l4 (wX6_behind_17 p1 p2 l3 l4 n) x l5 = some R := hf
    delta sX6_behind_17 at hf
    refine T_iload dX6_behind_17 rfl ?_
    refine T_iload dX6_behind_19 rfl ?_
    refine T_icmp_ge dX6_behind_20 (fun c20_2 => ?_) (fun c20_2 => ?_)
    · replace hf := ite_t c20_2 hf
      exact X_wk (WK.n (WK.n (WK.n (WK.n (WK.s (WK.n WK.e)))))) (ke x (Option.some.inj hf).symm)
    · replace hf := ite_f c20_2 hf
      refine T_aload dX6_behind_23 rfl ?_
      refine T_aload dX6_behind_24 rfl ?_
      refine T_iload dX6_behind_25 rfl ?_
      obtain ⟨q27_3, hc27_3, hf⟩ := bind_t hf
      refine X_Vv (qX6_isNight Z _ hp2 hc27_3) (Nat.le_of_ble_eq_true rfl) dX6_behind_27 lvX6_41 rfl rfl ob23 (Nat.le_of_ble_eq_true rfl) ?_
      refine T_if_eq dX6_behind_30 (fun c30_4 => ?_) (fun c30_4 => ?_)
      · replace hf := ite_t c30_4 hf
        exact X_wk (WK.n (WK.n (WK.n (WK.n (WK.s (WK.n WK.e)))))) (ke x (Option.some.inj hf).symm)
      · replace hf := ite_f c30_4 hf
        refine T_aload dX6_behind_33 rfl ?_
        refine T_aload dX6_behind_35 rfl ?_
        refine T_iload dX6_behind_36 rfl ?_
        obtain ⟨q38_5, hc38_5, hf⟩ := bind_t hf
        refine X_Vv (qX7_number Z _ hp2 hc38_5) (Nat.le_of_ble_eq_true rfl) dX6_behind_38 lvX6_33 rfl rfl (SH.ob hp2) (Nat.le_of_ble_eq_true rfl) ?_
        obtain ⟨q41_6, hc41_6, hf⟩ := bind_t hf
        refine X_Vv (qX8_pass Z _ hl4 hc41_6) (Nat.le_of_ble_eq_true rfl) dX6_behind_41 lvX6_45 rfl rfl (SD.ob hl4) (Nat.le_of_ble_eq_true rfl) ?_
        refine T_pop dX6_behind_44 rfl ?_
        refine T_iinc dX6_behind_45 rfl ?_
        show TX _ _ _ _ _ _ _ _ [_, _, _, _, _, _] _
        refine T_goto dX6_behind_48 ?_
        exact X_wk (WK.s (WK.n (WK.s (WK.s (WK.s (WK.s WK.e)))))) (ih _ _ hf ke)
theorem qX6_behind (Z : aZ) (y : aH) {x : aH} {p1 : Nat} {p2 : Nat} {p3 : Int32} (hp1 : SD p1) (hp2 : SH p2) {q : (Nat × aH)} (hf : fX6_behind x p1 p2 p3 = some q) : CX true Z mX6_behind 4 [.ref 23, .ref p1, .ref p2, .int p3] y x (RV (.ref q.1) q.2) := by
  refine CX.of mokX6_behind (Nat.le_of_ble_eq_true rfl) ?_
  show TX _ _ _ _ _ _ _ _ [_, _, _, _, _, _] _
  delta fX6_behind at hf
  refine T_aload dX6_behind_0 rfl ?_
  refine X_getr dX6_behind_1 lfX6_11 rfl ob23 rfl ?_
  refine T_const dX6_behind_4 ?_
  refine X_aaldSD dX6_behind_5 (show (0 : Int32) ≤ (0 : Int32) ∧ (0 : Int32) < (5 : Int32) by decide) ?_
  refine T_astore dX6_behind_6 ?_
  show TX _ _ _ _ _ _ _ _ [_, _, _, _, _, _] _
  refine T_aload dX6_behind_8 rfl ?_
  refine T_aload dX6_behind_10 rfl ?_
  obtain ⟨q11_1, hc11_1, hf⟩ := bind_t hf
  refine X_Vn (qX8_become Z _ (SD_at (show (0 : Int32) ≤ (0 : Int32) ∧ (0 : Int32) < (5 : Int32) by decide)) hp1 hc11_1) (Nat.le_of_ble_eq_true rfl) dX6_behind_11 lvX6_37 rfl rfl (SD.ob (SD_at (show (0 : Int32) ≤ (0 : Int32) ∧ (0 : Int32) < (5 : Int32) by decide))) (Nat.le_of_ble_eq_true rfl) ?_
  refine T_const dX6_behind_14 ?_
  refine T_istore dX6_behind_15 ?_
  show TX _ _ _ _ _ _ _ _ [_, _, _, _, _, _] _
  obtain ⟨q17_7, hc17_7, hf⟩ := bind_t hf
  refine X_wk (WK.s (WK.n (WK.s (WK.s (WK.s (WK.s WK.e)))))) (lX6_behind_17 Z _ hp1 hp2 _ _ (SD_at (show (0 : Int32) ≤ (0 : Int32) ∧ (0 : Int32) < (5 : Int32) by decide)) 2000 _ _ hc17_7 ?_)
  intro q17_7z hr
  subst hr
  refine T_aload dX6_behind_51 rfl ?_
  obtain rfl := Option.some.inj hf
  exact X_ra dX6_behind_53 ⟨rfl, rfl⟩
noncomputable def sX6_firstHome_17 (p1 : Nat) (p2 : Nat) (l3 : Int32) (l4 : Nat) (ih : aH → Int32 → Option (Int32 × aH)) (x : aH) (l5 : Int32) : Option (Int32 × aH) := if (40 : Int32) ≤ l5 then some (l5, x) else (fX6_isNight x p2 l5).bind fun q28_3 => if q28_3 = (0 : Int32) then some (l5, x) else (fX8_isHome x l4 l3).bind fun q37_5 => if q37_5 = (0 : Int32) then (fX7_number x p2 l5).bind fun q48_7 => (fX8_pass x l4 q48_7).bind fun q51_8 => ih q51_8.2 (l5 + (1 : Int32)) else some (l5, x)
noncomputable def wX6_firstHome_17 (p1 : Nat) (p2 : Nat) (l3 : Int32) (l4 : Nat) : Nat → aH → Int32 → Option (Int32 × aH)
  | 0 => fun _ _ => none
  | n + 1 => sX6_firstHome_17 p1 p2 l3 l4 (wX6_firstHome_17 p1 p2 l3 l4 n)
noncomputable def fX6_firstHome (x : aH) (p1 : Nat) (p2 : Nat) (p3 : Int32) : Option (Int32 × aH) := (fX8_become x (27 + 4 * ix (0 : Int32)) p1).bind fun q11_1 => (wX6_firstHome_17 p1 p2 p3 (27 + 4 * ix (0 : Int32)) 2000 q11_1 (0 : Int32)).bind fun q17_9 => (fX8_isHome q17_9.2 (27 + 4 * ix (0 : Int32)) p3).bind fun q64_10 => if q64_10 = (0 : Int32) then some ((-2 : Int32), q17_9.2) else some (q17_9.1, q17_9.2)
theorem lX6_firstHome_17 (Z : aZ) (y : aH) {p1 : Nat} (hp1 : SD p1) {p2 : Nat} (hp2 : SH p2) (l3 : Int32) (l4 : Nat) (hl4 : SD l4) {Q : Option Value → aH → Prop} {R : (Int32 × aH)} : ∀ (n : Nat) (x : aH) (l5 : Int32), wX6_firstHome_17 p1 p2 l3 l4 n x l5 = some R → (∀ q, R = q → TX true Z mX6_firstHome 4 y q.2 Q 61 [.null, .null, .null, .int l3, .ref l4, .int (q.1)] []) → TX true Z mX6_firstHome 4 y x Q 17 [.ref 23, .null, .ref p2, .int l3, .ref l4, .int l5] [] := by
  intro n
  induction n with
  | zero => intro x l5 hf; cases hf
  | succ n ih =>
    intro x l5 hf ke
    replace hf : sX6_firstHome_17 p1 p2 l3 l4 (wX6_firstHome_17 p1 p2 l3 l4 n) x l5 = some R := hf
    delta sX6_firstHome_17 at hf
    refine T_iload dX6_firstHome_17 rfl ?_
    refine T_const dX6_firstHome_19 ?_
    refine T_icmp_ge dX6_firstHome_21 (fun c21_2 => ?_) (fun c21_2 => ?_)
    · replace hf := ite_t c21_2 hf
      exact X_wk (WK.n (WK.n (WK.n (WK.s (WK.s (WK.s WK.e)))))) (ke (l5, x) (Option.some.inj hf).symm)
    · replace hf := ite_f c21_2 hf
      refine T_aload dX6_firstHome_24 rfl ?_
      refine T_aload dX6_firstHome_25 rfl ?_
      refine T_iload dX6_firstHome_26 rfl ?_
      obtain ⟨q28_3, hc28_3, hf⟩ := bind_t hf
      refine X_Vv (qX6_isNight Z _ hp2 hc28_3) (Nat.le_of_ble_eq_true rfl) dX6_firstHome_28 lvX6_41 rfl rfl ob23 (Nat.le_of_ble_eq_true rfl) ?_
      refine T_if_eq dX6_firstHome_31 (fun c31_4 => ?_) (fun c31_4 => ?_)
      · replace hf := ite_t c31_4 hf
        exact X_wk (WK.n (WK.n (WK.n (WK.s (WK.s (WK.s WK.e)))))) (ke (l5, x) (Option.some.inj hf).symm)
      · replace hf := ite_f c31_4 hf
        refine T_aload dX6_firstHome_34 rfl ?_
        refine T_iload dX6_firstHome_36 rfl ?_
        obtain ⟨q37_5, hc37_5, hf⟩ := bind_t hf
        refine X_Vv (qX8_isHome Z _ hl4 hc37_5) (Nat.le_of_ble_eq_true rfl) dX6_firstHome_37 lvX6_48 rfl rfl (SD.ob hl4) (Nat.le_of_ble_eq_true rfl) ?_
        refine T_if_ne dX6_firstHome_40 (fun c40_6 => ?_) (fun c40_6 => ?_)
        · replace hf := ite_f c40_6 hf
          exact X_wk (WK.n (WK.n (WK.n (WK.s (WK.s (WK.s WK.e)))))) (ke (l5, x) (Option.some.inj hf).symm)
        · replace hf := ite_t c40_6 hf
          refine T_aload dX6_firstHome_43 rfl ?_
          refine T_aload dX6_firstHome_45 rfl ?_
          refine T_iload dX6_firstHome_46 rfl ?_
          obtain ⟨q48_7, hc48_7, hf⟩ := bind_t hf
          refine X_Vv (qX7_number Z _ hp2 hc48_7) (Nat.le_of_ble_eq_true rfl) dX6_firstHome_48 lvX6_33 rfl rfl (SH.ob hp2) (Nat.le_of_ble_eq_true rfl) ?_
          obtain ⟨q51_8, hc51_8, hf⟩ := bind_t hf
          refine X_Vv (qX8_pass Z _ hl4 hc51_8) (Nat.le_of_ble_eq_true rfl) dX6_firstHome_51 lvX6_45 rfl rfl (SD.ob hl4) (Nat.le_of_ble_eq_true rfl) ?_
          refine T_pop dX6_firstHome_54 rfl ?_
          refine T_iinc dX6_firstHome_55 rfl ?_
          show TX _ _ _ _ _ _ _ _ [_, _, _, _, _, _] _
          refine T_goto dX6_firstHome_58 ?_
          exact X_wk (WK.s (WK.n (WK.s (WK.s (WK.s (WK.s WK.e)))))) (ih _ _ hf ke)
theorem qX6_firstHome (Z : aZ) (y : aH) {x : aH} {p1 : Nat} {p2 : Nat} {p3 : Int32} (hp1 : SD p1) (hp2 : SH p2) {q : (Int32 × aH)} (hf : fX6_firstHome x p1 p2 p3 = some q) : CX true Z mX6_firstHome 4 [.ref 23, .ref p1, .ref p2, .int p3] y x (RV (.int q.1) q.2) := by
  refine CX.of mokX6_firstHome (Nat.le_of_ble_eq_true rfl) ?_
  show TX _ _ _ _ _ _ _ _ [_, _, _, _, _, _] _
  delta fX6_firstHome at hf
  refine T_aload dX6_firstHome_0 rfl ?_
  refine X_getr dX6_firstHome_1 lfX6_11 rfl ob23 rfl ?_
  refine T_const dX6_firstHome_4 ?_
  refine X_aaldSD dX6_firstHome_5 (show (0 : Int32) ≤ (0 : Int32) ∧ (0 : Int32) < (5 : Int32) by decide) ?_
  refine T_astore dX6_firstHome_6 ?_
  show TX _ _ _ _ _ _ _ _ [_, _, _, _, _, _] _
  refine T_aload dX6_firstHome_8 rfl ?_
  refine T_aload dX6_firstHome_10 rfl ?_
  obtain ⟨q11_1, hc11_1, hf⟩ := bind_t hf
  refine X_Vn (qX8_become Z _ (SD_at (show (0 : Int32) ≤ (0 : Int32) ∧ (0 : Int32) < (5 : Int32) by decide)) hp1 hc11_1) (Nat.le_of_ble_eq_true rfl) dX6_firstHome_11 lvX6_37 rfl rfl (SD.ob (SD_at (show (0 : Int32) ≤ (0 : Int32) ∧ (0 : Int32) < (5 : Int32) by decide))) (Nat.le_of_ble_eq_true rfl) ?_
  refine T_const dX6_firstHome_14 ?_
  refine T_istore dX6_firstHome_15 ?_
  show TX _ _ _ _ _ _ _ _ [_, _, _, _, _, _] _
  obtain ⟨q17_9, hc17_9, hf⟩ := bind_t hf
  refine X_wk (WK.s (WK.n (WK.s (WK.s (WK.s (WK.s WK.e)))))) (lX6_firstHome_17 Z _ hp1 hp2 _ _ (SD_at (show (0 : Int32) ≤ (0 : Int32) ∧ (0 : Int32) < (5 : Int32) by decide)) 2000 _ _ hc17_9 ?_)
  intro q17_9z hr
  subst hr
  refine T_aload dX6_firstHome_61 rfl ?_
  refine T_iload dX6_firstHome_63 rfl ?_
  obtain ⟨q64_10, hc64_10, hf⟩ := bind_t hf
  refine X_Vv (qX8_isHome Z _ (SD_at (show (0 : Int32) ≤ (0 : Int32) ∧ (0 : Int32) < (5 : Int32) by decide)) hc64_10) (Nat.le_of_ble_eq_true rfl) dX6_firstHome_64 lvX6_48 rfl rfl (SD.ob (SD_at (show (0 : Int32) ≤ (0 : Int32) ∧ (0 : Int32) < (5 : Int32) by decide))) (Nat.le_of_ble_eq_true rfl) ?_
  refine T_if_eq dX6_firstHome_67 (fun c67_11 => ?_) (fun c67_11 => ?_)
  · replace hf := ite_t c67_11 hf
    refine T_const dX6_firstHome_75 ?_
    obtain rfl := Option.some.inj hf
    exact X_ri dX6_firstHome_77 ⟨rfl, rfl⟩
  · replace hf := ite_f c67_11 hf
    refine T_iload dX6_firstHome_70 rfl ?_
    refine T_goto dX6_firstHome_72 ?_
    obtain rfl := Option.some.inj hf
    exact X_ri dX6_firstHome_77 ⟨rfl, rfl⟩
noncomputable def fX6_wayOf (x : aH) (p1 : Int32) (p2 : Int32) (p3 : Int32) : Option Int32 := if (0 : Int32) ≤ ((p2 - (1 : Int32)) - p3) ∧ ((p2 - (1 : Int32)) - p3) < (5 : Int32) then if ¬ ((stR 2 (ix ((p2 - (1 : Int32)) - p3))) = (0 : Int32)) then some ((p1 / (stR 2 (ix ((p2 - (1 : Int32)) - p3)))) - (p1 / (stR 2 (ix ((p2 - (1 : Int32)) - p3)))) / (5 : Int32) * (5 : Int32)) else none else none
theorem qX6_wayOf (Z : aZ) (y : aH) {x : aH} {p1 : Int32} {p2 : Int32} {p3 : Int32} {q : Int32} (hf : fX6_wayOf x p1 p2 p3 = some q) : CX true Z mX6_wayOf 0 [.ref 23, .int p1, .int p2, .int p3] y x (RV (.int q) x) := by
  refine CX.of mokX6_wayOf (Nat.le_of_ble_eq_true rfl) ?_
  show TX _ _ _ _ _ _ _ _ [_, _, _, _] _
  delta fX6_wayOf at hf
  refine T_iload dX6_wayOf_0 rfl ?_
  refine T_gets dX6_wayOf_1 lgX6_52 ?_
  refine T_iload dX6_wayOf_4 rfl ?_
  refine T_const dX6_wayOf_5 ?_
  refine T_isub dX6_wayOf_6 ?_
  refine T_iload dX6_wayOf_7 rfl ?_
  refine T_isub dX6_wayOf_8 ?_
  obtain ⟨hb9_1, hf⟩ := opt_t hf
  refine X_ialdS (N := 5) dX6_wayOf_9 (by decide) rfl (by decide) rfl hb9_1 ?_
  obtain ⟨h0, hf⟩ := opt_t hf
  refine T_idiv dX6_wayOf_10 h0 ?_
  refine T_const dX6_wayOf_11 ?_
  refine T_irem dX6_wayOf_12 (by decide) ?_
  obtain rfl := Option.some.inj hf
  exact X_ri dX6_wayOf_13 ⟨rfl, rfl⟩
noncomputable def sX6_follow_2 (x : aH) (l1 : Int32) (l2 : Int32) (ih : Int32 → Option Int32) (l3 : Int32) : Option Int32 := if l1 ≤ (0 : Int32) then some l3 else if l2 ≤ l3 then some l3 else if (0 : Int32) ≤ ((l2 - (1 : Int32)) - l3) ∧ ((l2 - (1 : Int32)) - l3) < (5 : Int32) then if ¬ ((stR 2 (ix ((l2 - (1 : Int32)) - l3))) = (0 : Int32)) then if (l1 - l1 / (stR 2 (ix ((l2 - (1 : Int32)) - l3))) * (stR 2 (ix ((l2 - (1 : Int32)) - l3)))) = (0 : Int32) then some l3 else ih (l3 + (1 : Int32)) else none else none
noncomputable def wX6_follow_2 (x : aH) (l1 : Int32) (l2 : Int32) : Nat → Int32 → Option Int32
  | 0 => fun _ => none
  | n + 1 => sX6_follow_2 x l1 l2 (wX6_follow_2 x l1 l2 n)
noncomputable def sX6_follow_31 (l1 : Int32) (l2 : Int32) (ih : aH → Int32 → Option aH) (x : aH) (l3 : Int32) : Option aH := if l2 ≤ l3 then some x else if (0 : Int32) ≤ (l3 + (1 : Int32)) ∧ (l3 + (1 : Int32)) < (5 : Int32) then if (0 : Int32) ≤ l3 ∧ l3 < (5 : Int32) then (fX8_become x (27 + 4 * ix (l3 + (1 : Int32))) (27 + 4 * ix l3)).bind fun q50_9 => if (0 : Int32) ≤ (l3 + (1 : Int32)) ∧ (l3 + (1 : Int32)) < (5 : Int32) then (fX6_wayOf q50_9 l1 l2 l3).bind fun q65_11 => (fX8_pass q50_9 (27 + 4 * ix (l3 + (1 : Int32))) q65_11).bind fun q68_12 => ih q68_12.2 (l3 + (1 : Int32)) else none else none else none
noncomputable def wX6_follow_31 (l1 : Int32) (l2 : Int32) : Nat → aH → Int32 → Option aH
  | 0 => fun _ _ => none
  | n + 1 => sX6_follow_31 l1 l2 (wX6_follow_31 l1 l2 n)
noncomputable def fX6_follow (x : aH) (p1 : Int32) (p2 : Int32) : Option (Nat × aH) := (wX6_follow_2 x p1 p2 2000 (0 : Int32)).bind fun q2_5 => (wX6_follow_31 p1 p2 2000 x q2_5).bind fun q31_13 => if (0 : Int32) ≤ p2 ∧ p2 < (5 : Int32) then some ((27 + 4 * ix p2), q31_13) else none
theorem lX6_follow_2 (Z : aZ) (y : aH) (x : aH) (l1 : Int32) (l2 : Int32) {Q : Option Value → aH → Prop} {R : Int32} : ∀ (n : Nat) (l3 : Int32), wX6_follow_2 x l1 l2 n l3 = some R → (∀ q, R = q → TX true Z mX6_follow 4 y x Q 31 [.ref 23, .int l1, .int l2, .int q] []) → TX true Z mX6_follow 4 y x Q 2 [.ref 23, .int l1, .int l2, .int l3] [] := by
  intro n
  induction n with
  | zero => intro l3 hf; cases hf
  | succ n ih =>
    intro l3 hf ke
    replace hf : sX6_follow_2 x l1 l2 (wX6_follow_2 x l1 l2 n) l3 = some R := hf
    delta sX6_follow_2 at hf
    refine T_iload dX6_follow_2 rfl ?_
    refine T_if_le dX6_follow_3 (fun c3_1 => ?_) (fun c3_1 => ?_)
    · replace hf := ite_t c3_1 hf
      exact X_wk (WK.s (WK.s (WK.s (WK.s WK.e)))) (ke l3 (Option.some.inj hf).symm)
    · replace hf := ite_f c3_1 hf
      refine T_iload dX6_follow_6 rfl ?_
      refine T_iload dX6_follow_7 rfl ?_
      refine T_icmp_ge dX6_follow_8 (fun c8_2 => ?_) (fun c8_2 => ?_)
      · replace hf := ite_t c8_2 hf
        exact X_wk (WK.s (WK.s (WK.s (WK.s WK.e)))) (ke l3 (Option.some.inj hf).symm)
      · replace hf := ite_f c8_2 hf
        refine T_iload dX6_follow_11 rfl ?_
        refine T_gets dX6_follow_12 lgX6_52 ?_
        refine T_iload dX6_follow_15 rfl ?_
        refine T_const dX6_follow_16 ?_
        refine T_isub dX6_follow_17 ?_
        refine T_iload dX6_follow_18 rfl ?_
        refine T_isub dX6_follow_19 ?_
        obtain ⟨hb20_3, hf⟩ := opt_t hf
        refine X_ialdS (N := 5) dX6_follow_20 (by decide) rfl (by decide) rfl hb20_3 ?_
        obtain ⟨h0, hf⟩ := opt_t hf
        refine T_irem dX6_follow_21 h0 ?_
        refine T_if_eq dX6_follow_22 (fun c22_4 => ?_) (fun c22_4 => ?_)
        · replace hf := ite_t c22_4 hf
          exact X_wk (WK.s (WK.s (WK.s (WK.s WK.e)))) (ke l3 (Option.some.inj hf).symm)
        · replace hf := ite_f c22_4 hf
          refine T_iinc dX6_follow_25 rfl ?_
          show TX _ _ _ _ _ _ _ _ [_, _, _, _] _
          refine T_goto dX6_follow_28 ?_
          exact X_wk (WK.s (WK.s (WK.s (WK.s WK.e)))) (ih _ hf ke)
theorem lX6_follow_31 (Z : aZ) (y : aH) (l1 : Int32) (l2 : Int32) {Q : Option Value → aH → Prop} {R : aH} : ∀ (n : Nat) (x : aH) (l3 : Int32), wX6_follow_31 l1 l2 n x l3 = some R → (∀ q, R = q → TX true Z mX6_follow 4 y q Q 78 [.ref 23, .null, .int l2, .null] []) → TX true Z mX6_follow 4 y x Q 31 [.ref 23, .int l1, .int l2, .int l3] [] := by
  intro n
  induction n with
  | zero => intro x l3 hf; cases hf
  | succ n ih =>
    intro x l3 hf ke
    replace hf : sX6_follow_31 l1 l2 (wX6_follow_31 l1 l2 n) x l3 = some R := hf
    delta sX6_follow_31 at hf
    refine T_iload dX6_follow_31 rfl ?_
    refine T_iload dX6_follow_32 rfl ?_
    refine T_icmp_ge dX6_follow_33 (fun c33_6 => ?_) (fun c33_6 => ?_)
    · replace hf := ite_t c33_6 hf
      exact X_wk (WK.s (WK.n (WK.s (WK.n WK.e)))) (ke x (Option.some.inj hf).symm)
    · replace hf := ite_f c33_6 hf
      refine T_aload dX6_follow_36 rfl ?_
      refine X_getr dX6_follow_37 lfX6_11 rfl ob23 rfl ?_
      refine T_iload dX6_follow_40 rfl ?_
      refine T_const dX6_follow_41 ?_
      refine T_iadd dX6_follow_42 ?_
      obtain ⟨hb43_7, hf⟩ := opt_t hf
      refine X_aaldSD dX6_follow_43 hb43_7 ?_
      refine T_aload dX6_follow_44 rfl ?_
      refine X_getr dX6_follow_45 lfX6_11 rfl ob23 rfl ?_
      refine T_iload dX6_follow_48 rfl ?_
      obtain ⟨hb49_8, hf⟩ := opt_t hf
      refine X_aaldSD dX6_follow_49 hb49_8 ?_
      obtain ⟨q50_9, hc50_9, hf⟩ := bind_t hf
      refine X_Vn (qX8_become Z _ (SD_at hb43_7) (SD_at hb49_8) hc50_9) (Nat.le_of_ble_eq_true rfl) dX6_follow_50 lvX6_37 rfl rfl (SD.ob (SD_at hb43_7)) (Nat.le_of_ble_eq_true rfl) ?_
      refine T_aload dX6_follow_53 rfl ?_
      refine X_getr dX6_follow_54 lfX6_11 rfl ob23 rfl ?_
      refine T_iload dX6_follow_57 rfl ?_
      refine T_const dX6_follow_58 ?_
      refine T_iadd dX6_follow_59 ?_
      obtain ⟨hb60_10, hf⟩ := opt_t hf
      refine X_aaldSD dX6_follow_60 hb60_10 ?_
      refine T_aload dX6_follow_61 rfl ?_
      refine T_iload dX6_follow_62 rfl ?_
      refine T_iload dX6_follow_63 rfl ?_
      refine T_iload dX6_follow_64 rfl ?_
      obtain ⟨q65_11, hc65_11, hf⟩ := bind_t hf
      refine X_Vv (qX6_wayOf Z _ hc65_11) (Nat.le_of_ble_eq_true rfl) dX6_follow_65 lvX6_55 rfl rfl ob23 (Nat.le_of_ble_eq_true rfl) ?_
      obtain ⟨q68_12, hc68_12, hf⟩ := bind_t hf
      refine X_Vv (qX8_pass Z _ (SD_at hb60_10) hc68_12) (Nat.le_of_ble_eq_true rfl) dX6_follow_68 lvX6_45 rfl rfl (SD.ob (SD_at hb60_10)) (Nat.le_of_ble_eq_true rfl) ?_
      refine T_pop dX6_follow_71 rfl ?_
      refine T_iinc dX6_follow_72 rfl ?_
      show TX _ _ _ _ _ _ _ _ [_, _, _, _] _
      refine T_goto dX6_follow_75 ?_
      exact X_wk (WK.s (WK.s (WK.s (WK.s WK.e)))) (ih _ _ hf ke)
theorem qX6_follow (Z : aZ) (y : aH) {x : aH} {p1 : Int32} {p2 : Int32} {q : (Nat × aH)} (hf : fX6_follow x p1 p2 = some q) : CX true Z mX6_follow 4 [.ref 23, .int p1, .int p2] y x (RV (.ref q.1) q.2) := by
  refine CX.of mokX6_follow (Nat.le_of_ble_eq_true rfl) ?_
  show TX _ _ _ _ _ _ _ _ [_, _, _, _] _
  delta fX6_follow at hf
  refine T_const dX6_follow_0 ?_
  refine T_istore dX6_follow_1 ?_
  show TX _ _ _ _ _ _ _ _ [_, _, _, _] _
  obtain ⟨q2_5, hc2_5, hf⟩ := bind_t hf
  refine X_wk (WK.s (WK.s (WK.s (WK.s WK.e)))) (lX6_follow_2 Z _ _ _ _ 2000 _ hc2_5 ?_)
  intro q2_5z hr
  subst hr
  obtain ⟨q31_13, hc31_13, hf⟩ := bind_t hf
  refine X_wk (WK.s (WK.s (WK.s (WK.s WK.e)))) (lX6_follow_31 Z _ _ _ 2000 _ _ hc31_13 ?_)
  intro q31_13z hr
  subst hr
  refine T_aload dX6_follow_78 rfl ?_
  refine X_getr dX6_follow_79 lfX6_11 rfl ob23 rfl ?_
  refine T_iload dX6_follow_82 rfl ?_
  obtain ⟨hb83_14, hf⟩ := opt_t hf
  refine X_aaldSD dX6_follow_83 hb83_14 ?_
  obtain rfl := Option.some.inj hf
  exact X_ra dX6_follow_84 ⟨rfl, rfl⟩
noncomputable def jX6_findBest_99 (p1 : Nat) (ih : aH → Int32 → Option aH) (x : aH) (l2 : Int32) (l3 : Int32) : Option aH := ih x (l3 + (1 : Int32))
noncomputable def jX6_findBest_79 (p1 : Nat) (ih : aH → Int32 → Option aH) (x : aH) (l2 : Int32) (l3 : Int32) (l4 : Nat) (l5 : Int32) : Option aH := jX6_findBest_99 p1 ih (sfi (sfi (sfi x 23 3 l5) 23 4 (fi (sfi x 23 3 l5) l4 7)) 23 2 l3) l2 l3
noncomputable def sX6_findBest_22 (p1 : Nat) (l2 : Int32) (ih : aH → Int32 → Option aH) (x : aH) (l3 : Int32) : Option aH := if (0 : Int32) ≤ l2 ∧ l2 < (5 : Int32) then if (stR 2 (ix l2)) ≤ l3 then some x else (fX6_follow x l3 l2).bind fun q34_4 => if q34_4.1 = 15 ∨ q34_4.1 = 19 ∨ q34_4.1 = 27 ∨ q34_4.1 = 31 ∨ q34_4.1 = 35 ∨ q34_4.1 = 39 ∨ q34_4.1 = 43 then (fJ6_bitCount_0f7a4 (fi q34_4.2 q34_4.1 6)).bind fun q44_5 => if (fi q34_4.2 23 3) < q44_5 then jX6_findBest_79 p1 ih q34_4.2 l2 l3 q34_4.1 q44_5 else if q44_5 = (fi q34_4.2 23 3) then if (fi q34_4.2 q34_4.1 7) ≤ (fi q34_4.2 23 4) then jX6_findBest_99 p1 ih q34_4.2 l2 l3 else jX6_findBest_79 p1 ih q34_4.2 l2 l3 q34_4.1 q44_5 else jX6_findBest_99 p1 ih q34_4.2 l2 l3 else none else none
noncomputable def wX6_findBest_22 (p1 : Nat) (l2 : Int32) : Nat → aH → Int32 → Option aH
  | 0 => fun _ _ => none
  | n + 1 => sX6_findBest_22 p1 l2 (wX6_findBest_22 p1 l2 n)
noncomputable def fX6_findBest (x : aH) (p1 : Nat) (p2 : Int32) : Option aH := (fX8_become x (27 + 4 * ix (0 : Int32)) p1).bind fun q7_1 => (wX6_findBest_22 p1 p2 2000 (sfi (sfi q7_1 23 3 (-1 : Int32)) 23 4 (-1 : Int32)) (0 : Int32)).bind fun q22_9 => some q22_9
theorem lX6_findBest_22 (Z : aZ) (y : aH) {p1 : Nat} (hp1 : SD p1) (l2 : Int32) {Q : Option Value → aH → Prop} {R : aH} : ∀ (n : Nat) (x : aH) (l3 : Int32), wX6_findBest_22 p1 l2 n x l3 = some R → (∀ q, R = q → TX true Z mX6_findBest 5 y q Q 105 [.null, .null, .null, .null, .null, .null] []) → TX true Z mX6_findBest 5 y x Q 22 [.ref 23, .null, .int l2, .int l3, .null, .null] [] := by
  intro n
  induction n with
  | zero => intro x l3 hf; cases hf
  | succ n ih =>
    intro x l3 hf ke
    replace hf : sX6_findBest_22 p1 l2 (wX6_findBest_22 p1 l2 n) x l3 = some R := hf
    delta sX6_findBest_22 at hf
    refine T_iload dX6_findBest_22 rfl ?_
    refine T_gets dX6_findBest_23 lgX6_52 ?_
    refine T_iload dX6_findBest_26 rfl ?_
    obtain ⟨hb27_2, hf⟩ := opt_t hf
    refine X_ialdS (N := 5) dX6_findBest_27 (by decide) rfl (by decide) rfl hb27_2 ?_
    refine T_icmp_ge dX6_findBest_28 (fun c28_3 => ?_) (fun c28_3 => ?_)
    · replace hf := ite_t c28_3 hf
      exact X_wk (WK.n (WK.n (WK.n (WK.n (WK.n (WK.n WK.e)))))) (ke x (Option.some.inj hf).symm)
    · replace hf := ite_f c28_3 hf
      refine T_aload dX6_findBest_31 rfl ?_
      refine T_iload dX6_findBest_32 rfl ?_
      refine T_iload dX6_findBest_33 rfl ?_
      obtain ⟨q34_4, hc34_4, hf⟩ := bind_t hf
      obtain ⟨hsq34_4, hf⟩ := opt_t hf
      refine X_Vv (qX6_follow Z _ hc34_4) (Nat.le_of_ble_eq_true rfl) dX6_findBest_34 lvX6_65 rfl rfl ob23 (Nat.le_of_ble_eq_true rfl) ?_
      refine T_astore dX6_findBest_37 ?_
      show TX _ _ _ _ _ _ _ _ [_, _, _, _, _, _] _
      refine T_aload dX6_findBest_39 rfl ?_
      refine X_getf dX6_findBest_41 lfX6_69 rfl (SD.ob hsq34_4) ?_
      obtain ⟨q44_5, hc44_5, hf⟩ := bind_t hf
      refine X_Sv (qJ6_bitCount_0f7a4 _ Z _ _ hc44_5) (Nat.le_of_ble_eq_true rfl) dX6_findBest_44 lsX6_72 rfl rfl (Nat.le_of_ble_eq_true rfl) ?_
      refine T_istore dX6_findBest_47 ?_
      show TX _ _ _ _ _ _ _ _ [_, _, _, _, _, _] _
      refine T_iload dX6_findBest_49 rfl ?_
      refine T_aload dX6_findBest_51 rfl ?_
      refine X_getf dX6_findBest_52 lfX6_59 rfl ob23 ?_
      have J99 : ∀ (x : aH) (l3 : Int32), jX6_findBest_99 p1 (wX6_findBest_22 p1 l2 n) x l2 l3 = some R → TX true Z mX6_findBest 5 y x Q 99 [.ref 23, .null, .int l2, .int l3, .null, .null] [] := by
        intro x l3 hf
        delta jX6_findBest_99 at hf
        refine T_iinc dX6_findBest_99 rfl ?_
        show TX _ _ _ _ _ _ _ _ [_, _, _, _, _, _] _
        refine T_goto dX6_findBest_102 ?_
        exact X_wk (WK.s (WK.n (WK.s (WK.s (WK.n (WK.n WK.e)))))) (ih _ _ hf ke)
      have J79 : ∀ (x : aH) (l3 : Int32) (l4 : Nat) (l5 : Int32) (hl4 : SD l4), jX6_findBest_79 p1 (wX6_findBest_22 p1 l2 n) x l2 l3 l4 l5 = some R → TX true Z mX6_findBest 5 y x Q 79 [.ref 23, .null, .int l2, .int l3, .ref l4, .int l5] [] := by
        intro x l3 l4 l5 hl4 hf
        delta jX6_findBest_79 at hf
        refine T_aload dX6_findBest_79 rfl ?_
        refine T_iload dX6_findBest_80 rfl ?_
        refine X_putf dX6_findBest_82 lfX6_59 rfl rfl ob23 ⟨rfl, rfl⟩ ?_
        refine T_aload dX6_findBest_85 rfl ?_
        refine T_aload dX6_findBest_86 rfl ?_
        refine X_getf dX6_findBest_88 lfX6_77 rfl (SD.ob hl4) ?_
        refine X_putf dX6_findBest_91 lfX6_62 rfl rfl ob23 ⟨rfl, rfl⟩ ?_
        refine T_aload dX6_findBest_94 rfl ?_
        refine T_iload dX6_findBest_95 rfl ?_
        refine X_putf dX6_findBest_96 lfX6_80 rfl rfl ob23 ⟨rfl, rfl⟩ ?_
        exact X_wk (WK.s (WK.n (WK.s (WK.s (WK.n (WK.n WK.e)))))) (J99 _ _ hf)
      refine T_icmp_gt dX6_findBest_55 (fun c55_6 => ?_) (fun c55_6 => ?_)
      · replace hf := ite_t c55_6 hf
        exact X_wk (WK.s (WK.n (WK.s (WK.s (WK.s (WK.s WK.e)))))) (J79 _ _ _ _ hsq34_4 hf)
      · replace hf := ite_f c55_6 hf
        refine T_iload dX6_findBest_58 rfl ?_
        refine T_aload dX6_findBest_60 rfl ?_
        refine X_getf dX6_findBest_61 lfX6_59 rfl ob23 ?_
        refine T_icmp_ne dX6_findBest_64 (fun c64_7 => ?_) (fun c64_7 => ?_)
        · replace hf := ite_f c64_7 hf
          exact X_wk (WK.s (WK.n (WK.s (WK.s (WK.n (WK.n WK.e)))))) (J99 _ _ hf)
        · replace hf := ite_t c64_7 hf
          refine T_aload dX6_findBest_67 rfl ?_
          refine X_getf dX6_findBest_69 lfX6_77 rfl (SD.ob hsq34_4) ?_
          refine T_aload dX6_findBest_72 rfl ?_
          refine X_getf dX6_findBest_73 lfX6_62 rfl ob23 ?_
          refine T_icmp_le dX6_findBest_76 (fun c76_8 => ?_) (fun c76_8 => ?_)
          · replace hf := ite_t c76_8 hf
            exact X_wk (WK.s (WK.n (WK.s (WK.s (WK.n (WK.n WK.e)))))) (J99 _ _ hf)
          · replace hf := ite_f c76_8 hf
            exact X_wk (WK.s (WK.n (WK.s (WK.s (WK.s (WK.s WK.e)))))) (J79 _ _ _ _ hsq34_4 hf)
theorem qX6_findBest (Z : aZ) (y : aH) {x : aH} {p1 : Nat} {p2 : Int32} (hp1 : SD p1) {q : aH} (hf : fX6_findBest x p1 p2 = some q) : CX true Z mX6_findBest 5 [.ref 23, .ref p1, .int p2] y x (RN q) := by
  refine CX.of mokX6_findBest (Nat.le_of_ble_eq_true rfl) ?_
  show TX _ _ _ _ _ _ _ _ [_, _, _, _, _, _] _
  delta fX6_findBest at hf
  refine T_aload dX6_findBest_0 rfl ?_
  refine X_getr dX6_findBest_1 lfX6_11 rfl ob23 rfl ?_
  refine T_const dX6_findBest_4 ?_
  refine X_aaldSD dX6_findBest_5 (show (0 : Int32) ≤ (0 : Int32) ∧ (0 : Int32) < (5 : Int32) by decide) ?_
  refine T_aload dX6_findBest_6 rfl ?_
  obtain ⟨q7_1, hc7_1, hf⟩ := bind_t hf
  refine X_Vn (qX8_become Z _ (SD_at (show (0 : Int32) ≤ (0 : Int32) ∧ (0 : Int32) < (5 : Int32) by decide)) hp1 hc7_1) (Nat.le_of_ble_eq_true rfl) dX6_findBest_7 lvX6_37 rfl rfl (SD.ob (SD_at (show (0 : Int32) ≤ (0 : Int32) ∧ (0 : Int32) < (5 : Int32) by decide))) (Nat.le_of_ble_eq_true rfl) ?_
  refine T_aload dX6_findBest_10 rfl ?_
  refine T_const dX6_findBest_11 ?_
  refine X_putf dX6_findBest_12 lfX6_59 rfl rfl ob23 ⟨rfl, rfl⟩ ?_
  refine T_aload dX6_findBest_15 rfl ?_
  refine T_const dX6_findBest_16 ?_
  refine X_putf dX6_findBest_17 lfX6_62 rfl rfl ob23 ⟨rfl, rfl⟩ ?_
  refine T_const dX6_findBest_20 ?_
  refine T_istore dX6_findBest_21 ?_
  show TX _ _ _ _ _ _ _ _ [_, _, _, _, _, _] _
  obtain ⟨q22_9, hc22_9, hf⟩ := bind_t hf
  refine X_wk (WK.s (WK.n (WK.s (WK.s (WK.n (WK.n WK.e)))))) (lX6_findBest_22 Z _ hp1 _ 2000 _ _ hc22_9 ?_)
  intro q22_9z hr
  subst hr
  obtain rfl := Option.some.inj hf
  exact X_rv dX6_findBest_105 ⟨rfl, rfl⟩
noncomputable def sX6_fewest_20 (p1 : Nat) (l2 : Int32) (l3 : Int32) (ih : aH → Int32 → Option (Sum (Int32 × aH) aH)) (x : aH) (l4 : Int32) : Option (Sum (Int32 × aH) aH) := if (0 : Int32) ≤ l3 ∧ l3 < (5 : Int32) then if (stR 2 (ix l3)) ≤ l4 then some (.inr x) else (fX6_follow x l4 l3).bind fun q34_5 => if q34_5.1 = 15 ∨ q34_5.1 = 19 ∨ q34_5.1 = 27 ∨ q34_5.1 = 31 ∨ q34_5.1 = 35 ∨ q34_5.1 = 39 ∨ q34_5.1 = 43 then (fX8_isHome q34_5.2 q34_5.1 l2).bind fun q38_6 => if q38_6 = (0 : Int32) then ih q34_5.2 (l4 + (1 : Int32)) else some (.inl (l3, (sfi q34_5.2 23 2 l4))) else none else none
noncomputable def wX6_fewest_20 (p1 : Nat) (l2 : Int32) (l3 : Int32) : Nat → aH → Int32 → Option (Sum (Int32 × aH) aH)
  | 0 => fun _ _ => none
  | n + 1 => sX6_fewest_20 p1 l2 l3 (wX6_fewest_20 p1 l2 l3 n)
noncomputable def sX6_fewest_12 (p1 : Nat) (l2 : Int32) (ih : aH → Int32 → Option (Sum (Int32 × aH) aH)) (x : aH) (l3 : Int32) : Option (Sum (Int32 × aH) aH) := if (4 : Int32) < l3 then some (.inr x) else (wX6_fewest_20 p1 l2 l3 2000 x (0 : Int32)).bind fun q20_8 => elS q20_8 (fun r => some (.inl r)) (fun eq20_8 => ih eq20_8 (l3 + (1 : Int32)))
noncomputable def wX6_fewest_12 (p1 : Nat) (l2 : Int32) : Nat → aH → Int32 → Option (Sum (Int32 × aH) aH)
  | 0 => fun _ _ => none
  | n + 1 => sX6_fewest_12 p1 l2 (wX6_fewest_12 p1 l2 n)
noncomputable def fX6_fewest (x : aH) (p1 : Nat) (p2 : Int32) : Option (Int32 × aH) := (fX8_become x (27 + 4 * ix (0 : Int32)) p1).bind fun q7_1 => (wX6_fewest_12 p1 p2 2000 q7_1 (0 : Int32)).bind fun q12_9 => elS q12_9 (fun r => some r) (fun eq12_9 => some ((-1 : Int32), eq12_9))
theorem lX6_fewest_20 (Z : aZ) (y : aH) {p1 : Nat} (hp1 : SD p1) (l2 : Int32) (l3 : Int32) {Q : Option Value → aH → Prop} {R : (Sum (Int32 × aH) aH)} : ∀ (n : Nat) (x : aH) (l4 : Int32), wX6_fewest_20 p1 l2 l3 n x l4 = some R → (∀ r, R = .inl r → Q (some (.int r.1)) r.2) → (∀ q, R = .inr q → TX true Z mX6_fewest 5 y q Q 58 [.ref 23, .null, .int l2, .int l3, .null] []) → TX true Z mX6_fewest 5 y x Q 20 [.ref 23, .null, .int l2, .int l3, .int l4] [] := by
  intro n
  induction n with
  | zero => intro x l4 hf; cases hf
  | succ n ih =>
    intro x l4 hf kr ke
    replace hf : sX6_fewest_20 p1 l2 l3 (wX6_fewest_20 p1 l2 l3 n) x l4 = some R := hf
    delta sX6_fewest_20 at hf
    refine T_iload dX6_fewest_20 rfl ?_
    refine T_gets dX6_fewest_22 lgX6_52 ?_
    refine T_iload dX6_fewest_25 rfl ?_
    obtain ⟨hb26_3, hf⟩ := opt_t hf
    refine X_ialdS (N := 5) dX6_fewest_26 (by decide) rfl (by decide) rfl hb26_3 ?_
    refine T_icmp_ge dX6_fewest_27 (fun c27_4 => ?_) (fun c27_4 => ?_)
    · replace hf := ite_t c27_4 hf
      exact X_wk (WK.s (WK.n (WK.s (WK.s (WK.n WK.e))))) (ke x (Option.some.inj hf).symm)
    · replace hf := ite_f c27_4 hf
      refine T_aload dX6_fewest_30 rfl ?_
      refine T_iload dX6_fewest_31 rfl ?_
      refine T_iload dX6_fewest_33 rfl ?_
      obtain ⟨q34_5, hc34_5, hf⟩ := bind_t hf
      obtain ⟨hsq34_5, hf⟩ := opt_t hf
      refine X_Vv (qX6_follow Z _ hc34_5) (Nat.le_of_ble_eq_true rfl) dX6_fewest_34 lvX6_65 rfl rfl ob23 (Nat.le_of_ble_eq_true rfl) ?_
      refine T_iload dX6_fewest_37 rfl ?_
      obtain ⟨q38_6, hc38_6, hf⟩ := bind_t hf
      refine X_Vv (qX8_isHome Z _ hsq34_5 hc38_6) (Nat.le_of_ble_eq_true rfl) dX6_fewest_38 lvX6_48 rfl rfl (SD.ob hsq34_5) (Nat.le_of_ble_eq_true rfl) ?_
      refine T_if_eq dX6_fewest_41 (fun c41_7 => ?_) (fun c41_7 => ?_)
      · replace hf := ite_t c41_7 hf
        refine T_iinc dX6_fewest_52 rfl ?_
        show TX _ _ _ _ _ _ _ _ [_, _, _, _, _] _
        refine T_goto dX6_fewest_55 ?_
        exact X_wk (WK.s (WK.n (WK.s (WK.s (WK.s WK.e))))) (ih _ _ hf kr ke)
      · replace hf := ite_f c41_7 hf
        refine T_aload dX6_fewest_44 rfl ?_
        refine T_iload dX6_fewest_45 rfl ?_
        refine X_putf dX6_fewest_47 lfX6_80 rfl rfl ob23 ⟨rfl, rfl⟩ ?_
        refine T_iload dX6_fewest_50 rfl ?_
        exact X_ri dX6_fewest_51 (kr (l3, (sfi q34_5.2 23 2 l4)) (Option.some.inj hf).symm)
theorem lX6_fewest_12 (Z : aZ) (y : aH) {p1 : Nat} (hp1 : SD p1) (l2 : Int32) {Q : Option Value → aH → Prop} {R : (Sum (Int32 × aH) aH)} : ∀ (n : Nat) (x : aH) (l3 : Int32), wX6_fewest_12 p1 l2 n x l3 = some R → (∀ r, R = .inl r → Q (some (.int r.1)) r.2) → (∀ q, R = .inr q → TX true Z mX6_fewest 5 y q Q 64 [.null, .null, .null, .null, .null] []) → TX true Z mX6_fewest 5 y x Q 12 [.ref 23, .null, .int l2, .int l3, .null] [] := by
  intro n
  induction n with
  | zero => intro x l3 hf; cases hf
  | succ n ih =>
    intro x l3 hf kr ke
    replace hf : sX6_fewest_12 p1 l2 (wX6_fewest_12 p1 l2 n) x l3 = some R := hf
    delta sX6_fewest_12 at hf
    refine T_iload dX6_fewest_12 rfl ?_
    refine T_const dX6_fewest_13 ?_
    refine T_icmp_gt dX6_fewest_14 (fun c14_2 => ?_) (fun c14_2 => ?_)
    · replace hf := ite_t c14_2 hf
      exact X_wk (WK.n (WK.n (WK.n (WK.n (WK.n WK.e))))) (ke x (Option.some.inj hf).symm)
    · replace hf := ite_f c14_2 hf
      refine T_const dX6_fewest_17 ?_
      refine T_istore dX6_fewest_18 ?_
      show TX _ _ _ _ _ _ _ _ [_, _, _, _, _] _
      obtain ⟨q20_8, hc20_8, hf⟩ := bind_t hf
      refine X_wk (WK.s (WK.n (WK.s (WK.s (WK.s WK.e))))) (lX6_fewest_20 Z _ hp1 _ _ 2000 _ _ hc20_8 ?_ ?_)
      · intro r hr
        subst hr
        replace hf := elS_l hf
        exact kr r (Option.some.inj hf).symm
      · intro eq20_8 hr
        subst hr
        replace hf := elS_r hf
        refine T_iinc dX6_fewest_58 rfl ?_
        show TX _ _ _ _ _ _ _ _ [_, _, _, _, _] _
        refine T_goto dX6_fewest_61 ?_
        exact X_wk (WK.s (WK.n (WK.s (WK.s (WK.n WK.e))))) (ih _ _ hf kr ke)
theorem qX6_fewest (Z : aZ) (y : aH) {x : aH} {p1 : Nat} {p2 : Int32} (hp1 : SD p1) {q : (Int32 × aH)} (hf : fX6_fewest x p1 p2 = some q) : CX true Z mX6_fewest 5 [.ref 23, .ref p1, .int p2] y x (RV (.int q.1) q.2) := by
  refine CX.of mokX6_fewest (Nat.le_of_ble_eq_true rfl) ?_
  show TX _ _ _ _ _ _ _ _ [_, _, _, _, _] _
  delta fX6_fewest at hf
  refine T_aload dX6_fewest_0 rfl ?_
  refine X_getr dX6_fewest_1 lfX6_11 rfl ob23 rfl ?_
  refine T_const dX6_fewest_4 ?_
  refine X_aaldSD dX6_fewest_5 (show (0 : Int32) ≤ (0 : Int32) ∧ (0 : Int32) < (5 : Int32) by decide) ?_
  refine T_aload dX6_fewest_6 rfl ?_
  obtain ⟨q7_1, hc7_1, hf⟩ := bind_t hf
  refine X_Vn (qX8_become Z _ (SD_at (show (0 : Int32) ≤ (0 : Int32) ∧ (0 : Int32) < (5 : Int32) by decide)) hp1 hc7_1) (Nat.le_of_ble_eq_true rfl) dX6_fewest_7 lvX6_37 rfl rfl (SD.ob (SD_at (show (0 : Int32) ≤ (0 : Int32) ∧ (0 : Int32) < (5 : Int32) by decide))) (Nat.le_of_ble_eq_true rfl) ?_
  refine T_const dX6_fewest_10 ?_
  refine T_istore dX6_fewest_11 ?_
  show TX _ _ _ _ _ _ _ _ [_, _, _, _, _] _
  obtain ⟨q12_9, hc12_9, hf⟩ := bind_t hf
  refine X_wk (WK.s (WK.n (WK.s (WK.s (WK.n WK.e))))) (lX6_fewest_12 Z _ hp1 _ 2000 _ _ hc12_9 ?_ ?_)
  · intro r hr
    subst hr
    replace hf := elS_l hf
    obtain rfl := Option.some.inj hf
    exact ⟨rfl, rfl⟩
  · intro eq12_9 hr
    subst hr
    replace hf := elS_r hf
    refine T_const dX6_fewest_64 ?_
    obtain rfl := Option.some.inj hf
    exact X_ri dX6_fewest_65 ⟨rfl, rfl⟩
noncomputable def jX6_bestOf_51 (ih : Int32 → Int32 → Option Int32) (x : aH) (l1 : Int32) (l2 : Int32) (l3 : Int32) (l4 : Int32) : Option Int32 := ih l3 (l4 + (1 : Int32))
noncomputable def jX6_bestOf_48 (ih : Int32 → Int32 → Option Int32) (x : aH) (l1 : Int32) (l2 : Int32) (l4 : Int32) : Option Int32 := jX6_bestOf_51 ih x l1 l2 l4 l4
noncomputable def sX6_bestOf_5 (x : aH) (l1 : Int32) (l2 : Int32) (ih : Int32 → Int32 → Option Int32) (l3 : Int32) (l4 : Int32) : Option Int32 := if (4 : Int32) ≤ l4 then some l3 else if (0 : Int32) ≤ (l1 + l4) ∧ (l1 + l4) < (625 : Int32) then if (0 : Int32) ≤ (l1 + l3) ∧ (l1 + l3) < (625 : Int32) then if l2 = (0 : Int32) then if (0 : Int32) ≤ ((ri x 25 (ix (l1 + l4))) - (ri x 25 (ix (l1 + l3)))) then jX6_bestOf_51 ih x l1 l2 l3 l4 else jX6_bestOf_48 ih x l1 l2 l4 else if ((ri x 25 (ix (l1 + l4))) - (ri x 25 (ix (l1 + l3)))) ≤ (0 : Int32) then jX6_bestOf_51 ih x l1 l2 l3 l4 else jX6_bestOf_48 ih x l1 l2 l4 else none else none
noncomputable def wX6_bestOf_5 (x : aH) (l1 : Int32) (l2 : Int32) : Nat → Int32 → Int32 → Option Int32
  | 0 => fun _ _ => none
  | n + 1 => sX6_bestOf_5 x l1 l2 (wX6_bestOf_5 x l1 l2 n)
noncomputable def fX6_bestOf (x : aH) (p1 : Int32) (p2 : Int32) : Option Int32 := (wX6_bestOf_5 x p1 p2 2000 (4 : Int32) (0 : Int32)).bind fun q5_7 => some q5_7
theorem lX6_bestOf_5 (Z : aZ) (y : aH) (x : aH) (l1 : Int32) (l2 : Int32) {Q : Option Value → aH → Prop} {R : Int32} : ∀ (n : Nat) (l3 : Int32) (l4 : Int32), wX6_bestOf_5 x l1 l2 n l3 l4 = some R → (∀ q, R = q → TX true Z mX6_bestOf 0 y x Q 57 [.null, .null, .null, .int q, .null, .null] []) → TX true Z mX6_bestOf 0 y x Q 5 [.ref 23, .int l1, .int l2, .int l3, .int l4, .null] [] := by
  intro n
  induction n with
  | zero => intro l3 l4 hf; cases hf
  | succ n ih =>
    intro l3 l4 hf ke
    replace hf : sX6_bestOf_5 x l1 l2 (wX6_bestOf_5 x l1 l2 n) l3 l4 = some R := hf
    delta sX6_bestOf_5 at hf
    refine T_iload dX6_bestOf_5 rfl ?_
    refine T_const dX6_bestOf_7 ?_
    refine T_icmp_ge dX6_bestOf_8 (fun c8_1 => ?_) (fun c8_1 => ?_)
    · replace hf := ite_t c8_1 hf
      exact X_wk (WK.n (WK.n (WK.n (WK.s (WK.n (WK.n WK.e)))))) (ke l3 (Option.some.inj hf).symm)
    · replace hf := ite_f c8_1 hf
      refine T_aload dX6_bestOf_11 rfl ?_
      refine X_getr dX6_bestOf_12 lfX6_17 rfl ob23 rfl ?_
      refine T_iload dX6_bestOf_15 rfl ?_
      refine T_iload dX6_bestOf_16 rfl ?_
      refine T_iadd dX6_bestOf_18 ?_
      obtain ⟨hb19_2, hf⟩ := opt_t hf
      refine X_iald (N := 625) dX6_bestOf_19 ar25 rfl hb19_2 ?_
      refine T_aload dX6_bestOf_20 rfl ?_
      refine X_getr dX6_bestOf_21 lfX6_17 rfl ob23 rfl ?_
      refine T_iload dX6_bestOf_24 rfl ?_
      refine T_iload dX6_bestOf_25 rfl ?_
      refine T_iadd dX6_bestOf_26 ?_
      obtain ⟨hb27_3, hf⟩ := opt_t hf
      refine X_iald (N := 625) dX6_bestOf_27 ar25 rfl hb27_3 ?_
      refine T_isub dX6_bestOf_28 ?_
      refine T_istore dX6_bestOf_29 ?_
      show TX _ _ _ _ _ _ _ _ [_, _, _, _, _, _] _
      refine T_iload dX6_bestOf_31 rfl ?_
      have J51 : ∀ (l3 : Int32) (l4 : Int32), jX6_bestOf_51 (wX6_bestOf_5 x l1 l2 n) x l1 l2 l3 l4 = some R → TX true Z mX6_bestOf 0 y x Q 51 [.ref 23, .int l1, .int l2, .int l3, .int l4, .null] [] := by
        intro l3 l4 hf
        delta jX6_bestOf_51 at hf
        refine T_iinc dX6_bestOf_51 rfl ?_
        show TX _ _ _ _ _ _ _ _ [_, _, _, _, _, _] _
        refine T_goto dX6_bestOf_54 ?_
        exact X_wk (WK.s (WK.s (WK.s (WK.s (WK.s (WK.n WK.e)))))) (ih _ _ hf ke)
      have J48 : ∀ (l4 : Int32), jX6_bestOf_48 (wX6_bestOf_5 x l1 l2 n) x l1 l2 l4 = some R → TX true Z mX6_bestOf 0 y x Q 48 [.ref 23, .int l1, .int l2, .null, .int l4, .null] [] := by
        intro l4 hf
        delta jX6_bestOf_48 at hf
        refine T_iload dX6_bestOf_48 rfl ?_
        refine T_istore dX6_bestOf_50 ?_
        show TX _ _ _ _ _ _ _ _ [_, _, _, _, _, _] _
        exact X_wk (WK.s (WK.s (WK.s (WK.s (WK.s (WK.n WK.e)))))) (J51 _ _ hf)
      refine T_if_eq dX6_bestOf_32 (fun c32_4 => ?_) (fun c32_4 => ?_)
      · replace hf := ite_t c32_4 hf
        refine T_iload dX6_bestOf_43 rfl ?_
        refine T_if_ge dX6_bestOf_45 (fun c45_5 => ?_) (fun c45_5 => ?_)
        · replace hf := ite_t c45_5 hf
          exact X_wk (WK.s (WK.s (WK.s (WK.s (WK.s (WK.n WK.e)))))) (J51 _ _ hf)
        · replace hf := ite_f c45_5 hf
          exact X_wk (WK.s (WK.s (WK.s (WK.n (WK.s (WK.n WK.e)))))) (J48 _ hf)
      · replace hf := ite_f c32_4 hf
        refine T_iload dX6_bestOf_35 rfl ?_
        refine T_if_le dX6_bestOf_37 (fun c37_6 => ?_) (fun c37_6 => ?_)
        · replace hf := ite_t c37_6 hf
          exact X_wk (WK.s (WK.s (WK.s (WK.s (WK.s (WK.n WK.e)))))) (J51 _ _ hf)
        · replace hf := ite_f c37_6 hf
          refine T_goto dX6_bestOf_40 ?_
          exact X_wk (WK.s (WK.s (WK.s (WK.n (WK.s (WK.n WK.e)))))) (J48 _ hf)
theorem qX6_bestOf (Z : aZ) (y : aH) {x : aH} {p1 : Int32} {p2 : Int32} {q : Int32} (hf : fX6_bestOf x p1 p2 = some q) : CX true Z mX6_bestOf 0 [.ref 23, .int p1, .int p2] y x (RV (.int q) x) := by
  refine CX.of mokX6_bestOf (Nat.le_of_ble_eq_true rfl) ?_
  show TX _ _ _ _ _ _ _ _ [_, _, _, _, _, _] _
  delta fX6_bestOf at hf
  refine T_const dX6_bestOf_0 ?_
  refine T_istore dX6_bestOf_1 ?_
  show TX _ _ _ _ _ _ _ _ [_, _, _, _, _, _] _
  refine T_const dX6_bestOf_2 ?_
  refine T_istore dX6_bestOf_3 ?_
  show TX _ _ _ _ _ _ _ _ [_, _, _, _, _, _] _
  obtain ⟨q5_7, hc5_7, hf⟩ := bind_t hf
  refine X_wk (WK.s (WK.s (WK.s (WK.s (WK.s (WK.n WK.e)))))) (lX6_bestOf_5 Z _ _ _ _ 2000 _ _ hc5_7 ?_)
  intro q5_7z hr
  subst hr
  refine T_iload dX6_bestOf_57 rfl ?_
  obtain rfl := Option.some.inj hf
  exact X_ri dX6_bestOf_58 ⟨rfl, rfl⟩
noncomputable def sX6_turnAbout_13 (p1 : Nat) (l2 : Int32) (l3 : Int32) (ih : aH → Int32 → Option aH) (x : aH) (l4 : Int32) : Option aH := if (0 : Int32) ≤ l3 ∧ l3 < (5 : Int32) then if (stR 2 (ix l3)) ≤ l4 then some x else (fX6_follow x l4 l3).bind fun q27_4 => if q27_4.1 = 15 ∨ q27_4.1 = 19 ∨ q27_4.1 = 27 ∨ q27_4.1 = 31 ∨ q27_4.1 = 35 ∨ q27_4.1 = 39 ∨ q27_4.1 = 43 then (fJ6_bitCount_0f7a4 (fi q27_4.2 q27_4.1 6)).bind fun q43_5 => (fX8_awayOf q27_4.2 q27_4.1 l2).bind fun q50_6 => if (0 : Int32) ≤ l4 ∧ l4 < (625 : Int32) then ih (sri q27_4.2 25 (ix l4) (q43_5 - ((2 : Int32) * q50_6))) (l4 + (1 : Int32)) else none else none else none
noncomputable def wX6_turnAbout_13 (p1 : Nat) (l2 : Int32) (l3 : Int32) : Nat → aH → Int32 → Option aH
  | 0 => fun _ _ => none
  | n + 1 => sX6_turnAbout_13 p1 l2 l3 (wX6_turnAbout_13 p1 l2 l3 n)
noncomputable def jX6_turnAbout_104 (p1 : Nat) (ih : aH → Int32 → Option aH) (x : aH) (l4 : Int32) (l5 : Int32) (s2 : Int32) (s3 : Int32) : Option aH := (fX6_bestOf x s2 s3).bind fun q104_12 => if (0 : Int32) ≤ ((l5 * (5 : Int32)) + (fi (sfi x 23 5 q104_12) 23 5)) ∧ ((l5 * (5 : Int32)) + (fi (sfi x 23 5 q104_12) 23 5)) < (625 : Int32) then if (0 : Int32) ≤ l5 ∧ l5 < (625 : Int32) then ih (sri (sfi x 23 5 q104_12) 25 (ix l5) (ri (sfi x 23 5 q104_12) 25 (ix ((l5 * (5 : Int32)) + (fi (sfi x 23 5 q104_12) 23 5))))) (l5 + (1 : Int32)) else none else none
noncomputable def sX6_turnAbout_75 (p1 : Nat) (l4 : Int32) (ih : aH → Int32 → Option aH) (x : aH) (l5 : Int32) : Option aH := if (0 : Int32) ≤ l4 ∧ l4 < (5 : Int32) then if (stR 2 (ix l4)) ≤ l5 then some x else if (l4 - l4 / (2 : Int32) * (2 : Int32)) = (0 : Int32) then jX6_turnAbout_104 p1 ih x l4 l5 (l5 * (5 : Int32)) (1 : Int32) else jX6_turnAbout_104 p1 ih x l4 l5 (l5 * (5 : Int32)) (0 : Int32) else none
noncomputable def wX6_turnAbout_75 (p1 : Nat) (l4 : Int32) : Nat → aH → Int32 → Option aH
  | 0 => fun _ _ => none
  | n + 1 => sX6_turnAbout_75 p1 l4 (wX6_turnAbout_75 p1 l4 n)
noncomputable def sX6_turnAbout_67 (p1 : Nat) (ih : aH → Int32 → Option aH) (x : aH) (l4 : Int32) : Option aH := if l4 < (0 : Int32) then some x else (wX6_turnAbout_75 p1 l4 2000 x (0 : Int32)).bind fun q75_16 => ih q75_16 (l4 + (-1 : Int32))
noncomputable def wX6_turnAbout_67 (p1 : Nat) : Nat → aH → Int32 → Option aH
  | 0 => fun _ _ => none
  | n + 1 => sX6_turnAbout_67 p1 (wX6_turnAbout_67 p1 n)
noncomputable def fX6_turnAbout (x : aH) (p1 : Nat) (p2 : Int32) (p3 : Int32) : Option (Int32 × aH) := (fX8_become x (27 + 4 * ix (0 : Int32)) p1).bind fun q7_1 => (wX6_turnAbout_13 p1 p2 p3 2000 q7_1 (0 : Int32)).bind fun q13_8 => (wX6_turnAbout_67 p1 2000 q13_8 (p3 - (1 : Int32))).bind fun q67_17 => some ((ri q67_17 25 (ix (0 : Int32))), q67_17)
theorem lX6_turnAbout_13 (Z : aZ) (y : aH) {p1 : Nat} (hp1 : SD p1) (l2 : Int32) (l3 : Int32) {Q : Option Value → aH → Prop} {R : aH} : ∀ (n : Nat) (x : aH) (l4 : Int32), wX6_turnAbout_13 p1 l2 l3 n x l4 = some R → (∀ q, R = q → TX true Z mX6_turnAbout 5 y q Q 62 [.ref 23, .null, .null, .int l3, .null, .null] []) → TX true Z mX6_turnAbout 5 y x Q 13 [.ref 23, .null, .int l2, .int l3, .int l4, .null] [] := by
  intro n
  induction n with
  | zero => intro x l4 hf; cases hf
  | succ n ih =>
    intro x l4 hf ke
    replace hf : sX6_turnAbout_13 p1 l2 l3 (wX6_turnAbout_13 p1 l2 l3 n) x l4 = some R := hf
    delta sX6_turnAbout_13 at hf
    refine T_iload dX6_turnAbout_13 rfl ?_
    refine T_gets dX6_turnAbout_15 lgX6_52 ?_
    refine T_iload dX6_turnAbout_18 rfl ?_
    obtain ⟨hb19_2, hf⟩ := opt_t hf
    refine X_ialdS (N := 5) dX6_turnAbout_19 (by decide) rfl (by decide) rfl hb19_2 ?_
    refine T_icmp_ge dX6_turnAbout_20 (fun c20_3 => ?_) (fun c20_3 => ?_)
    · replace hf := ite_t c20_3 hf
      exact X_wk (WK.s (WK.n (WK.n (WK.s (WK.n (WK.n WK.e)))))) (ke x (Option.some.inj hf).symm)
    · replace hf := ite_f c20_3 hf
      refine T_aload dX6_turnAbout_23 rfl ?_
      refine T_iload dX6_turnAbout_24 rfl ?_
      refine T_iload dX6_turnAbout_26 rfl ?_
      obtain ⟨q27_4, hc27_4, hf⟩ := bind_t hf
      obtain ⟨hsq27_4, hf⟩ := opt_t hf
      refine X_Vv (qX6_follow Z _ hc27_4) (Nat.le_of_ble_eq_true rfl) dX6_turnAbout_27 lvX6_65 rfl rfl ob23 (Nat.le_of_ble_eq_true rfl) ?_
      refine T_astore dX6_turnAbout_30 ?_
      show TX _ _ _ _ _ _ _ _ [_, _, _, _, _, _] _
      refine T_aload dX6_turnAbout_32 rfl ?_
      refine X_getr dX6_turnAbout_33 lfX6_17 rfl ob23 rfl ?_
      refine T_iload dX6_turnAbout_36 rfl ?_
      refine T_aload dX6_turnAbout_38 rfl ?_
      refine X_getf dX6_turnAbout_40 lfX6_69 rfl (SD.ob hsq27_4) ?_
      obtain ⟨q43_5, hc43_5, hf⟩ := bind_t hf
      refine X_Sv (qJ6_bitCount_0f7a4 _ Z _ _ hc43_5) (Nat.le_of_ble_eq_true rfl) dX6_turnAbout_43 lsX6_72 rfl rfl (Nat.le_of_ble_eq_true rfl) ?_
      refine T_const dX6_turnAbout_46 ?_
      refine T_aload dX6_turnAbout_47 rfl ?_
      refine T_iload dX6_turnAbout_49 rfl ?_
      obtain ⟨q50_6, hc50_6, hf⟩ := bind_t hf
      refine X_Vv (qX8_awayOf Z _ hsq27_4 hc50_6) (Nat.le_of_ble_eq_true rfl) dX6_turnAbout_50 lvX6_83 rfl rfl (SD.ob hsq27_4) (Nat.le_of_ble_eq_true rfl) ?_
      refine T_imul dX6_turnAbout_53 ?_
      refine T_isub dX6_turnAbout_54 ?_
      obtain ⟨hb55_7, hf⟩ := opt_t hf
      refine X_iast (N := 625) dX6_turnAbout_55 ar25 rfl hb55_7 ?_
      refine T_iinc dX6_turnAbout_56 rfl ?_
      show TX _ _ _ _ _ _ _ _ [_, _, _, _, _, _] _
      refine T_goto dX6_turnAbout_59 ?_
      exact X_wk (WK.s (WK.n (WK.s (WK.s (WK.s (WK.n WK.e)))))) (ih _ _ hf ke)
theorem lX6_turnAbout_75 (Z : aZ) (y : aH) {p1 : Nat} (hp1 : SD p1) (l4 : Int32) {Q : Option Value → aH → Prop} {R : aH} : ∀ (n : Nat) (x : aH) (l5 : Int32), wX6_turnAbout_75 p1 l4 n x l5 = some R → (∀ q, R = q → TX true Z mX6_turnAbout 5 y q Q 137 [.ref 23, .null, .null, .null, .int l4, .null] []) → TX true Z mX6_turnAbout 5 y x Q 75 [.ref 23, .null, .null, .null, .int l4, .int l5] [] := by
  intro n
  induction n with
  | zero => intro x l5 hf; cases hf
  | succ n ih =>
    intro x l5 hf ke
    replace hf : sX6_turnAbout_75 p1 l4 (wX6_turnAbout_75 p1 l4 n) x l5 = some R := hf
    delta sX6_turnAbout_75 at hf
    refine T_iload dX6_turnAbout_75 rfl ?_
    refine T_gets dX6_turnAbout_77 lgX6_52 ?_
    refine T_iload dX6_turnAbout_80 rfl ?_
    obtain ⟨hb82_10, hf⟩ := opt_t hf
    refine X_ialdS (N := 5) dX6_turnAbout_82 (by decide) rfl (by decide) rfl hb82_10 ?_
    refine T_icmp_ge dX6_turnAbout_83 (fun c83_11 => ?_) (fun c83_11 => ?_)
    · replace hf := ite_t c83_11 hf
      exact X_wk (WK.s (WK.n (WK.n (WK.n (WK.s (WK.n WK.e)))))) (ke x (Option.some.inj hf).symm)
    · replace hf := ite_f c83_11 hf
      refine T_aload dX6_turnAbout_86 rfl ?_
      refine T_aload dX6_turnAbout_87 rfl ?_
      refine T_iload dX6_turnAbout_88 rfl ?_
      refine T_const dX6_turnAbout_90 ?_
      refine T_imul dX6_turnAbout_91 ?_
      refine T_iload dX6_turnAbout_92 rfl ?_
      refine T_const dX6_turnAbout_94 ?_
      refine T_irem dX6_turnAbout_95 (by decide) ?_
      have J104 : ∀ (x : aH) (l5 : Int32) (s2 : Int32) (s3 : Int32), jX6_turnAbout_104 p1 (wX6_turnAbout_75 p1 l4 n) x l4 l5 s2 s3 = some R → TX true Z mX6_turnAbout 5 y x Q 104 [.ref 23, .null, .null, .null, .int l4, .int l5] [.int s3, .int s2, .ref 23, .ref 23] := by
        intro x l5 s2 s3 hf
        delta jX6_turnAbout_104 at hf
        obtain ⟨q104_12, hc104_12, hf⟩ := bind_t hf
        refine X_Vv (qX6_bestOf Z _ hc104_12) (Nat.le_of_ble_eq_true rfl) dX6_turnAbout_104 lvX6_86 rfl rfl ob23 (Nat.le_of_ble_eq_true rfl) ?_
        refine X_putf dX6_turnAbout_107 lfX6_90 rfl rfl ob23 ⟨rfl, rfl⟩ ?_
        refine T_aload dX6_turnAbout_110 rfl ?_
        refine X_getr dX6_turnAbout_111 lfX6_17 rfl ob23 rfl ?_
        refine T_iload dX6_turnAbout_114 rfl ?_
        refine T_aload dX6_turnAbout_116 rfl ?_
        refine X_getr dX6_turnAbout_117 lfX6_17 rfl ob23 rfl ?_
        refine T_iload dX6_turnAbout_120 rfl ?_
        refine T_const dX6_turnAbout_122 ?_
        refine T_imul dX6_turnAbout_123 ?_
        refine T_aload dX6_turnAbout_124 rfl ?_
        refine X_getf dX6_turnAbout_125 lfX6_90 rfl ob23 ?_
        refine T_iadd dX6_turnAbout_128 ?_
        obtain ⟨hb129_13, hf⟩ := opt_t hf
        refine X_iald (N := 625) dX6_turnAbout_129 ar25 rfl hb129_13 ?_
        obtain ⟨hb130_14, hf⟩ := opt_t hf
        refine X_iast (N := 625) dX6_turnAbout_130 ar25 rfl hb130_14 ?_
        refine T_iinc dX6_turnAbout_131 rfl ?_
        show TX _ _ _ _ _ _ _ _ [_, _, _, _, _, _] _
        refine T_goto dX6_turnAbout_134 ?_
        exact X_wk (WK.s (WK.n (WK.n (WK.n (WK.s (WK.s WK.e)))))) (ih _ _ hf ke)
      refine T_if_ne dX6_turnAbout_96 (fun c96_15 => ?_) (fun c96_15 => ?_)
      · replace hf := ite_f c96_15 hf
        refine T_const dX6_turnAbout_103 ?_
        exact X_wk (WK.s (WK.n (WK.n (WK.n (WK.s (WK.s WK.e)))))) (J104 _ _ _ _ hf)
      · replace hf := ite_t c96_15 hf
        refine T_const dX6_turnAbout_99 ?_
        refine T_goto dX6_turnAbout_100 ?_
        exact X_wk (WK.s (WK.n (WK.n (WK.n (WK.s (WK.s WK.e)))))) (J104 _ _ _ _ hf)
theorem lX6_turnAbout_67 (Z : aZ) (y : aH) {p1 : Nat} (hp1 : SD p1) {Q : Option Value → aH → Prop} {R : aH} : ∀ (n : Nat) (x : aH) (l4 : Int32), wX6_turnAbout_67 p1 n x l4 = some R → (∀ q, R = q → TX true Z mX6_turnAbout 5 y q Q 143 [.ref 23, .null, .null, .null, .null, .null] []) → TX true Z mX6_turnAbout 5 y x Q 67 [.ref 23, .null, .null, .null, .int l4, .null] [] := by
  intro n
  induction n with
  | zero => intro x l4 hf; cases hf
  | succ n ih =>
    intro x l4 hf ke
    replace hf : sX6_turnAbout_67 p1 (wX6_turnAbout_67 p1 n) x l4 = some R := hf
    delta sX6_turnAbout_67 at hf
    refine T_iload dX6_turnAbout_67 rfl ?_
    refine T_if_lt dX6_turnAbout_69 (fun c69_9 => ?_) (fun c69_9 => ?_)
    · replace hf := ite_t c69_9 hf
      exact X_wk (WK.s (WK.n (WK.n (WK.n (WK.n (WK.n WK.e)))))) (ke x (Option.some.inj hf).symm)
    · replace hf := ite_f c69_9 hf
      refine T_const dX6_turnAbout_72 ?_
      refine T_istore dX6_turnAbout_73 ?_
      show TX _ _ _ _ _ _ _ _ [_, _, _, _, _, _] _
      obtain ⟨q75_16, hc75_16, hf⟩ := bind_t hf
      refine X_wk (WK.s (WK.n (WK.n (WK.n (WK.s (WK.s WK.e)))))) (lX6_turnAbout_75 Z _ hp1 _ 2000 _ _ hc75_16 ?_)
      intro q75_16z hr
      subst hr
      refine T_iinc dX6_turnAbout_137 rfl ?_
      show TX _ _ _ _ _ _ _ _ [_, _, _, _, _, _] _
      refine T_goto dX6_turnAbout_140 ?_
      exact X_wk (WK.s (WK.n (WK.n (WK.n (WK.s (WK.n WK.e)))))) (ih _ _ hf ke)
theorem qX6_turnAbout (Z : aZ) (y : aH) {x : aH} {p1 : Nat} {p2 : Int32} {p3 : Int32} (hp1 : SD p1) {q : (Int32 × aH)} (hf : fX6_turnAbout x p1 p2 p3 = some q) : CX true Z mX6_turnAbout 5 [.ref 23, .ref p1, .int p2, .int p3] y x (RV (.int q.1) q.2) := by
  refine CX.of mokX6_turnAbout (Nat.le_of_ble_eq_true rfl) ?_
  show TX _ _ _ _ _ _ _ _ [_, _, _, _, _, _] _
  delta fX6_turnAbout at hf
  refine T_aload dX6_turnAbout_0 rfl ?_
  refine X_getr dX6_turnAbout_1 lfX6_11 rfl ob23 rfl ?_
  refine T_const dX6_turnAbout_4 ?_
  refine X_aaldSD dX6_turnAbout_5 (show (0 : Int32) ≤ (0 : Int32) ∧ (0 : Int32) < (5 : Int32) by decide) ?_
  refine T_aload dX6_turnAbout_6 rfl ?_
  obtain ⟨q7_1, hc7_1, hf⟩ := bind_t hf
  refine X_Vn (qX8_become Z _ (SD_at (show (0 : Int32) ≤ (0 : Int32) ∧ (0 : Int32) < (5 : Int32) by decide)) hp1 hc7_1) (Nat.le_of_ble_eq_true rfl) dX6_turnAbout_7 lvX6_37 rfl rfl (SD.ob (SD_at (show (0 : Int32) ≤ (0 : Int32) ∧ (0 : Int32) < (5 : Int32) by decide))) (Nat.le_of_ble_eq_true rfl) ?_
  refine T_const dX6_turnAbout_10 ?_
  refine T_istore dX6_turnAbout_11 ?_
  show TX _ _ _ _ _ _ _ _ [_, _, _, _, _, _] _
  obtain ⟨q13_8, hc13_8, hf⟩ := bind_t hf
  refine X_wk (WK.s (WK.n (WK.s (WK.s (WK.s (WK.n WK.e)))))) (lX6_turnAbout_13 Z _ hp1 _ _ 2000 _ _ hc13_8 ?_)
  intro q13_8z hr
  subst hr
  refine T_iload dX6_turnAbout_62 rfl ?_
  refine T_const dX6_turnAbout_63 ?_
  refine T_isub dX6_turnAbout_64 ?_
  refine T_istore dX6_turnAbout_65 ?_
  show TX _ _ _ _ _ _ _ _ [_, _, _, _, _, _] _
  obtain ⟨q67_17, hc67_17, hf⟩ := bind_t hf
  refine X_wk (WK.s (WK.n (WK.n (WK.n (WK.s (WK.n WK.e)))))) (lX6_turnAbout_67 Z _ hp1 2000 _ _ hc67_17 ?_)
  intro q67_17z hr
  subst hr
  refine T_aload dX6_turnAbout_143 rfl ?_
  refine X_getr dX6_turnAbout_144 lfX6_17 rfl ob23 rfl ?_
  refine T_const dX6_turnAbout_147 ?_
  refine X_iald (N := 625) dX6_turnAbout_148 ar25 rfl (by decide) ?_
  obtain rfl := Option.some.inj hf
  exact X_ri dX6_turnAbout_149 ⟨rfl, rfl⟩
noncomputable def sX6_draw_3 (p1 : Nat) (l2 : Int32) (l3 : Int32) (l4 : Int32) (l5 : Int32) (ih : aH → Int32 → Option aH) (x : aH) (l6 : Int32) : Option aH := if (10 : Int32) ≤ l6 then some x else if (0 : Int32) ≤ l6 ∧ l6 < (10 : Int32) then ih (sri x 26 (ix l6) (0 : Int32)) (l6 + (1 : Int32)) else none
noncomputable def wX6_draw_3 (p1 : Nat) (l2 : Int32) (l3 : Int32) (l4 : Int32) (l5 : Int32) : Nat → aH → Int32 → Option aH
  | 0 => fun _ _ => none
  | n + 1 => sX6_draw_3 p1 l2 l3 l4 l5 (wX6_draw_3 p1 l2 l3 l4 l5 n)
noncomputable def jX6_draw_97 (p1 : Nat) (ih : aH → Int32 → Int32 → Option (Int32 × aH)) (x : aH) (l3 : Int32) (l4 : Int32) (l5 : Int32) (l6 : Nat) (l7 : Int32) (l8 : Int32) (l9 : Int32) (s0 : Nat) (s1 : Int32) : Option (Int32 × aH) := (fX8_pass x s0 s1).bind fun q97_7 => ih q97_7.2 l7 (l9 + (1 : Int32))
noncomputable def sX6_draw_53 (p1 : Nat) (l3 : Int32) (l4 : Int32) (l5 : Int32) (l6 : Nat) (l8 : Int32) (ih : aH → Int32 → Int32 → Option (Int32 × aH)) (x : aH) (l7 : Int32) (l9 : Int32) : Option (Int32 × aH) := if l4 ≤ l9 then some (l7, x) else if l5 ≤ (((Int32.toUInt32 ((l7 * (1103515245 : Int32)) + (12345 : Int32)) >>> (Int32.toUInt32 (16 : Int32) &&& Int32.toUInt32 31)).toInt32) - ((Int32.toUInt32 ((l7 * (1103515245 : Int32)) + (12345 : Int32)) >>> (Int32.toUInt32 (16 : Int32) &&& Int32.toUInt32 31)).toInt32) / (12 : Int32) * (12 : Int32)) then jX6_draw_97 p1 ih x l3 l4 l5 l6 ((l7 * (1103515245 : Int32)) + (12345 : Int32)) l8 l9 l6 (((Int32.toUInt32 ((l7 * (1103515245 : Int32)) + (12345 : Int32)) >>> (Int32.toUInt32 (8 : Int32) &&& Int32.toUInt32 31)).toInt32) - ((Int32.toUInt32 ((l7 * (1103515245 : Int32)) + (12345 : Int32)) >>> (Int32.toUInt32 (8 : Int32) &&& Int32.toUInt32 31)).toInt32) / (4 : Int32) * (4 : Int32)) else jX6_draw_97 p1 ih x l3 l4 l5 l6 ((l7 * (1103515245 : Int32)) + (12345 : Int32)) l8 l9 l6 (4 : Int32)
noncomputable def wX6_draw_53 (p1 : Nat) (l3 : Int32) (l4 : Int32) (l5 : Int32) (l6 : Nat) (l8 : Int32) : Nat → aH → Int32 → Int32 → Option (Int32 × aH)
  | 0 => fun _ _ _ => none
  | n + 1 => sX6_draw_53 p1 l3 l4 l5 l6 l8 (wX6_draw_53 p1 l3 l4 l5 l6 l8 n)
noncomputable def jX6_draw_143 (p1 : Nat) (ih : aH → Int32 → Option aH) (x : aH) (l3 : Int32) (l4 : Int32) (l5 : Int32) (l6 : Nat) (l7 : Int32) (l8 : Int32) (l9 : Int32) (s1 : Int32) (s2 : Int32) (s3 : Int32) : Option aH := if (0 : Int32) ≤ s1 ∧ s1 < (10 : Int32) then ih (sri x 26 (ix s1) (s2 + s3)) (l9 + (1 : Int32)) else none
noncomputable def sX6_draw_110 (p1 : Nat) (l3 : Int32) (l4 : Int32) (l5 : Int32) (l6 : Nat) (l7 : Int32) (l8 : Int32) (ih : aH → Int32 → Option aH) (x : aH) (l9 : Int32) : Option aH := if (fi x l6 5) ≤ l9 then some x else if (0 : Int32) ≤ l9 ∧ l9 < (10 : Int32) then (fX8_isHome x l6 l9).bind fun q132_12 => if q132_12 = (0 : Int32) then jX6_draw_143 p1 ih x l3 l4 l5 l6 l7 l8 l9 l9 (ri x 26 (ix l9)) (0 : Int32) else jX6_draw_143 p1 ih x l3 l4 l5 l6 l7 l8 l9 l9 (ri x 26 (ix l9)) (1 : Int32) else none
noncomputable def wX6_draw_110 (p1 : Nat) (l3 : Int32) (l4 : Int32) (l5 : Int32) (l6 : Nat) (l7 : Int32) (l8 : Int32) : Nat → aH → Int32 → Option aH
  | 0 => fun _ _ => none
  | n + 1 => sX6_draw_110 p1 l3 l4 l5 l6 l7 l8 (wX6_draw_110 p1 l3 l4 l5 l6 l7 l8 n)
noncomputable def sX6_draw_38 (p1 : Nat) (l3 : Int32) (l4 : Int32) (l5 : Int32) (l6 : Nat) (ih : aH → Int32 → Int32 → Option aH) (x : aH) (l7 : Int32) (l8 : Int32) : Option aH := if l3 ≤ l8 then some x else (fX8_become x l6 p1).bind fun q47_5 => (wX6_draw_53 p1 l3 l4 l5 l6 l8 2000 q47_5 l7 (0 : Int32)).bind fun q53_9 => (wX6_draw_110 p1 l3 l4 l5 l6 q53_9.1 l8 2000 q53_9.2 (0 : Int32)).bind fun q110_15 => ih q110_15 q53_9.1 (l8 + (1 : Int32))
noncomputable def wX6_draw_38 (p1 : Nat) (l3 : Int32) (l4 : Int32) (l5 : Int32) (l6 : Nat) : Nat → aH → Int32 → Int32 → Option aH
  | 0 => fun _ _ _ => none
  | n + 1 => sX6_draw_38 p1 l3 l4 l5 l6 (wX6_draw_38 p1 l3 l4 l5 l6 n)
noncomputable def fX6_draw (x : aH) (p1 : Nat) (p2 : Int32) (p3 : Int32) (p4 : Int32) (p5 : Int32) : Option aH := (wX6_draw_3 p1 p2 p3 p4 p5 2000 x (0 : Int32)).bind fun q3_3 => (wX6_draw_38 p1 p3 p4 p5 (27 + 4 * ix (0 : Int32)) 2000 q3_3 p2 (0 : Int32)).bind fun q38_16 => some q38_16
theorem lX6_draw_3 (Z : aZ) (y : aH) {p1 : Nat} (hp1 : SD p1) (l2 : Int32) (l3 : Int32) (l4 : Int32) (l5 : Int32) {Q : Option Value → aH → Prop} {R : aH} : ∀ (n : Nat) (x : aH) (l6 : Int32), wX6_draw_3 p1 l2 l3 l4 l5 n x l6 = some R → (∀ q, R = q → TX true Z mX6_draw 4 y q Q 24 [.ref 23, .ref p1, .int l2, .int l3, .int l4, .int l5, .null, .null, .null, .null] []) → TX true Z mX6_draw 4 y x Q 3 [.ref 23, .ref p1, .int l2, .int l3, .int l4, .int l5, .int l6, .null, .null, .null] [] := by
  intro n
  induction n with
  | zero => intro x l6 hf; cases hf
  | succ n ih =>
    intro x l6 hf ke
    replace hf : sX6_draw_3 p1 l2 l3 l4 l5 (wX6_draw_3 p1 l2 l3 l4 l5 n) x l6 = some R := hf
    delta sX6_draw_3 at hf
    refine T_iload dX6_draw_3 rfl ?_
    refine T_const dX6_draw_5 ?_
    refine T_icmp_ge dX6_draw_7 (fun c7_1 => ?_) (fun c7_1 => ?_)
    · replace hf := ite_t c7_1 hf
      exact X_wk (WK.s (WK.s (WK.s (WK.s (WK.s (WK.s (WK.n (WK.n (WK.n (WK.n WK.e)))))))))) (ke x (Option.some.inj hf).symm)
    · replace hf := ite_f c7_1 hf
      refine T_aload dX6_draw_10 rfl ?_
      refine X_getr dX6_draw_11 lfX6_21 rfl ob23 rfl ?_
      refine T_iload dX6_draw_14 rfl ?_
      refine T_const dX6_draw_16 ?_
      obtain ⟨hb17_2, hf⟩ := opt_t hf
      refine X_iast (N := 10) dX6_draw_17 ar26 rfl hb17_2 ?_
      refine T_iinc dX6_draw_18 rfl ?_
      show TX _ _ _ _ _ _ _ _ [_, _, _, _, _, _, _, _, _, _] _
      refine T_goto dX6_draw_21 ?_
      exact X_wk (WK.s (WK.s (WK.s (WK.s (WK.s (WK.s (WK.s (WK.n (WK.n (WK.n WK.e)))))))))) (ih _ _ hf ke)
theorem lX6_draw_53 (Z : aZ) (y : aH) {p1 : Nat} (hp1 : SD p1) (l3 : Int32) (l4 : Int32) (l5 : Int32) (l6 : Nat) (l8 : Int32) (hl6 : SD l6) {Q : Option Value → aH → Prop} {R : (Int32 × aH)} : ∀ (n : Nat) (x : aH) (l7 : Int32) (l9 : Int32), wX6_draw_53 p1 l3 l4 l5 l6 l8 n x l7 l9 = some R → (∀ q, R = q → TX true Z mX6_draw 4 y q.2 Q 107 [.ref 23, .ref p1, .null, .int l3, .int l4, .int l5, .ref l6, .int (q.1), .int l8, .null] []) → TX true Z mX6_draw 4 y x Q 53 [.ref 23, .ref p1, .null, .int l3, .int l4, .int l5, .ref l6, .int l7, .int l8, .int l9] [] := by
  intro n
  induction n with
  | zero => intro x l7 l9 hf; cases hf
  | succ n ih =>
    intro x l7 l9 hf ke
    replace hf : sX6_draw_53 p1 l3 l4 l5 l6 l8 (wX6_draw_53 p1 l3 l4 l5 l6 l8 n) x l7 l9 = some R := hf
    delta sX6_draw_53 at hf
    refine T_iload dX6_draw_53 rfl ?_
    refine T_iload dX6_draw_55 rfl ?_
    refine T_icmp_ge dX6_draw_57 (fun c57_6 => ?_) (fun c57_6 => ?_)
    · replace hf := ite_t c57_6 hf
      exact X_wk (WK.s (WK.s (WK.n (WK.s (WK.s (WK.s (WK.s (WK.s (WK.s (WK.n WK.e)))))))))) (ke (l7, x) (Option.some.inj hf).symm)
    · replace hf := ite_f c57_6 hf
      refine T_iload dX6_draw_60 rfl ?_
      refine T_const dX6_draw_62 ?_
      refine T_imul dX6_draw_64 ?_
      refine T_const dX6_draw_65 ?_
      refine T_iadd dX6_draw_68 ?_
      refine T_istore dX6_draw_69 ?_
      show TX _ _ _ _ _ _ _ _ [_, _, _, _, _, _, _, _, _, _] _
      refine T_aload dX6_draw_71 rfl ?_
      refine T_iload dX6_draw_73 rfl ?_
      refine T_const dX6_draw_75 ?_
      refine T_iushr dX6_draw_77 ?_
      refine T_const dX6_draw_78 ?_
      refine T_irem dX6_draw_80 (by decide) ?_
      refine T_iload dX6_draw_81 rfl ?_
      have J97 : ∀ (x : aH) (l7 : Int32) (l9 : Int32) (s0 : Nat) (s1 : Int32) (hl6 : SD l6) (hs0 : SD s0), jX6_draw_97 p1 (wX6_draw_53 p1 l3 l4 l5 l6 l8 n) x l3 l4 l5 l6 l7 l8 l9 s0 s1 = some R → TX true Z mX6_draw 4 y x Q 97 [.ref 23, .ref p1, .null, .int l3, .int l4, .int l5, .ref l6, .int l7, .int l8, .int l9] [.int s1, .ref s0] := by
        intro x l7 l9 s0 s1 hl6 hs0 hf
        delta jX6_draw_97 at hf
        obtain ⟨q97_7, hc97_7, hf⟩ := bind_t hf
        refine X_Vv (qX8_pass Z _ hs0 hc97_7) (Nat.le_of_ble_eq_true rfl) dX6_draw_97 lvX6_45 rfl rfl (SD.ob hs0) (Nat.le_of_ble_eq_true rfl) ?_
        refine T_pop dX6_draw_100 rfl ?_
        refine T_iinc dX6_draw_101 rfl ?_
        show TX _ _ _ _ _ _ _ _ [_, _, _, _, _, _, _, _, _, _] _
        refine T_goto dX6_draw_104 ?_
        exact X_wk (WK.s (WK.s (WK.n (WK.s (WK.s (WK.s (WK.s (WK.s (WK.s (WK.s WK.e)))))))))) (ih _ _ _ hf ke)
      refine T_icmp_ge dX6_draw_83 (fun c83_8 => ?_) (fun c83_8 => ?_)
      · replace hf := ite_t c83_8 hf
        refine T_iload dX6_draw_90 rfl ?_
        refine T_const dX6_draw_92 ?_
        refine T_iushr dX6_draw_94 ?_
        refine T_const dX6_draw_95 ?_
        refine T_irem dX6_draw_96 (by decide) ?_
        exact X_wk (WK.s (WK.s (WK.n (WK.s (WK.s (WK.s (WK.s (WK.s (WK.s (WK.s WK.e)))))))))) (J97 _ _ _ _ _ hl6 hl6 hf)
      · replace hf := ite_f c83_8 hf
        refine T_const dX6_draw_86 ?_
        refine T_goto dX6_draw_87 ?_
        exact X_wk (WK.s (WK.s (WK.n (WK.s (WK.s (WK.s (WK.s (WK.s (WK.s (WK.s WK.e)))))))))) (J97 _ _ _ _ _ hl6 hl6 hf)
theorem lX6_draw_110 (Z : aZ) (y : aH) {p1 : Nat} (hp1 : SD p1) (l3 : Int32) (l4 : Int32) (l5 : Int32) (l6 : Nat) (l7 : Int32) (l8 : Int32) (hl6 : SD l6) {Q : Option Value → aH → Prop} {R : aH} : ∀ (n : Nat) (x : aH) (l9 : Int32), wX6_draw_110 p1 l3 l4 l5 l6 l7 l8 n x l9 = some R → (∀ q, R = q → TX true Z mX6_draw 4 y q Q 151 [.ref 23, .ref p1, .null, .int l3, .int l4, .int l5, .ref l6, .int l7, .int l8, .null] []) → TX true Z mX6_draw 4 y x Q 110 [.ref 23, .ref p1, .null, .int l3, .int l4, .int l5, .ref l6, .int l7, .int l8, .int l9] [] := by
  intro n
  induction n with
  | zero => intro x l9 hf; cases hf
  | succ n ih =>
    intro x l9 hf ke
    replace hf : sX6_draw_110 p1 l3 l4 l5 l6 l7 l8 (wX6_draw_110 p1 l3 l4 l5 l6 l7 l8 n) x l9 = some R := hf
    delta sX6_draw_110 at hf
    refine T_iload dX6_draw_110 rfl ?_
    refine T_aload dX6_draw_112 rfl ?_
    refine X_getf dX6_draw_114 lfX6_94 rfl (SD.ob hl6) ?_
    refine T_icmp_ge dX6_draw_117 (fun c117_10 => ?_) (fun c117_10 => ?_)
    · replace hf := ite_t c117_10 hf
      exact X_wk (WK.s (WK.s (WK.n (WK.s (WK.s (WK.s (WK.s (WK.s (WK.s (WK.n WK.e)))))))))) (ke x (Option.some.inj hf).symm)
    · replace hf := ite_f c117_10 hf
      refine T_aload dX6_draw_120 rfl ?_
      refine X_getr dX6_draw_121 lfX6_21 rfl ob23 rfl ?_
      refine T_iload dX6_draw_124 rfl ?_
      refine T_dup2 dX6_draw_126 rfl rfl ?_
      obtain ⟨hb127_11, hf⟩ := opt_t hf
      refine X_iald (N := 10) dX6_draw_127 ar26 rfl hb127_11 ?_
      refine T_aload dX6_draw_128 rfl ?_
      refine T_iload dX6_draw_130 rfl ?_
      obtain ⟨q132_12, hc132_12, hf⟩ := bind_t hf
      refine X_Vv (qX8_isHome Z _ hl6 hc132_12) (Nat.le_of_ble_eq_true rfl) dX6_draw_132 lvX6_48 rfl rfl (SD.ob hl6) (Nat.le_of_ble_eq_true rfl) ?_
      have J143 : ∀ (x : aH) (l9 : Int32) (s1 : Int32) (s2 : Int32) (s3 : Int32) (hl6 : SD l6), jX6_draw_143 p1 (wX6_draw_110 p1 l3 l4 l5 l6 l7 l8 n) x l3 l4 l5 l6 l7 l8 l9 s1 s2 s3 = some R → TX true Z mX6_draw 4 y x Q 143 [.ref 23, .ref p1, .null, .int l3, .int l4, .int l5, .ref l6, .int l7, .int l8, .int l9] [.int s3, .int s2, .int s1, .ref 26] := by
        intro x l9 s1 s2 s3 hl6 hf
        delta jX6_draw_143 at hf
        refine T_iadd dX6_draw_143 ?_
        obtain ⟨hb144_13, hf⟩ := opt_t hf
        refine X_iast (N := 10) dX6_draw_144 ar26 rfl hb144_13 ?_
        refine T_iinc dX6_draw_145 rfl ?_
        show TX _ _ _ _ _ _ _ _ [_, _, _, _, _, _, _, _, _, _] _
        refine T_goto dX6_draw_148 ?_
        exact X_wk (WK.s (WK.s (WK.n (WK.s (WK.s (WK.s (WK.s (WK.s (WK.s (WK.s WK.e)))))))))) (ih _ _ hf ke)
      refine T_if_eq dX6_draw_135 (fun c135_14 => ?_) (fun c135_14 => ?_)
      · replace hf := ite_t c135_14 hf
        refine T_const dX6_draw_142 ?_
        exact X_wk (WK.s (WK.s (WK.n (WK.s (WK.s (WK.s (WK.s (WK.s (WK.s (WK.s WK.e)))))))))) (J143 _ _ _ _ _ hl6 hf)
      · replace hf := ite_f c135_14 hf
        refine T_const dX6_draw_138 ?_
        refine T_goto dX6_draw_139 ?_
        exact X_wk (WK.s (WK.s (WK.n (WK.s (WK.s (WK.s (WK.s (WK.s (WK.s (WK.s WK.e)))))))))) (J143 _ _ _ _ _ hl6 hf)
theorem lX6_draw_38 (Z : aZ) (y : aH) {p1 : Nat} (hp1 : SD p1) (l3 : Int32) (l4 : Int32) (l5 : Int32) (l6 : Nat) (hl6 : SD l6) {Q : Option Value → aH → Prop} {R : aH} : ∀ (n : Nat) (x : aH) (l7 : Int32) (l8 : Int32), wX6_draw_38 p1 l3 l4 l5 l6 n x l7 l8 = some R → (∀ q, R = q → TX true Z mX6_draw 4 y q Q 157 [.null, .null, .null, .null, .null, .null, .null, .null, .null, .null] []) → TX true Z mX6_draw 4 y x Q 38 [.ref 23, .ref p1, .null, .int l3, .int l4, .int l5, .ref l6, .int l7, .int l8, .null] [] := by
  intro n
  induction n with
  | zero => intro x l7 l8 hf; cases hf
  | succ n ih =>
    intro x l7 l8 hf ke
    replace hf : sX6_draw_38 p1 l3 l4 l5 l6 (wX6_draw_38 p1 l3 l4 l5 l6 n) x l7 l8 = some R := hf
    delta sX6_draw_38 at hf
    refine T_iload dX6_draw_38 rfl ?_
    refine T_iload dX6_draw_40 rfl ?_
    refine T_icmp_ge dX6_draw_41 (fun c41_4 => ?_) (fun c41_4 => ?_)
    · replace hf := ite_t c41_4 hf
      exact X_wk (WK.n (WK.n (WK.n (WK.n (WK.n (WK.n (WK.n (WK.n (WK.n (WK.n WK.e)))))))))) (ke x (Option.some.inj hf).symm)
    · replace hf := ite_f c41_4 hf
      refine T_aload dX6_draw_44 rfl ?_
      refine T_aload dX6_draw_46 rfl ?_
      obtain ⟨q47_5, hc47_5, hf⟩ := bind_t hf
      refine X_Vn (qX8_become Z _ hl6 hp1 hc47_5) (Nat.le_of_ble_eq_true rfl) dX6_draw_47 lvX6_37 rfl rfl (SD.ob hl6) (Nat.le_of_ble_eq_true rfl) ?_
      refine T_const dX6_draw_50 ?_
      refine T_istore dX6_draw_51 ?_
      show TX _ _ _ _ _ _ _ _ [_, _, _, _, _, _, _, _, _, _] _
      obtain ⟨q53_9, hc53_9, hf⟩ := bind_t hf
      refine X_wk (WK.s (WK.s (WK.n (WK.s (WK.s (WK.s (WK.s (WK.s (WK.s (WK.s WK.e)))))))))) (lX6_draw_53 Z _ hp1 _ _ _ _ _ hl6 2000 _ _ _ hc53_9 ?_)
      intro q53_9z hr
      subst hr
      refine T_const dX6_draw_107 ?_
      refine T_istore dX6_draw_108 ?_
      show TX _ _ _ _ _ _ _ _ [_, _, _, _, _, _, _, _, _, _] _
      obtain ⟨q110_15, hc110_15, hf⟩ := bind_t hf
      refine X_wk (WK.s (WK.s (WK.n (WK.s (WK.s (WK.s (WK.s (WK.s (WK.s (WK.s WK.e)))))))))) (lX6_draw_110 Z _ hp1 _ _ _ _ _ _ hl6 2000 _ _ hc110_15 ?_)
      intro q110_15z hr
      subst hr
      refine T_iinc dX6_draw_151 rfl ?_
      show TX _ _ _ _ _ _ _ _ [_, _, _, _, _, _, _, _, _, _] _
      refine T_goto dX6_draw_154 ?_
      exact X_wk (WK.s (WK.s (WK.n (WK.s (WK.s (WK.s (WK.s (WK.s (WK.s (WK.n WK.e)))))))))) (ih _ _ _ hf ke)
theorem qX6_draw (Z : aZ) (y : aH) {x : aH} {p1 : Nat} {p2 : Int32} {p3 : Int32} {p4 : Int32} {p5 : Int32} (hp1 : SD p1) {q : aH} (hf : fX6_draw x p1 p2 p3 p4 p5 = some q) : CX true Z mX6_draw 4 [.ref 23, .ref p1, .int p2, .int p3, .int p4, .int p5] y x (RN q) := by
  refine CX.of mokX6_draw (Nat.le_of_ble_eq_true rfl) ?_
  show TX _ _ _ _ _ _ _ _ [_, _, _, _, _, _, _, _, _, _] _
  delta fX6_draw at hf
  refine T_const dX6_draw_0 ?_
  refine T_istore dX6_draw_1 ?_
  show TX _ _ _ _ _ _ _ _ [_, _, _, _, _, _, _, _, _, _] _
  obtain ⟨q3_3, hc3_3, hf⟩ := bind_t hf
  refine X_wk (WK.s (WK.s (WK.s (WK.s (WK.s (WK.s (WK.s (WK.n (WK.n (WK.n WK.e)))))))))) (lX6_draw_3 Z _ hp1 _ _ _ _ 2000 _ _ hc3_3 ?_)
  intro q3_3z hr
  subst hr
  refine T_aload dX6_draw_24 rfl ?_
  refine X_getr dX6_draw_25 lfX6_11 rfl ob23 rfl ?_
  refine T_const dX6_draw_28 ?_
  refine X_aaldSD dX6_draw_29 (show (0 : Int32) ≤ (0 : Int32) ∧ (0 : Int32) < (5 : Int32) by decide) ?_
  refine T_astore dX6_draw_30 ?_
  show TX _ _ _ _ _ _ _ _ [_, _, _, _, _, _, _, _, _, _] _
  refine T_iload dX6_draw_32 rfl ?_
  refine T_istore dX6_draw_33 ?_
  show TX _ _ _ _ _ _ _ _ [_, _, _, _, _, _, _, _, _, _] _
  refine T_const dX6_draw_35 ?_
  refine T_istore dX6_draw_36 ?_
  show TX _ _ _ _ _ _ _ _ [_, _, _, _, _, _, _, _, _, _] _
  obtain ⟨q38_16, hc38_16, hf⟩ := bind_t hf
  refine X_wk (WK.s (WK.s (WK.n (WK.s (WK.s (WK.s (WK.s (WK.s (WK.s (WK.n WK.e)))))))))) (lX6_draw_38 Z _ hp1 _ _ _ _ (SD_at (show (0 : Int32) ≤ (0 : Int32) ∧ (0 : Int32) < (5 : Int32) by decide)) 2000 _ _ _ hc38_16 ?_)
  intro q38_16z hr
  subst hr
  obtain rfl := Option.some.inj hf
  exact X_rv dX6_draw_157 ⟨rfl, rfl⟩
noncomputable def sX6_homeInAll_4 (x : aH) (ih : Int32 → Int32 → Option Int32) (l1 : Int32) (l2 : Int32) : Option Int32 := if (10 : Int32) ≤ l2 then some l1 else if (0 : Int32) ≤ l2 ∧ l2 < (10 : Int32) then ih (l1 + (ri x 26 (ix l2))) (l2 + (1 : Int32)) else none
noncomputable def wX6_homeInAll_4 (x : aH) : Nat → Int32 → Int32 → Option Int32
  | 0 => fun _ _ => none
  | n + 1 => sX6_homeInAll_4 x (wX6_homeInAll_4 x n)
noncomputable def fX6_homeInAll (x : aH) : Option Int32 := (wX6_homeInAll_4 x 2000 (0 : Int32) (0 : Int32)).bind fun q4_3 => some q4_3
theorem lX6_homeInAll_4 (Z : aZ) (y : aH) (x : aH) {Q : Option Value → aH → Prop} {R : Int32} : ∀ (n : Nat) (l1 : Int32) (l2 : Int32), wX6_homeInAll_4 x n l1 l2 = some R → (∀ q, R = q → TX true Z mX6_homeInAll 0 y x Q 25 [.null, .int q, .null] []) → TX true Z mX6_homeInAll 0 y x Q 4 [.ref 23, .int l1, .int l2] [] := by
  intro n
  induction n with
  | zero => intro l1 l2 hf; cases hf
  | succ n ih =>
    intro l1 l2 hf ke
    replace hf : sX6_homeInAll_4 x (wX6_homeInAll_4 x n) l1 l2 = some R := hf
    delta sX6_homeInAll_4 at hf
    refine T_iload dX6_homeInAll_4 rfl ?_
    refine T_const dX6_homeInAll_5 ?_
    refine T_icmp_ge dX6_homeInAll_7 (fun c7_1 => ?_) (fun c7_1 => ?_)
    · replace hf := ite_t c7_1 hf
      exact X_wk (WK.n (WK.s (WK.n WK.e))) (ke l1 (Option.some.inj hf).symm)
    · replace hf := ite_f c7_1 hf
      refine T_iload dX6_homeInAll_10 rfl ?_
      refine T_aload dX6_homeInAll_11 rfl ?_
      refine X_getr dX6_homeInAll_12 lfX6_21 rfl ob23 rfl ?_
      refine T_iload dX6_homeInAll_15 rfl ?_
      obtain ⟨hb16_2, hf⟩ := opt_t hf
      refine X_iald (N := 10) dX6_homeInAll_16 ar26 rfl hb16_2 ?_
      refine T_iadd dX6_homeInAll_17 ?_
      refine T_istore dX6_homeInAll_18 ?_
      show TX _ _ _ _ _ _ _ _ [_, _, _] _
      refine T_iinc dX6_homeInAll_19 rfl ?_
      show TX _ _ _ _ _ _ _ _ [_, _, _] _
      refine T_goto dX6_homeInAll_22 ?_
      exact X_wk (WK.s (WK.s (WK.s WK.e))) (ih _ _ hf ke)
theorem qX6_homeInAll (Z : aZ) (y : aH) {x : aH} {q : Int32} (hf : fX6_homeInAll x = some q) : CX true Z mX6_homeInAll 0 [.ref 23] y x (RV (.int q) x) := by
  refine CX.of mokX6_homeInAll (Nat.le_of_ble_eq_true rfl) ?_
  show TX _ _ _ _ _ _ _ _ [_, _, _] _
  delta fX6_homeInAll at hf
  refine T_const dX6_homeInAll_0 ?_
  refine T_istore dX6_homeInAll_1 ?_
  show TX _ _ _ _ _ _ _ _ [_, _, _] _
  refine T_const dX6_homeInAll_2 ?_
  refine T_istore dX6_homeInAll_3 ?_
  show TX _ _ _ _ _ _ _ _ [_, _, _] _
  obtain ⟨q4_3, hc4_3, hf⟩ := bind_t hf
  refine X_wk (WK.s (WK.s (WK.s WK.e))) (lX6_homeInAll_4 Z _ _ 2000 _ _ hc4_3 ?_)
  intro q4_3z hr
  subst hr
  refine T_iload dX6_homeInAll_25 rfl ?_
  obtain rfl := Option.some.inj hf
  exact X_ri dX6_homeInAll_26 ⟨rfl, rfl⟩
