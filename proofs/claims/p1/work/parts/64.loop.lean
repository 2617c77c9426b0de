abbrev TL (Z : aZ) (M : MD) (d : Nat) (x m : aH) (pc : Nat) (ls st : List Value) : Prop := T0 Z M d (hp true x m) (fun r _ => r = some (.int 1)) pc ls st
theorem nI_addk (a b : Nat) : nI a + nI b = nI (a + b) := (Int32.ofNat_add a b).symm
theorem lgc_eq {a b : Int64} (h : a = b) : lg_cmp a b = 0 := by
  subst h
  unfold lg_cmp
  rw [if_neg (Int64.lt_irrefl), if_pos rfl]
theorem law_cond {L i : Nat} (hL : L ≤ 4000) (hi : i ≤ 8000) : (nI L - 6 < nI i) ↔ L < i + 6 := by
  rw [show (6 : Int32) = nI 6 from rfl, nI_subI, nI_iI i, iI_lt (by omega) (by omega) (by omega) (by omega)]
  omega
theorem hp_self (x : aH) : hp true x x = x := by
  unfold hp
  refine Prod.ext ?_ (Prod.ext ?_ ?_) <;> (funext a; simp)
section LRULES
variable {Z : aZ} {M : MD} {d pc pc' : Nat} {ls st : List Value} {x m : aH}
theorem L_Vx {idx n ci a K : Nat} {M2 : MD} {As : List Value} {st0 : List Value} {v : Value} {x' : aH} (hC : CX true Z M2 K (.ref a :: As) m x (RV v x')) (hK : K ≤ d) (hd : DI M pc (.invokevirtual idx) 3 pc') (hL : LnkV M.2.2.2.1 idx M2 ci n) (hn : As.length = n) (hst : st0 = As.reverse ++ .ref a :: st) (ho : OB true a ci) (hr : (st.map fun v => v.category).sum ≤ 8) (k : TL Z M (d + 1) x' m pc' ls (v :: st)) : TL Z M (d + 1) x m pc ls st0 :=
  T0_V (hC d hK) hd hL hn hst ho.1 ho.2.1 hr (fun r h' q => by obtain ⟨z, rfl, rfl, rfl⟩ := q; exact k)
theorem L_Vm {idx n ci a K : Nat} {M2 : MD} {As : List Value} {st0 : List Value} {v : Value} {m' : aH} (hC : CX false Z M2 K (.ref a :: As) x m (RV v m')) (hK : K ≤ d) (hd : DI M pc (.invokevirtual idx) 3 pc') (hL : LnkV M.2.2.2.1 idx M2 ci n) (hn : As.length = n) (hst : st0 = As.reverse ++ .ref a :: st) (ho : OB false a ci) (hr : (st.map fun v => v.category).sum ≤ 8) (k : TL Z M (d + 1) x m' pc' ls (v :: st)) : TL Z M (d + 1) x m pc ls st0 := by
  have hC2 := hC d hK
  rw [← hp_swap] at hC2
  exact T0_V hC2 hd hL hn hst ho.1 ho.2.1 hr (fun r h' q => by obtain ⟨z, rfl, rfl, rfl⟩ := q; rw [← hp_swap]; exact k)
theorem T_pop2 {bc bs : Nat} {S : aS} {h : aH} {Q : Option Value → aS → aH → Prop} {v : Value} (hd : DI M pc (.pop2) 1 pc') (hv : v.category = 2) (k : TK Z M d bc bs S h Q pc' ls (st)) : TK Z M d bc bs S h Q pc ls (v :: st) := by
  intro g p l e R s m args below meth c QF hF hR H locs cells slots lsA hH hS hl hc hs
  obtain ⟨hd, rfl⟩ := hd
  exact lv_pop2_2 hF.1 hF.2.1 hd ((tv_cat g v).trans hv) (k g p l e R s m args below meth c QF hF hR H locs cells slots lsA hH hS hl hc hs)
theorem L_tabE {v k : Int32} {df lo hi off : Int} {offs : Array Int} {n tgt : Nat} (hv : v = k) (hd : decode M.1 pc = .ok (.tableswitch df lo hi offs, n)) (h1 : lo ≤ k.toInt) (h2 : k.toInt ≤ hi) (ho : offs[(k.toInt - lo).toNat]? = some off) (ht : (pc : Int) + off = (tgt : Int)) (kk : TL Z M d x m tgt ls st) : TL Z M d x m pc ls (.int v :: st) := by
  subst hv
  exact T_tabIn hd h1 h2 ho ht kk
end LRULES
theorem law_loop {nm : String} {L : Nat} {xs : Nat → Int32} (hL : L ≤ 3072) (J : Nat → aH → aH → Prop)
  (hsk : ∀ (i : Nat) (x m : aH), i + 6 ≤ L → J i x m → J (i + 6) x m)
  (h_0 : ∀ (i : Nat) (x m : aH) (p1 : Int32) (p2 : Int32), i + 6 ≤ L → J i x m → ∃ qx qm, fX10_lost x p1 p2 = some qx ∧ fX11_lost m p1 p2 = some qm ∧ J (i + 6) qx.2 qm.2 ∧ qx.1 = qm.1)
  (h_1 : ∀ (i : Nat) (x m : aH) (p1 : Int32) (p2 : Int32) (p3 : Int32), i + 6 ≤ L → J i x m → ∃ qx qm, fX10_losts x p1 p2 p3 = some qx ∧ fX11_losts m p1 p2 p3 = some qm ∧ J (i + 6) qx.2 qm.2 ∧ qx.1 = qm.1)
  (h_2 : ∀ (i : Nat) (x m : aH) (p1 : Int32) (p2 : Int32) (p3 : Int32), i + 6 ≤ L → J i x m → ∃ qx qm, fX10_mend x p1 p2 p3 = some qx ∧ fX11_mend m p1 p2 p3 = some qm ∧ J (i + 6) qx.2 qm.2 ∧ qx.1 = qm.1)
  (h_3 : ∀ (i : Nat) (x m : aH) (p1 : Int32) (p2 : Int32), i + 6 ≤ L → J i x m → ∃ qx qm, fX10_of x p1 p2 = some qx ∧ fX11_of m p1 p2 = some qm ∧ J (i + 6) x m ∧ qx = qm)
  (h_4 : ∀ (i : Nat) (x m : aH) (p1 : Int32), i + 6 ≤ L → J i x m → ∃ qx qm, fX10_feed x p1 = some qx ∧ fX11_feed m p1 = some qm ∧ J (i + 6) qx.2 qm.2 ∧ qx.1 = qm.1)
  (h_5 : ∀ (i : Nat) (x m : aH), i + 6 ≤ L → J i x m → ∃ qx qm, fX10_law x = some qx ∧ fX11_law m = some qm ∧ J (i + 6) qx.2 qm.2 ∧ qx.1 = qm.1)
  (h_6 : ∀ (i : Nat) (x m : aH) (p1 : Int32), i + 6 ≤ L → J i x m → ∃ qx qm, fX10_draws x p1 = some qx ∧ fX11_draws m p1 = some qm ∧ J (i + 6) qx.2 qm.2 ∧ qx.1 = qm.1)
  (h_7 : ∀ (i : Nat) (x m : aH) (p1 : Int32), i + 6 ≤ L → J i x m → ∃ qx qm, fX10_seen x p1 = some qx ∧ fX11_seen m p1 = some qm ∧ J (i + 6) x m ∧ qx = qm)
  (h_8 : ∀ (i : Nat) (x m : aH) (p1 : Int32) (p2 : Int32) (p3 : Int32) (p4 : Int32), i + 6 ≤ L → J i x m → ∃ qx qm, fX10_later x p1 p2 p3 p4 = some qx ∧ fX11_later m p1 p2 p3 p4 = some qm ∧ J (i + 6) qx.2 qm.2 ∧ qx.1 = qm.1)
  (h_9 : ∀ (i : Nat) (x m : aH) (p1 : Int32) (p2 : Int32) (p3 : Int32), i + 6 ≤ L → J i x m → ∃ qx qm, fX10_home x p1 p2 p3 = some qx ∧ fX11_home m p1 p2 p3 = some qm ∧ J (i + 6) qx.2 qm.2 ∧ qx.1 = qm.1)
  (h_10 : ∀ (i : Nat) (x m : aH) (p1 : Int32) (p2 : Int32), i + 6 ≤ L → J i x m → ∃ qx qm, fX10_since x p1 p2 = some qx ∧ fX11_since m p1 p2 = some qm ∧ J (i + 6) qx.2 qm.2 ∧ qx.1 = qm.1)
  (h_11 : ∀ (i : Nat) (x m : aH) (p1 : Int32) (p2 : Int32), i + 6 ≤ L → J i x m → ∃ qx qm, fX10_best x p1 p2 = some qx ∧ fX11_best m p1 p2 = some qm ∧ J (i + 6) qx.2 qm.2 ∧ qx.1 = qm.1)
  (h_12 : ∀ (i : Nat) (x m : aH) (p1 : Int32) (p2 : Int32), i + 6 ≤ L → J i x m → ∃ qx qm, fX10_fetch x p1 p2 = some qx ∧ fX11_fetch m p1 p2 = some qm ∧ J (i + 6) qx.2 qm.2 ∧ qx.1 = qm.1)
  (h_13 : ∀ (i : Nat) (x m : aH) (p1 : Int32) (p2 : Int32), i + 6 ≤ L → J i x m → ∃ qx qm, fX10_drifted x p1 p2 = some qx ∧ fX11_drifted m p1 p2 = some qm ∧ J (i + 6) x m ∧ qx = qm)
  (h_14 : ∀ (i : Nat) (x m : aH) (p1 : Int32) (p2 : Int32) (p3 : Int32), i + 6 ≤ L → J i x m → ∃ qx qm, fX10_ashore x p1 p2 p3 = some qx ∧ fX11_ashore m p1 p2 p3 = some qm ∧ J (i + 6) x m ∧ qx = qm)
  (h_15 : ∀ (i : Nat) (x m : aH) (p1 : Int32) (p2 : Int32), i + 6 ≤ L → J i x m → ∃ qx qm, fX10_order x p1 p2 = some qx ∧ fX11_order m p1 p2 = some qm ∧ J (i + 6) qx.2 qm.2 ∧ qx.1 = qm.1)
  (h_16 : ∀ (i : Nat) (x m : aH) (p1 : Int32) (p2 : Int32), i + 6 ≤ L → J i x m → ∃ qx qm, fX10_clash x p1 p2 = some qx ∧ fX11_clash m p1 p2 = some qm ∧ J (i + 6) qx.2 qm.2 ∧ qx.1 = qm.1)
  (h_17 : ∀ (i : Nat) (x m : aH) (p1 : Int32) (p2 : Int32), i + 6 ≤ L → J i x m → ∃ qx qm, fX10_may x p1 p2 = some qx ∧ fX11_may m p1 p2 = some qm ∧ J (i + 6) qx.2 qm.2 ∧ qx.1 = qm.1)
  (h_18 : ∀ (i : Nat) (x m : aH) (p1 : Int32) (p2 : Int32), i + 6 ≤ L → J i x m → ∃ qx qm, fX10_share x p1 p2 = some qx ∧ fX11_share m p1 p2 = some qm ∧ J (i + 6) x m ∧ qx = qm)
  (h_19 : ∀ (i : Nat) (x m : aH) (p1 : Int32) (p2 : Int32), i + 6 ≤ L → J i x m → ∃ qx qm, fX10_heard x p1 p2 = some qx ∧ fX11_heard m p1 p2 = some qm ∧ J (i + 6) x m ∧ qx = qm)
  (h_20 : ∀ (i : Nat) (x m : aH) (p1 : Int32) (p2 : Int32) (p3 : Int32), i + 6 ≤ L → J i x m → ∃ qx qm, fX10_byTurns x p1 p2 p3 = some qx ∧ fX11_byTurns m p1 p2 p3 = some qm ∧ J (i + 6) qx.2 qm.2 ∧ qx.1 = qm.1)
  (h_21 : ∀ (i : Nat) (x m : aH) (p1 : Int32) (p2 : Int32) (p3 : Int32), i + 6 ≤ L → J i x m → ∃ qx qm, fX10_drawn x p1 p2 p3 = some qx ∧ fX11_drawn m p1 p2 p3 = some qm ∧ J (i + 6) qx.2 qm.2 ∧ qx.1 = qm.1)
  (h_22 : ∀ (i : Nat) (x m : aH) (p1 : Int32), i + 6 ≤ L → J i x m → ∃ qx qm, fX10_night x p1 = some qx ∧ fX11_night m p1 = some qm ∧ J (i + 6) qx.2 qm.2 ∧ qx.1 = qm.1)
  (h_23 : ∀ (i : Nat) (x m : aH) (p1 : Int32), i + 6 ≤ L → J i x m → ∃ qx qm, fX10_oil x p1 = some qx ∧ fX11_oil m p1 = some qm ∧ J (i + 6) qx.2 qm.2 ∧ qx.1 = qm.1)
  (h_24 : ∀ (i : Nat) (x m : aH) (p1 : Int32), i + 6 ≤ L → J i x m → ∃ qx qm, fX10_led x p1 = some qx ∧ fX11_led m p1 = some qm ∧ J (i + 6) x m ∧ qx = qm)
  (h_25 : ∀ (i : Nat) (x m : aH), i + 6 ≤ L → J i x m → ∃ qx qm, fX10_image x = some qx ∧ fX11_image m = some qm ∧ J (i + 6) qx.2 qm.2 ∧ qx.1 = qm.1)
  (h_26 : ∀ (i : Nat) (x m : aH), i + 6 ≤ L → J i x m → ∃ qx qm, fX10_back x = some qx ∧ fX11_back m = some qm ∧ J (i + 6) qx.2 qm.2 ∧ qx.1 = qm.1)
  (h_27 : ∀ (i : Nat) (x m : aH), i + 6 ≤ L → J i x m → ∃ qx qm, fX10_undo x = some qx ∧ fX11_undo m = some qm ∧ J (i + 6) qx.2 qm.2 ∧ qx.1 = qm.1)
  (h_28 : ∀ (i : Nat) (x m : aH), i + 6 ≤ L → J i x m → ∃ qx qm, fX10_redo x = some qx ∧ fX11_redo m = some qm ∧ J (i + 6) qx.2 qm.2 ∧ qx.1 = qm.1)
  (h_29 : ∀ (i : Nat) (x m : aH) (p1 : Int32), i + 6 ≤ L → J i x m → ∃ qx qm, fX10_body x p1 = some qx ∧ fX11_body m p1 = some qm ∧ J (i + 6) qx.2 qm.2 ∧ qx.1 = qm.1)
  (h_30 : ∀ (i : Nat) (x m : aH) (p1 : Int32) (p2 : Int32) (p3 : Int32), i + 6 ≤ L → J i x m → ∃ qx qm, fX10_act x p1 p2 p3 = some qx ∧ fX11_act m p1 p2 p3 = some qm ∧ J (i + 6) qx.2 qm.2 ∧ qx.1 = qm.1)
  (h_31 : ∀ (i : Nat) (x m : aH) (p1 : Int32), i + 6 ≤ L → J i x m → ∃ qx qm, fX10_trace x p1 = some qx ∧ fX11_trace m p1 = some qm ∧ J (i + 6) x m ∧ qx = qm)
  (h_32 : ∀ (i : Nat) (x m : aH) (p1 : Int32) (p2 : Int32), i + 6 ≤ L → J i x m → ∃ qx qm, fX10_keep x p1 p2 = some qx ∧ fX11_keep m p1 p2 = some qm ∧ J (i + 6) qx.2 qm.2 ∧ qx.1 = qm.1)
  (h_33 : ∀ (i : Nat) (x m : aH) (p1 : Int32) (p2 : Int32) (p3 : Int32), i + 6 ≤ L → J i x m → ∃ qx qm, fX10_row x p1 p2 p3 = some qx ∧ fX11_row m p1 p2 p3 = some qm ∧ J (i + 6) qx.2 qm.2 ∧ qx.1 = qm.1)
  (h_34 : ∀ (i : Nat) (x m : aH) (p1 : Int32) (p2 : Int32) (p3 : Int64), i + 6 ≤ L → J i x m → ∃ qx qm, fX10_put x p1 p2 p3 = some qx ∧ fX11_put m p1 p2 p3 = some qm ∧ J (i + 6) qx.2 qm.2 ∧ qx.1 = qm.1)
  (h_35 : ∀ (i : Nat) (x m : aH) (p1 : Int32) (p2 : Int32), i + 6 ≤ L → J i x m → ∃ qx qm, fX10_element x p1 p2 = some qx ∧ fX11_element m p1 p2 = some qm ∧ J (i + 6) x m ∧ qx = qm)
  (h_36 : ∀ (i : Nat) (x m : aH) (p1 : Int32) (p2 : Int32) (p3 : Int32) (p4 : Int32) (p5 : Int32), i + 6 ≤ L → J i x m → ∃ qx qm, fX10_shift x p1 p2 p3 p4 p5 = some qx ∧ fX11_shift m p1 p2 p3 p4 p5 = some qm ∧ J (i + 6) qx.2 qm.2 ∧ qx.1 = qm.1)
  (h_37 : ∀ (i : Nat) (x m : aH) (p1 : Int32) (p2 : Int32), i + 6 ≤ L → J i x m → ∃ qx qm, fX10_taken x p1 p2 = some qx ∧ fX11_taken m p1 p2 = some qm ∧ J (i + 6) x m ∧ qx = qm)
  (h_38 : ∀ (i : Nat) (x m : aH) (p1 : Int32), i + 6 ≤ L → J i x m → ∃ qx qm, fX10_count x p1 = some qx ∧ fX11_count m p1 = some qm ∧ J (i + 6) x qm.2 ∧ qx = qm.1) :
  ∀ (n i : Nat) (x m : aH), L < i + n → i ≤ 4000 → J i x m → TL (L, xs) (mLn nm) 2000 x m 18 [.ref 1005, .ref 0, .ref 73, .int (nI i)] [] := by
  have K_0 : ∀ (i : Nat) (x m : aH), i + 6 ≤ L → J i x m → (∀ x m : aH, J (i + 6) x m → TL (L, xs) (mLn nm) 2000 x m 1475 [.ref 1005, .ref 0, .ref 73, .int (nI i)] []) → TL (L, xs) (mLn nm) 2000 x m 204 [.ref 1005, .ref 0, .ref 73, .int (nI i)] [] := by
    intro i x m h6 hJ E
    refine T_aload dL_law_204 rfl ?_
    refine T_aload dL_law_205 rfl ?_
    refine T_iload dL_law_206 rfl ?_
    refine T_const dL_law_207 ?_
    refine T_iadd dL_law_208 ?_
    refine T_ialdSN (a := 5) (N := L) (i := i + 1) dL_law_209 (by decide) rfl (nI_addk i 1) (by omega) (by omega) ?_
    refine T_aload dL_law_210 rfl ?_
    refine T_iload dL_law_211 rfl ?_
    refine T_const dL_law_212 ?_
    refine T_iadd dL_law_213 ?_
    refine T_ialdSN (a := 5) (N := L) (i := i + 2) dL_law_214 (by decide) rfl (nI_addk i 2) (by omega) (by omega) ?_
    obtain ⟨qx, qm, hx, hm, hJ, hq⟩ := h_0 i x m (roC (L, xs) 5 (i + 1)) (roC (L, xs) 5 (i + 2)) h6 hJ
    refine L_Vx (qX10_lost _ _ hx) (Nat.le_of_ble_eq_true rfl) dL_law_215 lvL_13 rfl rfl ob0 (Nat.le_of_ble_eq_true rfl) ?_
    refine T_aload dL_law_218 rfl ?_
    refine T_aload dL_law_219 rfl ?_
    refine T_iload dL_law_220 rfl ?_
    refine T_const dL_law_221 ?_
    refine T_iadd dL_law_222 ?_
    refine T_ialdSN (a := 5) (N := L) (i := i + 1) dL_law_223 (by decide) rfl (nI_addk i 1) (by omega) (by omega) ?_
    refine T_aload dL_law_224 rfl ?_
    refine T_iload dL_law_225 rfl ?_
    refine T_const dL_law_226 ?_
    refine T_iadd dL_law_227 ?_
    refine T_ialdSN (a := 5) (N := L) (i := i + 2) dL_law_228 (by decide) rfl (nI_addk i 2) (by omega) (by omega) ?_
    refine L_Vm (qX11_lost _ _ hm) (Nat.le_of_ble_eq_true rfl) dL_law_229 lvL_17 rfl rfl ob73 (Nat.le_of_ble_eq_true rfl) ?_
    refine T_icmp_eq dL_law_232 (fun _ => ?_) (fun z => absurd hq z)
    exact E qx.2 qm.2 hJ
  have K_1 : ∀ (i : Nat) (x m : aH), i + 6 ≤ L → J i x m → (∀ x m : aH, J (i + 6) x m → TL (L, xs) (mLn nm) 2000 x m 1475 [.ref 1005, .ref 0, .ref 73, .int (nI i)] []) → TL (L, xs) (mLn nm) 2000 x m 237 [.ref 1005, .ref 0, .ref 73, .int (nI i)] [] := by
    intro i x m h6 hJ E
    refine T_aload dL_law_237 rfl ?_
    refine T_aload dL_law_238 rfl ?_
    refine T_iload dL_law_239 rfl ?_
    refine T_const dL_law_240 ?_
    refine T_iadd dL_law_241 ?_
    refine T_ialdSN (a := 5) (N := L) (i := i + 1) dL_law_242 (by decide) rfl (nI_addk i 1) (by omega) (by omega) ?_
    refine T_aload dL_law_243 rfl ?_
    refine T_iload dL_law_244 rfl ?_
    refine T_const dL_law_245 ?_
    refine T_iadd dL_law_246 ?_
    refine T_ialdSN (a := 5) (N := L) (i := i + 2) dL_law_247 (by decide) rfl (nI_addk i 2) (by omega) (by omega) ?_
    refine T_aload dL_law_248 rfl ?_
    refine T_iload dL_law_249 rfl ?_
    refine T_const dL_law_250 ?_
    refine T_iadd dL_law_251 ?_
    refine T_ialdSN (a := 5) (N := L) (i := i + 3) dL_law_252 (by decide) rfl (nI_addk i 3) (by omega) (by omega) ?_
    obtain ⟨qx, qm, hx, hm, hJ, hq⟩ := h_1 i x m (roC (L, xs) 5 (i + 1)) (roC (L, xs) 5 (i + 2)) (roC (L, xs) 5 (i + 3)) h6 hJ
    refine L_Vx (qX10_losts _ _ hx) (Nat.le_of_ble_eq_true rfl) dL_law_253 lvL_18 rfl rfl ob0 (Nat.le_of_ble_eq_true rfl) ?_
    refine T_aload dL_law_256 rfl ?_
    refine T_aload dL_law_257 rfl ?_
    refine T_iload dL_law_258 rfl ?_
    refine T_const dL_law_259 ?_
    refine T_iadd dL_law_260 ?_
    refine T_ialdSN (a := 5) (N := L) (i := i + 1) dL_law_261 (by decide) rfl (nI_addk i 1) (by omega) (by omega) ?_
    refine T_aload dL_law_262 rfl ?_
    refine T_iload dL_law_263 rfl ?_
    refine T_const dL_law_264 ?_
    refine T_iadd dL_law_265 ?_
    refine T_ialdSN (a := 5) (N := L) (i := i + 2) dL_law_266 (by decide) rfl (nI_addk i 2) (by omega) (by omega) ?_
    refine T_aload dL_law_267 rfl ?_
    refine T_iload dL_law_268 rfl ?_
    refine T_const dL_law_269 ?_
    refine T_iadd dL_law_270 ?_
    refine T_ialdSN (a := 5) (N := L) (i := i + 3) dL_law_271 (by decide) rfl (nI_addk i 3) (by omega) (by omega) ?_
    refine L_Vm (qX11_losts _ _ hm) (Nat.le_of_ble_eq_true rfl) dL_law_272 lvL_22 rfl rfl ob73 (Nat.le_of_ble_eq_true rfl) ?_
    refine T_icmp_eq dL_law_275 (fun _ => ?_) (fun z => absurd hq z)
    exact E qx.2 qm.2 hJ
  have K_2 : ∀ (i : Nat) (x m : aH), i + 6 ≤ L → J i x m → (∀ x m : aH, J (i + 6) x m → TL (L, xs) (mLn nm) 2000 x m 1475 [.ref 1005, .ref 0, .ref 73, .int (nI i)] []) → TL (L, xs) (mLn nm) 2000 x m 280 [.ref 1005, .ref 0, .ref 73, .int (nI i)] [] := by
    intro i x m h6 hJ E
    refine T_aload dL_law_280 rfl ?_
    refine T_aload dL_law_281 rfl ?_
    refine T_iload dL_law_282 rfl ?_
    refine T_const dL_law_283 ?_
    refine T_iadd dL_law_284 ?_
    refine T_ialdSN (a := 5) (N := L) (i := i + 1) dL_law_285 (by decide) rfl (nI_addk i 1) (by omega) (by omega) ?_
    refine T_aload dL_law_286 rfl ?_
    refine T_iload dL_law_287 rfl ?_
    refine T_const dL_law_288 ?_
    refine T_iadd dL_law_289 ?_
    refine T_ialdSN (a := 5) (N := L) (i := i + 2) dL_law_290 (by decide) rfl (nI_addk i 2) (by omega) (by omega) ?_
    refine T_aload dL_law_291 rfl ?_
    refine T_iload dL_law_292 rfl ?_
    refine T_const dL_law_293 ?_
    refine T_iadd dL_law_294 ?_
    refine T_ialdSN (a := 5) (N := L) (i := i + 3) dL_law_295 (by decide) rfl (nI_addk i 3) (by omega) (by omega) ?_
    obtain ⟨qx, qm, hx, hm, hJ, hq⟩ := h_2 i x m (roC (L, xs) 5 (i + 1)) (roC (L, xs) 5 (i + 2)) (roC (L, xs) 5 (i + 3)) h6 hJ
    refine L_Vx (qX10_mend _ _ hx) (Nat.le_of_ble_eq_true rfl) dL_law_296 lvL_23 rfl rfl ob0 (Nat.le_of_ble_eq_true rfl) ?_
    refine T_aload dL_law_299 rfl ?_
    refine T_aload dL_law_300 rfl ?_
    refine T_iload dL_law_301 rfl ?_
    refine T_const dL_law_302 ?_
    refine T_iadd dL_law_303 ?_
    refine T_ialdSN (a := 5) (N := L) (i := i + 1) dL_law_304 (by decide) rfl (nI_addk i 1) (by omega) (by omega) ?_
    refine T_aload dL_law_305 rfl ?_
    refine T_iload dL_law_306 rfl ?_
    refine T_const dL_law_307 ?_
    refine T_iadd dL_law_308 ?_
    refine T_ialdSN (a := 5) (N := L) (i := i + 2) dL_law_309 (by decide) rfl (nI_addk i 2) (by omega) (by omega) ?_
    refine T_aload dL_law_310 rfl ?_
    refine T_iload dL_law_311 rfl ?_
    refine T_const dL_law_312 ?_
    refine T_iadd dL_law_313 ?_
    refine T_ialdSN (a := 5) (N := L) (i := i + 3) dL_law_314 (by decide) rfl (nI_addk i 3) (by omega) (by omega) ?_
    refine L_Vm (qX11_mend _ _ hm) (Nat.le_of_ble_eq_true rfl) dL_law_315 lvL_26 rfl rfl ob73 (Nat.le_of_ble_eq_true rfl) ?_
    refine T_icmp_eq dL_law_318 (fun _ => ?_) (fun z => absurd hq z)
    exact E qx.2 qm.2 hJ
  have K_3 : ∀ (i : Nat) (x m : aH), i + 6 ≤ L → J i x m → (∀ x m : aH, J (i + 6) x m → TL (L, xs) (mLn nm) 2000 x m 1475 [.ref 1005, .ref 0, .ref 73, .int (nI i)] []) → TL (L, xs) (mLn nm) 2000 x m 323 [.ref 1005, .ref 0, .ref 73, .int (nI i)] [] := by
    intro i x m h6 hJ E
    refine T_aload dL_law_323 rfl ?_
    refine T_aload dL_law_324 rfl ?_
    refine T_iload dL_law_325 rfl ?_
    refine T_const dL_law_326 ?_
    refine T_iadd dL_law_327 ?_
    refine T_ialdSN (a := 5) (N := L) (i := i + 1) dL_law_328 (by decide) rfl (nI_addk i 1) (by omega) (by omega) ?_
    refine T_aload dL_law_329 rfl ?_
    refine T_iload dL_law_330 rfl ?_
    refine T_const dL_law_331 ?_
    refine T_iadd dL_law_332 ?_
    refine T_ialdSN (a := 5) (N := L) (i := i + 2) dL_law_333 (by decide) rfl (nI_addk i 2) (by omega) (by omega) ?_
    obtain ⟨qx, qm, hx, hm, hJ, hq⟩ := h_3 i x m (roC (L, xs) 5 (i + 1)) (roC (L, xs) 5 (i + 2)) h6 hJ
    refine L_Vx (qX10_of _ _ hx) (Nat.le_of_ble_eq_true rfl) dL_law_334 lvL_27 rfl rfl ob0 (Nat.le_of_ble_eq_true rfl) ?_
    refine T_aload dL_law_337 rfl ?_
    refine T_aload dL_law_338 rfl ?_
    refine T_iload dL_law_339 rfl ?_
    refine T_const dL_law_340 ?_
    refine T_iadd dL_law_341 ?_
    refine T_ialdSN (a := 5) (N := L) (i := i + 1) dL_law_342 (by decide) rfl (nI_addk i 1) (by omega) (by omega) ?_
    refine T_aload dL_law_343 rfl ?_
    refine T_iload dL_law_344 rfl ?_
    refine T_const dL_law_345 ?_
    refine T_iadd dL_law_346 ?_
    refine T_ialdSN (a := 5) (N := L) (i := i + 2) dL_law_347 (by decide) rfl (nI_addk i 2) (by omega) (by omega) ?_
    refine L_Vm (qX11_of _ _ hm) (Nat.le_of_ble_eq_true rfl) dL_law_348 lvL_30 rfl rfl ob73 (Nat.le_of_ble_eq_true rfl) ?_
    refine T_icmp_eq dL_law_351 (fun _ => ?_) (fun z => absurd hq z)
    exact E x m hJ
  have K_4 : ∀ (i : Nat) (x m : aH), i + 6 ≤ L → J i x m → (∀ x m : aH, J (i + 6) x m → TL (L, xs) (mLn nm) 2000 x m 1475 [.ref 1005, .ref 0, .ref 73, .int (nI i)] []) → TL (L, xs) (mLn nm) 2000 x m 356 [.ref 1005, .ref 0, .ref 73, .int (nI i)] [] := by
    intro i x m h6 hJ E
    refine T_aload dL_law_356 rfl ?_
    refine T_aload dL_law_357 rfl ?_
    refine T_iload dL_law_358 rfl ?_
    refine T_const dL_law_359 ?_
    refine T_iadd dL_law_360 ?_
    refine T_ialdSN (a := 5) (N := L) (i := i + 1) dL_law_361 (by decide) rfl (nI_addk i 1) (by omega) (by omega) ?_
    obtain ⟨qx, qm, hx, hm, hJ, hq⟩ := h_4 i x m (roC (L, xs) 5 (i + 1)) h6 hJ
    refine L_Vx (qX10_feed _ _ hx) (Nat.le_of_ble_eq_true rfl) dL_law_362 lvL_31 rfl rfl ob0 (Nat.le_of_ble_eq_true rfl) ?_
    refine T_aload dL_law_365 rfl ?_
    refine T_aload dL_law_366 rfl ?_
    refine T_iload dL_law_367 rfl ?_
    refine T_const dL_law_368 ?_
    refine T_iadd dL_law_369 ?_
    refine T_ialdSN (a := 5) (N := L) (i := i + 1) dL_law_370 (by decide) rfl (nI_addk i 1) (by omega) (by omega) ?_
    refine L_Vm (qX11_feed _ _ hm) (Nat.le_of_ble_eq_true rfl) dL_law_371 lvL_35 rfl rfl ob73 (Nat.le_of_ble_eq_true rfl) ?_
    refine T_icmp_eq dL_law_374 (fun _ => ?_) (fun z => absurd hq z)
    exact E qx.2 qm.2 hJ
  have K_5 : ∀ (i : Nat) (x m : aH), i + 6 ≤ L → J i x m → (∀ x m : aH, J (i + 6) x m → TL (L, xs) (mLn nm) 2000 x m 1475 [.ref 1005, .ref 0, .ref 73, .int (nI i)] []) → TL (L, xs) (mLn nm) 2000 x m 379 [.ref 1005, .ref 0, .ref 73, .int (nI i)] [] := by
    intro i x m h6 hJ E
    refine T_aload dL_law_379 rfl ?_
    obtain ⟨qx, qm, hx, hm, hJ, hq⟩ := h_5 i x m h6 hJ
    refine L_Vx (qX10_law _ _ hx) (Nat.le_of_ble_eq_true rfl) dL_law_380 lvL_36 rfl rfl ob0 (Nat.le_of_ble_eq_true rfl) ?_
    refine T_aload dL_law_383 rfl ?_
    refine L_Vm (qX11_law _ _ hm) (Nat.le_of_ble_eq_true rfl) dL_law_384 lvL_40 rfl rfl ob73 (Nat.le_of_ble_eq_true rfl) ?_
    refine T_icmp_eq dL_law_387 (fun _ => ?_) (fun z => absurd hq z)
    exact E qx.2 qm.2 hJ
  have K_6 : ∀ (i : Nat) (x m : aH), i + 6 ≤ L → J i x m → (∀ x m : aH, J (i + 6) x m → TL (L, xs) (mLn nm) 2000 x m 1475 [.ref 1005, .ref 0, .ref 73, .int (nI i)] []) → TL (L, xs) (mLn nm) 2000 x m 392 [.ref 1005, .ref 0, .ref 73, .int (nI i)] [] := by
    intro i x m h6 hJ E
    refine T_aload dL_law_392 rfl ?_
    refine T_aload dL_law_393 rfl ?_
    refine T_iload dL_law_394 rfl ?_
    refine T_const dL_law_395 ?_
    refine T_iadd dL_law_396 ?_
    refine T_ialdSN (a := 5) (N := L) (i := i + 1) dL_law_397 (by decide) rfl (nI_addk i 1) (by omega) (by omega) ?_
    obtain ⟨qx, qm, hx, hm, hJ, hq⟩ := h_6 i x m (roC (L, xs) 5 (i + 1)) h6 hJ
    refine L_Vx (qX10_draws _ _ hx) (Nat.le_of_ble_eq_true rfl) dL_law_398 lvL_41 rfl rfl ob0 (Nat.le_of_ble_eq_true rfl) ?_
    refine T_aload dL_law_401 rfl ?_
    refine T_aload dL_law_402 rfl ?_
    refine T_iload dL_law_403 rfl ?_
    refine T_const dL_law_404 ?_
    refine T_iadd dL_law_405 ?_
    refine T_ialdSN (a := 5) (N := L) (i := i + 1) dL_law_406 (by decide) rfl (nI_addk i 1) (by omega) (by omega) ?_
    refine L_Vm (qX11_draws _ _ hm) (Nat.le_of_ble_eq_true rfl) dL_law_407 lvL_44 rfl rfl ob73 (Nat.le_of_ble_eq_true rfl) ?_
    refine T_icmp_eq dL_law_410 (fun _ => ?_) (fun z => absurd hq z)
    exact E qx.2 qm.2 hJ
  have K_7 : ∀ (i : Nat) (x m : aH), i + 6 ≤ L → J i x m → (∀ x m : aH, J (i + 6) x m → TL (L, xs) (mLn nm) 2000 x m 1475 [.ref 1005, .ref 0, .ref 73, .int (nI i)] []) → TL (L, xs) (mLn nm) 2000 x m 415 [.ref 1005, .ref 0, .ref 73, .int (nI i)] [] := by
    intro i x m h6 hJ E
    refine T_aload dL_law_415 rfl ?_
    refine T_aload dL_law_416 rfl ?_
    refine T_iload dL_law_417 rfl ?_
    refine T_const dL_law_418 ?_
    refine T_iadd dL_law_419 ?_
    refine T_ialdSN (a := 5) (N := L) (i := i + 1) dL_law_420 (by decide) rfl (nI_addk i 1) (by omega) (by omega) ?_
    obtain ⟨qx, qm, hx, hm, hJ, hq⟩ := h_7 i x m (roC (L, xs) 5 (i + 1)) h6 hJ
    refine L_Vx (qX10_seen _ _ hx) (Nat.le_of_ble_eq_true rfl) dL_law_421 lvL_45 rfl rfl ob0 (Nat.le_of_ble_eq_true rfl) ?_
    refine T_aload dL_law_424 rfl ?_
    refine T_aload dL_law_425 rfl ?_
    refine T_iload dL_law_426 rfl ?_
    refine T_const dL_law_427 ?_
    refine T_iadd dL_law_428 ?_
    refine T_ialdSN (a := 5) (N := L) (i := i + 1) dL_law_429 (by decide) rfl (nI_addk i 1) (by omega) (by omega) ?_
    refine L_Vm (qX11_seen _ _ hm) (Nat.le_of_ble_eq_true rfl) dL_law_430 lvL_49 rfl rfl ob73 (Nat.le_of_ble_eq_true rfl) ?_
    refine T_lcmp dL_law_433 ?_
    refine T_if_eq dL_law_434 (fun _ => ?_) (fun z => absurd (lgc_eq hq) z)
    exact E x m hJ
  have K_8 : ∀ (i : Nat) (x m : aH), i + 6 ≤ L → J i x m → (∀ x m : aH, J (i + 6) x m → TL (L, xs) (mLn nm) 2000 x m 1475 [.ref 1005, .ref 0, .ref 73, .int (nI i)] []) → TL (L, xs) (mLn nm) 2000 x m 439 [.ref 1005, .ref 0, .ref 73, .int (nI i)] [] := by
    intro i x m h6 hJ E
    refine T_aload dL_law_439 rfl ?_
    refine T_aload dL_law_440 rfl ?_
    refine T_iload dL_law_441 rfl ?_
    refine T_const dL_law_442 ?_
    refine T_iadd dL_law_443 ?_
    refine T_ialdSN (a := 5) (N := L) (i := i + 1) dL_law_444 (by decide) rfl (nI_addk i 1) (by omega) (by omega) ?_
    refine T_aload dL_law_445 rfl ?_
    refine T_iload dL_law_446 rfl ?_
    refine T_const dL_law_447 ?_
    refine T_iadd dL_law_448 ?_
    refine T_ialdSN (a := 5) (N := L) (i := i + 2) dL_law_449 (by decide) rfl (nI_addk i 2) (by omega) (by omega) ?_
    refine T_aload dL_law_450 rfl ?_
    refine T_iload dL_law_451 rfl ?_
    refine T_const dL_law_452 ?_
    refine T_iadd dL_law_453 ?_
    refine T_ialdSN (a := 5) (N := L) (i := i + 3) dL_law_454 (by decide) rfl (nI_addk i 3) (by omega) (by omega) ?_
    refine T_aload dL_law_455 rfl ?_
    refine T_iload dL_law_456 rfl ?_
    refine T_const dL_law_457 ?_
    refine T_iadd dL_law_458 ?_
    refine T_ialdSN (a := 5) (N := L) (i := i + 4) dL_law_459 (by decide) rfl (nI_addk i 4) (by omega) (by omega) ?_
    obtain ⟨qx, qm, hx, hm, hJ, hq⟩ := h_8 i x m (roC (L, xs) 5 (i + 1)) (roC (L, xs) 5 (i + 2)) (roC (L, xs) 5 (i + 3)) (roC (L, xs) 5 (i + 4)) h6 hJ
    refine L_Vx (qX10_later _ _ hx) (Nat.le_of_ble_eq_true rfl) dL_law_460 lvL_50 rfl rfl ob0 (Nat.le_of_ble_eq_true rfl) ?_
    refine T_aload dL_law_463 rfl ?_
    refine T_aload dL_law_464 rfl ?_
    refine T_iload dL_law_465 rfl ?_
    refine T_const dL_law_466 ?_
    refine T_iadd dL_law_467 ?_
    refine T_ialdSN (a := 5) (N := L) (i := i + 1) dL_law_468 (by decide) rfl (nI_addk i 1) (by omega) (by omega) ?_
    refine T_aload dL_law_469 rfl ?_
    refine T_iload dL_law_470 rfl ?_
    refine T_const dL_law_471 ?_
    refine T_iadd dL_law_472 ?_
    refine T_ialdSN (a := 5) (N := L) (i := i + 2) dL_law_473 (by decide) rfl (nI_addk i 2) (by omega) (by omega) ?_
    refine T_aload dL_law_474 rfl ?_
    refine T_iload dL_law_475 rfl ?_
    refine T_const dL_law_476 ?_
    refine T_iadd dL_law_477 ?_
    refine T_ialdSN (a := 5) (N := L) (i := i + 3) dL_law_478 (by decide) rfl (nI_addk i 3) (by omega) (by omega) ?_
    refine T_aload dL_law_479 rfl ?_
    refine T_iload dL_law_480 rfl ?_
    refine T_const dL_law_481 ?_
    refine T_iadd dL_law_482 ?_
    refine T_ialdSN (a := 5) (N := L) (i := i + 4) dL_law_483 (by decide) rfl (nI_addk i 4) (by omega) (by omega) ?_
    refine L_Vm (qX11_later _ _ hm) (Nat.le_of_ble_eq_true rfl) dL_law_484 lvL_54 rfl rfl ob73 (Nat.le_of_ble_eq_true rfl) ?_
    refine T_icmp_eq dL_law_487 (fun _ => ?_) (fun z => absurd hq z)
    exact E qx.2 qm.2 hJ
  have K_9 : ∀ (i : Nat) (x m : aH), i + 6 ≤ L → J i x m → (∀ x m : aH, J (i + 6) x m → TL (L, xs) (mLn nm) 2000 x m 1475 [.ref 1005, .ref 0, .ref 73, .int (nI i)] []) → TL (L, xs) (mLn nm) 2000 x m 492 [.ref 1005, .ref 0, .ref 73, .int (nI i)] [] := by
    intro i x m h6 hJ E
    refine T_aload dL_law_492 rfl ?_
    refine T_aload dL_law_493 rfl ?_
    refine T_iload dL_law_494 rfl ?_
    refine T_const dL_law_495 ?_
    refine T_iadd dL_law_496 ?_
    refine T_ialdSN (a := 5) (N := L) (i := i + 1) dL_law_497 (by decide) rfl (nI_addk i 1) (by omega) (by omega) ?_
    refine T_aload dL_law_498 rfl ?_
    refine T_iload dL_law_499 rfl ?_
    refine T_const dL_law_500 ?_
    refine T_iadd dL_law_501 ?_
    refine T_ialdSN (a := 5) (N := L) (i := i + 2) dL_law_502 (by decide) rfl (nI_addk i 2) (by omega) (by omega) ?_
    refine T_aload dL_law_503 rfl ?_
    refine T_iload dL_law_504 rfl ?_
    refine T_const dL_law_505 ?_
    refine T_iadd dL_law_506 ?_
    refine T_ialdSN (a := 5) (N := L) (i := i + 3) dL_law_507 (by decide) rfl (nI_addk i 3) (by omega) (by omega) ?_
    obtain ⟨qx, qm, hx, hm, hJ, hq⟩ := h_9 i x m (roC (L, xs) 5 (i + 1)) (roC (L, xs) 5 (i + 2)) (roC (L, xs) 5 (i + 3)) h6 hJ
    refine L_Vx (qX10_home _ _ hx) (Nat.le_of_ble_eq_true rfl) dL_law_508 lvL_55 rfl rfl ob0 (Nat.le_of_ble_eq_true rfl) ?_
    refine T_aload dL_law_511 rfl ?_
    refine T_aload dL_law_512 rfl ?_
    refine T_iload dL_law_513 rfl ?_
    refine T_const dL_law_514 ?_
    refine T_iadd dL_law_515 ?_
    refine T_ialdSN (a := 5) (N := L) (i := i + 1) dL_law_516 (by decide) rfl (nI_addk i 1) (by omega) (by omega) ?_
    refine T_aload dL_law_517 rfl ?_
    refine T_iload dL_law_518 rfl ?_
    refine T_const dL_law_519 ?_
    refine T_iadd dL_law_520 ?_
    refine T_ialdSN (a := 5) (N := L) (i := i + 2) dL_law_521 (by decide) rfl (nI_addk i 2) (by omega) (by omega) ?_
    refine T_aload dL_law_522 rfl ?_
    refine T_iload dL_law_523 rfl ?_
    refine T_const dL_law_524 ?_
    refine T_iadd dL_law_525 ?_
    refine T_ialdSN (a := 5) (N := L) (i := i + 3) dL_law_526 (by decide) rfl (nI_addk i 3) (by omega) (by omega) ?_
    refine L_Vm (qX11_home _ _ hm) (Nat.le_of_ble_eq_true rfl) dL_law_527 lvL_58 rfl rfl ob73 (Nat.le_of_ble_eq_true rfl) ?_
    refine T_icmp_eq dL_law_530 (fun _ => ?_) (fun z => absurd hq z)
    exact E qx.2 qm.2 hJ
  have K_10 : ∀ (i : Nat) (x m : aH), i + 6 ≤ L → J i x m → (∀ x m : aH, J (i + 6) x m → TL (L, xs) (mLn nm) 2000 x m 1475 [.ref 1005, .ref 0, .ref 73, .int (nI i)] []) → TL (L, xs) (mLn nm) 2000 x m 535 [.ref 1005, .ref 0, .ref 73, .int (nI i)] [] := by
    intro i x m h6 hJ E
    refine T_aload dL_law_535 rfl ?_
    refine T_aload dL_law_536 rfl ?_
    refine T_iload dL_law_537 rfl ?_
    refine T_const dL_law_538 ?_
    refine T_iadd dL_law_539 ?_
    refine T_ialdSN (a := 5) (N := L) (i := i + 1) dL_law_540 (by decide) rfl (nI_addk i 1) (by omega) (by omega) ?_
    refine T_aload dL_law_541 rfl ?_
    refine T_iload dL_law_542 rfl ?_
    refine T_const dL_law_543 ?_
    refine T_iadd dL_law_544 ?_
    refine T_ialdSN (a := 5) (N := L) (i := i + 2) dL_law_545 (by decide) rfl (nI_addk i 2) (by omega) (by omega) ?_
    obtain ⟨qx, qm, hx, hm, hJ, hq⟩ := h_10 i x m (roC (L, xs) 5 (i + 1)) (roC (L, xs) 5 (i + 2)) h6 hJ
    refine L_Vx (qX10_since _ _ hx) (Nat.le_of_ble_eq_true rfl) dL_law_546 lvL_59 rfl rfl ob0 (Nat.le_of_ble_eq_true rfl) ?_
    refine T_aload dL_law_549 rfl ?_
    refine T_aload dL_law_550 rfl ?_
    refine T_iload dL_law_551 rfl ?_
    refine T_const dL_law_552 ?_
    refine T_iadd dL_law_553 ?_
    refine T_ialdSN (a := 5) (N := L) (i := i + 1) dL_law_554 (by decide) rfl (nI_addk i 1) (by omega) (by omega) ?_
    refine T_aload dL_law_555 rfl ?_
    refine T_iload dL_law_556 rfl ?_
    refine T_const dL_law_557 ?_
    refine T_iadd dL_law_558 ?_
    refine T_ialdSN (a := 5) (N := L) (i := i + 2) dL_law_559 (by decide) rfl (nI_addk i 2) (by omega) (by omega) ?_
    refine L_Vm (qX11_since _ _ hm) (Nat.le_of_ble_eq_true rfl) dL_law_560 lvL_62 rfl rfl ob73 (Nat.le_of_ble_eq_true rfl) ?_
    refine T_icmp_eq dL_law_563 (fun _ => ?_) (fun z => absurd hq z)
    exact E qx.2 qm.2 hJ
  have K_11 : ∀ (i : Nat) (x m : aH), i + 6 ≤ L → J i x m → (∀ x m : aH, J (i + 6) x m → TL (L, xs) (mLn nm) 2000 x m 1475 [.ref 1005, .ref 0, .ref 73, .int (nI i)] []) → TL (L, xs) (mLn nm) 2000 x m 568 [.ref 1005, .ref 0, .ref 73, .int (nI i)] [] := by
    intro i x m h6 hJ E
    refine T_aload dL_law_568 rfl ?_
    refine T_aload dL_law_569 rfl ?_
    refine T_iload dL_law_570 rfl ?_
    refine T_const dL_law_571 ?_
    refine T_iadd dL_law_572 ?_
    refine T_ialdSN (a := 5) (N := L) (i := i + 1) dL_law_573 (by decide) rfl (nI_addk i 1) (by omega) (by omega) ?_
    refine T_aload dL_law_574 rfl ?_
    refine T_iload dL_law_575 rfl ?_
    refine T_const dL_law_576 ?_
    refine T_iadd dL_law_577 ?_
    refine T_ialdSN (a := 5) (N := L) (i := i + 2) dL_law_578 (by decide) rfl (nI_addk i 2) (by omega) (by omega) ?_
    obtain ⟨qx, qm, hx, hm, hJ, hq⟩ := h_11 i x m (roC (L, xs) 5 (i + 1)) (roC (L, xs) 5 (i + 2)) h6 hJ
    refine L_Vx (qX10_best _ _ hx) (Nat.le_of_ble_eq_true rfl) dL_law_579 lvL_63 rfl rfl ob0 (Nat.le_of_ble_eq_true rfl) ?_
    refine T_aload dL_law_582 rfl ?_
    refine T_aload dL_law_583 rfl ?_
    refine T_iload dL_law_584 rfl ?_
    refine T_const dL_law_585 ?_
    refine T_iadd dL_law_586 ?_
    refine T_ialdSN (a := 5) (N := L) (i := i + 1) dL_law_587 (by decide) rfl (nI_addk i 1) (by omega) (by omega) ?_
    refine T_aload dL_law_588 rfl ?_
    refine T_iload dL_law_589 rfl ?_
    refine T_const dL_law_590 ?_
    refine T_iadd dL_law_591 ?_
    refine T_ialdSN (a := 5) (N := L) (i := i + 2) dL_law_592 (by decide) rfl (nI_addk i 2) (by omega) (by omega) ?_
    refine L_Vm (qX11_best _ _ hm) (Nat.le_of_ble_eq_true rfl) dL_law_593 lvL_66 rfl rfl ob73 (Nat.le_of_ble_eq_true rfl) ?_
    refine T_icmp_eq dL_law_596 (fun _ => ?_) (fun z => absurd hq z)
    exact E qx.2 qm.2 hJ
  have K_12 : ∀ (i : Nat) (x m : aH), i + 6 ≤ L → J i x m → (∀ x m : aH, J (i + 6) x m → TL (L, xs) (mLn nm) 2000 x m 1475 [.ref 1005, .ref 0, .ref 73, .int (nI i)] []) → TL (L, xs) (mLn nm) 2000 x m 601 [.ref 1005, .ref 0, .ref 73, .int (nI i)] [] := by
    intro i x m h6 hJ E
    refine T_aload dL_law_601 rfl ?_
    refine T_aload dL_law_602 rfl ?_
    refine T_iload dL_law_603 rfl ?_
    refine T_const dL_law_604 ?_
    refine T_iadd dL_law_605 ?_
    refine T_ialdSN (a := 5) (N := L) (i := i + 1) dL_law_606 (by decide) rfl (nI_addk i 1) (by omega) (by omega) ?_
    refine T_aload dL_law_607 rfl ?_
    refine T_iload dL_law_608 rfl ?_
    refine T_const dL_law_609 ?_
    refine T_iadd dL_law_610 ?_
    refine T_ialdSN (a := 5) (N := L) (i := i + 2) dL_law_611 (by decide) rfl (nI_addk i 2) (by omega) (by omega) ?_
    obtain ⟨qx, qm, hx, hm, hJ, hq⟩ := h_12 i x m (roC (L, xs) 5 (i + 1)) (roC (L, xs) 5 (i + 2)) h6 hJ
    refine L_Vx (qX10_fetch _ _ hx) (Nat.le_of_ble_eq_true rfl) dL_law_612 lvL_67 rfl rfl ob0 (Nat.le_of_ble_eq_true rfl) ?_
    refine T_aload dL_law_615 rfl ?_
    refine T_aload dL_law_616 rfl ?_
    refine T_iload dL_law_617 rfl ?_
    refine T_const dL_law_618 ?_
    refine T_iadd dL_law_619 ?_
    refine T_ialdSN (a := 5) (N := L) (i := i + 1) dL_law_620 (by decide) rfl (nI_addk i 1) (by omega) (by omega) ?_
    refine T_aload dL_law_621 rfl ?_
    refine T_iload dL_law_622 rfl ?_
    refine T_const dL_law_623 ?_
    refine T_iadd dL_law_624 ?_
    refine T_ialdSN (a := 5) (N := L) (i := i + 2) dL_law_625 (by decide) rfl (nI_addk i 2) (by omega) (by omega) ?_
    refine L_Vm (qX11_fetch _ _ hm) (Nat.le_of_ble_eq_true rfl) dL_law_626 lvL_70 rfl rfl ob73 (Nat.le_of_ble_eq_true rfl) ?_
    refine T_icmp_eq dL_law_629 (fun _ => ?_) (fun z => absurd hq z)
    exact E qx.2 qm.2 hJ
  have K_13 : ∀ (i : Nat) (x m : aH), i + 6 ≤ L → J i x m → (∀ x m : aH, J (i + 6) x m → TL (L, xs) (mLn nm) 2000 x m 1475 [.ref 1005, .ref 0, .ref 73, .int (nI i)] []) → TL (L, xs) (mLn nm) 2000 x m 634 [.ref 1005, .ref 0, .ref 73, .int (nI i)] [] := by
    intro i x m h6 hJ E
    refine T_aload dL_law_634 rfl ?_
    refine T_aload dL_law_635 rfl ?_
    refine T_iload dL_law_636 rfl ?_
    refine T_const dL_law_637 ?_
    refine T_iadd dL_law_638 ?_
    refine T_ialdSN (a := 5) (N := L) (i := i + 1) dL_law_639 (by decide) rfl (nI_addk i 1) (by omega) (by omega) ?_
    refine T_aload dL_law_640 rfl ?_
    refine T_iload dL_law_641 rfl ?_
    refine T_const dL_law_642 ?_
    refine T_iadd dL_law_643 ?_
    refine T_ialdSN (a := 5) (N := L) (i := i + 2) dL_law_644 (by decide) rfl (nI_addk i 2) (by omega) (by omega) ?_
    obtain ⟨qx, qm, hx, hm, hJ, hq⟩ := h_13 i x m (roC (L, xs) 5 (i + 1)) (roC (L, xs) 5 (i + 2)) h6 hJ
    refine L_Vx (qX10_drifted _ _ hx) (Nat.le_of_ble_eq_true rfl) dL_law_645 lvL_71 rfl rfl ob0 (Nat.le_of_ble_eq_true rfl) ?_
    refine T_aload dL_law_648 rfl ?_
    refine T_aload dL_law_649 rfl ?_
    refine T_iload dL_law_650 rfl ?_
    refine T_const dL_law_651 ?_
    refine T_iadd dL_law_652 ?_
    refine T_ialdSN (a := 5) (N := L) (i := i + 1) dL_law_653 (by decide) rfl (nI_addk i 1) (by omega) (by omega) ?_
    refine T_aload dL_law_654 rfl ?_
    refine T_iload dL_law_655 rfl ?_
    refine T_const dL_law_656 ?_
    refine T_iadd dL_law_657 ?_
    refine T_ialdSN (a := 5) (N := L) (i := i + 2) dL_law_658 (by decide) rfl (nI_addk i 2) (by omega) (by omega) ?_
    refine L_Vm (qX11_drifted _ _ hm) (Nat.le_of_ble_eq_true rfl) dL_law_659 lvL_75 rfl rfl ob73 (Nat.le_of_ble_eq_true rfl) ?_
    refine T_lcmp dL_law_662 ?_
    refine T_if_eq dL_law_663 (fun _ => ?_) (fun z => absurd (lgc_eq hq) z)
    exact E x m hJ
  have K_14 : ∀ (i : Nat) (x m : aH), i + 6 ≤ L → J i x m → (∀ x m : aH, J (i + 6) x m → TL (L, xs) (mLn nm) 2000 x m 1475 [.ref 1005, .ref 0, .ref 73, .int (nI i)] []) → TL (L, xs) (mLn nm) 2000 x m 668 [.ref 1005, .ref 0, .ref 73, .int (nI i)] [] := by
    intro i x m h6 hJ E
    refine T_aload dL_law_668 rfl ?_
    refine T_aload dL_law_669 rfl ?_
    refine T_iload dL_law_670 rfl ?_
    refine T_const dL_law_671 ?_
    refine T_iadd dL_law_672 ?_
    refine T_ialdSN (a := 5) (N := L) (i := i + 1) dL_law_673 (by decide) rfl (nI_addk i 1) (by omega) (by omega) ?_
    refine T_aload dL_law_674 rfl ?_
    refine T_iload dL_law_675 rfl ?_
    refine T_const dL_law_676 ?_
    refine T_iadd dL_law_677 ?_
    refine T_ialdSN (a := 5) (N := L) (i := i + 2) dL_law_678 (by decide) rfl (nI_addk i 2) (by omega) (by omega) ?_
    refine T_aload dL_law_679 rfl ?_
    refine T_iload dL_law_680 rfl ?_
    refine T_const dL_law_681 ?_
    refine T_iadd dL_law_682 ?_
    refine T_ialdSN (a := 5) (N := L) (i := i + 3) dL_law_683 (by decide) rfl (nI_addk i 3) (by omega) (by omega) ?_
    obtain ⟨qx, qm, hx, hm, hJ, hq⟩ := h_14 i x m (roC (L, xs) 5 (i + 1)) (roC (L, xs) 5 (i + 2)) (roC (L, xs) 5 (i + 3)) h6 hJ
    refine L_Vx (qX10_ashore _ _ hx) (Nat.le_of_ble_eq_true rfl) dL_law_684 lvL_76 rfl rfl ob0 (Nat.le_of_ble_eq_true rfl) ?_
    refine T_aload dL_law_687 rfl ?_
    refine T_aload dL_law_688 rfl ?_
    refine T_iload dL_law_689 rfl ?_
    refine T_const dL_law_690 ?_
    refine T_iadd dL_law_691 ?_
    refine T_ialdSN (a := 5) (N := L) (i := i + 1) dL_law_692 (by decide) rfl (nI_addk i 1) (by omega) (by omega) ?_
    refine T_aload dL_law_693 rfl ?_
    refine T_iload dL_law_694 rfl ?_
    refine T_const dL_law_695 ?_
    refine T_iadd dL_law_696 ?_
    refine T_ialdSN (a := 5) (N := L) (i := i + 2) dL_law_697 (by decide) rfl (nI_addk i 2) (by omega) (by omega) ?_
    refine T_aload dL_law_698 rfl ?_
    refine T_iload dL_law_699 rfl ?_
    refine T_const dL_law_700 ?_
    refine T_iadd dL_law_701 ?_
    refine T_ialdSN (a := 5) (N := L) (i := i + 3) dL_law_702 (by decide) rfl (nI_addk i 3) (by omega) (by omega) ?_
    refine L_Vm (qX11_ashore _ _ hm) (Nat.le_of_ble_eq_true rfl) dL_law_703 lvL_79 rfl rfl ob73 (Nat.le_of_ble_eq_true rfl) ?_
    refine T_icmp_eq dL_law_706 (fun _ => ?_) (fun z => absurd hq z)
    exact E x m hJ
  have K_15 : ∀ (i : Nat) (x m : aH), i + 6 ≤ L → J i x m → (∀ x m : aH, J (i + 6) x m → TL (L, xs) (mLn nm) 2000 x m 1475 [.ref 1005, .ref 0, .ref 73, .int (nI i)] []) → TL (L, xs) (mLn nm) 2000 x m 711 [.ref 1005, .ref 0, .ref 73, .int (nI i)] [] := by
    intro i x m h6 hJ E
    refine T_aload dL_law_711 rfl ?_
    refine T_aload dL_law_712 rfl ?_
    refine T_iload dL_law_713 rfl ?_
    refine T_const dL_law_714 ?_
    refine T_iadd dL_law_715 ?_
    refine T_ialdSN (a := 5) (N := L) (i := i + 1) dL_law_716 (by decide) rfl (nI_addk i 1) (by omega) (by omega) ?_
    refine T_aload dL_law_717 rfl ?_
    refine T_iload dL_law_718 rfl ?_
    refine T_const dL_law_719 ?_
    refine T_iadd dL_law_720 ?_
    refine T_ialdSN (a := 5) (N := L) (i := i + 2) dL_law_721 (by decide) rfl (nI_addk i 2) (by omega) (by omega) ?_
    obtain ⟨qx, qm, hx, hm, hJ, hq⟩ := h_15 i x m (roC (L, xs) 5 (i + 1)) (roC (L, xs) 5 (i + 2)) h6 hJ
    refine L_Vx (qX10_order _ _ hx) (Nat.le_of_ble_eq_true rfl) dL_law_722 lvL_80 rfl rfl ob0 (Nat.le_of_ble_eq_true rfl) ?_
    refine T_aload dL_law_725 rfl ?_
    refine T_aload dL_law_726 rfl ?_
    refine T_iload dL_law_727 rfl ?_
    refine T_const dL_law_728 ?_
    refine T_iadd dL_law_729 ?_
    refine T_ialdSN (a := 5) (N := L) (i := i + 1) dL_law_730 (by decide) rfl (nI_addk i 1) (by omega) (by omega) ?_
    refine T_aload dL_law_731 rfl ?_
    refine T_iload dL_law_732 rfl ?_
    refine T_const dL_law_733 ?_
    refine T_iadd dL_law_734 ?_
    refine T_ialdSN (a := 5) (N := L) (i := i + 2) dL_law_735 (by decide) rfl (nI_addk i 2) (by omega) (by omega) ?_
    refine L_Vm (qX11_order _ _ hm) (Nat.le_of_ble_eq_true rfl) dL_law_736 lvL_83 rfl rfl ob73 (Nat.le_of_ble_eq_true rfl) ?_
    refine T_icmp_eq dL_law_739 (fun _ => ?_) (fun z => absurd hq z)
    exact E qx.2 qm.2 hJ
  have K_16 : ∀ (i : Nat) (x m : aH), i + 6 ≤ L → J i x m → (∀ x m : aH, J (i + 6) x m → TL (L, xs) (mLn nm) 2000 x m 1475 [.ref 1005, .ref 0, .ref 73, .int (nI i)] []) → TL (L, xs) (mLn nm) 2000 x m 744 [.ref 1005, .ref 0, .ref 73, .int (nI i)] [] := by
    intro i x m h6 hJ E
    refine T_aload dL_law_744 rfl ?_
    refine T_aload dL_law_745 rfl ?_
    refine T_iload dL_law_746 rfl ?_
    refine T_const dL_law_747 ?_
    refine T_iadd dL_law_748 ?_
    refine T_ialdSN (a := 5) (N := L) (i := i + 1) dL_law_749 (by decide) rfl (nI_addk i 1) (by omega) (by omega) ?_
    refine T_aload dL_law_750 rfl ?_
    refine T_iload dL_law_751 rfl ?_
    refine T_const dL_law_752 ?_
    refine T_iadd dL_law_753 ?_
    refine T_ialdSN (a := 5) (N := L) (i := i + 2) dL_law_754 (by decide) rfl (nI_addk i 2) (by omega) (by omega) ?_
    obtain ⟨qx, qm, hx, hm, hJ, hq⟩ := h_16 i x m (roC (L, xs) 5 (i + 1)) (roC (L, xs) 5 (i + 2)) h6 hJ
    refine L_Vx (qX10_clash _ _ hx) (Nat.le_of_ble_eq_true rfl) dL_law_755 lvL_84 rfl rfl ob0 (Nat.le_of_ble_eq_true rfl) ?_
    refine T_aload dL_law_758 rfl ?_
    refine T_aload dL_law_759 rfl ?_
    refine T_iload dL_law_760 rfl ?_
    refine T_const dL_law_761 ?_
    refine T_iadd dL_law_762 ?_
    refine T_ialdSN (a := 5) (N := L) (i := i + 1) dL_law_763 (by decide) rfl (nI_addk i 1) (by omega) (by omega) ?_
    refine T_aload dL_law_764 rfl ?_
    refine T_iload dL_law_765 rfl ?_
    refine T_const dL_law_766 ?_
    refine T_iadd dL_law_767 ?_
    refine T_ialdSN (a := 5) (N := L) (i := i + 2) dL_law_768 (by decide) rfl (nI_addk i 2) (by omega) (by omega) ?_
    refine L_Vm (qX11_clash _ _ hm) (Nat.le_of_ble_eq_true rfl) dL_law_769 lvL_87 rfl rfl ob73 (Nat.le_of_ble_eq_true rfl) ?_
    refine T_icmp_eq dL_law_772 (fun _ => ?_) (fun z => absurd hq z)
    exact E qx.2 qm.2 hJ
  have K_17 : ∀ (i : Nat) (x m : aH), i + 6 ≤ L → J i x m → (∀ x m : aH, J (i + 6) x m → TL (L, xs) (mLn nm) 2000 x m 1475 [.ref 1005, .ref 0, .ref 73, .int (nI i)] []) → TL (L, xs) (mLn nm) 2000 x m 777 [.ref 1005, .ref 0, .ref 73, .int (nI i)] [] := by
    intro i x m h6 hJ E
    refine T_aload dL_law_777 rfl ?_
    refine T_aload dL_law_778 rfl ?_
    refine T_iload dL_law_779 rfl ?_
    refine T_const dL_law_780 ?_
    refine T_iadd dL_law_781 ?_
    refine T_ialdSN (a := 5) (N := L) (i := i + 1) dL_law_782 (by decide) rfl (nI_addk i 1) (by omega) (by omega) ?_
    refine T_aload dL_law_783 rfl ?_
    refine T_iload dL_law_784 rfl ?_
    refine T_const dL_law_785 ?_
    refine T_iadd dL_law_786 ?_
    refine T_ialdSN (a := 5) (N := L) (i := i + 2) dL_law_787 (by decide) rfl (nI_addk i 2) (by omega) (by omega) ?_
    obtain ⟨qx, qm, hx, hm, hJ, hq⟩ := h_17 i x m (roC (L, xs) 5 (i + 1)) (roC (L, xs) 5 (i + 2)) h6 hJ
    refine L_Vx (qX10_may _ _ hx) (Nat.le_of_ble_eq_true rfl) dL_law_788 lvL_88 rfl rfl ob0 (Nat.le_of_ble_eq_true rfl) ?_
    refine T_aload dL_law_791 rfl ?_
    refine T_aload dL_law_792 rfl ?_
    refine T_iload dL_law_793 rfl ?_
    refine T_const dL_law_794 ?_
    refine T_iadd dL_law_795 ?_
    refine T_ialdSN (a := 5) (N := L) (i := i + 1) dL_law_796 (by decide) rfl (nI_addk i 1) (by omega) (by omega) ?_
    refine T_aload dL_law_797 rfl ?_
    refine T_iload dL_law_798 rfl ?_
    refine T_const dL_law_799 ?_
    refine T_iadd dL_law_800 ?_
    refine T_ialdSN (a := 5) (N := L) (i := i + 2) dL_law_801 (by decide) rfl (nI_addk i 2) (by omega) (by omega) ?_
    refine L_Vm (qX11_may _ _ hm) (Nat.le_of_ble_eq_true rfl) dL_law_802 lvL_91 rfl rfl ob73 (Nat.le_of_ble_eq_true rfl) ?_
    refine T_icmp_eq dL_law_805 (fun _ => ?_) (fun z => absurd hq z)
    exact E qx.2 qm.2 hJ
  have K_18 : ∀ (i : Nat) (x m : aH), i + 6 ≤ L → J i x m → (∀ x m : aH, J (i + 6) x m → TL (L, xs) (mLn nm) 2000 x m 1475 [.ref 1005, .ref 0, .ref 73, .int (nI i)] []) → TL (L, xs) (mLn nm) 2000 x m 810 [.ref 1005, .ref 0, .ref 73, .int (nI i)] [] := by
    intro i x m h6 hJ E
    refine T_aload dL_law_810 rfl ?_
    refine T_aload dL_law_811 rfl ?_
    refine T_iload dL_law_812 rfl ?_
    refine T_const dL_law_813 ?_
    refine T_iadd dL_law_814 ?_
    refine T_ialdSN (a := 5) (N := L) (i := i + 1) dL_law_815 (by decide) rfl (nI_addk i 1) (by omega) (by omega) ?_
    refine T_aload dL_law_816 rfl ?_
    refine T_iload dL_law_817 rfl ?_
    refine T_const dL_law_818 ?_
    refine T_iadd dL_law_819 ?_
    refine T_ialdSN (a := 5) (N := L) (i := i + 2) dL_law_820 (by decide) rfl (nI_addk i 2) (by omega) (by omega) ?_
    obtain ⟨qx, qm, hx, hm, hJ, hq⟩ := h_18 i x m (roC (L, xs) 5 (i + 1)) (roC (L, xs) 5 (i + 2)) h6 hJ
    refine L_Vx (qX10_share _ _ hx) (Nat.le_of_ble_eq_true rfl) dL_law_821 lvL_92 rfl rfl ob0 (Nat.le_of_ble_eq_true rfl) ?_
    refine T_aload dL_law_824 rfl ?_
    refine T_aload dL_law_825 rfl ?_
    refine T_iload dL_law_826 rfl ?_
    refine T_const dL_law_827 ?_
    refine T_iadd dL_law_828 ?_
    refine T_ialdSN (a := 5) (N := L) (i := i + 1) dL_law_829 (by decide) rfl (nI_addk i 1) (by omega) (by omega) ?_
    refine T_aload dL_law_830 rfl ?_
    refine T_iload dL_law_831 rfl ?_
    refine T_const dL_law_832 ?_
    refine T_iadd dL_law_833 ?_
    refine T_ialdSN (a := 5) (N := L) (i := i + 2) dL_law_834 (by decide) rfl (nI_addk i 2) (by omega) (by omega) ?_
    refine L_Vm (qX11_share _ _ hm) (Nat.le_of_ble_eq_true rfl) dL_law_835 lvL_95 rfl rfl ob73 (Nat.le_of_ble_eq_true rfl) ?_
    refine T_icmp_eq dL_law_838 (fun _ => ?_) (fun z => absurd hq z)
    exact E x m hJ
  have K_19 : ∀ (i : Nat) (x m : aH), i + 6 ≤ L → J i x m → (∀ x m : aH, J (i + 6) x m → TL (L, xs) (mLn nm) 2000 x m 1475 [.ref 1005, .ref 0, .ref 73, .int (nI i)] []) → TL (L, xs) (mLn nm) 2000 x m 843 [.ref 1005, .ref 0, .ref 73, .int (nI i)] [] := by
    intro i x m h6 hJ E
    refine T_aload dL_law_843 rfl ?_
    refine T_aload dL_law_844 rfl ?_
    refine T_iload dL_law_845 rfl ?_
    refine T_const dL_law_846 ?_
    refine T_iadd dL_law_847 ?_
    refine T_ialdSN (a := 5) (N := L) (i := i + 1) dL_law_848 (by decide) rfl (nI_addk i 1) (by omega) (by omega) ?_
    refine T_aload dL_law_849 rfl ?_
    refine T_iload dL_law_850 rfl ?_
    refine T_const dL_law_851 ?_
    refine T_iadd dL_law_852 ?_
    refine T_ialdSN (a := 5) (N := L) (i := i + 2) dL_law_853 (by decide) rfl (nI_addk i 2) (by omega) (by omega) ?_
    obtain ⟨qx, qm, hx, hm, hJ, hq⟩ := h_19 i x m (roC (L, xs) 5 (i + 1)) (roC (L, xs) 5 (i + 2)) h6 hJ
    refine L_Vx (qX10_heard _ _ hx) (Nat.le_of_ble_eq_true rfl) dL_law_854 lvL_96 rfl rfl ob0 (Nat.le_of_ble_eq_true rfl) ?_
    refine T_aload dL_law_857 rfl ?_
    refine T_aload dL_law_858 rfl ?_
    refine T_iload dL_law_859 rfl ?_
    refine T_const dL_law_860 ?_
    refine T_iadd dL_law_861 ?_
    refine T_ialdSN (a := 5) (N := L) (i := i + 1) dL_law_862 (by decide) rfl (nI_addk i 1) (by omega) (by omega) ?_
    refine T_aload dL_law_863 rfl ?_
    refine T_iload dL_law_864 rfl ?_
    refine T_const dL_law_865 ?_
    refine T_iadd dL_law_866 ?_
    refine T_ialdSN (a := 5) (N := L) (i := i + 2) dL_law_867 (by decide) rfl (nI_addk i 2) (by omega) (by omega) ?_
    refine L_Vm (qX11_heard _ _ hm) (Nat.le_of_ble_eq_true rfl) dL_law_868 lvL_99 rfl rfl ob73 (Nat.le_of_ble_eq_true rfl) ?_
    refine T_lcmp dL_law_871 ?_
    refine T_if_eq dL_law_872 (fun _ => ?_) (fun z => absurd (lgc_eq hq) z)
    exact E x m hJ
  have K_20 : ∀ (i : Nat) (x m : aH), i + 6 ≤ L → J i x m → (∀ x m : aH, J (i + 6) x m → TL (L, xs) (mLn nm) 2000 x m 1475 [.ref 1005, .ref 0, .ref 73, .int (nI i)] []) → TL (L, xs) (mLn nm) 2000 x m 877 [.ref 1005, .ref 0, .ref 73, .int (nI i)] [] := by
    intro i x m h6 hJ E
    refine T_aload dL_law_877 rfl ?_
    refine T_aload dL_law_878 rfl ?_
    refine T_iload dL_law_879 rfl ?_
    refine T_const dL_law_880 ?_
    refine T_iadd dL_law_881 ?_
    refine T_ialdSN (a := 5) (N := L) (i := i + 1) dL_law_882 (by decide) rfl (nI_addk i 1) (by omega) (by omega) ?_
    refine T_aload dL_law_883 rfl ?_
    refine T_iload dL_law_884 rfl ?_
    refine T_const dL_law_885 ?_
    refine T_iadd dL_law_886 ?_
    refine T_ialdSN (a := 5) (N := L) (i := i + 2) dL_law_887 (by decide) rfl (nI_addk i 2) (by omega) (by omega) ?_
    refine T_aload dL_law_888 rfl ?_
    refine T_iload dL_law_889 rfl ?_
    refine T_const dL_law_890 ?_
    refine T_iadd dL_law_891 ?_
    refine T_ialdSN (a := 5) (N := L) (i := i + 3) dL_law_892 (by decide) rfl (nI_addk i 3) (by omega) (by omega) ?_
    obtain ⟨qx, qm, hx, hm, hJ, hq⟩ := h_20 i x m (roC (L, xs) 5 (i + 1)) (roC (L, xs) 5 (i + 2)) (roC (L, xs) 5 (i + 3)) h6 hJ
    refine L_Vx (qX10_byTurns _ _ hx) (Nat.le_of_ble_eq_true rfl) dL_law_893 lvL_100 rfl rfl ob0 (Nat.le_of_ble_eq_true rfl) ?_
    refine T_aload dL_law_896 rfl ?_
    refine T_aload dL_law_897 rfl ?_
    refine T_iload dL_law_898 rfl ?_
    refine T_const dL_law_899 ?_
    refine T_iadd dL_law_900 ?_
    refine T_ialdSN (a := 5) (N := L) (i := i + 1) dL_law_901 (by decide) rfl (nI_addk i 1) (by omega) (by omega) ?_
    refine T_aload dL_law_902 rfl ?_
    refine T_iload dL_law_903 rfl ?_
    refine T_const dL_law_904 ?_
    refine T_iadd dL_law_905 ?_
    refine T_ialdSN (a := 5) (N := L) (i := i + 2) dL_law_906 (by decide) rfl (nI_addk i 2) (by omega) (by omega) ?_
    refine T_aload dL_law_907 rfl ?_
    refine T_iload dL_law_908 rfl ?_
    refine T_const dL_law_909 ?_
    refine T_iadd dL_law_910 ?_
    refine T_ialdSN (a := 5) (N := L) (i := i + 3) dL_law_911 (by decide) rfl (nI_addk i 3) (by omega) (by omega) ?_
    refine L_Vm (qX11_byTurns _ _ hm) (Nat.le_of_ble_eq_true rfl) dL_law_912 lvL_103 rfl rfl ob73 (Nat.le_of_ble_eq_true rfl) ?_
    refine T_icmp_eq dL_law_915 (fun _ => ?_) (fun z => absurd hq z)
    exact E qx.2 qm.2 hJ
  have K_21 : ∀ (i : Nat) (x m : aH), i + 6 ≤ L → J i x m → (∀ x m : aH, J (i + 6) x m → TL (L, xs) (mLn nm) 2000 x m 1475 [.ref 1005, .ref 0, .ref 73, .int (nI i)] []) → TL (L, xs) (mLn nm) 2000 x m 920 [.ref 1005, .ref 0, .ref 73, .int (nI i)] [] := by
    intro i x m h6 hJ E
    refine T_aload dL_law_920 rfl ?_
    refine T_aload dL_law_921 rfl ?_
    refine T_iload dL_law_922 rfl ?_
    refine T_const dL_law_923 ?_
    refine T_iadd dL_law_924 ?_
    refine T_ialdSN (a := 5) (N := L) (i := i + 1) dL_law_925 (by decide) rfl (nI_addk i 1) (by omega) (by omega) ?_
    refine T_aload dL_law_926 rfl ?_
    refine T_iload dL_law_927 rfl ?_
    refine T_const dL_law_928 ?_
    refine T_iadd dL_law_929 ?_
    refine T_ialdSN (a := 5) (N := L) (i := i + 2) dL_law_930 (by decide) rfl (nI_addk i 2) (by omega) (by omega) ?_
    refine T_aload dL_law_931 rfl ?_
    refine T_iload dL_law_932 rfl ?_
    refine T_const dL_law_933 ?_
    refine T_iadd dL_law_934 ?_
    refine T_ialdSN (a := 5) (N := L) (i := i + 3) dL_law_935 (by decide) rfl (nI_addk i 3) (by omega) (by omega) ?_
    obtain ⟨qx, qm, hx, hm, hJ, hq⟩ := h_21 i x m (roC (L, xs) 5 (i + 1)) (roC (L, xs) 5 (i + 2)) (roC (L, xs) 5 (i + 3)) h6 hJ
    refine L_Vx (qX10_drawn _ _ hx) (Nat.le_of_ble_eq_true rfl) dL_law_936 lvL_104 rfl rfl ob0 (Nat.le_of_ble_eq_true rfl) ?_
    refine T_aload dL_law_939 rfl ?_
    refine T_aload dL_law_940 rfl ?_
    refine T_iload dL_law_941 rfl ?_
    refine T_const dL_law_942 ?_
    refine T_iadd dL_law_943 ?_
    refine T_ialdSN (a := 5) (N := L) (i := i + 1) dL_law_944 (by decide) rfl (nI_addk i 1) (by omega) (by omega) ?_
    refine T_aload dL_law_945 rfl ?_
    refine T_iload dL_law_946 rfl ?_
    refine T_const dL_law_947 ?_
    refine T_iadd dL_law_948 ?_
    refine T_ialdSN (a := 5) (N := L) (i := i + 2) dL_law_949 (by decide) rfl (nI_addk i 2) (by omega) (by omega) ?_
    refine T_aload dL_law_950 rfl ?_
    refine T_iload dL_law_951 rfl ?_
    refine T_const dL_law_952 ?_
    refine T_iadd dL_law_953 ?_
    refine T_ialdSN (a := 5) (N := L) (i := i + 3) dL_law_954 (by decide) rfl (nI_addk i 3) (by omega) (by omega) ?_
    refine L_Vm (qX11_drawn _ _ hm) (Nat.le_of_ble_eq_true rfl) dL_law_955 lvL_107 rfl rfl ob73 (Nat.le_of_ble_eq_true rfl) ?_
    refine T_icmp_eq dL_law_958 (fun _ => ?_) (fun z => absurd hq z)
    exact E qx.2 qm.2 hJ
  have K_22 : ∀ (i : Nat) (x m : aH), i + 6 ≤ L → J i x m → (∀ x m : aH, J (i + 6) x m → TL (L, xs) (mLn nm) 2000 x m 1475 [.ref 1005, .ref 0, .ref 73, .int (nI i)] []) → TL (L, xs) (mLn nm) 2000 x m 963 [.ref 1005, .ref 0, .ref 73, .int (nI i)] [] := by
    intro i x m h6 hJ E
    refine T_aload dL_law_963 rfl ?_
    refine T_aload dL_law_964 rfl ?_
    refine T_iload dL_law_965 rfl ?_
    refine T_const dL_law_966 ?_
    refine T_iadd dL_law_967 ?_
    refine T_ialdSN (a := 5) (N := L) (i := i + 1) dL_law_968 (by decide) rfl (nI_addk i 1) (by omega) (by omega) ?_
    obtain ⟨qx, qm, hx, hm, hJ, hq⟩ := h_22 i x m (roC (L, xs) 5 (i + 1)) h6 hJ
    refine L_Vx (qX10_night _ _ hx) (Nat.le_of_ble_eq_true rfl) dL_law_969 lvL_108 rfl rfl ob0 (Nat.le_of_ble_eq_true rfl) ?_
    refine T_aload dL_law_972 rfl ?_
    refine T_aload dL_law_973 rfl ?_
    refine T_iload dL_law_974 rfl ?_
    refine T_const dL_law_975 ?_
    refine T_iadd dL_law_976 ?_
    refine T_ialdSN (a := 5) (N := L) (i := i + 1) dL_law_977 (by decide) rfl (nI_addk i 1) (by omega) (by omega) ?_
    refine L_Vm (qX11_night _ _ hm) (Nat.le_of_ble_eq_true rfl) dL_law_978 lvL_111 rfl rfl ob73 (Nat.le_of_ble_eq_true rfl) ?_
    refine T_icmp_eq dL_law_981 (fun _ => ?_) (fun z => absurd hq z)
    exact E qx.2 qm.2 hJ
  have K_23 : ∀ (i : Nat) (x m : aH), i + 6 ≤ L → J i x m → (∀ x m : aH, J (i + 6) x m → TL (L, xs) (mLn nm) 2000 x m 1475 [.ref 1005, .ref 0, .ref 73, .int (nI i)] []) → TL (L, xs) (mLn nm) 2000 x m 986 [.ref 1005, .ref 0, .ref 73, .int (nI i)] [] := by
    intro i x m h6 hJ E
    refine T_aload dL_law_986 rfl ?_
    refine T_aload dL_law_987 rfl ?_
    refine T_iload dL_law_988 rfl ?_
    refine T_const dL_law_989 ?_
    refine T_iadd dL_law_990 ?_
    refine T_ialdSN (a := 5) (N := L) (i := i + 1) dL_law_991 (by decide) rfl (nI_addk i 1) (by omega) (by omega) ?_
    obtain ⟨qx, qm, hx, hm, hJ, hq⟩ := h_23 i x m (roC (L, xs) 5 (i + 1)) h6 hJ
    refine L_Vx (qX10_oil _ _ hx) (Nat.le_of_ble_eq_true rfl) dL_law_992 lvL_112 rfl rfl ob0 (Nat.le_of_ble_eq_true rfl) ?_
    refine T_aload dL_law_995 rfl ?_
    refine T_aload dL_law_996 rfl ?_
    refine T_iload dL_law_997 rfl ?_
    refine T_const dL_law_998 ?_
    refine T_iadd dL_law_999 ?_
    refine T_ialdSN (a := 5) (N := L) (i := i + 1) dL_law_1000 (by decide) rfl (nI_addk i 1) (by omega) (by omega) ?_
    refine L_Vm (qX11_oil _ _ hm) (Nat.le_of_ble_eq_true rfl) dL_law_1001 lvL_115 rfl rfl ob73 (Nat.le_of_ble_eq_true rfl) ?_
    refine T_icmp_eq dL_law_1004 (fun _ => ?_) (fun z => absurd hq z)
    exact E qx.2 qm.2 hJ
  have K_24 : ∀ (i : Nat) (x m : aH), i + 6 ≤ L → J i x m → (∀ x m : aH, J (i + 6) x m → TL (L, xs) (mLn nm) 2000 x m 1475 [.ref 1005, .ref 0, .ref 73, .int (nI i)] []) → TL (L, xs) (mLn nm) 2000 x m 1009 [.ref 1005, .ref 0, .ref 73, .int (nI i)] [] := by
    intro i x m h6 hJ E
    refine T_aload dL_law_1009 rfl ?_
    refine T_aload dL_law_1010 rfl ?_
    refine T_iload dL_law_1011 rfl ?_
    refine T_const dL_law_1012 ?_
    refine T_iadd dL_law_1013 ?_
    refine T_ialdSN (a := 5) (N := L) (i := i + 1) dL_law_1014 (by decide) rfl (nI_addk i 1) (by omega) (by omega) ?_
    obtain ⟨qx, qm, hx, hm, hJ, hq⟩ := h_24 i x m (roC (L, xs) 5 (i + 1)) h6 hJ
    refine L_Vx (qX10_led _ _ hx) (Nat.le_of_ble_eq_true rfl) dL_law_1015 lvL_116 rfl rfl ob0 (Nat.le_of_ble_eq_true rfl) ?_
    refine T_aload dL_law_1018 rfl ?_
    refine T_aload dL_law_1019 rfl ?_
    refine T_iload dL_law_1020 rfl ?_
    refine T_const dL_law_1021 ?_
    refine T_iadd dL_law_1022 ?_
    refine T_ialdSN (a := 5) (N := L) (i := i + 1) dL_law_1023 (by decide) rfl (nI_addk i 1) (by omega) (by omega) ?_
    refine L_Vm (qX11_led _ _ hm) (Nat.le_of_ble_eq_true rfl) dL_law_1024 lvL_119 rfl rfl ob73 (Nat.le_of_ble_eq_true rfl) ?_
    refine T_icmp_eq dL_law_1027 (fun _ => ?_) (fun z => absurd hq z)
    exact E x m hJ
  have K_25 : ∀ (i : Nat) (x m : aH), i + 6 ≤ L → J i x m → (∀ x m : aH, J (i + 6) x m → TL (L, xs) (mLn nm) 2000 x m 1475 [.ref 1005, .ref 0, .ref 73, .int (nI i)] []) → TL (L, xs) (mLn nm) 2000 x m 1032 [.ref 1005, .ref 0, .ref 73, .int (nI i)] [] := by
    intro i x m h6 hJ E
    refine T_aload dL_law_1032 rfl ?_
    obtain ⟨qx, qm, hx, hm, hJ, hq⟩ := h_25 i x m h6 hJ
    refine L_Vx (qX10_image _ _ hx) (Nat.le_of_ble_eq_true rfl) dL_law_1033 lvL_120 rfl rfl ob0 (Nat.le_of_ble_eq_true rfl) ?_
    refine T_aload dL_law_1036 rfl ?_
    refine L_Vm (qX11_image _ _ hm) (Nat.le_of_ble_eq_true rfl) dL_law_1037 lvL_123 rfl rfl ob73 (Nat.le_of_ble_eq_true rfl) ?_
    refine T_icmp_eq dL_law_1040 (fun _ => ?_) (fun z => absurd hq z)
    exact E qx.2 qm.2 hJ
  have K_26 : ∀ (i : Nat) (x m : aH), i + 6 ≤ L → J i x m → (∀ x m : aH, J (i + 6) x m → TL (L, xs) (mLn nm) 2000 x m 1475 [.ref 1005, .ref 0, .ref 73, .int (nI i)] []) → TL (L, xs) (mLn nm) 2000 x m 1045 [.ref 1005, .ref 0, .ref 73, .int (nI i)] [] := by
    intro i x m h6 hJ E
    refine T_aload dL_law_1045 rfl ?_
    obtain ⟨qx, qm, hx, hm, hJ, hq⟩ := h_26 i x m h6 hJ
    refine L_Vx (qX10_back _ _ hx) (Nat.le_of_ble_eq_true rfl) dL_law_1046 lvL_124 rfl rfl ob0 (Nat.le_of_ble_eq_true rfl) ?_
    refine T_aload dL_law_1049 rfl ?_
    refine L_Vm (qX11_back _ _ hm) (Nat.le_of_ble_eq_true rfl) dL_law_1050 lvL_127 rfl rfl ob73 (Nat.le_of_ble_eq_true rfl) ?_
    refine T_icmp_eq dL_law_1053 (fun _ => ?_) (fun z => absurd hq z)
    exact E qx.2 qm.2 hJ
  have K_27 : ∀ (i : Nat) (x m : aH), i + 6 ≤ L → J i x m → (∀ x m : aH, J (i + 6) x m → TL (L, xs) (mLn nm) 2000 x m 1475 [.ref 1005, .ref 0, .ref 73, .int (nI i)] []) → TL (L, xs) (mLn nm) 2000 x m 1058 [.ref 1005, .ref 0, .ref 73, .int (nI i)] [] := by
    intro i x m h6 hJ E
    refine T_aload dL_law_1058 rfl ?_
    obtain ⟨qx, qm, hx, hm, hJ, hq⟩ := h_27 i x m h6 hJ
    refine L_Vx (qX10_undo _ _ hx) (Nat.le_of_ble_eq_true rfl) dL_law_1059 lvL_128 rfl rfl ob0 (Nat.le_of_ble_eq_true rfl) ?_
    refine T_aload dL_law_1062 rfl ?_
    refine L_Vm (qX11_undo _ _ hm) (Nat.le_of_ble_eq_true rfl) dL_law_1063 lvL_131 rfl rfl ob73 (Nat.le_of_ble_eq_true rfl) ?_
    refine T_icmp_eq dL_law_1066 (fun _ => ?_) (fun z => absurd hq z)
    exact E qx.2 qm.2 hJ
  have K_28 : ∀ (i : Nat) (x m : aH), i + 6 ≤ L → J i x m → (∀ x m : aH, J (i + 6) x m → TL (L, xs) (mLn nm) 2000 x m 1475 [.ref 1005, .ref 0, .ref 73, .int (nI i)] []) → TL (L, xs) (mLn nm) 2000 x m 1071 [.ref 1005, .ref 0, .ref 73, .int (nI i)] [] := by
    intro i x m h6 hJ E
    refine T_aload dL_law_1071 rfl ?_
    obtain ⟨qx, qm, hx, hm, hJ, hq⟩ := h_28 i x m h6 hJ
    refine L_Vx (qX10_redo _ _ hx) (Nat.le_of_ble_eq_true rfl) dL_law_1072 lvL_132 rfl rfl ob0 (Nat.le_of_ble_eq_true rfl) ?_
    refine T_aload dL_law_1075 rfl ?_
    refine L_Vm (qX11_redo _ _ hm) (Nat.le_of_ble_eq_true rfl) dL_law_1076 lvL_135 rfl rfl ob73 (Nat.le_of_ble_eq_true rfl) ?_
    refine T_icmp_eq dL_law_1079 (fun _ => ?_) (fun z => absurd hq z)
    exact E qx.2 qm.2 hJ
  have K_29 : ∀ (i : Nat) (x m : aH), i + 6 ≤ L → J i x m → (∀ x m : aH, J (i + 6) x m → TL (L, xs) (mLn nm) 2000 x m 1475 [.ref 1005, .ref 0, .ref 73, .int (nI i)] []) → TL (L, xs) (mLn nm) 2000 x m 1084 [.ref 1005, .ref 0, .ref 73, .int (nI i)] [] := by
    intro i x m h6 hJ E
    refine T_aload dL_law_1084 rfl ?_
    refine T_aload dL_law_1085 rfl ?_
    refine T_iload dL_law_1086 rfl ?_
    refine T_const dL_law_1087 ?_
    refine T_iadd dL_law_1088 ?_
    refine T_ialdSN (a := 5) (N := L) (i := i + 1) dL_law_1089 (by decide) rfl (nI_addk i 1) (by omega) (by omega) ?_
    obtain ⟨qx, qm, hx, hm, hJ, hq⟩ := h_29 i x m (roC (L, xs) 5 (i + 1)) h6 hJ
    refine L_Vx (qX10_body _ _ hx) (Nat.le_of_ble_eq_true rfl) dL_law_1090 lvL_136 rfl rfl ob0 (Nat.le_of_ble_eq_true rfl) ?_
    refine T_aload dL_law_1093 rfl ?_
    refine T_aload dL_law_1094 rfl ?_
    refine T_iload dL_law_1095 rfl ?_
    refine T_const dL_law_1096 ?_
    refine T_iadd dL_law_1097 ?_
    refine T_ialdSN (a := 5) (N := L) (i := i + 1) dL_law_1098 (by decide) rfl (nI_addk i 1) (by omega) (by omega) ?_
    refine L_Vm (qX11_body _ _ hm) (Nat.le_of_ble_eq_true rfl) dL_law_1099 lvL_139 rfl rfl ob73 (Nat.le_of_ble_eq_true rfl) ?_
    refine T_icmp_eq dL_law_1102 (fun _ => ?_) (fun z => absurd hq z)
    exact E qx.2 qm.2 hJ
  have K_30 : ∀ (i : Nat) (x m : aH), i + 6 ≤ L → J i x m → (∀ x m : aH, J (i + 6) x m → TL (L, xs) (mLn nm) 2000 x m 1475 [.ref 1005, .ref 0, .ref 73, .int (nI i)] []) → TL (L, xs) (mLn nm) 2000 x m 1107 [.ref 1005, .ref 0, .ref 73, .int (nI i)] [] := by
    intro i x m h6 hJ E
    refine T_aload dL_law_1107 rfl ?_
    refine T_aload dL_law_1108 rfl ?_
    refine T_iload dL_law_1109 rfl ?_
    refine T_const dL_law_1110 ?_
    refine T_iadd dL_law_1111 ?_
    refine T_ialdSN (a := 5) (N := L) (i := i + 1) dL_law_1112 (by decide) rfl (nI_addk i 1) (by omega) (by omega) ?_
    refine T_aload dL_law_1113 rfl ?_
    refine T_iload dL_law_1114 rfl ?_
    refine T_const dL_law_1115 ?_
    refine T_iadd dL_law_1116 ?_
    refine T_ialdSN (a := 5) (N := L) (i := i + 2) dL_law_1117 (by decide) rfl (nI_addk i 2) (by omega) (by omega) ?_
    refine T_aload dL_law_1118 rfl ?_
    refine T_iload dL_law_1119 rfl ?_
    refine T_const dL_law_1120 ?_
    refine T_iadd dL_law_1121 ?_
    refine T_ialdSN (a := 5) (N := L) (i := i + 3) dL_law_1122 (by decide) rfl (nI_addk i 3) (by omega) (by omega) ?_
    obtain ⟨qx, qm, hx, hm, hJ, hq⟩ := h_30 i x m (roC (L, xs) 5 (i + 1)) (roC (L, xs) 5 (i + 2)) (roC (L, xs) 5 (i + 3)) h6 hJ
    refine L_Vx (qX10_act _ _ hx) (Nat.le_of_ble_eq_true rfl) dL_law_1123 lvL_140 rfl rfl ob0 (Nat.le_of_ble_eq_true rfl) ?_
    refine T_aload dL_law_1126 rfl ?_
    refine T_aload dL_law_1127 rfl ?_
    refine T_iload dL_law_1128 rfl ?_
    refine T_const dL_law_1129 ?_
    refine T_iadd dL_law_1130 ?_
    refine T_ialdSN (a := 5) (N := L) (i := i + 1) dL_law_1131 (by decide) rfl (nI_addk i 1) (by omega) (by omega) ?_
    refine T_aload dL_law_1132 rfl ?_
    refine T_iload dL_law_1133 rfl ?_
    refine T_const dL_law_1134 ?_
    refine T_iadd dL_law_1135 ?_
    refine T_ialdSN (a := 5) (N := L) (i := i + 2) dL_law_1136 (by decide) rfl (nI_addk i 2) (by omega) (by omega) ?_
    refine T_aload dL_law_1137 rfl ?_
    refine T_iload dL_law_1138 rfl ?_
    refine T_const dL_law_1139 ?_
    refine T_iadd dL_law_1140 ?_
    refine T_ialdSN (a := 5) (N := L) (i := i + 3) dL_law_1141 (by decide) rfl (nI_addk i 3) (by omega) (by omega) ?_
    refine L_Vm (qX11_act _ _ hm) (Nat.le_of_ble_eq_true rfl) dL_law_1142 lvL_143 rfl rfl ob73 (Nat.le_of_ble_eq_true rfl) ?_
    refine T_icmp_eq dL_law_1145 (fun _ => ?_) (fun z => absurd hq z)
    exact E qx.2 qm.2 hJ
  have K_31 : ∀ (i : Nat) (x m : aH), i + 6 ≤ L → J i x m → (∀ x m : aH, J (i + 6) x m → TL (L, xs) (mLn nm) 2000 x m 1475 [.ref 1005, .ref 0, .ref 73, .int (nI i)] []) → TL (L, xs) (mLn nm) 2000 x m 1150 [.ref 1005, .ref 0, .ref 73, .int (nI i)] [] := by
    intro i x m h6 hJ E
    refine T_aload dL_law_1150 rfl ?_
    refine T_aload dL_law_1151 rfl ?_
    refine T_iload dL_law_1152 rfl ?_
    refine T_const dL_law_1153 ?_
    refine T_iadd dL_law_1154 ?_
    refine T_ialdSN (a := 5) (N := L) (i := i + 1) dL_law_1155 (by decide) rfl (nI_addk i 1) (by omega) (by omega) ?_
    obtain ⟨qx, qm, hx, hm, hJ, hq⟩ := h_31 i x m (roC (L, xs) 5 (i + 1)) h6 hJ
    refine L_Vx (qX10_trace _ _ hx) (Nat.le_of_ble_eq_true rfl) dL_law_1156 lvL_144 rfl rfl ob0 (Nat.le_of_ble_eq_true rfl) ?_
    refine T_aload dL_law_1159 rfl ?_
    refine T_aload dL_law_1160 rfl ?_
    refine T_iload dL_law_1161 rfl ?_
    refine T_const dL_law_1162 ?_
    refine T_iadd dL_law_1163 ?_
    refine T_ialdSN (a := 5) (N := L) (i := i + 1) dL_law_1164 (by decide) rfl (nI_addk i 1) (by omega) (by omega) ?_
    refine L_Vm (qX11_trace _ _ hm) (Nat.le_of_ble_eq_true rfl) dL_law_1165 lvL_147 rfl rfl ob73 (Nat.le_of_ble_eq_true rfl) ?_
    refine T_icmp_eq dL_law_1168 (fun _ => ?_) (fun z => absurd hq z)
    exact E x m hJ
  have K_32 : ∀ (i : Nat) (x m : aH), i + 6 ≤ L → J i x m → (∀ x m : aH, J (i + 6) x m → TL (L, xs) (mLn nm) 2000 x m 1475 [.ref 1005, .ref 0, .ref 73, .int (nI i)] []) → TL (L, xs) (mLn nm) 2000 x m 1173 [.ref 1005, .ref 0, .ref 73, .int (nI i)] [] := by
    intro i x m h6 hJ E
    refine T_aload dL_law_1173 rfl ?_
    refine T_aload dL_law_1174 rfl ?_
    refine T_iload dL_law_1175 rfl ?_
    refine T_const dL_law_1176 ?_
    refine T_iadd dL_law_1177 ?_
    refine T_ialdSN (a := 5) (N := L) (i := i + 1) dL_law_1178 (by decide) rfl (nI_addk i 1) (by omega) (by omega) ?_
    refine T_aload dL_law_1179 rfl ?_
    refine T_iload dL_law_1180 rfl ?_
    refine T_const dL_law_1181 ?_
    refine T_iadd dL_law_1182 ?_
    refine T_ialdSN (a := 5) (N := L) (i := i + 2) dL_law_1183 (by decide) rfl (nI_addk i 2) (by omega) (by omega) ?_
    obtain ⟨qx, qm, hx, hm, hJ, hq⟩ := h_32 i x m (roC (L, xs) 5 (i + 1)) (roC (L, xs) 5 (i + 2)) h6 hJ
    refine L_Vx (qX10_keep _ _ hx) (Nat.le_of_ble_eq_true rfl) dL_law_1184 lvL_148 rfl rfl ob0 (Nat.le_of_ble_eq_true rfl) ?_
    refine T_aload dL_law_1187 rfl ?_
    refine T_aload dL_law_1188 rfl ?_
    refine T_iload dL_law_1189 rfl ?_
    refine T_const dL_law_1190 ?_
    refine T_iadd dL_law_1191 ?_
    refine T_ialdSN (a := 5) (N := L) (i := i + 1) dL_law_1192 (by decide) rfl (nI_addk i 1) (by omega) (by omega) ?_
    refine T_aload dL_law_1193 rfl ?_
    refine T_iload dL_law_1194 rfl ?_
    refine T_const dL_law_1195 ?_
    refine T_iadd dL_law_1196 ?_
    refine T_ialdSN (a := 5) (N := L) (i := i + 2) dL_law_1197 (by decide) rfl (nI_addk i 2) (by omega) (by omega) ?_
    refine L_Vm (qX11_keep _ _ hm) (Nat.le_of_ble_eq_true rfl) dL_law_1198 lvL_151 rfl rfl ob73 (Nat.le_of_ble_eq_true rfl) ?_
    refine T_icmp_eq dL_law_1201 (fun _ => ?_) (fun z => absurd hq z)
    exact E qx.2 qm.2 hJ
  have K_33 : ∀ (i : Nat) (x m : aH), i + 6 ≤ L → J i x m → (∀ x m : aH, J (i + 6) x m → TL (L, xs) (mLn nm) 2000 x m 1475 [.ref 1005, .ref 0, .ref 73, .int (nI i)] []) → TL (L, xs) (mLn nm) 2000 x m 1206 [.ref 1005, .ref 0, .ref 73, .int (nI i)] [] := by
    intro i x m h6 hJ E
    refine T_aload dL_law_1206 rfl ?_
    refine T_aload dL_law_1207 rfl ?_
    refine T_iload dL_law_1208 rfl ?_
    refine T_const dL_law_1209 ?_
    refine T_iadd dL_law_1210 ?_
    refine T_ialdSN (a := 5) (N := L) (i := i + 1) dL_law_1211 (by decide) rfl (nI_addk i 1) (by omega) (by omega) ?_
    refine T_aload dL_law_1212 rfl ?_
    refine T_iload dL_law_1213 rfl ?_
    refine T_const dL_law_1214 ?_
    refine T_iadd dL_law_1215 ?_
    refine T_ialdSN (a := 5) (N := L) (i := i + 2) dL_law_1216 (by decide) rfl (nI_addk i 2) (by omega) (by omega) ?_
    refine T_aload dL_law_1217 rfl ?_
    refine T_iload dL_law_1218 rfl ?_
    refine T_const dL_law_1219 ?_
    refine T_iadd dL_law_1220 ?_
    refine T_ialdSN (a := 5) (N := L) (i := i + 3) dL_law_1221 (by decide) rfl (nI_addk i 3) (by omega) (by omega) ?_
    obtain ⟨qx, qm, hx, hm, hJ, hq⟩ := h_33 i x m (roC (L, xs) 5 (i + 1)) (roC (L, xs) 5 (i + 2)) (roC (L, xs) 5 (i + 3)) h6 hJ
    refine L_Vx (qX10_row _ _ hx) (Nat.le_of_ble_eq_true rfl) dL_law_1222 lvL_152 rfl rfl ob0 (Nat.le_of_ble_eq_true rfl) ?_
    refine T_aload dL_law_1225 rfl ?_
    refine T_aload dL_law_1226 rfl ?_
    refine T_iload dL_law_1227 rfl ?_
    refine T_const dL_law_1228 ?_
    refine T_iadd dL_law_1229 ?_
    refine T_ialdSN (a := 5) (N := L) (i := i + 1) dL_law_1230 (by decide) rfl (nI_addk i 1) (by omega) (by omega) ?_
    refine T_aload dL_law_1231 rfl ?_
    refine T_iload dL_law_1232 rfl ?_
    refine T_const dL_law_1233 ?_
    refine T_iadd dL_law_1234 ?_
    refine T_ialdSN (a := 5) (N := L) (i := i + 2) dL_law_1235 (by decide) rfl (nI_addk i 2) (by omega) (by omega) ?_
    refine T_aload dL_law_1236 rfl ?_
    refine T_iload dL_law_1237 rfl ?_
    refine T_const dL_law_1238 ?_
    refine T_iadd dL_law_1239 ?_
    refine T_ialdSN (a := 5) (N := L) (i := i + 3) dL_law_1240 (by decide) rfl (nI_addk i 3) (by omega) (by omega) ?_
    refine L_Vm (qX11_row _ _ hm) (Nat.le_of_ble_eq_true rfl) dL_law_1241 lvL_155 rfl rfl ob73 (Nat.le_of_ble_eq_true rfl) ?_
    refine T_icmp_eq dL_law_1244 (fun _ => ?_) (fun z => absurd hq z)
    exact E qx.2 qm.2 hJ
  have K_34 : ∀ (i : Nat) (x m : aH), i + 6 ≤ L → J i x m → (∀ x m : aH, J (i + 6) x m → TL (L, xs) (mLn nm) 2000 x m 1475 [.ref 1005, .ref 0, .ref 73, .int (nI i)] []) → TL (L, xs) (mLn nm) 2000 x m 1249 [.ref 1005, .ref 0, .ref 73, .int (nI i)] [] := by
    intro i x m h6 hJ E
    refine T_aload dL_law_1249 rfl ?_
    refine T_aload dL_law_1250 rfl ?_
    refine T_iload dL_law_1251 rfl ?_
    refine T_const dL_law_1252 ?_
    refine T_iadd dL_law_1253 ?_
    refine T_ialdSN (a := 5) (N := L) (i := i + 1) dL_law_1254 (by decide) rfl (nI_addk i 1) (by omega) (by omega) ?_
    refine T_aload dL_law_1255 rfl ?_
    refine T_iload dL_law_1256 rfl ?_
    refine T_const dL_law_1257 ?_
    refine T_iadd dL_law_1258 ?_
    refine T_ialdSN (a := 5) (N := L) (i := i + 2) dL_law_1259 (by decide) rfl (nI_addk i 2) (by omega) (by omega) ?_
    refine T_aload dL_law_1260 rfl ?_
    refine T_iload dL_law_1261 rfl ?_
    refine T_const dL_law_1262 ?_
    refine T_iadd dL_law_1263 ?_
    refine T_ialdSN (a := 5) (N := L) (i := i + 3) dL_law_1264 (by decide) rfl (nI_addk i 3) (by omega) (by omega) ?_
    refine T_i2l dL_law_1265 ?_
    refine T_const dL_law_1266 ?_
    refine T_lshl dL_law_1268 ?_
    refine T_aload dL_law_1269 rfl ?_
    refine T_iload dL_law_1270 rfl ?_
    refine T_const dL_law_1271 ?_
    refine T_iadd dL_law_1272 ?_
    refine T_ialdSN (a := 5) (N := L) (i := i + 4) dL_law_1273 (by decide) rfl (nI_addk i 4) (by omega) (by omega) ?_
    refine T_i2l dL_law_1274 ?_
    refine T_constL dL_law_1275 ?_
    refine T_land dL_law_1278 ?_
    refine T_lor dL_law_1279 ?_
    obtain ⟨qx, qm, hx, hm, hJ, hq⟩ := h_34 i x m (roC (L, xs) 5 (i + 1)) (roC (L, xs) 5 (i + 2)) (((Int32.toInt64 (roC (L, xs) 5 (i + 3))) <<< (Int32.toInt64 (32 : Int32) &&& 63)) ||| ((Int32.toInt64 (roC (L, xs) 5 (i + 4))) &&& (4294967295 : Int64))) h6 hJ
    refine L_Vx (qX10_put _ _ hx) (Nat.le_of_ble_eq_true rfl) dL_law_1280 lvL_158 rfl rfl ob0 (Nat.le_of_ble_eq_true rfl) ?_
    refine T_aload dL_law_1283 rfl ?_
    refine T_aload dL_law_1284 rfl ?_
    refine T_iload dL_law_1285 rfl ?_
    refine T_const dL_law_1286 ?_
    refine T_iadd dL_law_1287 ?_
    refine T_ialdSN (a := 5) (N := L) (i := i + 1) dL_law_1288 (by decide) rfl (nI_addk i 1) (by omega) (by omega) ?_
    refine T_aload dL_law_1289 rfl ?_
    refine T_iload dL_law_1290 rfl ?_
    refine T_const dL_law_1291 ?_
    refine T_iadd dL_law_1292 ?_
    refine T_ialdSN (a := 5) (N := L) (i := i + 2) dL_law_1293 (by decide) rfl (nI_addk i 2) (by omega) (by omega) ?_
    refine T_aload dL_law_1294 rfl ?_
    refine T_iload dL_law_1295 rfl ?_
    refine T_const dL_law_1296 ?_
    refine T_iadd dL_law_1297 ?_
    refine T_ialdSN (a := 5) (N := L) (i := i + 3) dL_law_1298 (by decide) rfl (nI_addk i 3) (by omega) (by omega) ?_
    refine T_i2l dL_law_1299 ?_
    refine T_const dL_law_1300 ?_
    refine T_lshl dL_law_1302 ?_
    refine T_aload dL_law_1303 rfl ?_
    refine T_iload dL_law_1304 rfl ?_
    refine T_const dL_law_1305 ?_
    refine T_iadd dL_law_1306 ?_
    refine T_ialdSN (a := 5) (N := L) (i := i + 4) dL_law_1307 (by decide) rfl (nI_addk i 4) (by omega) (by omega) ?_
    refine T_i2l dL_law_1308 ?_
    refine T_constL dL_law_1309 ?_
    refine T_land dL_law_1312 ?_
    refine T_lor dL_law_1313 ?_
    refine L_Vm (qX11_put _ _ hm) (Nat.le_of_ble_eq_true rfl) dL_law_1314 lvL_162 rfl rfl ob73 (Nat.le_of_ble_eq_true rfl) ?_
    refine T_icmp_eq dL_law_1317 (fun _ => ?_) (fun z => absurd hq z)
    exact E qx.2 qm.2 hJ
  have K_35 : ∀ (i : Nat) (x m : aH), i + 6 ≤ L → J i x m → (∀ x m : aH, J (i + 6) x m → TL (L, xs) (mLn nm) 2000 x m 1475 [.ref 1005, .ref 0, .ref 73, .int (nI i)] []) → TL (L, xs) (mLn nm) 2000 x m 1322 [.ref 1005, .ref 0, .ref 73, .int (nI i)] [] := by
    intro i x m h6 hJ E
    refine T_aload dL_law_1322 rfl ?_
    refine T_aload dL_law_1323 rfl ?_
    refine T_iload dL_law_1324 rfl ?_
    refine T_const dL_law_1325 ?_
    refine T_iadd dL_law_1326 ?_
    refine T_ialdSN (a := 5) (N := L) (i := i + 1) dL_law_1327 (by decide) rfl (nI_addk i 1) (by omega) (by omega) ?_
    refine T_aload dL_law_1328 rfl ?_
    refine T_iload dL_law_1329 rfl ?_
    refine T_const dL_law_1330 ?_
    refine T_iadd dL_law_1331 ?_
    refine T_ialdSN (a := 5) (N := L) (i := i + 2) dL_law_1332 (by decide) rfl (nI_addk i 2) (by omega) (by omega) ?_
    obtain ⟨qx, qm, hx, hm, hJ, hq⟩ := h_35 i x m (roC (L, xs) 5 (i + 1)) (roC (L, xs) 5 (i + 2)) h6 hJ
    refine L_Vx (qX10_element _ _ hx) (Nat.le_of_ble_eq_true rfl) dL_law_1333 lvL_163 rfl rfl ob0 (Nat.le_of_ble_eq_true rfl) ?_
    refine T_aload dL_law_1336 rfl ?_
    refine T_aload dL_law_1337 rfl ?_
    refine T_iload dL_law_1338 rfl ?_
    refine T_const dL_law_1339 ?_
    refine T_iadd dL_law_1340 ?_
    refine T_ialdSN (a := 5) (N := L) (i := i + 1) dL_law_1341 (by decide) rfl (nI_addk i 1) (by omega) (by omega) ?_
    refine T_aload dL_law_1342 rfl ?_
    refine T_iload dL_law_1343 rfl ?_
    refine T_const dL_law_1344 ?_
    refine T_iadd dL_law_1345 ?_
    refine T_ialdSN (a := 5) (N := L) (i := i + 2) dL_law_1346 (by decide) rfl (nI_addk i 2) (by omega) (by omega) ?_
    refine L_Vm (qX11_element _ _ hm) (Nat.le_of_ble_eq_true rfl) dL_law_1347 lvL_166 rfl rfl ob73 (Nat.le_of_ble_eq_true rfl) ?_
    refine T_lcmp dL_law_1350 ?_
    refine T_if_eq dL_law_1351 (fun _ => ?_) (fun z => absurd (lgc_eq hq) z)
    exact E x m hJ
  have K_36 : ∀ (i : Nat) (x m : aH), i + 6 ≤ L → J i x m → (∀ x m : aH, J (i + 6) x m → TL (L, xs) (mLn nm) 2000 x m 1475 [.ref 1005, .ref 0, .ref 73, .int (nI i)] []) → TL (L, xs) (mLn nm) 2000 x m 1356 [.ref 1005, .ref 0, .ref 73, .int (nI i)] [] := by
    intro i x m h6 hJ E
    refine T_aload dL_law_1356 rfl ?_
    refine T_aload dL_law_1357 rfl ?_
    refine T_iload dL_law_1358 rfl ?_
    refine T_const dL_law_1359 ?_
    refine T_iadd dL_law_1360 ?_
    refine T_ialdSN (a := 5) (N := L) (i := i + 1) dL_law_1361 (by decide) rfl (nI_addk i 1) (by omega) (by omega) ?_
    refine T_aload dL_law_1362 rfl ?_
    refine T_iload dL_law_1363 rfl ?_
    refine T_const dL_law_1364 ?_
    refine T_iadd dL_law_1365 ?_
    refine T_ialdSN (a := 5) (N := L) (i := i + 2) dL_law_1366 (by decide) rfl (nI_addk i 2) (by omega) (by omega) ?_
    refine T_aload dL_law_1367 rfl ?_
    refine T_iload dL_law_1368 rfl ?_
    refine T_const dL_law_1369 ?_
    refine T_iadd dL_law_1370 ?_
    refine T_ialdSN (a := 5) (N := L) (i := i + 3) dL_law_1371 (by decide) rfl (nI_addk i 3) (by omega) (by omega) ?_
    refine T_aload dL_law_1372 rfl ?_
    refine T_iload dL_law_1373 rfl ?_
    refine T_const dL_law_1374 ?_
    refine T_iadd dL_law_1375 ?_
    refine T_ialdSN (a := 5) (N := L) (i := i + 4) dL_law_1376 (by decide) rfl (nI_addk i 4) (by omega) (by omega) ?_
    refine T_aload dL_law_1377 rfl ?_
    refine T_iload dL_law_1378 rfl ?_
    refine T_const dL_law_1379 ?_
    refine T_iadd dL_law_1380 ?_
    refine T_ialdSN (a := 5) (N := L) (i := i + 5) dL_law_1381 (by decide) rfl (nI_addk i 5) (by omega) (by omega) ?_
    obtain ⟨qx, qm, hx, hm, hJ, hq⟩ := h_36 i x m (roC (L, xs) 5 (i + 1)) (roC (L, xs) 5 (i + 2)) (roC (L, xs) 5 (i + 3)) (roC (L, xs) 5 (i + 4)) (roC (L, xs) 5 (i + 5)) h6 hJ
    refine L_Vx (qX10_shift _ _ hx) (Nat.le_of_ble_eq_true rfl) dL_law_1382 lvL_167 rfl rfl ob0 (Nat.le_of_ble_eq_true rfl) ?_
    refine T_aload dL_law_1385 rfl ?_
    refine T_aload dL_law_1386 rfl ?_
    refine T_iload dL_law_1387 rfl ?_
    refine T_const dL_law_1388 ?_
    refine T_iadd dL_law_1389 ?_
    refine T_ialdSN (a := 5) (N := L) (i := i + 1) dL_law_1390 (by decide) rfl (nI_addk i 1) (by omega) (by omega) ?_
    refine T_aload dL_law_1391 rfl ?_
    refine T_iload dL_law_1392 rfl ?_
    refine T_const dL_law_1393 ?_
    refine T_iadd dL_law_1394 ?_
    refine T_ialdSN (a := 5) (N := L) (i := i + 2) dL_law_1395 (by decide) rfl (nI_addk i 2) (by omega) (by omega) ?_
    refine T_aload dL_law_1396 rfl ?_
    refine T_iload dL_law_1397 rfl ?_
    refine T_const dL_law_1398 ?_
    refine T_iadd dL_law_1399 ?_
    refine T_ialdSN (a := 5) (N := L) (i := i + 3) dL_law_1400 (by decide) rfl (nI_addk i 3) (by omega) (by omega) ?_
    refine T_aload dL_law_1401 rfl ?_
    refine T_iload dL_law_1402 rfl ?_
    refine T_const dL_law_1403 ?_
    refine T_iadd dL_law_1404 ?_
    refine T_ialdSN (a := 5) (N := L) (i := i + 4) dL_law_1405 (by decide) rfl (nI_addk i 4) (by omega) (by omega) ?_
    refine T_aload dL_law_1406 rfl ?_
    refine T_iload dL_law_1407 rfl ?_
    refine T_const dL_law_1408 ?_
    refine T_iadd dL_law_1409 ?_
    refine T_ialdSN (a := 5) (N := L) (i := i + 5) dL_law_1410 (by decide) rfl (nI_addk i 5) (by omega) (by omega) ?_
    refine L_Vm (qX11_shift _ _ hm) (Nat.le_of_ble_eq_true rfl) dL_law_1411 lvL_171 rfl rfl ob73 (Nat.le_of_ble_eq_true rfl) ?_
    refine T_icmp_eq dL_law_1414 (fun _ => ?_) (fun z => absurd hq z)
    exact E qx.2 qm.2 hJ
  have K_37 : ∀ (i : Nat) (x m : aH), i + 6 ≤ L → J i x m → (∀ x m : aH, J (i + 6) x m → TL (L, xs) (mLn nm) 2000 x m 1475 [.ref 1005, .ref 0, .ref 73, .int (nI i)] []) → TL (L, xs) (mLn nm) 2000 x m 1419 [.ref 1005, .ref 0, .ref 73, .int (nI i)] [] := by
    intro i x m h6 hJ E
    refine T_aload dL_law_1419 rfl ?_
    refine T_aload dL_law_1420 rfl ?_
    refine T_iload dL_law_1421 rfl ?_
    refine T_const dL_law_1422 ?_
    refine T_iadd dL_law_1423 ?_
    refine T_ialdSN (a := 5) (N := L) (i := i + 1) dL_law_1424 (by decide) rfl (nI_addk i 1) (by omega) (by omega) ?_
    refine T_aload dL_law_1425 rfl ?_
    refine T_iload dL_law_1426 rfl ?_
    refine T_const dL_law_1427 ?_
    refine T_iadd dL_law_1428 ?_
    refine T_ialdSN (a := 5) (N := L) (i := i + 2) dL_law_1429 (by decide) rfl (nI_addk i 2) (by omega) (by omega) ?_
    obtain ⟨qx, qm, hx, hm, hJ, hq⟩ := h_37 i x m (roC (L, xs) 5 (i + 1)) (roC (L, xs) 5 (i + 2)) h6 hJ
    refine L_Vx (qX10_taken _ _ hx) (Nat.le_of_ble_eq_true rfl) dL_law_1430 lvL_172 rfl rfl ob0 (Nat.le_of_ble_eq_true rfl) ?_
    refine T_aload dL_law_1433 rfl ?_
    refine T_aload dL_law_1434 rfl ?_
    refine T_iload dL_law_1435 rfl ?_
    refine T_const dL_law_1436 ?_
    refine T_iadd dL_law_1437 ?_
    refine T_ialdSN (a := 5) (N := L) (i := i + 1) dL_law_1438 (by decide) rfl (nI_addk i 1) (by omega) (by omega) ?_
    refine T_aload dL_law_1439 rfl ?_
    refine T_iload dL_law_1440 rfl ?_
    refine T_const dL_law_1441 ?_
    refine T_iadd dL_law_1442 ?_
    refine T_ialdSN (a := 5) (N := L) (i := i + 2) dL_law_1443 (by decide) rfl (nI_addk i 2) (by omega) (by omega) ?_
    refine L_Vm (qX11_taken _ _ hm) (Nat.le_of_ble_eq_true rfl) dL_law_1444 lvL_175 rfl rfl ob73 (Nat.le_of_ble_eq_true rfl) ?_
    refine T_icmp_eq dL_law_1447 (fun _ => ?_) (fun z => absurd hq z)
    exact E x m hJ
  have K_38 : ∀ (i : Nat) (x m : aH), i + 6 ≤ L → J i x m → (∀ x m : aH, J (i + 6) x m → TL (L, xs) (mLn nm) 2000 x m 1475 [.ref 1005, .ref 0, .ref 73, .int (nI i)] []) → TL (L, xs) (mLn nm) 2000 x m 1452 [.ref 1005, .ref 0, .ref 73, .int (nI i)] [] := by
    intro i x m h6 hJ E
    refine T_aload dL_law_1452 rfl ?_
    refine T_aload dL_law_1453 rfl ?_
    refine T_iload dL_law_1454 rfl ?_
    refine T_const dL_law_1455 ?_
    refine T_iadd dL_law_1456 ?_
    refine T_ialdSN (a := 5) (N := L) (i := i + 1) dL_law_1457 (by decide) rfl (nI_addk i 1) (by omega) (by omega) ?_
    obtain ⟨qx, qm, hx, hm, hJ, hq⟩ := h_38 i x m (roC (L, xs) 5 (i + 1)) h6 hJ
    refine L_Vx (qX10_count _ _ hx) (Nat.le_of_ble_eq_true rfl) dL_law_1458 lvL_176 rfl rfl ob0 (Nat.le_of_ble_eq_true rfl) ?_
    refine T_aload dL_law_1461 rfl ?_
    refine T_aload dL_law_1462 rfl ?_
    refine T_iload dL_law_1463 rfl ?_
    refine T_const dL_law_1464 ?_
    refine T_iadd dL_law_1465 ?_
    refine T_ialdSN (a := 5) (N := L) (i := i + 1) dL_law_1466 (by decide) rfl (nI_addk i 1) (by omega) (by omega) ?_
    refine L_Vm (qX11_count _ _ hm) (Nat.le_of_ble_eq_true rfl) dL_law_1467 lvL_179 rfl rfl ob73 (Nat.le_of_ble_eq_true rfl) ?_
    refine T_icmp_eq dL_law_1470 (fun _ => ?_) (fun z => absurd hq z)
    exact E x qm.2 hJ
  intro n
  induction n with
  | zero =>
    intro i x m hi h4 hJ
    refine T_iload dL_law_18 rfl ?_
    refine T_aload dL_law_19 rfl ?_
    refine T_alenS (a := 5) dL_law_20 (by decide) ?_
    refine T_const dL_law_21 ?_
    refine T_isub dL_law_23 ?_
    refine T_icmp_gt dL_law_24 (fun _ => ?_) (fun z => absurd ((law_cond (show L ≤ 4000 by omega) (by omega)).mpr (by omega)) z)
    refine T_const dL_law_1481 ?_
    exact T0_iretz dL_law_1482 (Or.inr rfl) rfl
  | succ n ih =>
    intro i x m hi h4 hJ
    refine T_iload dL_law_18 rfl ?_
    refine T_aload dL_law_19 rfl ?_
    refine T_alenS (a := 5) dL_law_20 (by decide) ?_
    refine T_const dL_law_21 ?_
    refine T_isub dL_law_23 ?_
    refine T_icmp_gt dL_law_24 (fun _ => ?_) (fun c => ?_)
    · refine T_const dL_law_1481 ?_
      exact T0_iretz dL_law_1482 (Or.inr rfl) rfl
    · have h6 : i + 6 ≤ L := Nat.not_lt.mp (fun z => c ((law_cond (show L ≤ 4000 by omega) (by omega)).mpr z))
      have E : ∀ x m : aH, J (i + 6) x m → TL (L, xs) (mLn nm) 2000 x m 1475 [.ref 1005, .ref 0, .ref 73, .int (nI i)] [] := by
        intro x m hJ
        refine T_iinc dL_law_1475 rfl ?_
        show TK _ _ _ _ _ _ _ _ _ [.ref 1005, .ref 0, .ref 73, .int (nI i + nI 6)] _
        rw [nI_addk]
        refine T_goto dL_law_1478 ?_
        exact ih (i + 6) x m (by omega) (by omega) hJ
      refine T_aload dL_law_27 rfl ?_
      refine T_iload dL_law_28 rfl ?_
      refine T_ialdSN (a := 5) (N := L) (i := i) dL_law_29 (by decide) rfl rfl (by omega) (by omega) ?_
      refine T_const dL_law_30 ?_
      refine T_iand dL_law_32 ?_
      obtain ⟨v, hv⟩ : ∃ v : Int32, v = roC (L, xs) 5 i &&& 63 := ⟨_, rfl⟩
      rw [← hv]
      show TL (L, xs) (mLn nm) 2000 x m 33 [.ref 1005, .ref 0, .ref 73, .int (nI i)] [.int v]
      by_cases c0 : v = (0 : Int32)
      · refine L_tabE (off := 171) (tgt := 204) c0 dL_law_33 (by decide) (by decide) (by decide) (by decide) ?_
        exact K_0 i x m h6 hJ E
      by_cases c1 : v = (1 : Int32)
      · refine L_tabE (off := 204) (tgt := 237) c1 dL_law_33 (by decide) (by decide) (by decide) (by decide) ?_
        exact K_1 i x m h6 hJ E
      by_cases c2 : v = (2 : Int32)
      · refine L_tabE (off := 247) (tgt := 280) c2 dL_law_33 (by decide) (by decide) (by decide) (by decide) ?_
        exact K_2 i x m h6 hJ E
      by_cases c3 : v = (3 : Int32)
      · refine L_tabE (off := 290) (tgt := 323) c3 dL_law_33 (by decide) (by decide) (by decide) (by decide) ?_
        exact K_3 i x m h6 hJ E
      by_cases c4 : v = (4 : Int32)
      · refine L_tabE (off := 323) (tgt := 356) c4 dL_law_33 (by decide) (by decide) (by decide) (by decide) ?_
        exact K_4 i x m h6 hJ E
      by_cases c5 : v = (5 : Int32)
      · refine L_tabE (off := 346) (tgt := 379) c5 dL_law_33 (by decide) (by decide) (by decide) (by decide) ?_
        exact K_5 i x m h6 hJ E
      by_cases c6 : v = (6 : Int32)
      · refine L_tabE (off := 359) (tgt := 392) c6 dL_law_33 (by decide) (by decide) (by decide) (by decide) ?_
        exact K_6 i x m h6 hJ E
      by_cases c7 : v = (7 : Int32)
      · refine L_tabE (off := 382) (tgt := 415) c7 dL_law_33 (by decide) (by decide) (by decide) (by decide) ?_
        exact K_7 i x m h6 hJ E
      by_cases c8 : v = (8 : Int32)
      · refine L_tabE (off := 406) (tgt := 439) c8 dL_law_33 (by decide) (by decide) (by decide) (by decide) ?_
        exact K_8 i x m h6 hJ E
      by_cases c9 : v = (9 : Int32)
      · refine L_tabE (off := 459) (tgt := 492) c9 dL_law_33 (by decide) (by decide) (by decide) (by decide) ?_
        exact K_9 i x m h6 hJ E
      by_cases c10 : v = (10 : Int32)
      · refine L_tabE (off := 502) (tgt := 535) c10 dL_law_33 (by decide) (by decide) (by decide) (by decide) ?_
        exact K_10 i x m h6 hJ E
      by_cases c11 : v = (11 : Int32)
      · refine L_tabE (off := 535) (tgt := 568) c11 dL_law_33 (by decide) (by decide) (by decide) (by decide) ?_
        exact K_11 i x m h6 hJ E
      by_cases c12 : v = (12 : Int32)
      · refine L_tabE (off := 568) (tgt := 601) c12 dL_law_33 (by decide) (by decide) (by decide) (by decide) ?_
        exact K_12 i x m h6 hJ E
      by_cases c13 : v = (13 : Int32)
      · refine L_tabE (off := 601) (tgt := 634) c13 dL_law_33 (by decide) (by decide) (by decide) (by decide) ?_
        exact K_13 i x m h6 hJ E
      by_cases c14 : v = (14 : Int32)
      · refine L_tabE (off := 635) (tgt := 668) c14 dL_law_33 (by decide) (by decide) (by decide) (by decide) ?_
        exact K_14 i x m h6 hJ E
      by_cases c15 : v = (15 : Int32)
      · refine L_tabE (off := 678) (tgt := 711) c15 dL_law_33 (by decide) (by decide) (by decide) (by decide) ?_
        exact K_15 i x m h6 hJ E
      by_cases c16 : v = (16 : Int32)
      · refine L_tabE (off := 711) (tgt := 744) c16 dL_law_33 (by decide) (by decide) (by decide) (by decide) ?_
        exact K_16 i x m h6 hJ E
      by_cases c17 : v = (17 : Int32)
      · refine L_tabE (off := 744) (tgt := 777) c17 dL_law_33 (by decide) (by decide) (by decide) (by decide) ?_
        exact K_17 i x m h6 hJ E
      by_cases c18 : v = (18 : Int32)
      · refine L_tabE (off := 777) (tgt := 810) c18 dL_law_33 (by decide) (by decide) (by decide) (by decide) ?_
        exact K_18 i x m h6 hJ E
      by_cases c19 : v = (19 : Int32)
      · refine L_tabE (off := 810) (tgt := 843) c19 dL_law_33 (by decide) (by decide) (by decide) (by decide) ?_
        exact K_19 i x m h6 hJ E
      by_cases c20 : v = (20 : Int32)
      · refine L_tabE (off := 844) (tgt := 877) c20 dL_law_33 (by decide) (by decide) (by decide) (by decide) ?_
        exact K_20 i x m h6 hJ E
      by_cases c21 : v = (21 : Int32)
      · refine L_tabE (off := 887) (tgt := 920) c21 dL_law_33 (by decide) (by decide) (by decide) (by decide) ?_
        exact K_21 i x m h6 hJ E
      by_cases c22 : v = (22 : Int32)
      · refine L_tabE (off := 930) (tgt := 963) c22 dL_law_33 (by decide) (by decide) (by decide) (by decide) ?_
        exact K_22 i x m h6 hJ E
      by_cases c23 : v = (23 : Int32)
      · refine L_tabE (off := 953) (tgt := 986) c23 dL_law_33 (by decide) (by decide) (by decide) (by decide) ?_
        exact K_23 i x m h6 hJ E
      by_cases c24 : v = (24 : Int32)
      · refine L_tabE (off := 976) (tgt := 1009) c24 dL_law_33 (by decide) (by decide) (by decide) (by decide) ?_
        exact K_24 i x m h6 hJ E
      by_cases c25 : v = (25 : Int32)
      · refine L_tabE (off := 999) (tgt := 1032) c25 dL_law_33 (by decide) (by decide) (by decide) (by decide) ?_
        exact K_25 i x m h6 hJ E
      by_cases c26 : v = (26 : Int32)
      · refine L_tabE (off := 1012) (tgt := 1045) c26 dL_law_33 (by decide) (by decide) (by decide) (by decide) ?_
        exact K_26 i x m h6 hJ E
      by_cases c27 : v = (27 : Int32)
      · refine L_tabE (off := 1025) (tgt := 1058) c27 dL_law_33 (by decide) (by decide) (by decide) (by decide) ?_
        exact K_27 i x m h6 hJ E
      by_cases c28 : v = (28 : Int32)
      · refine L_tabE (off := 1038) (tgt := 1071) c28 dL_law_33 (by decide) (by decide) (by decide) (by decide) ?_
        exact K_28 i x m h6 hJ E
      by_cases c29 : v = (29 : Int32)
      · refine L_tabE (off := 1051) (tgt := 1084) c29 dL_law_33 (by decide) (by decide) (by decide) (by decide) ?_
        exact K_29 i x m h6 hJ E
      by_cases c30 : v = (30 : Int32)
      · refine L_tabE (off := 1074) (tgt := 1107) c30 dL_law_33 (by decide) (by decide) (by decide) (by decide) ?_
        exact K_30 i x m h6 hJ E
      by_cases c31 : v = (31 : Int32)
      · refine L_tabE (off := 1117) (tgt := 1150) c31 dL_law_33 (by decide) (by decide) (by decide) (by decide) ?_
        exact K_31 i x m h6 hJ E
      by_cases c32 : v = (32 : Int32)
      · refine L_tabE (off := 1140) (tgt := 1173) c32 dL_law_33 (by decide) (by decide) (by decide) (by decide) ?_
        exact K_32 i x m h6 hJ E
      by_cases c33 : v = (33 : Int32)
      · refine L_tabE (off := 1173) (tgt := 1206) c33 dL_law_33 (by decide) (by decide) (by decide) (by decide) ?_
        exact K_33 i x m h6 hJ E
      by_cases c34 : v = (34 : Int32)
      · refine L_tabE (off := 1216) (tgt := 1249) c34 dL_law_33 (by decide) (by decide) (by decide) (by decide) ?_
        exact K_34 i x m h6 hJ E
      by_cases c35 : v = (35 : Int32)
      · refine L_tabE (off := 1289) (tgt := 1322) c35 dL_law_33 (by decide) (by decide) (by decide) (by decide) ?_
        exact K_35 i x m h6 hJ E
      by_cases c36 : v = (36 : Int32)
      · refine L_tabE (off := 1323) (tgt := 1356) c36 dL_law_33 (by decide) (by decide) (by decide) (by decide) ?_
        exact K_36 i x m h6 hJ E
      by_cases c37 : v = (37 : Int32)
      · refine L_tabE (off := 1386) (tgt := 1419) c37 dL_law_33 (by decide) (by decide) (by decide) (by decide) ?_
        exact K_37 i x m h6 hJ E
      by_cases c38 : v = (38 : Int32)
      · refine L_tabE (off := 1419) (tgt := 1452) c38 dL_law_33 (by decide) (by decide) (by decide) (by decide) ?_
        exact K_38 i x m h6 hJ E
      refine T_tabOut (tgt := 1475) ⟨dL_law_33, by decide⟩ (by
          have n0 := ne_toInt c0; rw [show (0 : Int32).toInt = 0 from rfl] at n0
          have n1 := ne_toInt c1; rw [show (1 : Int32).toInt = 1 from rfl] at n1
          have n2 := ne_toInt c2; rw [show (2 : Int32).toInt = 2 from rfl] at n2
          have n3 := ne_toInt c3; rw [show (3 : Int32).toInt = 3 from rfl] at n3
          have n4 := ne_toInt c4; rw [show (4 : Int32).toInt = 4 from rfl] at n4
          have n5 := ne_toInt c5; rw [show (5 : Int32).toInt = 5 from rfl] at n5
          have n6 := ne_toInt c6; rw [show (6 : Int32).toInt = 6 from rfl] at n6
          have n7 := ne_toInt c7; rw [show (7 : Int32).toInt = 7 from rfl] at n7
          have n8 := ne_toInt c8; rw [show (8 : Int32).toInt = 8 from rfl] at n8
          have n9 := ne_toInt c9; rw [show (9 : Int32).toInt = 9 from rfl] at n9
          have n10 := ne_toInt c10; rw [show (10 : Int32).toInt = 10 from rfl] at n10
          have n11 := ne_toInt c11; rw [show (11 : Int32).toInt = 11 from rfl] at n11
          have n12 := ne_toInt c12; rw [show (12 : Int32).toInt = 12 from rfl] at n12
          have n13 := ne_toInt c13; rw [show (13 : Int32).toInt = 13 from rfl] at n13
          have n14 := ne_toInt c14; rw [show (14 : Int32).toInt = 14 from rfl] at n14
          have n15 := ne_toInt c15; rw [show (15 : Int32).toInt = 15 from rfl] at n15
          have n16 := ne_toInt c16; rw [show (16 : Int32).toInt = 16 from rfl] at n16
          have n17 := ne_toInt c17; rw [show (17 : Int32).toInt = 17 from rfl] at n17
          have n18 := ne_toInt c18; rw [show (18 : Int32).toInt = 18 from rfl] at n18
          have n19 := ne_toInt c19; rw [show (19 : Int32).toInt = 19 from rfl] at n19
          have n20 := ne_toInt c20; rw [show (20 : Int32).toInt = 20 from rfl] at n20
          have n21 := ne_toInt c21; rw [show (21 : Int32).toInt = 21 from rfl] at n21
          have n22 := ne_toInt c22; rw [show (22 : Int32).toInt = 22 from rfl] at n22
          have n23 := ne_toInt c23; rw [show (23 : Int32).toInt = 23 from rfl] at n23
          have n24 := ne_toInt c24; rw [show (24 : Int32).toInt = 24 from rfl] at n24
          have n25 := ne_toInt c25; rw [show (25 : Int32).toInt = 25 from rfl] at n25
          have n26 := ne_toInt c26; rw [show (26 : Int32).toInt = 26 from rfl] at n26
          have n27 := ne_toInt c27; rw [show (27 : Int32).toInt = 27 from rfl] at n27
          have n28 := ne_toInt c28; rw [show (28 : Int32).toInt = 28 from rfl] at n28
          have n29 := ne_toInt c29; rw [show (29 : Int32).toInt = 29 from rfl] at n29
          have n30 := ne_toInt c30; rw [show (30 : Int32).toInt = 30 from rfl] at n30
          have n31 := ne_toInt c31; rw [show (31 : Int32).toInt = 31 from rfl] at n31
          have n32 := ne_toInt c32; rw [show (32 : Int32).toInt = 32 from rfl] at n32
          have n33 := ne_toInt c33; rw [show (33 : Int32).toInt = 33 from rfl] at n33
          have n34 := ne_toInt c34; rw [show (34 : Int32).toInt = 34 from rfl] at n34
          have n35 := ne_toInt c35; rw [show (35 : Int32).toInt = 35 from rfl] at n35
          have n36 := ne_toInt c36; rw [show (36 : Int32).toInt = 36 from rfl] at n36
          have n37 := ne_toInt c37; rw [show (37 : Int32).toInt = 37 from rfl] at n37
          have n38 := ne_toInt c38; rw [show (38 : Int32).toInt = 38 from rfl] at n38
          omega) ?_
      exact E x m (hsk i x m h6 hJ)
