abbrev TL (Z : aZ) (M : MD) (d : Nat) (x m : aH) (pc : Nat) (ls st : List Value) : Prop := T0 Z M d (hp true x m) (fun r _ => r = some (.int 1)) pc ls st
theorem nI_addk (a b : Nat) : nI a + nI b = nI (a + b) := (Int32.ofNat_add a b).symm
theorem lgc_eq {a b : Int64} (h : a = b) : lg_cmp a b = 0 := by
  subst h
  unfold lg_cmp
  rw [if_neg (Int64.lt_irrefl), if_pos rfl]
theorem law_cond {L i : Nat} (hL : L ≤ 4000) (hi : i ≤ 8000) : (nI L - 6 < nI i) ↔ L < i + 6 := by
  rw [show (6 : Int32) = nI 6 from rfl, nI_subI, nI_iI i, iI_lt (by omega) (by omega) (by omega) (by omega)]
  omega
theorem hp_self (x : aH) : hp true x x = x := by
  unfold hp
  refine Prod.ext ?_ (Prod.ext ?_ ?_) <;> (funext a; simp)
section LRULES
variable {Z : aZ} {M : MD} {d pc pc' : Nat} {ls st : List Value} {x m : aH}
theorem L_Vx {idx n ci a K : Nat} {M2 : MD} {As : List Value} {st0 : List Value} {v : Value} {x' : aH} (hC : CX true Z M2 K (.ref a :: As) m x (RV v x')) (hK : K ≤ d) (hd : DI M pc (.invokevirtual idx) 3 pc') (hL : LnkV M.2.2.2.1 idx M2 ci n) (hn : As.length = n) (hst : st0 = As.reverse ++ .ref a :: st) (ho : OB true a ci) (hr : (st.map fun v => v.category).sum ≤ 8) (k : TL Z M (d + 1) x' m pc' ls (v :: st)) : TL Z M (d + 1) x m pc ls st0 :=
  T0_V (hC d hK) hd hL hn hst ho.1 ho.2.1 hr (fun r h' q => by obtain ⟨z, rfl, rfl, rfl⟩ := q; exact k)
theorem L_Vm {idx n ci a K : Nat} {M2 : MD} {As : List Value} {st0 : List Value} {v : Value} {m' : aH} (hC : CX false Z M2 K (.ref a :: As) x m (RV v m')) (hK : K ≤ d) (hd : DI M pc (.invokevirtual idx) 3 pc') (hL : LnkV M.2.2.2.1 idx M2 ci n) (hn : As.length = n) (hst : st0 = As.reverse ++ .ref a :: st) (ho : OB false a ci) (hr : (st.map fun v => v.category).sum ≤ 8) (k : TL Z M (d + 1) x m' pc' ls (v :: st)) : TL Z M (d + 1) x m pc ls st0 := by
  have hC2 := hC d hK
  rw [← hp_swap] at hC2
  exact T0_V hC2 hd hL hn hst ho.1 ho.2.1 hr (fun r h' q => by obtain ⟨z, rfl, rfl, rfl⟩ := q; rw [← hp_swap]; exact k)
theorem T_pop2 {bc bs : Nat} {S : aS} {h : aH} {Q : Option Value → aS → aH → Prop} {v : Value} (hd : DI M pc (.pop2) 1 pc') (hv : v.category = 2) (k : TK Z M d bc bs S h Q pc' ls (st)) : TK Z M d bc bs S h Q pc ls (v :: st) := by
  intro g p l e R s m args below meth c QF hF hR H locs cells slots lsA hH hS hl hc hs
  obtain ⟨hd, rfl⟩ := hd
  exact lv_pop2_2 hF.1 hF.2.1 hd ((tv_cat g v).trans hv) (k g p l e R s m args below meth c QF hF hR H locs cells slots lsA hH hS hl hc hs)
theorem L_tabE {v k : Int32} {df lo hi off : Int} {offs : Array Int} {n tgt : Nat} (hv : v = k) (hd : decode M.1 pc = .ok (.tableswitch df lo hi offs, n)) (h1 : lo ≤ k.toInt) (h2 : k.toInt ≤ hi) (ho : offs[(k.toInt - lo).toNat]? = some off) (ht : (pc : Int) + off = (tgt : Int)) (kk : TL Z M d x m tgt ls st) : TL Z M d x m pc ls (.int v :: st) := by
  subst hv
  exact T_tabIn hd h1 h2 ho ht kk
end LRULES
theorem law_loop {nm : String} {L : Nat} {xs : Nat → Int32} (hL : L ≤ 3072) (J : aH → aH → Prop)
  (h_0 : ∀ (x m : aH) (p1 : Int32) (p2 : Int32), J x m → ∃ qx qm, fX10_lost x p1 p2 = some qx ∧ fX11_lost m p1 p2 = some qm ∧ J qx.2 qm.2)
  (h_1 : ∀ (x m : aH) (p1 : Int32) (p2 : Int32) (p3 : Int32), J x m → ∃ qx qm, fX10_losts x p1 p2 p3 = some qx ∧ fX11_losts m p1 p2 p3 = some qm ∧ J qx.2 qm.2)
  (h_2 : ∀ (x m : aH) (p1 : Int32) (p2 : Int32) (p3 : Int32), J x m → ∃ qx qm, fX10_mend x p1 p2 p3 = some qx ∧ fX11_mend m p1 p2 p3 = some qm ∧ J qx.2 qm.2)
  (h_3 : ∀ (x m : aH) (p1 : Int32) (p2 : Int32), J x m → ∃ qx qm, fX10_of x p1 p2 = some qx ∧ fX11_of m p1 p2 = some qm ∧ J x m)
  (h_4 : ∀ (x m : aH) (p1 : Int32), J x m → ∃ qx qm, fX10_feed x p1 = some qx ∧ fX11_feed m p1 = some qm ∧ J qx.2 qm.2)
  (h_5 : ∀ (x m : aH), J x m → ∃ qx qm, fX10_law x = some qx ∧ fX11_law m = some qm ∧ J qx.2 qm.2)
  (h_6 : ∀ (x m : aH) (p1 : Int32), J x m → ∃ qx qm, fX10_draws x p1 = some qx ∧ fX11_draws m p1 = some qm ∧ J qx.2 qm.2)
  (h_7 : ∀ (x m : aH) (p1 : Int32), J x m → ∃ qx qm, fX10_seen x p1 = some qx ∧ fX11_seen m p1 = some qm ∧ J x m)
  (h_8 : ∀ (x m : aH) (p1 : Int32) (p2 : Int32) (p3 : Int32) (p4 : Int32), J x m → ∃ qx qm, fX10_later x p1 p2 p3 p4 = some qx ∧ fX11_later m p1 p2 p3 p4 = some qm ∧ J qx.2 qm.2)
  (h_9 : ∀ (x m : aH) (p1 : Int32) (p2 : Int32) (p3 : Int32), J x m → ∃ qx qm, fX10_home x p1 p2 p3 = some qx ∧ fX11_home m p1 p2 p3 = some qm ∧ J qx.2 qm.2)
  (h_10 : ∀ (x m : aH) (p1 : Int32) (p2 : Int32), J x m → ∃ qx qm, fX10_since x p1 p2 = some qx ∧ fX11_since m p1 p2 = some qm ∧ J qx.2 qm.2)
  (h_11 : ∀ (x m : aH) (p1 : Int32) (p2 : Int32), J x m → ∃ qx qm, fX10_best x p1 p2 = some qx ∧ fX11_best m p1 p2 = some qm ∧ J qx.2 qm.2)
  (h_12 : ∀ (x m : aH) (p1 : Int32) (p2 : Int32), J x m → ∃ qx qm, fX10_fetch x p1 p2 = some qx ∧ fX11_fetch m p1 p2 = some qm ∧ J qx.2 qm.2)
  (h_13 : ∀ (x m : aH) (p1 : Int32) (p2 : Int32), J x m → ∃ qx qm, fX10_drifted x p1 p2 = some qx ∧ fX11_drifted m p1 p2 = some qm ∧ J x m)
  (h_14 : ∀ (x m : aH) (p1 : Int32) (p2 : Int32) (p3 : Int32), J x m → ∃ qx qm, fX10_ashore x p1 p2 p3 = some qx ∧ fX11_ashore m p1 p2 p3 = some qm ∧ J x m)
  (h_15 : ∀ (x m : aH) (p1 : Int32) (p2 : Int32), J x m → ∃ qx qm, fX10_order x p1 p2 = some qx ∧ fX11_order m p1 p2 = some qm ∧ J qx.2 qm.2)
  (h_16 : ∀ (x m : aH) (p1 : Int32) (p2 : Int32), J x m → ∃ qx qm, fX10_clash x p1 p2 = some qx ∧ fX11_clash m p1 p2 = some qm ∧ J qx.2 qm.2)
  (h_17 : ∀ (x m : aH) (p1 : Int32) (p2 : Int32), J x m → ∃ qx qm, fX10_may x p1 p2 = some qx ∧ fX11_may m p1 p2 = some qm ∧ J qx.2 qm.2)
  (h_18 : ∀ (x m : aH) (p1 : Int32) (p2 : Int32), J x m → ∃ qx qm, fX10_share x p1 p2 = some qx ∧ fX11_share m p1 p2 = some qm ∧ J x m)
  (h_19 : ∀ (x m : aH) (p1 : Int32) (p2 : Int32), J x m → ∃ qx qm, fX10_heard x p1 p2 = some qx ∧ fX11_heard m p1 p2 = some qm ∧ J x m)
  (h_20 : ∀ (x m : aH) (p1 : Int32) (p2 : Int32) (p3 : Int32), J x m → ∃ qx qm, fX10_byTurns x p1 p2 p3 = some qx ∧ fX11_byTurns m p1 p2 p3 = some qm ∧ J qx.2 qm.2)
  (h_21 : ∀ (x m : aH) (p1 : Int32) (p2 : Int32) (p3 : Int32), J x m → ∃ qx qm, fX10_drawn x p1 p2 p3 = some qx ∧ fX11_drawn m p1 p2 p3 = some qm ∧ J qx.2 qm.2)
  (h_22 : ∀ (x m : aH) (p1 : Int32), J x m → ∃ qx qm, fX10_night x p1 = some qx ∧ fX11_night m p1 = some qm ∧ J qx.2 qm.2)
  (h_23 : ∀ (x m : aH) (p1 : Int32), J x m → ∃ qx qm, fX10_oil x p1 = some qx ∧ fX11_oil m p1 = some qm ∧ J qx.2 qm.2)
  (h_24 : ∀ (x m : aH) (p1 : Int32), J x m → ∃ qx qm, fX10_led x p1 = some qx ∧ fX11_led m p1 = some qm ∧ J x m)
  (h_25 : ∀ (x m : aH), J x m → ∃ qx qm, fX10_image x = some qx ∧ fX11_image m = some qm ∧ J qx.2 qm.2)
  (h_26 : ∀ (x m : aH), J x m → ∃ qx qm, fX10_back x = some qx ∧ fX11_back m = some qm ∧ J qx.2 qm.2)
  (h_27 : ∀ (x m : aH), J x m → ∃ qx qm, fX10_undo x = some qx ∧ fX11_undo m = some qm ∧ J qx.2 qm.2)
  (h_28 : ∀ (x m : aH), J x m → ∃ qx qm, fX10_redo x = some qx ∧ fX11_redo m = some qm ∧ J qx.2 qm.2)
  (h_29 : ∀ (x m : aH) (p1 : Int32), J x m → ∃ qx qm, fX10_body x p1 = some qx ∧ fX11_body m p1 = some qm ∧ J qx.2 qm.2)
  (h_30 : ∀ (x m : aH) (p1 : Int32) (p2 : Int32) (p3 : Int32), J x m → ∃ qx qm, fX10_act x p1 p2 p3 = some qx ∧ fX11_act m p1 p2 p3 = some qm ∧ J qx.2 qm.2)
  (h_31 : ∀ (x m : aH) (p1 : Int32), J x m → ∃ qx qm, fX10_trace x p1 = some qx ∧ fX11_trace m p1 = some qm ∧ J x m)
  (h_32 : ∀ (x m : aH) (p1 : Int32) (p2 : Int32), J x m → ∃ qx qm, fX10_keep x p1 p2 = some qx ∧ fX11_keep m p1 p2 = some qm ∧ J qx.2 qm.2)
  (h_33 : ∀ (x m : aH) (p1 : Int32) (p2 : Int32) (p3 : Int32), J x m → ∃ qx qm, fX10_row x p1 p2 p3 = some qx ∧ fX11_row m p1 p2 p3 = some qm ∧ J qx.2 qm.2)
  (h_34 : ∀ (x m : aH) (p1 : Int32) (p2 : Int32) (p3 : Int64), J x m → ∃ qx qm, fX10_put x p1 p2 p3 = some qx ∧ fX11_put m p1 p2 p3 = some qm ∧ J qx.2 qm.2)
  (h_35 : ∀ (x m : aH) (p1 : Int32) (p2 : Int32), J x m → ∃ qx qm, fX10_element x p1 p2 = some qx ∧ fX11_element m p1 p2 = some qm ∧ J x m)
  (h_36 : ∀ (x m : aH) (p1 : Int32) (p2 : Int32) (p3 : Int32) (p4 : Int32) (p5 : Int32), J x m → ∃ qx qm, fX10_shift x p1 p2 p3 p4 p5 = some qx ∧ fX11_shift m p1 p2 p3 p4 p5 = some qm ∧ J qx.2 qm.2)
  (h_37 : ∀ (x m : aH) (p1 : Int32) (p2 : Int32), J x m → ∃ qx qm, fX10_taken x p1 p2 = some qx ∧ fX11_taken m p1 p2 = some qm ∧ J x m)
  (h_38 : ∀ (x m : aH) (p1 : Int32), J x m → ∃ qx qm, fX10_count x p1 = some qx ∧ fX11_count m p1 = some qm ∧ J x qm.2 ∧ qx = qm.1) :
  ∀ (n i : Nat) (x m : aH), L < i + n → i ≤ 4000 → J x m → TL (L, xs) (mLn nm) 2000 x m 18 [.ref 1005, .ref 0, .ref 73, .int (nI i)] [] := by
  have K_0 : ∀ (i : Nat) (x m : aH), i + 6 ≤ L → J x m → (∀ x m : aH, J x m → TL (L, xs) (mLn nm) 2000 x m 1471 [.ref 1005, .ref 0, .ref 73, .int (nI i)] []) → TL (L, xs) (mLn nm) 2000 x m 204 [.ref 1005, .ref 0, .ref 73, .int (nI i)] [] := by
    intro i x m h6 hJ E
    refine T_aload dL_law_204 rfl ?_
    refine T_aload dL_law_205 rfl ?_
    refine T_iload dL_law_206 rfl ?_
    refine T_const dL_law_207 ?_
    refine T_iadd dL_law_208 ?_
    refine T_ialdSN (a := 5) (N := L) (i := i + 1) dL_law_209 (by decide) rfl (nI_addk i 1) (by omega) (by omega) ?_
    refine T_aload dL_law_210 rfl ?_
    refine T_iload dL_law_211 rfl ?_
    refine T_const dL_law_212 ?_
    refine T_iadd dL_law_213 ?_
    refine T_ialdSN (a := 5) (N := L) (i := i + 2) dL_law_214 (by decide) rfl (nI_addk i 2) (by omega) (by omega) ?_
    obtain ⟨qx, qm, hx, hm, hJ⟩ := h_0 x m (roC (L, xs) 5 (i + 1)) (roC (L, xs) 5 (i + 2)) hJ
    refine L_Vx (qX10_lost _ _ hx) (Nat.le_of_ble_eq_true rfl) dL_law_215 lvL_13 rfl rfl ob0 (Nat.le_of_ble_eq_true rfl) ?_
    refine T_pop dL_law_218 rfl ?_
    refine T_aload dL_law_219 rfl ?_
    refine T_aload dL_law_220 rfl ?_
    refine T_iload dL_law_221 rfl ?_
    refine T_const dL_law_222 ?_
    refine T_iadd dL_law_223 ?_
    refine T_ialdSN (a := 5) (N := L) (i := i + 1) dL_law_224 (by decide) rfl (nI_addk i 1) (by omega) (by omega) ?_
    refine T_aload dL_law_225 rfl ?_
    refine T_iload dL_law_226 rfl ?_
    refine T_const dL_law_227 ?_
    refine T_iadd dL_law_228 ?_
    refine T_ialdSN (a := 5) (N := L) (i := i + 2) dL_law_229 (by decide) rfl (nI_addk i 2) (by omega) (by omega) ?_
    refine L_Vm (qX11_lost _ _ hm) (Nat.le_of_ble_eq_true rfl) dL_law_230 lvL_17 rfl rfl ob73 (Nat.le_of_ble_eq_true rfl) ?_
    refine T_pop dL_law_233 rfl ?_
    refine T_goto dL_law_234 ?_
    exact E qx.2 qm.2 hJ
  have K_1 : ∀ (i : Nat) (x m : aH), i + 6 ≤ L → J x m → (∀ x m : aH, J x m → TL (L, xs) (mLn nm) 2000 x m 1471 [.ref 1005, .ref 0, .ref 73, .int (nI i)] []) → TL (L, xs) (mLn nm) 2000 x m 237 [.ref 1005, .ref 0, .ref 73, .int (nI i)] [] := by
    intro i x m h6 hJ E
    refine T_aload dL_law_237 rfl ?_
    refine T_aload dL_law_238 rfl ?_
    refine T_iload dL_law_239 rfl ?_
    refine T_const dL_law_240 ?_
    refine T_iadd dL_law_241 ?_
    refine T_ialdSN (a := 5) (N := L) (i := i + 1) dL_law_242 (by decide) rfl (nI_addk i 1) (by omega) (by omega) ?_
    refine T_aload dL_law_243 rfl ?_
    refine T_iload dL_law_244 rfl ?_
    refine T_const dL_law_245 ?_
    refine T_iadd dL_law_246 ?_
    refine T_ialdSN (a := 5) (N := L) (i := i + 2) dL_law_247 (by decide) rfl (nI_addk i 2) (by omega) (by omega) ?_
    refine T_aload dL_law_248 rfl ?_
    refine T_iload dL_law_249 rfl ?_
    refine T_const dL_law_250 ?_
    refine T_iadd dL_law_251 ?_
    refine T_ialdSN (a := 5) (N := L) (i := i + 3) dL_law_252 (by decide) rfl (nI_addk i 3) (by omega) (by omega) ?_
    obtain ⟨qx, qm, hx, hm, hJ⟩ := h_1 x m (roC (L, xs) 5 (i + 1)) (roC (L, xs) 5 (i + 2)) (roC (L, xs) 5 (i + 3)) hJ
    refine L_Vx (qX10_losts _ _ hx) (Nat.le_of_ble_eq_true rfl) dL_law_253 lvL_18 rfl rfl ob0 (Nat.le_of_ble_eq_true rfl) ?_
    refine T_pop dL_law_256 rfl ?_
    refine T_aload dL_law_257 rfl ?_
    refine T_aload dL_law_258 rfl ?_
    refine T_iload dL_law_259 rfl ?_
    refine T_const dL_law_260 ?_
    refine T_iadd dL_law_261 ?_
    refine T_ialdSN (a := 5) (N := L) (i := i + 1) dL_law_262 (by decide) rfl (nI_addk i 1) (by omega) (by omega) ?_
    refine T_aload dL_law_263 rfl ?_
    refine T_iload dL_law_264 rfl ?_
    refine T_const dL_law_265 ?_
    refine T_iadd dL_law_266 ?_
    refine T_ialdSN (a := 5) (N := L) (i := i + 2) dL_law_267 (by decide) rfl (nI_addk i 2) (by omega) (by omega) ?_
    refine T_aload dL_law_268 rfl ?_
    refine T_iload dL_law_269 rfl ?_
    refine T_const dL_law_270 ?_
    refine T_iadd dL_law_271 ?_
    refine T_ialdSN (a := 5) (N := L) (i := i + 3) dL_law_272 (by decide) rfl (nI_addk i 3) (by omega) (by omega) ?_
    refine L_Vm (qX11_losts _ _ hm) (Nat.le_of_ble_eq_true rfl) dL_law_273 lvL_22 rfl rfl ob73 (Nat.le_of_ble_eq_true rfl) ?_
    refine T_pop dL_law_276 rfl ?_
    refine T_goto dL_law_277 ?_
    exact E qx.2 qm.2 hJ
  have K_2 : ∀ (i : Nat) (x m : aH), i + 6 ≤ L → J x m → (∀ x m : aH, J x m → TL (L, xs) (mLn nm) 2000 x m 1471 [.ref 1005, .ref 0, .ref 73, .int (nI i)] []) → TL (L, xs) (mLn nm) 2000 x m 280 [.ref 1005, .ref 0, .ref 73, .int (nI i)] [] := by
    intro i x m h6 hJ E
    refine T_aload dL_law_280 rfl ?_
    refine T_aload dL_law_281 rfl ?_
    refine T_iload dL_law_282 rfl ?_
    refine T_const dL_law_283 ?_
    refine T_iadd dL_law_284 ?_
    refine T_ialdSN (a := 5) (N := L) (i := i + 1) dL_law_285 (by decide) rfl (nI_addk i 1) (by omega) (by omega) ?_
    refine T_aload dL_law_286 rfl ?_
    refine T_iload dL_law_287 rfl ?_
    refine T_const dL_law_288 ?_
    refine T_iadd dL_law_289 ?_
    refine T_ialdSN (a := 5) (N := L) (i := i + 2) dL_law_290 (by decide) rfl (nI_addk i 2) (by omega) (by omega) ?_
    refine T_aload dL_law_291 rfl ?_
    refine T_iload dL_law_292 rfl ?_
    refine T_const dL_law_293 ?_
    refine T_iadd dL_law_294 ?_
    refine T_ialdSN (a := 5) (N := L) (i := i + 3) dL_law_295 (by decide) rfl (nI_addk i 3) (by omega) (by omega) ?_
    obtain ⟨qx, qm, hx, hm, hJ⟩ := h_2 x m (roC (L, xs) 5 (i + 1)) (roC (L, xs) 5 (i + 2)) (roC (L, xs) 5 (i + 3)) hJ
    refine L_Vx (qX10_mend _ _ hx) (Nat.le_of_ble_eq_true rfl) dL_law_296 lvL_23 rfl rfl ob0 (Nat.le_of_ble_eq_true rfl) ?_
    refine T_pop dL_law_299 rfl ?_
    refine T_aload dL_law_300 rfl ?_
    refine T_aload dL_law_301 rfl ?_
    refine T_iload dL_law_302 rfl ?_
    refine T_const dL_law_303 ?_
    refine T_iadd dL_law_304 ?_
    refine T_ialdSN (a := 5) (N := L) (i := i + 1) dL_law_305 (by decide) rfl (nI_addk i 1) (by omega) (by omega) ?_
    refine T_aload dL_law_306 rfl ?_
    refine T_iload dL_law_307 rfl ?_
    refine T_const dL_law_308 ?_
    refine T_iadd dL_law_309 ?_
    refine T_ialdSN (a := 5) (N := L) (i := i + 2) dL_law_310 (by decide) rfl (nI_addk i 2) (by omega) (by omega) ?_
    refine T_aload dL_law_311 rfl ?_
    refine T_iload dL_law_312 rfl ?_
    refine T_const dL_law_313 ?_
    refine T_iadd dL_law_314 ?_
    refine T_ialdSN (a := 5) (N := L) (i := i + 3) dL_law_315 (by decide) rfl (nI_addk i 3) (by omega) (by omega) ?_
    refine L_Vm (qX11_mend _ _ hm) (Nat.le_of_ble_eq_true rfl) dL_law_316 lvL_26 rfl rfl ob73 (Nat.le_of_ble_eq_true rfl) ?_
    refine T_pop dL_law_319 rfl ?_
    refine T_goto dL_law_320 ?_
    exact E qx.2 qm.2 hJ
  have K_3 : ∀ (i : Nat) (x m : aH), i + 6 ≤ L → J x m → (∀ x m : aH, J x m → TL (L, xs) (mLn nm) 2000 x m 1471 [.ref 1005, .ref 0, .ref 73, .int (nI i)] []) → TL (L, xs) (mLn nm) 2000 x m 323 [.ref 1005, .ref 0, .ref 73, .int (nI i)] [] := by
    intro i x m h6 hJ E
    refine T_aload dL_law_323 rfl ?_
    refine T_aload dL_law_324 rfl ?_
    refine T_iload dL_law_325 rfl ?_
    refine T_const dL_law_326 ?_
    refine T_iadd dL_law_327 ?_
    refine T_ialdSN (a := 5) (N := L) (i := i + 1) dL_law_328 (by decide) rfl (nI_addk i 1) (by omega) (by omega) ?_
    refine T_aload dL_law_329 rfl ?_
    refine T_iload dL_law_330 rfl ?_
    refine T_const dL_law_331 ?_
    refine T_iadd dL_law_332 ?_
    refine T_ialdSN (a := 5) (N := L) (i := i + 2) dL_law_333 (by decide) rfl (nI_addk i 2) (by omega) (by omega) ?_
    obtain ⟨qx, qm, hx, hm, hJ⟩ := h_3 x m (roC (L, xs) 5 (i + 1)) (roC (L, xs) 5 (i + 2)) hJ
    refine L_Vx (qX10_of _ _ hx) (Nat.le_of_ble_eq_true rfl) dL_law_334 lvL_27 rfl rfl ob0 (Nat.le_of_ble_eq_true rfl) ?_
    refine T_pop dL_law_337 rfl ?_
    refine T_aload dL_law_338 rfl ?_
    refine T_aload dL_law_339 rfl ?_
    refine T_iload dL_law_340 rfl ?_
    refine T_const dL_law_341 ?_
    refine T_iadd dL_law_342 ?_
    refine T_ialdSN (a := 5) (N := L) (i := i + 1) dL_law_343 (by decide) rfl (nI_addk i 1) (by omega) (by omega) ?_
    refine T_aload dL_law_344 rfl ?_
    refine T_iload dL_law_345 rfl ?_
    refine T_const dL_law_346 ?_
    refine T_iadd dL_law_347 ?_
    refine T_ialdSN (a := 5) (N := L) (i := i + 2) dL_law_348 (by decide) rfl (nI_addk i 2) (by omega) (by omega) ?_
    refine L_Vm (qX11_of _ _ hm) (Nat.le_of_ble_eq_true rfl) dL_law_349 lvL_30 rfl rfl ob73 (Nat.le_of_ble_eq_true rfl) ?_
    refine T_pop dL_law_352 rfl ?_
    refine T_goto dL_law_353 ?_
    exact E x m hJ
  have K_4 : ∀ (i : Nat) (x m : aH), i + 6 ≤ L → J x m → (∀ x m : aH, J x m → TL (L, xs) (mLn nm) 2000 x m 1471 [.ref 1005, .ref 0, .ref 73, .int (nI i)] []) → TL (L, xs) (mLn nm) 2000 x m 356 [.ref 1005, .ref 0, .ref 73, .int (nI i)] [] := by
    intro i x m h6 hJ E
    refine T_aload dL_law_356 rfl ?_
    refine T_aload dL_law_357 rfl ?_
    refine T_iload dL_law_358 rfl ?_
    refine T_const dL_law_359 ?_
    refine T_iadd dL_law_360 ?_
    refine T_ialdSN (a := 5) (N := L) (i := i + 1) dL_law_361 (by decide) rfl (nI_addk i 1) (by omega) (by omega) ?_
    obtain ⟨qx, qm, hx, hm, hJ⟩ := h_4 x m (roC (L, xs) 5 (i + 1)) hJ
    refine L_Vx (qX10_feed _ _ hx) (Nat.le_of_ble_eq_true rfl) dL_law_362 lvL_31 rfl rfl ob0 (Nat.le_of_ble_eq_true rfl) ?_
    refine T_pop dL_law_365 rfl ?_
    refine T_aload dL_law_366 rfl ?_
    refine T_aload dL_law_367 rfl ?_
    refine T_iload dL_law_368 rfl ?_
    refine T_const dL_law_369 ?_
    refine T_iadd dL_law_370 ?_
    refine T_ialdSN (a := 5) (N := L) (i := i + 1) dL_law_371 (by decide) rfl (nI_addk i 1) (by omega) (by omega) ?_
    refine L_Vm (qX11_feed _ _ hm) (Nat.le_of_ble_eq_true rfl) dL_law_372 lvL_35 rfl rfl ob73 (Nat.le_of_ble_eq_true rfl) ?_
    refine T_pop dL_law_375 rfl ?_
    refine T_goto dL_law_376 ?_
    exact E qx.2 qm.2 hJ
  have K_5 : ∀ (i : Nat) (x m : aH), i + 6 ≤ L → J x m → (∀ x m : aH, J x m → TL (L, xs) (mLn nm) 2000 x m 1471 [.ref 1005, .ref 0, .ref 73, .int (nI i)] []) → TL (L, xs) (mLn nm) 2000 x m 379 [.ref 1005, .ref 0, .ref 73, .int (nI i)] [] := by
    intro i x m h6 hJ E
    refine T_aload dL_law_379 rfl ?_
    obtain ⟨qx, qm, hx, hm, hJ⟩ := h_5 x m hJ
    refine L_Vx (qX10_law _ _ hx) (Nat.le_of_ble_eq_true rfl) dL_law_380 lvL_36 rfl rfl ob0 (Nat.le_of_ble_eq_true rfl) ?_
    refine T_pop dL_law_383 rfl ?_
    refine T_aload dL_law_384 rfl ?_
    refine L_Vm (qX11_law _ _ hm) (Nat.le_of_ble_eq_true rfl) dL_law_385 lvL_40 rfl rfl ob73 (Nat.le_of_ble_eq_true rfl) ?_
    refine T_pop dL_law_388 rfl ?_
    refine T_goto dL_law_389 ?_
    exact E qx.2 qm.2 hJ
  have K_6 : ∀ (i : Nat) (x m : aH), i + 6 ≤ L → J x m → (∀ x m : aH, J x m → TL (L, xs) (mLn nm) 2000 x m 1471 [.ref 1005, .ref 0, .ref 73, .int (nI i)] []) → TL (L, xs) (mLn nm) 2000 x m 392 [.ref 1005, .ref 0, .ref 73, .int (nI i)] [] := by
    intro i x m h6 hJ E
    refine T_aload dL_law_392 rfl ?_
    refine T_aload dL_law_393 rfl ?_
    refine T_iload dL_law_394 rfl ?_
    refine T_const dL_law_395 ?_
    refine T_iadd dL_law_396 ?_
    refine T_ialdSN (a := 5) (N := L) (i := i + 1) dL_law_397 (by decide) rfl (nI_addk i 1) (by omega) (by omega) ?_
    obtain ⟨qx, qm, hx, hm, hJ⟩ := h_6 x m (roC (L, xs) 5 (i + 1)) hJ
    refine L_Vx (qX10_draws _ _ hx) (Nat.le_of_ble_eq_true rfl) dL_law_398 lvL_41 rfl rfl ob0 (Nat.le_of_ble_eq_true rfl) ?_
    refine T_pop dL_law_401 rfl ?_
    refine T_aload dL_law_402 rfl ?_
    refine T_aload dL_law_403 rfl ?_
    refine T_iload dL_law_404 rfl ?_
    refine T_const dL_law_405 ?_
    refine T_iadd dL_law_406 ?_
    refine T_ialdSN (a := 5) (N := L) (i := i + 1) dL_law_407 (by decide) rfl (nI_addk i 1) (by omega) (by omega) ?_
    refine L_Vm (qX11_draws _ _ hm) (Nat.le_of_ble_eq_true rfl) dL_law_408 lvL_44 rfl rfl ob73 (Nat.le_of_ble_eq_true rfl) ?_
    refine T_pop dL_law_411 rfl ?_
    refine T_goto dL_law_412 ?_
    exact E qx.2 qm.2 hJ
  have K_7 : ∀ (i : Nat) (x m : aH), i + 6 ≤ L → J x m → (∀ x m : aH, J x m → TL (L, xs) (mLn nm) 2000 x m 1471 [.ref 1005, .ref 0, .ref 73, .int (nI i)] []) → TL (L, xs) (mLn nm) 2000 x m 415 [.ref 1005, .ref 0, .ref 73, .int (nI i)] [] := by
    intro i x m h6 hJ E
    refine T_aload dL_law_415 rfl ?_
    refine T_aload dL_law_416 rfl ?_
    refine T_iload dL_law_417 rfl ?_
    refine T_const dL_law_418 ?_
    refine T_iadd dL_law_419 ?_
    refine T_ialdSN (a := 5) (N := L) (i := i + 1) dL_law_420 (by decide) rfl (nI_addk i 1) (by omega) (by omega) ?_
    obtain ⟨qx, qm, hx, hm, hJ⟩ := h_7 x m (roC (L, xs) 5 (i + 1)) hJ
    refine L_Vx (qX10_seen _ _ hx) (Nat.le_of_ble_eq_true rfl) dL_law_421 lvL_45 rfl rfl ob0 (Nat.le_of_ble_eq_true rfl) ?_
    refine T_pop2 dL_law_424 rfl ?_
    refine T_aload dL_law_425 rfl ?_
    refine T_aload dL_law_426 rfl ?_
    refine T_iload dL_law_427 rfl ?_
    refine T_const dL_law_428 ?_
    refine T_iadd dL_law_429 ?_
    refine T_ialdSN (a := 5) (N := L) (i := i + 1) dL_law_430 (by decide) rfl (nI_addk i 1) (by omega) (by omega) ?_
    refine L_Vm (qX11_seen _ _ hm) (Nat.le_of_ble_eq_true rfl) dL_law_431 lvL_49 rfl rfl ob73 (Nat.le_of_ble_eq_true rfl) ?_
    refine T_pop2 dL_law_434 rfl ?_
    refine T_goto dL_law_435 ?_
    exact E x m hJ
  have K_8 : ∀ (i : Nat) (x m : aH), i + 6 ≤ L → J x m → (∀ x m : aH, J x m → TL (L, xs) (mLn nm) 2000 x m 1471 [.ref 1005, .ref 0, .ref 73, .int (nI i)] []) → TL (L, xs) (mLn nm) 2000 x m 438 [.ref 1005, .ref 0, .ref 73, .int (nI i)] [] := by
    intro i x m h6 hJ E
    refine T_aload dL_law_438 rfl ?_
    refine T_aload dL_law_439 rfl ?_
    refine T_iload dL_law_440 rfl ?_
    refine T_const dL_law_441 ?_
    refine T_iadd dL_law_442 ?_
    refine T_ialdSN (a := 5) (N := L) (i := i + 1) dL_law_443 (by decide) rfl (nI_addk i 1) (by omega) (by omega) ?_
    refine T_aload dL_law_444 rfl ?_
    refine T_iload dL_law_445 rfl ?_
    refine T_const dL_law_446 ?_
    refine T_iadd dL_law_447 ?_
    refine T_ialdSN (a := 5) (N := L) (i := i + 2) dL_law_448 (by decide) rfl (nI_addk i 2) (by omega) (by omega) ?_
    refine T_aload dL_law_449 rfl ?_
    refine T_iload dL_law_450 rfl ?_
    refine T_const dL_law_451 ?_
    refine T_iadd dL_law_452 ?_
    refine T_ialdSN (a := 5) (N := L) (i := i + 3) dL_law_453 (by decide) rfl (nI_addk i 3) (by omega) (by omega) ?_
    refine T_aload dL_law_454 rfl ?_
    refine T_iload dL_law_455 rfl ?_
    refine T_const dL_law_456 ?_
    refine T_iadd dL_law_457 ?_
    refine T_ialdSN (a := 5) (N := L) (i := i + 4) dL_law_458 (by decide) rfl (nI_addk i 4) (by omega) (by omega) ?_
    obtain ⟨qx, qm, hx, hm, hJ⟩ := h_8 x m (roC (L, xs) 5 (i + 1)) (roC (L, xs) 5 (i + 2)) (roC (L, xs) 5 (i + 3)) (roC (L, xs) 5 (i + 4)) hJ
    refine L_Vx (qX10_later _ _ hx) (Nat.le_of_ble_eq_true rfl) dL_law_459 lvL_50 rfl rfl ob0 (Nat.le_of_ble_eq_true rfl) ?_
    refine T_pop dL_law_462 rfl ?_
    refine T_aload dL_law_463 rfl ?_
    refine T_aload dL_law_464 rfl ?_
    refine T_iload dL_law_465 rfl ?_
    refine T_const dL_law_466 ?_
    refine T_iadd dL_law_467 ?_
    refine T_ialdSN (a := 5) (N := L) (i := i + 1) dL_law_468 (by decide) rfl (nI_addk i 1) (by omega) (by omega) ?_
    refine T_aload dL_law_469 rfl ?_
    refine T_iload dL_law_470 rfl ?_
    refine T_const dL_law_471 ?_
    refine T_iadd dL_law_472 ?_
    refine T_ialdSN (a := 5) (N := L) (i := i + 2) dL_law_473 (by decide) rfl (nI_addk i 2) (by omega) (by omega) ?_
    refine T_aload dL_law_474 rfl ?_
    refine T_iload dL_law_475 rfl ?_
    refine T_const dL_law_476 ?_
    refine T_iadd dL_law_477 ?_
    refine T_ialdSN (a := 5) (N := L) (i := i + 3) dL_law_478 (by decide) rfl (nI_addk i 3) (by omega) (by omega) ?_
    refine T_aload dL_law_479 rfl ?_
    refine T_iload dL_law_480 rfl ?_
    refine T_const dL_law_481 ?_
    refine T_iadd dL_law_482 ?_
    refine T_ialdSN (a := 5) (N := L) (i := i + 4) dL_law_483 (by decide) rfl (nI_addk i 4) (by omega) (by omega) ?_
    refine L_Vm (qX11_later _ _ hm) (Nat.le_of_ble_eq_true rfl) dL_law_484 lvL_54 rfl rfl ob73 (Nat.le_of_ble_eq_true rfl) ?_
    refine T_pop dL_law_487 rfl ?_
    refine T_goto dL_law_488 ?_
    exact E qx.2 qm.2 hJ
  have K_9 : ∀ (i : Nat) (x m : aH), i + 6 ≤ L → J x m → (∀ x m : aH, J x m → TL (L, xs) (mLn nm) 2000 x m 1471 [.ref 1005, .ref 0, .ref 73, .int (nI i)] []) → TL (L, xs) (mLn nm) 2000 x m 491 [.ref 1005, .ref 0, .ref 73, .int (nI i)] [] := by
    intro i x m h6 hJ E
    refine T_aload dL_law_491 rfl ?_
    refine T_aload dL_law_492 rfl ?_
    refine T_iload dL_law_493 rfl ?_
    refine T_const dL_law_494 ?_
    refine T_iadd dL_law_495 ?_
    refine T_ialdSN (a := 5) (N := L) (i := i + 1) dL_law_496 (by decide) rfl (nI_addk i 1) (by omega) (by omega) ?_
    refine T_aload dL_law_497 rfl ?_
    refine T_iload dL_law_498 rfl ?_
    refine T_const dL_law_499 ?_
    refine T_iadd dL_law_500 ?_
    refine T_ialdSN (a := 5) (N := L) (i := i + 2) dL_law_501 (by decide) rfl (nI_addk i 2) (by omega) (by omega) ?_
    refine T_aload dL_law_502 rfl ?_
    refine T_iload dL_law_503 rfl ?_
    refine T_const dL_law_504 ?_
    refine T_iadd dL_law_505 ?_
    refine T_ialdSN (a := 5) (N := L) (i := i + 3) dL_law_506 (by decide) rfl (nI_addk i 3) (by omega) (by omega) ?_
    obtain ⟨qx, qm, hx, hm, hJ⟩ := h_9 x m (roC (L, xs) 5 (i + 1)) (roC (L, xs) 5 (i + 2)) (roC (L, xs) 5 (i + 3)) hJ
    refine L_Vx (qX10_home _ _ hx) (Nat.le_of_ble_eq_true rfl) dL_law_507 lvL_55 rfl rfl ob0 (Nat.le_of_ble_eq_true rfl) ?_
    refine T_pop dL_law_510 rfl ?_
    refine T_aload dL_law_511 rfl ?_
    refine T_aload dL_law_512 rfl ?_
    refine T_iload dL_law_513 rfl ?_
    refine T_const dL_law_514 ?_
    refine T_iadd dL_law_515 ?_
    refine T_ialdSN (a := 5) (N := L) (i := i + 1) dL_law_516 (by decide) rfl (nI_addk i 1) (by omega) (by omega) ?_
    refine T_aload dL_law_517 rfl ?_
    refine T_iload dL_law_518 rfl ?_
    refine T_const dL_law_519 ?_
    refine T_iadd dL_law_520 ?_
    refine T_ialdSN (a := 5) (N := L) (i := i + 2) dL_law_521 (by decide) rfl (nI_addk i 2) (by omega) (by omega) ?_
    refine T_aload dL_law_522 rfl ?_
    refine T_iload dL_law_523 rfl ?_
    refine T_const dL_law_524 ?_
    refine T_iadd dL_law_525 ?_
    refine T_ialdSN (a := 5) (N := L) (i := i + 3) dL_law_526 (by decide) rfl (nI_addk i 3) (by omega) (by omega) ?_
    refine L_Vm (qX11_home _ _ hm) (Nat.le_of_ble_eq_true rfl) dL_law_527 lvL_58 rfl rfl ob73 (Nat.le_of_ble_eq_true rfl) ?_
    refine T_pop dL_law_530 rfl ?_
    refine T_goto dL_law_531 ?_
    exact E qx.2 qm.2 hJ
  have K_10 : ∀ (i : Nat) (x m : aH), i + 6 ≤ L → J x m → (∀ x m : aH, J x m → TL (L, xs) (mLn nm) 2000 x m 1471 [.ref 1005, .ref 0, .ref 73, .int (nI i)] []) → TL (L, xs) (mLn nm) 2000 x m 534 [.ref 1005, .ref 0, .ref 73, .int (nI i)] [] := by
    intro i x m h6 hJ E
    refine T_aload dL_law_534 rfl ?_
    refine T_aload dL_law_535 rfl ?_
    refine T_iload dL_law_536 rfl ?_
    refine T_const dL_law_537 ?_
    refine T_iadd dL_law_538 ?_
    refine T_ialdSN (a := 5) (N := L) (i := i + 1) dL_law_539 (by decide) rfl (nI_addk i 1) (by omega) (by omega) ?_
    refine T_aload dL_law_540 rfl ?_
    refine T_iload dL_law_541 rfl ?_
    refine T_const dL_law_542 ?_
    refine T_iadd dL_law_543 ?_
    refine T_ialdSN (a := 5) (N := L) (i := i + 2) dL_law_544 (by decide) rfl (nI_addk i 2) (by omega) (by omega) ?_
    obtain ⟨qx, qm, hx, hm, hJ⟩ := h_10 x m (roC (L, xs) 5 (i + 1)) (roC (L, xs) 5 (i + 2)) hJ
    refine L_Vx (qX10_since _ _ hx) (Nat.le_of_ble_eq_true rfl) dL_law_545 lvL_59 rfl rfl ob0 (Nat.le_of_ble_eq_true rfl) ?_
    refine T_pop dL_law_548 rfl ?_
    refine T_aload dL_law_549 rfl ?_
    refine T_aload dL_law_550 rfl ?_
    refine T_iload dL_law_551 rfl ?_
    refine T_const dL_law_552 ?_
    refine T_iadd dL_law_553 ?_
    refine T_ialdSN (a := 5) (N := L) (i := i + 1) dL_law_554 (by decide) rfl (nI_addk i 1) (by omega) (by omega) ?_
    refine T_aload dL_law_555 rfl ?_
    refine T_iload dL_law_556 rfl ?_
    refine T_const dL_law_557 ?_
    refine T_iadd dL_law_558 ?_
    refine T_ialdSN (a := 5) (N := L) (i := i + 2) dL_law_559 (by decide) rfl (nI_addk i 2) (by omega) (by omega) ?_
    refine L_Vm (qX11_since _ _ hm) (Nat.le_of_ble_eq_true rfl) dL_law_560 lvL_62 rfl rfl ob73 (Nat.le_of_ble_eq_true rfl) ?_
    refine T_pop dL_law_563 rfl ?_
    refine T_goto dL_law_564 ?_
    exact E qx.2 qm.2 hJ
  have K_11 : ∀ (i : Nat) (x m : aH), i + 6 ≤ L → J x m → (∀ x m : aH, J x m → TL (L, xs) (mLn nm) 2000 x m 1471 [.ref 1005, .ref 0, .ref 73, .int (nI i)] []) → TL (L, xs) (mLn nm) 2000 x m 567 [.ref 1005, .ref 0, .ref 73, .int (nI i)] [] := by
    intro i x m h6 hJ E
    refine T_aload dL_law_567 rfl ?_
    refine T_aload dL_law_568 rfl ?_
    refine T_iload dL_law_569 rfl ?_
    refine T_const dL_law_570 ?_
    refine T_iadd dL_law_571 ?_
    refine T_ialdSN (a := 5) (N := L) (i := i + 1) dL_law_572 (by decide) rfl (nI_addk i 1) (by omega) (by omega) ?_
    refine T_aload dL_law_573 rfl ?_
    refine T_iload dL_law_574 rfl ?_
    refine T_const dL_law_575 ?_
    refine T_iadd dL_law_576 ?_
    refine T_ialdSN (a := 5) (N := L) (i := i + 2) dL_law_577 (by decide) rfl (nI_addk i 2) (by omega) (by omega) ?_
    obtain ⟨qx, qm, hx, hm, hJ⟩ := h_11 x m (roC (L, xs) 5 (i + 1)) (roC (L, xs) 5 (i + 2)) hJ
    refine L_Vx (qX10_best _ _ hx) (Nat.le_of_ble_eq_true rfl) dL_law_578 lvL_63 rfl rfl ob0 (Nat.le_of_ble_eq_true rfl) ?_
    refine T_pop dL_law_581 rfl ?_
    refine T_aload dL_law_582 rfl ?_
    refine T_aload dL_law_583 rfl ?_
    refine T_iload dL_law_584 rfl ?_
    refine T_const dL_law_585 ?_
    refine T_iadd dL_law_586 ?_
    refine T_ialdSN (a := 5) (N := L) (i := i + 1) dL_law_587 (by decide) rfl (nI_addk i 1) (by omega) (by omega) ?_
    refine T_aload dL_law_588 rfl ?_
    refine T_iload dL_law_589 rfl ?_
    refine T_const dL_law_590 ?_
    refine T_iadd dL_law_591 ?_
    refine T_ialdSN (a := 5) (N := L) (i := i + 2) dL_law_592 (by decide) rfl (nI_addk i 2) (by omega) (by omega) ?_
    refine L_Vm (qX11_best _ _ hm) (Nat.le_of_ble_eq_true rfl) dL_law_593 lvL_66 rfl rfl ob73 (Nat.le_of_ble_eq_true rfl) ?_
    refine T_pop dL_law_596 rfl ?_
    refine T_goto dL_law_597 ?_
    exact E qx.2 qm.2 hJ
  have K_12 : ∀ (i : Nat) (x m : aH), i + 6 ≤ L → J x m → (∀ x m : aH, J x m → TL (L, xs) (mLn nm) 2000 x m 1471 [.ref 1005, .ref 0, .ref 73, .int (nI i)] []) → TL (L, xs) (mLn nm) 2000 x m 600 [.ref 1005, .ref 0, .ref 73, .int (nI i)] [] := by
    intro i x m h6 hJ E
    refine T_aload dL_law_600 rfl ?_
    refine T_aload dL_law_601 rfl ?_
    refine T_iload dL_law_602 rfl ?_
    refine T_const dL_law_603 ?_
    refine T_iadd dL_law_604 ?_
    refine T_ialdSN (a := 5) (N := L) (i := i + 1) dL_law_605 (by decide) rfl (nI_addk i 1) (by omega) (by omega) ?_
    refine T_aload dL_law_606 rfl ?_
    refine T_iload dL_law_607 rfl ?_
    refine T_const dL_law_608 ?_
    refine T_iadd dL_law_609 ?_
    refine T_ialdSN (a := 5) (N := L) (i := i + 2) dL_law_610 (by decide) rfl (nI_addk i 2) (by omega) (by omega) ?_
    obtain ⟨qx, qm, hx, hm, hJ⟩ := h_12 x m (roC (L, xs) 5 (i + 1)) (roC (L, xs) 5 (i + 2)) hJ
    refine L_Vx (qX10_fetch _ _ hx) (Nat.le_of_ble_eq_true rfl) dL_law_611 lvL_67 rfl rfl ob0 (Nat.le_of_ble_eq_true rfl) ?_
    refine T_pop dL_law_614 rfl ?_
    refine T_aload dL_law_615 rfl ?_
    refine T_aload dL_law_616 rfl ?_
    refine T_iload dL_law_617 rfl ?_
    refine T_const dL_law_618 ?_
    refine T_iadd dL_law_619 ?_
    refine T_ialdSN (a := 5) (N := L) (i := i + 1) dL_law_620 (by decide) rfl (nI_addk i 1) (by omega) (by omega) ?_
    refine T_aload dL_law_621 rfl ?_
    refine T_iload dL_law_622 rfl ?_
    refine T_const dL_law_623 ?_
    refine T_iadd dL_law_624 ?_
    refine T_ialdSN (a := 5) (N := L) (i := i + 2) dL_law_625 (by decide) rfl (nI_addk i 2) (by omega) (by omega) ?_
    refine L_Vm (qX11_fetch _ _ hm) (Nat.le_of_ble_eq_true rfl) dL_law_626 lvL_70 rfl rfl ob73 (Nat.le_of_ble_eq_true rfl) ?_
    refine T_pop dL_law_629 rfl ?_
    refine T_goto dL_law_630 ?_
    exact E qx.2 qm.2 hJ
  have K_13 : ∀ (i : Nat) (x m : aH), i + 6 ≤ L → J x m → (∀ x m : aH, J x m → TL (L, xs) (mLn nm) 2000 x m 1471 [.ref 1005, .ref 0, .ref 73, .int (nI i)] []) → TL (L, xs) (mLn nm) 2000 x m 633 [.ref 1005, .ref 0, .ref 73, .int (nI i)] [] := by
    intro i x m h6 hJ E
    refine T_aload dL_law_633 rfl ?_
    refine T_aload dL_law_634 rfl ?_
    refine T_iload dL_law_635 rfl ?_
    refine T_const dL_law_636 ?_
    refine T_iadd dL_law_637 ?_
    refine T_ialdSN (a := 5) (N := L) (i := i + 1) dL_law_638 (by decide) rfl (nI_addk i 1) (by omega) (by omega) ?_
    refine T_aload dL_law_639 rfl ?_
    refine T_iload dL_law_640 rfl ?_
    refine T_const dL_law_641 ?_
    refine T_iadd dL_law_642 ?_
    refine T_ialdSN (a := 5) (N := L) (i := i + 2) dL_law_643 (by decide) rfl (nI_addk i 2) (by omega) (by omega) ?_
    obtain ⟨qx, qm, hx, hm, hJ⟩ := h_13 x m (roC (L, xs) 5 (i + 1)) (roC (L, xs) 5 (i + 2)) hJ
    refine L_Vx (qX10_drifted _ _ hx) (Nat.le_of_ble_eq_true rfl) dL_law_644 lvL_71 rfl rfl ob0 (Nat.le_of_ble_eq_true rfl) ?_
    refine T_pop2 dL_law_647 rfl ?_
    refine T_aload dL_law_648 rfl ?_
    refine T_aload dL_law_649 rfl ?_
    refine T_iload dL_law_650 rfl ?_
    refine T_const dL_law_651 ?_
    refine T_iadd dL_law_652 ?_
    refine T_ialdSN (a := 5) (N := L) (i := i + 1) dL_law_653 (by decide) rfl (nI_addk i 1) (by omega) (by omega) ?_
    refine T_aload dL_law_654 rfl ?_
    refine T_iload dL_law_655 rfl ?_
    refine T_const dL_law_656 ?_
    refine T_iadd dL_law_657 ?_
    refine T_ialdSN (a := 5) (N := L) (i := i + 2) dL_law_658 (by decide) rfl (nI_addk i 2) (by omega) (by omega) ?_
    refine L_Vm (qX11_drifted _ _ hm) (Nat.le_of_ble_eq_true rfl) dL_law_659 lvL_75 rfl rfl ob73 (Nat.le_of_ble_eq_true rfl) ?_
    refine T_pop2 dL_law_662 rfl ?_
    refine T_goto dL_law_663 ?_
    exact E x m hJ
  have K_14 : ∀ (i : Nat) (x m : aH), i + 6 ≤ L → J x m → (∀ x m : aH, J x m → TL (L, xs) (mLn nm) 2000 x m 1471 [.ref 1005, .ref 0, .ref 73, .int (nI i)] []) → TL (L, xs) (mLn nm) 2000 x m 666 [.ref 1005, .ref 0, .ref 73, .int (nI i)] [] := by
    intro i x m h6 hJ E
    refine T_aload dL_law_666 rfl ?_
    refine T_aload dL_law_667 rfl ?_
    refine T_iload dL_law_668 rfl ?_
    refine T_const dL_law_669 ?_
    refine T_iadd dL_law_670 ?_
    refine T_ialdSN (a := 5) (N := L) (i := i + 1) dL_law_671 (by decide) rfl (nI_addk i 1) (by omega) (by omega) ?_
    refine T_aload dL_law_672 rfl ?_
    refine T_iload dL_law_673 rfl ?_
    refine T_const dL_law_674 ?_
    refine T_iadd dL_law_675 ?_
    refine T_ialdSN (a := 5) (N := L) (i := i + 2) dL_law_676 (by decide) rfl (nI_addk i 2) (by omega) (by omega) ?_
    refine T_aload dL_law_677 rfl ?_
    refine T_iload dL_law_678 rfl ?_
    refine T_const dL_law_679 ?_
    refine T_iadd dL_law_680 ?_
    refine T_ialdSN (a := 5) (N := L) (i := i + 3) dL_law_681 (by decide) rfl (nI_addk i 3) (by omega) (by omega) ?_
    obtain ⟨qx, qm, hx, hm, hJ⟩ := h_14 x m (roC (L, xs) 5 (i + 1)) (roC (L, xs) 5 (i + 2)) (roC (L, xs) 5 (i + 3)) hJ
    refine L_Vx (qX10_ashore _ _ hx) (Nat.le_of_ble_eq_true rfl) dL_law_682 lvL_76 rfl rfl ob0 (Nat.le_of_ble_eq_true rfl) ?_
    refine T_pop dL_law_685 rfl ?_
    refine T_aload dL_law_686 rfl ?_
    refine T_aload dL_law_687 rfl ?_
    refine T_iload dL_law_688 rfl ?_
    refine T_const dL_law_689 ?_
    refine T_iadd dL_law_690 ?_
    refine T_ialdSN (a := 5) (N := L) (i := i + 1) dL_law_691 (by decide) rfl (nI_addk i 1) (by omega) (by omega) ?_
    refine T_aload dL_law_692 rfl ?_
    refine T_iload dL_law_693 rfl ?_
    refine T_const dL_law_694 ?_
    refine T_iadd dL_law_695 ?_
    refine T_ialdSN (a := 5) (N := L) (i := i + 2) dL_law_696 (by decide) rfl (nI_addk i 2) (by omega) (by omega) ?_
    refine T_aload dL_law_697 rfl ?_
    refine T_iload dL_law_698 rfl ?_
    refine T_const dL_law_699 ?_
    refine T_iadd dL_law_700 ?_
    refine T_ialdSN (a := 5) (N := L) (i := i + 3) dL_law_701 (by decide) rfl (nI_addk i 3) (by omega) (by omega) ?_
    refine L_Vm (qX11_ashore _ _ hm) (Nat.le_of_ble_eq_true rfl) dL_law_702 lvL_79 rfl rfl ob73 (Nat.le_of_ble_eq_true rfl) ?_
    refine T_pop dL_law_705 rfl ?_
    refine T_goto dL_law_706 ?_
    exact E x m hJ
  have K_15 : ∀ (i : Nat) (x m : aH), i + 6 ≤ L → J x m → (∀ x m : aH, J x m → TL (L, xs) (mLn nm) 2000 x m 1471 [.ref 1005, .ref 0, .ref 73, .int (nI i)] []) → TL (L, xs) (mLn nm) 2000 x m 709 [.ref 1005, .ref 0, .ref 73, .int (nI i)] [] := by
    intro i x m h6 hJ E
    refine T_aload dL_law_709 rfl ?_
    refine T_aload dL_law_710 rfl ?_
    refine T_iload dL_law_711 rfl ?_
    refine T_const dL_law_712 ?_
    refine T_iadd dL_law_713 ?_
    refine T_ialdSN (a := 5) (N := L) (i := i + 1) dL_law_714 (by decide) rfl (nI_addk i 1) (by omega) (by omega) ?_
    refine T_aload dL_law_715 rfl ?_
    refine T_iload dL_law_716 rfl ?_
    refine T_const dL_law_717 ?_
    refine T_iadd dL_law_718 ?_
    refine T_ialdSN (a := 5) (N := L) (i := i + 2) dL_law_719 (by decide) rfl (nI_addk i 2) (by omega) (by omega) ?_
    obtain ⟨qx, qm, hx, hm, hJ⟩ := h_15 x m (roC (L, xs) 5 (i + 1)) (roC (L, xs) 5 (i + 2)) hJ
    refine L_Vx (qX10_order _ _ hx) (Nat.le_of_ble_eq_true rfl) dL_law_720 lvL_80 rfl rfl ob0 (Nat.le_of_ble_eq_true rfl) ?_
    refine T_pop dL_law_723 rfl ?_
    refine T_aload dL_law_724 rfl ?_
    refine T_aload dL_law_725 rfl ?_
    refine T_iload dL_law_726 rfl ?_
    refine T_const dL_law_727 ?_
    refine T_iadd dL_law_728 ?_
    refine T_ialdSN (a := 5) (N := L) (i := i + 1) dL_law_729 (by decide) rfl (nI_addk i 1) (by omega) (by omega) ?_
    refine T_aload dL_law_730 rfl ?_
    refine T_iload dL_law_731 rfl ?_
    refine T_const dL_law_732 ?_
    refine T_iadd dL_law_733 ?_
    refine T_ialdSN (a := 5) (N := L) (i := i + 2) dL_law_734 (by decide) rfl (nI_addk i 2) (by omega) (by omega) ?_
    refine L_Vm (qX11_order _ _ hm) (Nat.le_of_ble_eq_true rfl) dL_law_735 lvL_83 rfl rfl ob73 (Nat.le_of_ble_eq_true rfl) ?_
    refine T_pop dL_law_738 rfl ?_
    refine T_goto dL_law_739 ?_
    exact E qx.2 qm.2 hJ
  have K_16 : ∀ (i : Nat) (x m : aH), i + 6 ≤ L → J x m → (∀ x m : aH, J x m → TL (L, xs) (mLn nm) 2000 x m 1471 [.ref 1005, .ref 0, .ref 73, .int (nI i)] []) → TL (L, xs) (mLn nm) 2000 x m 742 [.ref 1005, .ref 0, .ref 73, .int (nI i)] [] := by
    intro i x m h6 hJ E
    refine T_aload dL_law_742 rfl ?_
    refine T_aload dL_law_743 rfl ?_
    refine T_iload dL_law_744 rfl ?_
    refine T_const dL_law_745 ?_
    refine T_iadd dL_law_746 ?_
    refine T_ialdSN (a := 5) (N := L) (i := i + 1) dL_law_747 (by decide) rfl (nI_addk i 1) (by omega) (by omega) ?_
    refine T_aload dL_law_748 rfl ?_
    refine T_iload dL_law_749 rfl ?_
    refine T_const dL_law_750 ?_
    refine T_iadd dL_law_751 ?_
    refine T_ialdSN (a := 5) (N := L) (i := i + 2) dL_law_752 (by decide) rfl (nI_addk i 2) (by omega) (by omega) ?_
    obtain ⟨qx, qm, hx, hm, hJ⟩ := h_16 x m (roC (L, xs) 5 (i + 1)) (roC (L, xs) 5 (i + 2)) hJ
    refine L_Vx (qX10_clash _ _ hx) (Nat.le_of_ble_eq_true rfl) dL_law_753 lvL_84 rfl rfl ob0 (Nat.le_of_ble_eq_true rfl) ?_
    refine T_pop dL_law_756 rfl ?_
    refine T_aload dL_law_757 rfl ?_
    refine T_aload dL_law_758 rfl ?_
    refine T_iload dL_law_759 rfl ?_
    refine T_const dL_law_760 ?_
    refine T_iadd dL_law_761 ?_
    refine T_ialdSN (a := 5) (N := L) (i := i + 1) dL_law_762 (by decide) rfl (nI_addk i 1) (by omega) (by omega) ?_
    refine T_aload dL_law_763 rfl ?_
    refine T_iload dL_law_764 rfl ?_
    refine T_const dL_law_765 ?_
    refine T_iadd dL_law_766 ?_
    refine T_ialdSN (a := 5) (N := L) (i := i + 2) dL_law_767 (by decide) rfl (nI_addk i 2) (by omega) (by omega) ?_
    refine L_Vm (qX11_clash _ _ hm) (Nat.le_of_ble_eq_true rfl) dL_law_768 lvL_87 rfl rfl ob73 (Nat.le_of_ble_eq_true rfl) ?_
    refine T_pop dL_law_771 rfl ?_
    refine T_goto dL_law_772 ?_
    exact E qx.2 qm.2 hJ
  have K_17 : ∀ (i : Nat) (x m : aH), i + 6 ≤ L → J x m → (∀ x m : aH, J x m → TL (L, xs) (mLn nm) 2000 x m 1471 [.ref 1005, .ref 0, .ref 73, .int (nI i)] []) → TL (L, xs) (mLn nm) 2000 x m 775 [.ref 1005, .ref 0, .ref 73, .int (nI i)] [] := by
    intro i x m h6 hJ E
    refine T_aload dL_law_775 rfl ?_
    refine T_aload dL_law_776 rfl ?_
    refine T_iload dL_law_777 rfl ?_
    refine T_const dL_law_778 ?_
    refine T_iadd dL_law_779 ?_
    refine T_ialdSN (a := 5) (N := L) (i := i + 1) dL_law_780 (by decide) rfl (nI_addk i 1) (by omega) (by omega) ?_
    refine T_aload dL_law_781 rfl ?_
    refine T_iload dL_law_782 rfl ?_
    refine T_const dL_law_783 ?_
    refine T_iadd dL_law_784 ?_
    refine T_ialdSN (a := 5) (N := L) (i := i + 2) dL_law_785 (by decide) rfl (nI_addk i 2) (by omega) (by omega) ?_
    obtain ⟨qx, qm, hx, hm, hJ⟩ := h_17 x m (roC (L, xs) 5 (i + 1)) (roC (L, xs) 5 (i + 2)) hJ
    refine L_Vx (qX10_may _ _ hx) (Nat.le_of_ble_eq_true rfl) dL_law_786 lvL_88 rfl rfl ob0 (Nat.le_of_ble_eq_true rfl) ?_
    refine T_pop dL_law_789 rfl ?_
    refine T_aload dL_law_790 rfl ?_
    refine T_aload dL_law_791 rfl ?_
    refine T_iload dL_law_792 rfl ?_
    refine T_const dL_law_793 ?_
    refine T_iadd dL_law_794 ?_
    refine T_ialdSN (a := 5) (N := L) (i := i + 1) dL_law_795 (by decide) rfl (nI_addk i 1) (by omega) (by omega) ?_
    refine T_aload dL_law_796 rfl ?_
    refine T_iload dL_law_797 rfl ?_
    refine T_const dL_law_798 ?_
    refine T_iadd dL_law_799 ?_
    refine T_ialdSN (a := 5) (N := L) (i := i + 2) dL_law_800 (by decide) rfl (nI_addk i 2) (by omega) (by omega) ?_
    refine L_Vm (qX11_may _ _ hm) (Nat.le_of_ble_eq_true rfl) dL_law_801 lvL_91 rfl rfl ob73 (Nat.le_of_ble_eq_true rfl) ?_
    refine T_pop dL_law_804 rfl ?_
    refine T_goto dL_law_805 ?_
    exact E qx.2 qm.2 hJ
  have K_18 : ∀ (i : Nat) (x m : aH), i + 6 ≤ L → J x m → (∀ x m : aH, J x m → TL (L, xs) (mLn nm) 2000 x m 1471 [.ref 1005, .ref 0, .ref 73, .int (nI i)] []) → TL (L, xs) (mLn nm) 2000 x m 808 [.ref 1005, .ref 0, .ref 73, .int (nI i)] [] := by
    intro i x m h6 hJ E
    refine T_aload dL_law_808 rfl ?_
    refine T_aload dL_law_809 rfl ?_
    refine T_iload dL_law_810 rfl ?_
    refine T_const dL_law_811 ?_
    refine T_iadd dL_law_812 ?_
    refine T_ialdSN (a := 5) (N := L) (i := i + 1) dL_law_813 (by decide) rfl (nI_addk i 1) (by omega) (by omega) ?_
    refine T_aload dL_law_814 rfl ?_
    refine T_iload dL_law_815 rfl ?_
    refine T_const dL_law_816 ?_
    refine T_iadd dL_law_817 ?_
    refine T_ialdSN (a := 5) (N := L) (i := i + 2) dL_law_818 (by decide) rfl (nI_addk i 2) (by omega) (by omega) ?_
    obtain ⟨qx, qm, hx, hm, hJ⟩ := h_18 x m (roC (L, xs) 5 (i + 1)) (roC (L, xs) 5 (i + 2)) hJ
    refine L_Vx (qX10_share _ _ hx) (Nat.le_of_ble_eq_true rfl) dL_law_819 lvL_92 rfl rfl ob0 (Nat.le_of_ble_eq_true rfl) ?_
    refine T_pop dL_law_822 rfl ?_
    refine T_aload dL_law_823 rfl ?_
    refine T_aload dL_law_824 rfl ?_
    refine T_iload dL_law_825 rfl ?_
    refine T_const dL_law_826 ?_
    refine T_iadd dL_law_827 ?_
    refine T_ialdSN (a := 5) (N := L) (i := i + 1) dL_law_828 (by decide) rfl (nI_addk i 1) (by omega) (by omega) ?_
    refine T_aload dL_law_829 rfl ?_
    refine T_iload dL_law_830 rfl ?_
    refine T_const dL_law_831 ?_
    refine T_iadd dL_law_832 ?_
    refine T_ialdSN (a := 5) (N := L) (i := i + 2) dL_law_833 (by decide) rfl (nI_addk i 2) (by omega) (by omega) ?_
    refine L_Vm (qX11_share _ _ hm) (Nat.le_of_ble_eq_true rfl) dL_law_834 lvL_95 rfl rfl ob73 (Nat.le_of_ble_eq_true rfl) ?_
    refine T_pop dL_law_837 rfl ?_
    refine T_goto dL_law_838 ?_
    exact E x m hJ
  have K_19 : ∀ (i : Nat) (x m : aH), i + 6 ≤ L → J x m → (∀ x m : aH, J x m → TL (L, xs) (mLn nm) 2000 x m 1471 [.ref 1005, .ref 0, .ref 73, .int (nI i)] []) → TL (L, xs) (mLn nm) 2000 x m 841 [.ref 1005, .ref 0, .ref 73, .int (nI i)] [] := by
    intro i x m h6 hJ E
    refine T_aload dL_law_841 rfl ?_
    refine T_aload dL_law_842 rfl ?_
    refine T_iload dL_law_843 rfl ?_
    refine T_const dL_law_844 ?_
    refine T_iadd dL_law_845 ?_
    refine T_ialdSN (a := 5) (N := L) (i := i + 1) dL_law_846 (by decide) rfl (nI_addk i 1) (by omega) (by omega) ?_
    refine T_aload dL_law_847 rfl ?_
    refine T_iload dL_law_848 rfl ?_
    refine T_const dL_law_849 ?_
    refine T_iadd dL_law_850 ?_
    refine T_ialdSN (a := 5) (N := L) (i := i + 2) dL_law_851 (by decide) rfl (nI_addk i 2) (by omega) (by omega) ?_
    obtain ⟨qx, qm, hx, hm, hJ⟩ := h_19 x m (roC (L, xs) 5 (i + 1)) (roC (L, xs) 5 (i + 2)) hJ
    refine L_Vx (qX10_heard _ _ hx) (Nat.le_of_ble_eq_true rfl) dL_law_852 lvL_96 rfl rfl ob0 (Nat.le_of_ble_eq_true rfl) ?_
    refine T_pop2 dL_law_855 rfl ?_
    refine T_aload dL_law_856 rfl ?_
    refine T_aload dL_law_857 rfl ?_
    refine T_iload dL_law_858 rfl ?_
    refine T_const dL_law_859 ?_
    refine T_iadd dL_law_860 ?_
    refine T_ialdSN (a := 5) (N := L) (i := i + 1) dL_law_861 (by decide) rfl (nI_addk i 1) (by omega) (by omega) ?_
    refine T_aload dL_law_862 rfl ?_
    refine T_iload dL_law_863 rfl ?_
    refine T_const dL_law_864 ?_
    refine T_iadd dL_law_865 ?_
    refine T_ialdSN (a := 5) (N := L) (i := i + 2) dL_law_866 (by decide) rfl (nI_addk i 2) (by omega) (by omega) ?_
    refine L_Vm (qX11_heard _ _ hm) (Nat.le_of_ble_eq_true rfl) dL_law_867 lvL_99 rfl rfl ob73 (Nat.le_of_ble_eq_true rfl) ?_
    refine T_pop2 dL_law_870 rfl ?_
    refine T_goto dL_law_871 ?_
    exact E x m hJ
  have K_20 : ∀ (i : Nat) (x m : aH), i + 6 ≤ L → J x m → (∀ x m : aH, J x m → TL (L, xs) (mLn nm) 2000 x m 1471 [.ref 1005, .ref 0, .ref 73, .int (nI i)] []) → TL (L, xs) (mLn nm) 2000 x m 874 [.ref 1005, .ref 0, .ref 73, .int (nI i)] [] := by
    intro i x m h6 hJ E
    refine T_aload dL_law_874 rfl ?_
    refine T_aload dL_law_875 rfl ?_
    refine T_iload dL_law_876 rfl ?_
    refine T_const dL_law_877 ?_
    refine T_iadd dL_law_878 ?_
    refine T_ialdSN (a := 5) (N := L) (i := i + 1) dL_law_879 (by decide) rfl (nI_addk i 1) (by omega) (by omega) ?_
    refine T_aload dL_law_880 rfl ?_
    refine T_iload dL_law_881 rfl ?_
    refine T_const dL_law_882 ?_
    refine T_iadd dL_law_883 ?_
    refine T_ialdSN (a := 5) (N := L) (i := i + 2) dL_law_884 (by decide) rfl (nI_addk i 2) (by omega) (by omega) ?_
    refine T_aload dL_law_885 rfl ?_
    refine T_iload dL_law_886 rfl ?_
    refine T_const dL_law_887 ?_
    refine T_iadd dL_law_888 ?_
    refine T_ialdSN (a := 5) (N := L) (i := i + 3) dL_law_889 (by decide) rfl (nI_addk i 3) (by omega) (by omega) ?_
    obtain ⟨qx, qm, hx, hm, hJ⟩ := h_20 x m (roC (L, xs) 5 (i + 1)) (roC (L, xs) 5 (i + 2)) (roC (L, xs) 5 (i + 3)) hJ
    refine L_Vx (qX10_byTurns _ _ hx) (Nat.le_of_ble_eq_true rfl) dL_law_890 lvL_100 rfl rfl ob0 (Nat.le_of_ble_eq_true rfl) ?_
    refine T_pop dL_law_893 rfl ?_
    refine T_aload dL_law_894 rfl ?_
    refine T_aload dL_law_895 rfl ?_
    refine T_iload dL_law_896 rfl ?_
    refine T_const dL_law_897 ?_
    refine T_iadd dL_law_898 ?_
    refine T_ialdSN (a := 5) (N := L) (i := i + 1) dL_law_899 (by decide) rfl (nI_addk i 1) (by omega) (by omega) ?_
    refine T_aload dL_law_900 rfl ?_
    refine T_iload dL_law_901 rfl ?_
    refine T_const dL_law_902 ?_
    refine T_iadd dL_law_903 ?_
    refine T_ialdSN (a := 5) (N := L) (i := i + 2) dL_law_904 (by decide) rfl (nI_addk i 2) (by omega) (by omega) ?_
    refine T_aload dL_law_905 rfl ?_
    refine T_iload dL_law_906 rfl ?_
    refine T_const dL_law_907 ?_
    refine T_iadd dL_law_908 ?_
    refine T_ialdSN (a := 5) (N := L) (i := i + 3) dL_law_909 (by decide) rfl (nI_addk i 3) (by omega) (by omega) ?_
    refine L_Vm (qX11_byTurns _ _ hm) (Nat.le_of_ble_eq_true rfl) dL_law_910 lvL_103 rfl rfl ob73 (Nat.le_of_ble_eq_true rfl) ?_
    refine T_pop dL_law_913 rfl ?_
    refine T_goto dL_law_914 ?_
    exact E qx.2 qm.2 hJ
  have K_21 : ∀ (i : Nat) (x m : aH), i + 6 ≤ L → J x m → (∀ x m : aH, J x m → TL (L, xs) (mLn nm) 2000 x m 1471 [.ref 1005, .ref 0, .ref 73, .int (nI i)] []) → TL (L, xs) (mLn nm) 2000 x m 917 [.ref 1005, .ref 0, .ref 73, .int (nI i)] [] := by
    intro i x m h6 hJ E
    refine T_aload dL_law_917 rfl ?_
    refine T_aload dL_law_918 rfl ?_
    refine T_iload dL_law_919 rfl ?_
    refine T_const dL_law_920 ?_
    refine T_iadd dL_law_921 ?_
    refine T_ialdSN (a := 5) (N := L) (i := i + 1) dL_law_922 (by decide) rfl (nI_addk i 1) (by omega) (by omega) ?_
    refine T_aload dL_law_923 rfl ?_
    refine T_iload dL_law_924 rfl ?_
    refine T_const dL_law_925 ?_
    refine T_iadd dL_law_926 ?_
    refine T_ialdSN (a := 5) (N := L) (i := i + 2) dL_law_927 (by decide) rfl (nI_addk i 2) (by omega) (by omega) ?_
    refine T_aload dL_law_928 rfl ?_
    refine T_iload dL_law_929 rfl ?_
    refine T_const dL_law_930 ?_
    refine T_iadd dL_law_931 ?_
    refine T_ialdSN (a := 5) (N := L) (i := i + 3) dL_law_932 (by decide) rfl (nI_addk i 3) (by omega) (by omega) ?_
    obtain ⟨qx, qm, hx, hm, hJ⟩ := h_21 x m (roC (L, xs) 5 (i + 1)) (roC (L, xs) 5 (i + 2)) (roC (L, xs) 5 (i + 3)) hJ
    refine L_Vx (qX10_drawn _ _ hx) (Nat.le_of_ble_eq_true rfl) dL_law_933 lvL_104 rfl rfl ob0 (Nat.le_of_ble_eq_true rfl) ?_
    refine T_pop dL_law_936 rfl ?_
    refine T_aload dL_law_937 rfl ?_
    refine T_aload dL_law_938 rfl ?_
    refine T_iload dL_law_939 rfl ?_
    refine T_const dL_law_940 ?_
    refine T_iadd dL_law_941 ?_
    refine T_ialdSN (a := 5) (N := L) (i := i + 1) dL_law_942 (by decide) rfl (nI_addk i 1) (by omega) (by omega) ?_
    refine T_aload dL_law_943 rfl ?_
    refine T_iload dL_law_944 rfl ?_
    refine T_const dL_law_945 ?_
    refine T_iadd dL_law_946 ?_
    refine T_ialdSN (a := 5) (N := L) (i := i + 2) dL_law_947 (by decide) rfl (nI_addk i 2) (by omega) (by omega) ?_
    refine T_aload dL_law_948 rfl ?_
    refine T_iload dL_law_949 rfl ?_
    refine T_const dL_law_950 ?_
    refine T_iadd dL_law_951 ?_
    refine T_ialdSN (a := 5) (N := L) (i := i + 3) dL_law_952 (by decide) rfl (nI_addk i 3) (by omega) (by omega) ?_
    refine L_Vm (qX11_drawn _ _ hm) (Nat.le_of_ble_eq_true rfl) dL_law_953 lvL_107 rfl rfl ob73 (Nat.le_of_ble_eq_true rfl) ?_
    refine T_pop dL_law_956 rfl ?_
    refine T_goto dL_law_957 ?_
    exact E qx.2 qm.2 hJ
  have K_22 : ∀ (i : Nat) (x m : aH), i + 6 ≤ L → J x m → (∀ x m : aH, J x m → TL (L, xs) (mLn nm) 2000 x m 1471 [.ref 1005, .ref 0, .ref 73, .int (nI i)] []) → TL (L, xs) (mLn nm) 2000 x m 960 [.ref 1005, .ref 0, .ref 73, .int (nI i)] [] := by
    intro i x m h6 hJ E
    refine T_aload dL_law_960 rfl ?_
    refine T_aload dL_law_961 rfl ?_
    refine T_iload dL_law_962 rfl ?_
    refine T_const dL_law_963 ?_
    refine T_iadd dL_law_964 ?_
    refine T_ialdSN (a := 5) (N := L) (i := i + 1) dL_law_965 (by decide) rfl (nI_addk i 1) (by omega) (by omega) ?_
    obtain ⟨qx, qm, hx, hm, hJ⟩ := h_22 x m (roC (L, xs) 5 (i + 1)) hJ
    refine L_Vx (qX10_night _ _ hx) (Nat.le_of_ble_eq_true rfl) dL_law_966 lvL_108 rfl rfl ob0 (Nat.le_of_ble_eq_true rfl) ?_
    refine T_pop dL_law_969 rfl ?_
    refine T_aload dL_law_970 rfl ?_
    refine T_aload dL_law_971 rfl ?_
    refine T_iload dL_law_972 rfl ?_
    refine T_const dL_law_973 ?_
    refine T_iadd dL_law_974 ?_
    refine T_ialdSN (a := 5) (N := L) (i := i + 1) dL_law_975 (by decide) rfl (nI_addk i 1) (by omega) (by omega) ?_
    refine L_Vm (qX11_night _ _ hm) (Nat.le_of_ble_eq_true rfl) dL_law_976 lvL_111 rfl rfl ob73 (Nat.le_of_ble_eq_true rfl) ?_
    refine T_pop dL_law_979 rfl ?_
    refine T_goto dL_law_980 ?_
    exact E qx.2 qm.2 hJ
  have K_23 : ∀ (i : Nat) (x m : aH), i + 6 ≤ L → J x m → (∀ x m : aH, J x m → TL (L, xs) (mLn nm) 2000 x m 1471 [.ref 1005, .ref 0, .ref 73, .int (nI i)] []) → TL (L, xs) (mLn nm) 2000 x m 983 [.ref 1005, .ref 0, .ref 73, .int (nI i)] [] := by
    intro i x m h6 hJ E
    refine T_aload dL_law_983 rfl ?_
    refine T_aload dL_law_984 rfl ?_
    refine T_iload dL_law_985 rfl ?_
    refine T_const dL_law_986 ?_
    refine T_iadd dL_law_987 ?_
    refine T_ialdSN (a := 5) (N := L) (i := i + 1) dL_law_988 (by decide) rfl (nI_addk i 1) (by omega) (by omega) ?_
    obtain ⟨qx, qm, hx, hm, hJ⟩ := h_23 x m (roC (L, xs) 5 (i + 1)) hJ
    refine L_Vx (qX10_oil _ _ hx) (Nat.le_of_ble_eq_true rfl) dL_law_989 lvL_112 rfl rfl ob0 (Nat.le_of_ble_eq_true rfl) ?_
    refine T_pop dL_law_992 rfl ?_
    refine T_aload dL_law_993 rfl ?_
    refine T_aload dL_law_994 rfl ?_
    refine T_iload dL_law_995 rfl ?_
    refine T_const dL_law_996 ?_
    refine T_iadd dL_law_997 ?_
    refine T_ialdSN (a := 5) (N := L) (i := i + 1) dL_law_998 (by decide) rfl (nI_addk i 1) (by omega) (by omega) ?_
    refine L_Vm (qX11_oil _ _ hm) (Nat.le_of_ble_eq_true rfl) dL_law_999 lvL_115 rfl rfl ob73 (Nat.le_of_ble_eq_true rfl) ?_
    refine T_pop dL_law_1002 rfl ?_
    refine T_goto dL_law_1003 ?_
    exact E qx.2 qm.2 hJ
  have K_24 : ∀ (i : Nat) (x m : aH), i + 6 ≤ L → J x m → (∀ x m : aH, J x m → TL (L, xs) (mLn nm) 2000 x m 1471 [.ref 1005, .ref 0, .ref 73, .int (nI i)] []) → TL (L, xs) (mLn nm) 2000 x m 1006 [.ref 1005, .ref 0, .ref 73, .int (nI i)] [] := by
    intro i x m h6 hJ E
    refine T_aload dL_law_1006 rfl ?_
    refine T_aload dL_law_1007 rfl ?_
    refine T_iload dL_law_1008 rfl ?_
    refine T_const dL_law_1009 ?_
    refine T_iadd dL_law_1010 ?_
    refine T_ialdSN (a := 5) (N := L) (i := i + 1) dL_law_1011 (by decide) rfl (nI_addk i 1) (by omega) (by omega) ?_
    obtain ⟨qx, qm, hx, hm, hJ⟩ := h_24 x m (roC (L, xs) 5 (i + 1)) hJ
    refine L_Vx (qX10_led _ _ hx) (Nat.le_of_ble_eq_true rfl) dL_law_1012 lvL_116 rfl rfl ob0 (Nat.le_of_ble_eq_true rfl) ?_
    refine T_pop dL_law_1015 rfl ?_
    refine T_aload dL_law_1016 rfl ?_
    refine T_aload dL_law_1017 rfl ?_
    refine T_iload dL_law_1018 rfl ?_
    refine T_const dL_law_1019 ?_
    refine T_iadd dL_law_1020 ?_
    refine T_ialdSN (a := 5) (N := L) (i := i + 1) dL_law_1021 (by decide) rfl (nI_addk i 1) (by omega) (by omega) ?_
    refine L_Vm (qX11_led _ _ hm) (Nat.le_of_ble_eq_true rfl) dL_law_1022 lvL_119 rfl rfl ob73 (Nat.le_of_ble_eq_true rfl) ?_
    refine T_pop dL_law_1025 rfl ?_
    refine T_goto dL_law_1026 ?_
    exact E x m hJ
  have K_25 : ∀ (i : Nat) (x m : aH), i + 6 ≤ L → J x m → (∀ x m : aH, J x m → TL (L, xs) (mLn nm) 2000 x m 1471 [.ref 1005, .ref 0, .ref 73, .int (nI i)] []) → TL (L, xs) (mLn nm) 2000 x m 1029 [.ref 1005, .ref 0, .ref 73, .int (nI i)] [] := by
    intro i x m h6 hJ E
    refine T_aload dL_law_1029 rfl ?_
    obtain ⟨qx, qm, hx, hm, hJ⟩ := h_25 x m hJ
    refine L_Vx (qX10_image _ _ hx) (Nat.le_of_ble_eq_true rfl) dL_law_1030 lvL_120 rfl rfl ob0 (Nat.le_of_ble_eq_true rfl) ?_
    refine T_pop dL_law_1033 rfl ?_
    refine T_aload dL_law_1034 rfl ?_
    refine L_Vm (qX11_image _ _ hm) (Nat.le_of_ble_eq_true rfl) dL_law_1035 lvL_123 rfl rfl ob73 (Nat.le_of_ble_eq_true rfl) ?_
    refine T_pop dL_law_1038 rfl ?_
    refine T_goto dL_law_1039 ?_
    exact E qx.2 qm.2 hJ
  have K_26 : ∀ (i : Nat) (x m : aH), i + 6 ≤ L → J x m → (∀ x m : aH, J x m → TL (L, xs) (mLn nm) 2000 x m 1471 [.ref 1005, .ref 0, .ref 73, .int (nI i)] []) → TL (L, xs) (mLn nm) 2000 x m 1042 [.ref 1005, .ref 0, .ref 73, .int (nI i)] [] := by
    intro i x m h6 hJ E
    refine T_aload dL_law_1042 rfl ?_
    obtain ⟨qx, qm, hx, hm, hJ⟩ := h_26 x m hJ
    refine L_Vx (qX10_back _ _ hx) (Nat.le_of_ble_eq_true rfl) dL_law_1043 lvL_124 rfl rfl ob0 (Nat.le_of_ble_eq_true rfl) ?_
    refine T_pop dL_law_1046 rfl ?_
    refine T_aload dL_law_1047 rfl ?_
    refine L_Vm (qX11_back _ _ hm) (Nat.le_of_ble_eq_true rfl) dL_law_1048 lvL_127 rfl rfl ob73 (Nat.le_of_ble_eq_true rfl) ?_
    refine T_pop dL_law_1051 rfl ?_
    refine T_goto dL_law_1052 ?_
    exact E qx.2 qm.2 hJ
  have K_27 : ∀ (i : Nat) (x m : aH), i + 6 ≤ L → J x m → (∀ x m : aH, J x m → TL (L, xs) (mLn nm) 2000 x m 1471 [.ref 1005, .ref 0, .ref 73, .int (nI i)] []) → TL (L, xs) (mLn nm) 2000 x m 1055 [.ref 1005, .ref 0, .ref 73, .int (nI i)] [] := by
    intro i x m h6 hJ E
    refine T_aload dL_law_1055 rfl ?_
    obtain ⟨qx, qm, hx, hm, hJ⟩ := h_27 x m hJ
    refine L_Vx (qX10_undo _ _ hx) (Nat.le_of_ble_eq_true rfl) dL_law_1056 lvL_128 rfl rfl ob0 (Nat.le_of_ble_eq_true rfl) ?_
    refine T_pop dL_law_1059 rfl ?_
    refine T_aload dL_law_1060 rfl ?_
    refine L_Vm (qX11_undo _ _ hm) (Nat.le_of_ble_eq_true rfl) dL_law_1061 lvL_131 rfl rfl ob73 (Nat.le_of_ble_eq_true rfl) ?_
    refine T_pop dL_law_1064 rfl ?_
    refine T_goto dL_law_1065 ?_
    exact E qx.2 qm.2 hJ
  have K_28 : ∀ (i : Nat) (x m : aH), i + 6 ≤ L → J x m → (∀ x m : aH, J x m → TL (L, xs) (mLn nm) 2000 x m 1471 [.ref 1005, .ref 0, .ref 73, .int (nI i)] []) → TL (L, xs) (mLn nm) 2000 x m 1068 [.ref 1005, .ref 0, .ref 73, .int (nI i)] [] := by
    intro i x m h6 hJ E
    refine T_aload dL_law_1068 rfl ?_
    obtain ⟨qx, qm, hx, hm, hJ⟩ := h_28 x m hJ
    refine L_Vx (qX10_redo _ _ hx) (Nat.le_of_ble_eq_true rfl) dL_law_1069 lvL_132 rfl rfl ob0 (Nat.le_of_ble_eq_true rfl) ?_
    refine T_pop dL_law_1072 rfl ?_
    refine T_aload dL_law_1073 rfl ?_
    refine L_Vm (qX11_redo _ _ hm) (Nat.le_of_ble_eq_true rfl) dL_law_1074 lvL_135 rfl rfl ob73 (Nat.le_of_ble_eq_true rfl) ?_
    refine T_pop dL_law_1077 rfl ?_
    refine T_goto dL_law_1078 ?_
    exact E qx.2 qm.2 hJ
  have K_29 : ∀ (i : Nat) (x m : aH), i + 6 ≤ L → J x m → (∀ x m : aH, J x m → TL (L, xs) (mLn nm) 2000 x m 1471 [.ref 1005, .ref 0, .ref 73, .int (nI i)] []) → TL (L, xs) (mLn nm) 2000 x m 1081 [.ref 1005, .ref 0, .ref 73, .int (nI i)] [] := by
    intro i x m h6 hJ E
    refine T_aload dL_law_1081 rfl ?_
    refine T_aload dL_law_1082 rfl ?_
    refine T_iload dL_law_1083 rfl ?_
    refine T_const dL_law_1084 ?_
    refine T_iadd dL_law_1085 ?_
    refine T_ialdSN (a := 5) (N := L) (i := i + 1) dL_law_1086 (by decide) rfl (nI_addk i 1) (by omega) (by omega) ?_
    obtain ⟨qx, qm, hx, hm, hJ⟩ := h_29 x m (roC (L, xs) 5 (i + 1)) hJ
    refine L_Vx (qX10_body _ _ hx) (Nat.le_of_ble_eq_true rfl) dL_law_1087 lvL_136 rfl rfl ob0 (Nat.le_of_ble_eq_true rfl) ?_
    refine T_pop dL_law_1090 rfl ?_
    refine T_aload dL_law_1091 rfl ?_
    refine T_aload dL_law_1092 rfl ?_
    refine T_iload dL_law_1093 rfl ?_
    refine T_const dL_law_1094 ?_
    refine T_iadd dL_law_1095 ?_
    refine T_ialdSN (a := 5) (N := L) (i := i + 1) dL_law_1096 (by decide) rfl (nI_addk i 1) (by omega) (by omega) ?_
    refine L_Vm (qX11_body _ _ hm) (Nat.le_of_ble_eq_true rfl) dL_law_1097 lvL_139 rfl rfl ob73 (Nat.le_of_ble_eq_true rfl) ?_
    refine T_pop dL_law_1100 rfl ?_
    refine T_goto dL_law_1101 ?_
    exact E qx.2 qm.2 hJ
  have K_30 : ∀ (i : Nat) (x m : aH), i + 6 ≤ L → J x m → (∀ x m : aH, J x m → TL (L, xs) (mLn nm) 2000 x m 1471 [.ref 1005, .ref 0, .ref 73, .int (nI i)] []) → TL (L, xs) (mLn nm) 2000 x m 1104 [.ref 1005, .ref 0, .ref 73, .int (nI i)] [] := by
    intro i x m h6 hJ E
    refine T_aload dL_law_1104 rfl ?_
    refine T_aload dL_law_1105 rfl ?_
    refine T_iload dL_law_1106 rfl ?_
    refine T_const dL_law_1107 ?_
    refine T_iadd dL_law_1108 ?_
    refine T_ialdSN (a := 5) (N := L) (i := i + 1) dL_law_1109 (by decide) rfl (nI_addk i 1) (by omega) (by omega) ?_
    refine T_aload dL_law_1110 rfl ?_
    refine T_iload dL_law_1111 rfl ?_
    refine T_const dL_law_1112 ?_
    refine T_iadd dL_law_1113 ?_
    refine T_ialdSN (a := 5) (N := L) (i := i + 2) dL_law_1114 (by decide) rfl (nI_addk i 2) (by omega) (by omega) ?_
    refine T_aload dL_law_1115 rfl ?_
    refine T_iload dL_law_1116 rfl ?_
    refine T_const dL_law_1117 ?_
    refine T_iadd dL_law_1118 ?_
    refine T_ialdSN (a := 5) (N := L) (i := i + 3) dL_law_1119 (by decide) rfl (nI_addk i 3) (by omega) (by omega) ?_
    obtain ⟨qx, qm, hx, hm, hJ⟩ := h_30 x m (roC (L, xs) 5 (i + 1)) (roC (L, xs) 5 (i + 2)) (roC (L, xs) 5 (i + 3)) hJ
    refine L_Vx (qX10_act _ _ hx) (Nat.le_of_ble_eq_true rfl) dL_law_1120 lvL_140 rfl rfl ob0 (Nat.le_of_ble_eq_true rfl) ?_
    refine T_pop dL_law_1123 rfl ?_
    refine T_aload dL_law_1124 rfl ?_
    refine T_aload dL_law_1125 rfl ?_
    refine T_iload dL_law_1126 rfl ?_
    refine T_const dL_law_1127 ?_
    refine T_iadd dL_law_1128 ?_
    refine T_ialdSN (a := 5) (N := L) (i := i + 1) dL_law_1129 (by decide) rfl (nI_addk i 1) (by omega) (by omega) ?_
    refine T_aload dL_law_1130 rfl ?_
    refine T_iload dL_law_1131 rfl ?_
    refine T_const dL_law_1132 ?_
    refine T_iadd dL_law_1133 ?_
    refine T_ialdSN (a := 5) (N := L) (i := i + 2) dL_law_1134 (by decide) rfl (nI_addk i 2) (by omega) (by omega) ?_
    refine T_aload dL_law_1135 rfl ?_
    refine T_iload dL_law_1136 rfl ?_
    refine T_const dL_law_1137 ?_
    refine T_iadd dL_law_1138 ?_
    refine T_ialdSN (a := 5) (N := L) (i := i + 3) dL_law_1139 (by decide) rfl (nI_addk i 3) (by omega) (by omega) ?_
    refine L_Vm (qX11_act _ _ hm) (Nat.le_of_ble_eq_true rfl) dL_law_1140 lvL_143 rfl rfl ob73 (Nat.le_of_ble_eq_true rfl) ?_
    refine T_pop dL_law_1143 rfl ?_
    refine T_goto dL_law_1144 ?_
    exact E qx.2 qm.2 hJ
  have K_31 : ∀ (i : Nat) (x m : aH), i + 6 ≤ L → J x m → (∀ x m : aH, J x m → TL (L, xs) (mLn nm) 2000 x m 1471 [.ref 1005, .ref 0, .ref 73, .int (nI i)] []) → TL (L, xs) (mLn nm) 2000 x m 1147 [.ref 1005, .ref 0, .ref 73, .int (nI i)] [] := by
    intro i x m h6 hJ E
    refine T_aload dL_law_1147 rfl ?_
    refine T_aload dL_law_1148 rfl ?_
    refine T_iload dL_law_1149 rfl ?_
    refine T_const dL_law_1150 ?_
    refine T_iadd dL_law_1151 ?_
    refine T_ialdSN (a := 5) (N := L) (i := i + 1) dL_law_1152 (by decide) rfl (nI_addk i 1) (by omega) (by omega) ?_
    obtain ⟨qx, qm, hx, hm, hJ⟩ := h_31 x m (roC (L, xs) 5 (i + 1)) hJ
    refine L_Vx (qX10_trace _ _ hx) (Nat.le_of_ble_eq_true rfl) dL_law_1153 lvL_144 rfl rfl ob0 (Nat.le_of_ble_eq_true rfl) ?_
    refine T_pop dL_law_1156 rfl ?_
    refine T_aload dL_law_1157 rfl ?_
    refine T_aload dL_law_1158 rfl ?_
    refine T_iload dL_law_1159 rfl ?_
    refine T_const dL_law_1160 ?_
    refine T_iadd dL_law_1161 ?_
    refine T_ialdSN (a := 5) (N := L) (i := i + 1) dL_law_1162 (by decide) rfl (nI_addk i 1) (by omega) (by omega) ?_
    refine L_Vm (qX11_trace _ _ hm) (Nat.le_of_ble_eq_true rfl) dL_law_1163 lvL_147 rfl rfl ob73 (Nat.le_of_ble_eq_true rfl) ?_
    refine T_pop dL_law_1166 rfl ?_
    refine T_goto dL_law_1167 ?_
    exact E x m hJ
  have K_32 : ∀ (i : Nat) (x m : aH), i + 6 ≤ L → J x m → (∀ x m : aH, J x m → TL (L, xs) (mLn nm) 2000 x m 1471 [.ref 1005, .ref 0, .ref 73, .int (nI i)] []) → TL (L, xs) (mLn nm) 2000 x m 1170 [.ref 1005, .ref 0, .ref 73, .int (nI i)] [] := by
    intro i x m h6 hJ E
    refine T_aload dL_law_1170 rfl ?_
    refine T_aload dL_law_1171 rfl ?_
    refine T_iload dL_law_1172 rfl ?_
    refine T_const dL_law_1173 ?_
    refine T_iadd dL_law_1174 ?_
    refine T_ialdSN (a := 5) (N := L) (i := i + 1) dL_law_1175 (by decide) rfl (nI_addk i 1) (by omega) (by omega) ?_
    refine T_aload dL_law_1176 rfl ?_
    refine T_iload dL_law_1177 rfl ?_
    refine T_const dL_law_1178 ?_
    refine T_iadd dL_law_1179 ?_
    refine T_ialdSN (a := 5) (N := L) (i := i + 2) dL_law_1180 (by decide) rfl (nI_addk i 2) (by omega) (by omega) ?_
    obtain ⟨qx, qm, hx, hm, hJ⟩ := h_32 x m (roC (L, xs) 5 (i + 1)) (roC (L, xs) 5 (i + 2)) hJ
    refine L_Vx (qX10_keep _ _ hx) (Nat.le_of_ble_eq_true rfl) dL_law_1181 lvL_148 rfl rfl ob0 (Nat.le_of_ble_eq_true rfl) ?_
    refine T_pop dL_law_1184 rfl ?_
    refine T_aload dL_law_1185 rfl ?_
    refine T_aload dL_law_1186 rfl ?_
    refine T_iload dL_law_1187 rfl ?_
    refine T_const dL_law_1188 ?_
    refine T_iadd dL_law_1189 ?_
    refine T_ialdSN (a := 5) (N := L) (i := i + 1) dL_law_1190 (by decide) rfl (nI_addk i 1) (by omega) (by omega) ?_
    refine T_aload dL_law_1191 rfl ?_
    refine T_iload dL_law_1192 rfl ?_
    refine T_const dL_law_1193 ?_
    refine T_iadd dL_law_1194 ?_
    refine T_ialdSN (a := 5) (N := L) (i := i + 2) dL_law_1195 (by decide) rfl (nI_addk i 2) (by omega) (by omega) ?_
    refine L_Vm (qX11_keep _ _ hm) (Nat.le_of_ble_eq_true rfl) dL_law_1196 lvL_151 rfl rfl ob73 (Nat.le_of_ble_eq_true rfl) ?_
    refine T_pop dL_law_1199 rfl ?_
    refine T_goto dL_law_1200 ?_
    exact E qx.2 qm.2 hJ
  have K_33 : ∀ (i : Nat) (x m : aH), i + 6 ≤ L → J x m → (∀ x m : aH, J x m → TL (L, xs) (mLn nm) 2000 x m 1471 [.ref 1005, .ref 0, .ref 73, .int (nI i)] []) → TL (L, xs) (mLn nm) 2000 x m 1203 [.ref 1005, .ref 0, .ref 73, .int (nI i)] [] := by
    intro i x m h6 hJ E
    refine T_aload dL_law_1203 rfl ?_
    refine T_aload dL_law_1204 rfl ?_
    refine T_iload dL_law_1205 rfl ?_
    refine T_const dL_law_1206 ?_
    refine T_iadd dL_law_1207 ?_
    refine T_ialdSN (a := 5) (N := L) (i := i + 1) dL_law_1208 (by decide) rfl (nI_addk i 1) (by omega) (by omega) ?_
    refine T_aload dL_law_1209 rfl ?_
    refine T_iload dL_law_1210 rfl ?_
    refine T_const dL_law_1211 ?_
    refine T_iadd dL_law_1212 ?_
    refine T_ialdSN (a := 5) (N := L) (i := i + 2) dL_law_1213 (by decide) rfl (nI_addk i 2) (by omega) (by omega) ?_
    refine T_aload dL_law_1214 rfl ?_
    refine T_iload dL_law_1215 rfl ?_
    refine T_const dL_law_1216 ?_
    refine T_iadd dL_law_1217 ?_
    refine T_ialdSN (a := 5) (N := L) (i := i + 3) dL_law_1218 (by decide) rfl (nI_addk i 3) (by omega) (by omega) ?_
    obtain ⟨qx, qm, hx, hm, hJ⟩ := h_33 x m (roC (L, xs) 5 (i + 1)) (roC (L, xs) 5 (i + 2)) (roC (L, xs) 5 (i + 3)) hJ
    refine L_Vx (qX10_row _ _ hx) (Nat.le_of_ble_eq_true rfl) dL_law_1219 lvL_152 rfl rfl ob0 (Nat.le_of_ble_eq_true rfl) ?_
    refine T_pop dL_law_1222 rfl ?_
    refine T_aload dL_law_1223 rfl ?_
    refine T_aload dL_law_1224 rfl ?_
    refine T_iload dL_law_1225 rfl ?_
    refine T_const dL_law_1226 ?_
    refine T_iadd dL_law_1227 ?_
    refine T_ialdSN (a := 5) (N := L) (i := i + 1) dL_law_1228 (by decide) rfl (nI_addk i 1) (by omega) (by omega) ?_
    refine T_aload dL_law_1229 rfl ?_
    refine T_iload dL_law_1230 rfl ?_
    refine T_const dL_law_1231 ?_
    refine T_iadd dL_law_1232 ?_
    refine T_ialdSN (a := 5) (N := L) (i := i + 2) dL_law_1233 (by decide) rfl (nI_addk i 2) (by omega) (by omega) ?_
    refine T_aload dL_law_1234 rfl ?_
    refine T_iload dL_law_1235 rfl ?_
    refine T_const dL_law_1236 ?_
    refine T_iadd dL_law_1237 ?_
    refine T_ialdSN (a := 5) (N := L) (i := i + 3) dL_law_1238 (by decide) rfl (nI_addk i 3) (by omega) (by omega) ?_
    refine L_Vm (qX11_row _ _ hm) (Nat.le_of_ble_eq_true rfl) dL_law_1239 lvL_155 rfl rfl ob73 (Nat.le_of_ble_eq_true rfl) ?_
    refine T_pop dL_law_1242 rfl ?_
    refine T_goto dL_law_1243 ?_
    exact E qx.2 qm.2 hJ
  have K_34 : ∀ (i : Nat) (x m : aH), i + 6 ≤ L → J x m → (∀ x m : aH, J x m → TL (L, xs) (mLn nm) 2000 x m 1471 [.ref 1005, .ref 0, .ref 73, .int (nI i)] []) → TL (L, xs) (mLn nm) 2000 x m 1246 [.ref 1005, .ref 0, .ref 73, .int (nI i)] [] := by
    intro i x m h6 hJ E
    refine T_aload dL_law_1246 rfl ?_
    refine T_aload dL_law_1247 rfl ?_
    refine T_iload dL_law_1248 rfl ?_
    refine T_const dL_law_1249 ?_
    refine T_iadd dL_law_1250 ?_
    refine T_ialdSN (a := 5) (N := L) (i := i + 1) dL_law_1251 (by decide) rfl (nI_addk i 1) (by omega) (by omega) ?_
    refine T_aload dL_law_1252 rfl ?_
    refine T_iload dL_law_1253 rfl ?_
    refine T_const dL_law_1254 ?_
    refine T_iadd dL_law_1255 ?_
    refine T_ialdSN (a := 5) (N := L) (i := i + 2) dL_law_1256 (by decide) rfl (nI_addk i 2) (by omega) (by omega) ?_
    refine T_aload dL_law_1257 rfl ?_
    refine T_iload dL_law_1258 rfl ?_
    refine T_const dL_law_1259 ?_
    refine T_iadd dL_law_1260 ?_
    refine T_ialdSN (a := 5) (N := L) (i := i + 3) dL_law_1261 (by decide) rfl (nI_addk i 3) (by omega) (by omega) ?_
    refine T_i2l dL_law_1262 ?_
    refine T_const dL_law_1263 ?_
    refine T_lshl dL_law_1265 ?_
    refine T_aload dL_law_1266 rfl ?_
    refine T_iload dL_law_1267 rfl ?_
    refine T_const dL_law_1268 ?_
    refine T_iadd dL_law_1269 ?_
    refine T_ialdSN (a := 5) (N := L) (i := i + 4) dL_law_1270 (by decide) rfl (nI_addk i 4) (by omega) (by omega) ?_
    refine T_i2l dL_law_1271 ?_
    refine T_constL dL_law_1272 ?_
    refine T_land dL_law_1275 ?_
    refine T_lor dL_law_1276 ?_
    obtain ⟨qx, qm, hx, hm, hJ⟩ := h_34 x m (roC (L, xs) 5 (i + 1)) (roC (L, xs) 5 (i + 2)) (((Int32.toInt64 (roC (L, xs) 5 (i + 3))) <<< (Int32.toInt64 (32 : Int32) &&& 63)) ||| ((Int32.toInt64 (roC (L, xs) 5 (i + 4))) &&& (4294967295 : Int64))) hJ
    refine L_Vx (qX10_put _ _ hx) (Nat.le_of_ble_eq_true rfl) dL_law_1277 lvL_158 rfl rfl ob0 (Nat.le_of_ble_eq_true rfl) ?_
    refine T_pop dL_law_1280 rfl ?_
    refine T_aload dL_law_1281 rfl ?_
    refine T_aload dL_law_1282 rfl ?_
    refine T_iload dL_law_1283 rfl ?_
    refine T_const dL_law_1284 ?_
    refine T_iadd dL_law_1285 ?_
    refine T_ialdSN (a := 5) (N := L) (i := i + 1) dL_law_1286 (by decide) rfl (nI_addk i 1) (by omega) (by omega) ?_
    refine T_aload dL_law_1287 rfl ?_
    refine T_iload dL_law_1288 rfl ?_
    refine T_const dL_law_1289 ?_
    refine T_iadd dL_law_1290 ?_
    refine T_ialdSN (a := 5) (N := L) (i := i + 2) dL_law_1291 (by decide) rfl (nI_addk i 2) (by omega) (by omega) ?_
    refine T_aload dL_law_1292 rfl ?_
    refine T_iload dL_law_1293 rfl ?_
    refine T_const dL_law_1294 ?_
    refine T_iadd dL_law_1295 ?_
    refine T_ialdSN (a := 5) (N := L) (i := i + 3) dL_law_1296 (by decide) rfl (nI_addk i 3) (by omega) (by omega) ?_
    refine T_i2l dL_law_1297 ?_
    refine T_const dL_law_1298 ?_
    refine T_lshl dL_law_1300 ?_
    refine T_aload dL_law_1301 rfl ?_
    refine T_iload dL_law_1302 rfl ?_
    refine T_const dL_law_1303 ?_
    refine T_iadd dL_law_1304 ?_
    refine T_ialdSN (a := 5) (N := L) (i := i + 4) dL_law_1305 (by decide) rfl (nI_addk i 4) (by omega) (by omega) ?_
    refine T_i2l dL_law_1306 ?_
    refine T_constL dL_law_1307 ?_
    refine T_land dL_law_1310 ?_
    refine T_lor dL_law_1311 ?_
    refine L_Vm (qX11_put _ _ hm) (Nat.le_of_ble_eq_true rfl) dL_law_1312 lvL_162 rfl rfl ob73 (Nat.le_of_ble_eq_true rfl) ?_
    refine T_pop dL_law_1315 rfl ?_
    refine T_goto dL_law_1316 ?_
    exact E qx.2 qm.2 hJ
  have K_35 : ∀ (i : Nat) (x m : aH), i + 6 ≤ L → J x m → (∀ x m : aH, J x m → TL (L, xs) (mLn nm) 2000 x m 1471 [.ref 1005, .ref 0, .ref 73, .int (nI i)] []) → TL (L, xs) (mLn nm) 2000 x m 1319 [.ref 1005, .ref 0, .ref 73, .int (nI i)] [] := by
    intro i x m h6 hJ E
    refine T_aload dL_law_1319 rfl ?_
    refine T_aload dL_law_1320 rfl ?_
    refine T_iload dL_law_1321 rfl ?_
    refine T_const dL_law_1322 ?_
    refine T_iadd dL_law_1323 ?_
    refine T_ialdSN (a := 5) (N := L) (i := i + 1) dL_law_1324 (by decide) rfl (nI_addk i 1) (by omega) (by omega) ?_
    refine T_aload dL_law_1325 rfl ?_
    refine T_iload dL_law_1326 rfl ?_
    refine T_const dL_law_1327 ?_
    refine T_iadd dL_law_1328 ?_
    refine T_ialdSN (a := 5) (N := L) (i := i + 2) dL_law_1329 (by decide) rfl (nI_addk i 2) (by omega) (by omega) ?_
    obtain ⟨qx, qm, hx, hm, hJ⟩ := h_35 x m (roC (L, xs) 5 (i + 1)) (roC (L, xs) 5 (i + 2)) hJ
    refine L_Vx (qX10_element _ _ hx) (Nat.le_of_ble_eq_true rfl) dL_law_1330 lvL_163 rfl rfl ob0 (Nat.le_of_ble_eq_true rfl) ?_
    refine T_pop2 dL_law_1333 rfl ?_
    refine T_aload dL_law_1334 rfl ?_
    refine T_aload dL_law_1335 rfl ?_
    refine T_iload dL_law_1336 rfl ?_
    refine T_const dL_law_1337 ?_
    refine T_iadd dL_law_1338 ?_
    refine T_ialdSN (a := 5) (N := L) (i := i + 1) dL_law_1339 (by decide) rfl (nI_addk i 1) (by omega) (by omega) ?_
    refine T_aload dL_law_1340 rfl ?_
    refine T_iload dL_law_1341 rfl ?_
    refine T_const dL_law_1342 ?_
    refine T_iadd dL_law_1343 ?_
    refine T_ialdSN (a := 5) (N := L) (i := i + 2) dL_law_1344 (by decide) rfl (nI_addk i 2) (by omega) (by omega) ?_
    refine L_Vm (qX11_element _ _ hm) (Nat.le_of_ble_eq_true rfl) dL_law_1345 lvL_166 rfl rfl ob73 (Nat.le_of_ble_eq_true rfl) ?_
    refine T_pop2 dL_law_1348 rfl ?_
    refine T_goto dL_law_1349 ?_
    exact E x m hJ
  have K_36 : ∀ (i : Nat) (x m : aH), i + 6 ≤ L → J x m → (∀ x m : aH, J x m → TL (L, xs) (mLn nm) 2000 x m 1471 [.ref 1005, .ref 0, .ref 73, .int (nI i)] []) → TL (L, xs) (mLn nm) 2000 x m 1352 [.ref 1005, .ref 0, .ref 73, .int (nI i)] [] := by
    intro i x m h6 hJ E
    refine T_aload dL_law_1352 rfl ?_
    refine T_aload dL_law_1353 rfl ?_
    refine T_iload dL_law_1354 rfl ?_
    refine T_const dL_law_1355 ?_
    refine T_iadd dL_law_1356 ?_
    refine T_ialdSN (a := 5) (N := L) (i := i + 1) dL_law_1357 (by decide) rfl (nI_addk i 1) (by omega) (by omega) ?_
    refine T_aload dL_law_1358 rfl ?_
    refine T_iload dL_law_1359 rfl ?_
    refine T_const dL_law_1360 ?_
    refine T_iadd dL_law_1361 ?_
    refine T_ialdSN (a := 5) (N := L) (i := i + 2) dL_law_1362 (by decide) rfl (nI_addk i 2) (by omega) (by omega) ?_
    refine T_aload dL_law_1363 rfl ?_
    refine T_iload dL_law_1364 rfl ?_
    refine T_const dL_law_1365 ?_
    refine T_iadd dL_law_1366 ?_
    refine T_ialdSN (a := 5) (N := L) (i := i + 3) dL_law_1367 (by decide) rfl (nI_addk i 3) (by omega) (by omega) ?_
    refine T_aload dL_law_1368 rfl ?_
    refine T_iload dL_law_1369 rfl ?_
    refine T_const dL_law_1370 ?_
    refine T_iadd dL_law_1371 ?_
    refine T_ialdSN (a := 5) (N := L) (i := i + 4) dL_law_1372 (by decide) rfl (nI_addk i 4) (by omega) (by omega) ?_
    refine T_aload dL_law_1373 rfl ?_
    refine T_iload dL_law_1374 rfl ?_
    refine T_const dL_law_1375 ?_
    refine T_iadd dL_law_1376 ?_
    refine T_ialdSN (a := 5) (N := L) (i := i + 5) dL_law_1377 (by decide) rfl (nI_addk i 5) (by omega) (by omega) ?_
    obtain ⟨qx, qm, hx, hm, hJ⟩ := h_36 x m (roC (L, xs) 5 (i + 1)) (roC (L, xs) 5 (i + 2)) (roC (L, xs) 5 (i + 3)) (roC (L, xs) 5 (i + 4)) (roC (L, xs) 5 (i + 5)) hJ
    refine L_Vx (qX10_shift _ _ hx) (Nat.le_of_ble_eq_true rfl) dL_law_1378 lvL_167 rfl rfl ob0 (Nat.le_of_ble_eq_true rfl) ?_
    refine T_pop dL_law_1381 rfl ?_
    refine T_aload dL_law_1382 rfl ?_
    refine T_aload dL_law_1383 rfl ?_
    refine T_iload dL_law_1384 rfl ?_
    refine T_const dL_law_1385 ?_
    refine T_iadd dL_law_1386 ?_
    refine T_ialdSN (a := 5) (N := L) (i := i + 1) dL_law_1387 (by decide) rfl (nI_addk i 1) (by omega) (by omega) ?_
    refine T_aload dL_law_1388 rfl ?_
    refine T_iload dL_law_1389 rfl ?_
    refine T_const dL_law_1390 ?_
    refine T_iadd dL_law_1391 ?_
    refine T_ialdSN (a := 5) (N := L) (i := i + 2) dL_law_1392 (by decide) rfl (nI_addk i 2) (by omega) (by omega) ?_
    refine T_aload dL_law_1393 rfl ?_
    refine T_iload dL_law_1394 rfl ?_
    refine T_const dL_law_1395 ?_
    refine T_iadd dL_law_1396 ?_
    refine T_ialdSN (a := 5) (N := L) (i := i + 3) dL_law_1397 (by decide) rfl (nI_addk i 3) (by omega) (by omega) ?_
    refine T_aload dL_law_1398 rfl ?_
    refine T_iload dL_law_1399 rfl ?_
    refine T_const dL_law_1400 ?_
    refine T_iadd dL_law_1401 ?_
    refine T_ialdSN (a := 5) (N := L) (i := i + 4) dL_law_1402 (by decide) rfl (nI_addk i 4) (by omega) (by omega) ?_
    refine T_aload dL_law_1403 rfl ?_
    refine T_iload dL_law_1404 rfl ?_
    refine T_const dL_law_1405 ?_
    refine T_iadd dL_law_1406 ?_
    refine T_ialdSN (a := 5) (N := L) (i := i + 5) dL_law_1407 (by decide) rfl (nI_addk i 5) (by omega) (by omega) ?_
    refine L_Vm (qX11_shift _ _ hm) (Nat.le_of_ble_eq_true rfl) dL_law_1408 lvL_171 rfl rfl ob73 (Nat.le_of_ble_eq_true rfl) ?_
    refine T_pop dL_law_1411 rfl ?_
    refine T_goto dL_law_1412 ?_
    exact E qx.2 qm.2 hJ
  have K_37 : ∀ (i : Nat) (x m : aH), i + 6 ≤ L → J x m → (∀ x m : aH, J x m → TL (L, xs) (mLn nm) 2000 x m 1471 [.ref 1005, .ref 0, .ref 73, .int (nI i)] []) → TL (L, xs) (mLn nm) 2000 x m 1415 [.ref 1005, .ref 0, .ref 73, .int (nI i)] [] := by
    intro i x m h6 hJ E
    refine T_aload dL_law_1415 rfl ?_
    refine T_aload dL_law_1416 rfl ?_
    refine T_iload dL_law_1417 rfl ?_
    refine T_const dL_law_1418 ?_
    refine T_iadd dL_law_1419 ?_
    refine T_ialdSN (a := 5) (N := L) (i := i + 1) dL_law_1420 (by decide) rfl (nI_addk i 1) (by omega) (by omega) ?_
    refine T_aload dL_law_1421 rfl ?_
    refine T_iload dL_law_1422 rfl ?_
    refine T_const dL_law_1423 ?_
    refine T_iadd dL_law_1424 ?_
    refine T_ialdSN (a := 5) (N := L) (i := i + 2) dL_law_1425 (by decide) rfl (nI_addk i 2) (by omega) (by omega) ?_
    obtain ⟨qx, qm, hx, hm, hJ⟩ := h_37 x m (roC (L, xs) 5 (i + 1)) (roC (L, xs) 5 (i + 2)) hJ
    refine L_Vx (qX10_taken _ _ hx) (Nat.le_of_ble_eq_true rfl) dL_law_1426 lvL_172 rfl rfl ob0 (Nat.le_of_ble_eq_true rfl) ?_
    refine T_pop dL_law_1429 rfl ?_
    refine T_aload dL_law_1430 rfl ?_
    refine T_aload dL_law_1431 rfl ?_
    refine T_iload dL_law_1432 rfl ?_
    refine T_const dL_law_1433 ?_
    refine T_iadd dL_law_1434 ?_
    refine T_ialdSN (a := 5) (N := L) (i := i + 1) dL_law_1435 (by decide) rfl (nI_addk i 1) (by omega) (by omega) ?_
    refine T_aload dL_law_1436 rfl ?_
    refine T_iload dL_law_1437 rfl ?_
    refine T_const dL_law_1438 ?_
    refine T_iadd dL_law_1439 ?_
    refine T_ialdSN (a := 5) (N := L) (i := i + 2) dL_law_1440 (by decide) rfl (nI_addk i 2) (by omega) (by omega) ?_
    refine L_Vm (qX11_taken _ _ hm) (Nat.le_of_ble_eq_true rfl) dL_law_1441 lvL_175 rfl rfl ob73 (Nat.le_of_ble_eq_true rfl) ?_
    refine T_pop dL_law_1444 rfl ?_
    refine T_goto dL_law_1445 ?_
    exact E x m hJ
  have K_38 : ∀ (i : Nat) (x m : aH), i + 6 ≤ L → J x m → (∀ x m : aH, J x m → TL (L, xs) (mLn nm) 2000 x m 1471 [.ref 1005, .ref 0, .ref 73, .int (nI i)] []) → TL (L, xs) (mLn nm) 2000 x m 1448 [.ref 1005, .ref 0, .ref 73, .int (nI i)] [] := by
    intro i x m h6 hJ E
    refine T_aload dL_law_1448 rfl ?_
    refine T_aload dL_law_1449 rfl ?_
    refine T_iload dL_law_1450 rfl ?_
    refine T_const dL_law_1451 ?_
    refine T_iadd dL_law_1452 ?_
    refine T_ialdSN (a := 5) (N := L) (i := i + 1) dL_law_1453 (by decide) rfl (nI_addk i 1) (by omega) (by omega) ?_
    obtain ⟨qx, qm, hx, hm, hJ, hq⟩ := h_38 x m (roC (L, xs) 5 (i + 1)) hJ
    refine L_Vx (qX10_count _ _ hx) (Nat.le_of_ble_eq_true rfl) dL_law_1454 lvL_176 rfl rfl ob0 (Nat.le_of_ble_eq_true rfl) ?_
    refine T_aload dL_law_1457 rfl ?_
    refine T_aload dL_law_1458 rfl ?_
    refine T_iload dL_law_1459 rfl ?_
    refine T_const dL_law_1460 ?_
    refine T_iadd dL_law_1461 ?_
    refine T_ialdSN (a := 5) (N := L) (i := i + 1) dL_law_1462 (by decide) rfl (nI_addk i 1) (by omega) (by omega) ?_
    refine L_Vm (qX11_count _ _ hm) (Nat.le_of_ble_eq_true rfl) dL_law_1463 lvL_179 rfl rfl ob73 (Nat.le_of_ble_eq_true rfl) ?_
    refine T_icmp_eq dL_law_1466 (fun _ => ?_) (fun z => absurd hq z)
    exact E x qm.2 hJ
  intro n
  induction n with
  | zero =>
    intro i x m hi h4 hJ
    refine T_iload dL_law_18 rfl ?_
    refine T_aload dL_law_19 rfl ?_
    refine T_alenS (a := 5) dL_law_20 (by decide) ?_
    refine T_const dL_law_21 ?_
    refine T_isub dL_law_23 ?_
    refine T_icmp_gt dL_law_24 (fun _ => ?_) (fun z => absurd ((law_cond (show L ≤ 4000 by omega) (by omega)).mpr (by omega)) z)
    refine T_const dL_law_1477 ?_
    exact T0_iretz dL_law_1478 (Or.inr rfl) rfl
  | succ n ih =>
    intro i x m hi h4 hJ
    refine T_iload dL_law_18 rfl ?_
    refine T_aload dL_law_19 rfl ?_
    refine T_alenS (a := 5) dL_law_20 (by decide) ?_
    refine T_const dL_law_21 ?_
    refine T_isub dL_law_23 ?_
    refine T_icmp_gt dL_law_24 (fun _ => ?_) (fun c => ?_)
    · refine T_const dL_law_1477 ?_
      exact T0_iretz dL_law_1478 (Or.inr rfl) rfl
    · have h6 : i + 6 ≤ L := Nat.not_lt.mp (fun z => c ((law_cond (show L ≤ 4000 by omega) (by omega)).mpr z))
      have E : ∀ x m : aH, J x m → TL (L, xs) (mLn nm) 2000 x m 1471 [.ref 1005, .ref 0, .ref 73, .int (nI i)] [] := by
        intro x m hJ
        refine T_iinc dL_law_1471 rfl ?_
        show TK _ _ _ _ _ _ _ _ _ [.ref 1005, .ref 0, .ref 73, .int (nI i + nI 6)] _
        rw [nI_addk]
        refine T_goto dL_law_1474 ?_
        exact ih (i + 6) x m (by omega) (by omega) hJ
      refine T_aload dL_law_27 rfl ?_
      refine T_iload dL_law_28 rfl ?_
      refine T_ialdSN (a := 5) (N := L) (i := i) dL_law_29 (by decide) rfl rfl (by omega) (by omega) ?_
      refine T_const dL_law_30 ?_
      refine T_iand dL_law_32 ?_
      obtain ⟨v, hv⟩ : ∃ v : Int32, v = roC (L, xs) 5 i &&& 63 := ⟨_, rfl⟩
      rw [← hv]
      show TL (L, xs) (mLn nm) 2000 x m 33 [.ref 1005, .ref 0, .ref 73, .int (nI i)] [.int v]
      by_cases c0 : v = (0 : Int32)
      · refine L_tabE (off := 171) (tgt := 204) c0 dL_law_33 (by decide) (by decide) (by decide) (by decide) ?_
        exact K_0 i x m h6 hJ E
      by_cases c1 : v = (1 : Int32)
      · refine L_tabE (off := 204) (tgt := 237) c1 dL_law_33 (by decide) (by decide) (by decide) (by decide) ?_
        exact K_1 i x m h6 hJ E
      by_cases c2 : v = (2 : Int32)
      · refine L_tabE (off := 247) (tgt := 280) c2 dL_law_33 (by decide) (by decide) (by decide) (by decide) ?_
        exact K_2 i x m h6 hJ E
      by_cases c3 : v = (3 : Int32)
      · refine L_tabE (off := 290) (tgt := 323) c3 dL_law_33 (by decide) (by decide) (by decide) (by decide) ?_
        exact K_3 i x m h6 hJ E
      by_cases c4 : v = (4 : Int32)
      · refine L_tabE (off := 323) (tgt := 356) c4 dL_law_33 (by decide) (by decide) (by decide) (by decide) ?_
        exact K_4 i x m h6 hJ E
      by_cases c5 : v = (5 : Int32)
      · refine L_tabE (off := 346) (tgt := 379) c5 dL_law_33 (by decide) (by decide) (by decide) (by decide) ?_
        exact K_5 i x m h6 hJ E
      by_cases c6 : v = (6 : Int32)
      · refine L_tabE (off := 359) (tgt := 392) c6 dL_law_33 (by decide) (by decide) (by decide) (by decide) ?_
        exact K_6 i x m h6 hJ E
      by_cases c7 : v = (7 : Int32)
      · refine L_tabE (off := 382) (tgt := 415) c7 dL_law_33 (by decide) (by decide) (by decide) (by decide) ?_
        exact K_7 i x m h6 hJ E
      by_cases c8 : v = (8 : Int32)
      · refine L_tabE (off := 405) (tgt := 438) c8 dL_law_33 (by decide) (by decide) (by decide) (by decide) ?_
        exact K_8 i x m h6 hJ E
      by_cases c9 : v = (9 : Int32)
      · refine L_tabE (off := 458) (tgt := 491) c9 dL_law_33 (by decide) (by decide) (by decide) (by decide) ?_
        exact K_9 i x m h6 hJ E
      by_cases c10 : v = (10 : Int32)
      · refine L_tabE (off := 501) (tgt := 534) c10 dL_law_33 (by decide) (by decide) (by decide) (by decide) ?_
        exact K_10 i x m h6 hJ E
      by_cases c11 : v = (11 : Int32)
      · refine L_tabE (off := 534) (tgt := 567) c11 dL_law_33 (by decide) (by decide) (by decide) (by decide) ?_
        exact K_11 i x m h6 hJ E
      by_cases c12 : v = (12 : Int32)
      · refine L_tabE (off := 567) (tgt := 600) c12 dL_law_33 (by decide) (by decide) (by decide) (by decide) ?_
        exact K_12 i x m h6 hJ E
      by_cases c13 : v = (13 : Int32)
      · refine L_tabE (off := 600) (tgt := 633) c13 dL_law_33 (by decide) (by decide) (by decide) (by decide) ?_
        exact K_13 i x m h6 hJ E
      by_cases c14 : v = (14 : Int32)
      · refine L_tabE (off := 633) (tgt := 666) c14 dL_law_33 (by decide) (by decide) (by decide) (by decide) ?_
        exact K_14 i x m h6 hJ E
      by_cases c15 : v = (15 : Int32)
      · refine L_tabE (off := 676) (tgt := 709) c15 dL_law_33 (by decide) (by decide) (by decide) (by decide) ?_
        exact K_15 i x m h6 hJ E
      by_cases c16 : v = (16 : Int32)
      · refine L_tabE (off := 709) (tgt := 742) c16 dL_law_33 (by decide) (by decide) (by decide) (by decide) ?_
        exact K_16 i x m h6 hJ E
      by_cases c17 : v = (17 : Int32)
      · refine L_tabE (off := 742) (tgt := 775) c17 dL_law_33 (by decide) (by decide) (by decide) (by decide) ?_
        exact K_17 i x m h6 hJ E
      by_cases c18 : v = (18 : Int32)
      · refine L_tabE (off := 775) (tgt := 808) c18 dL_law_33 (by decide) (by decide) (by decide) (by decide) ?_
        exact K_18 i x m h6 hJ E
      by_cases c19 : v = (19 : Int32)
      · refine L_tabE (off := 808) (tgt := 841) c19 dL_law_33 (by decide) (by decide) (by decide) (by decide) ?_
        exact K_19 i x m h6 hJ E
      by_cases c20 : v = (20 : Int32)
      · refine L_tabE (off := 841) (tgt := 874) c20 dL_law_33 (by decide) (by decide) (by decide) (by decide) ?_
        exact K_20 i x m h6 hJ E
      by_cases c21 : v = (21 : Int32)
      · refine L_tabE (off := 884) (tgt := 917) c21 dL_law_33 (by decide) (by decide) (by decide) (by decide) ?_
        exact K_21 i x m h6 hJ E
      by_cases c22 : v = (22 : Int32)
      · refine L_tabE (off := 927) (tgt := 960) c22 dL_law_33 (by decide) (by decide) (by decide) (by decide) ?_
        exact K_22 i x m h6 hJ E
      by_cases c23 : v = (23 : Int32)
      · refine L_tabE (off := 950) (tgt := 983) c23 dL_law_33 (by decide) (by decide) (by decide) (by decide) ?_
        exact K_23 i x m h6 hJ E
      by_cases c24 : v = (24 : Int32)
      · refine L_tabE (off := 973) (tgt := 1006) c24 dL_law_33 (by decide) (by decide) (by decide) (by decide) ?_
        exact K_24 i x m h6 hJ E
      by_cases c25 : v = (25 : Int32)
      · refine L_tabE (off := 996) (tgt := 1029) c25 dL_law_33 (by decide) (by decide) (by decide) (by decide) ?_
        exact K_25 i x m h6 hJ E
      by_cases c26 : v = (26 : Int32)
      · refine L_tabE (off := 1009) (tgt := 1042) c26 dL_law_33 (by decide) (by decide) (by decide) (by decide) ?_
        exact K_26 i x m h6 hJ E
      by_cases c27 : v = (27 : Int32)
      · refine L_tabE (off := 1022) (tgt := 1055) c27 dL_law_33 (by decide) (by decide) (by decide) (by decide) ?_
        exact K_27 i x m h6 hJ E
      by_cases c28 : v = (28 : Int32)
      · refine L_tabE (off := 1035) (tgt := 1068) c28 dL_law_33 (by decide) (by decide) (by decide) (by decide) ?_
        exact K_28 i x m h6 hJ E
      by_cases c29 : v = (29 : Int32)
      · refine L_tabE (off := 1048) (tgt := 1081) c29 dL_law_33 (by decide) (by decide) (by decide) (by decide) ?_
        exact K_29 i x m h6 hJ E
      by_cases c30 : v = (30 : Int32)
      · refine L_tabE (off := 1071) (tgt := 1104) c30 dL_law_33 (by decide) (by decide) (by decide) (by decide) ?_
        exact K_30 i x m h6 hJ E
      by_cases c31 : v = (31 : Int32)
      · refine L_tabE (off := 1114) (tgt := 1147) c31 dL_law_33 (by decide) (by decide) (by decide) (by decide) ?_
        exact K_31 i x m h6 hJ E
      by_cases c32 : v = (32 : Int32)
      · refine L_tabE (off := 1137) (tgt := 1170) c32 dL_law_33 (by decide) (by decide) (by decide) (by decide) ?_
        exact K_32 i x m h6 hJ E
      by_cases c33 : v = (33 : Int32)
      · refine L_tabE (off := 1170) (tgt := 1203) c33 dL_law_33 (by decide) (by decide) (by decide) (by decide) ?_
        exact K_33 i x m h6 hJ E
      by_cases c34 : v = (34 : Int32)
      · refine L_tabE (off := 1213) (tgt := 1246) c34 dL_law_33 (by decide) (by decide) (by decide) (by decide) ?_
        exact K_34 i x m h6 hJ E
      by_cases c35 : v = (35 : Int32)
      · refine L_tabE (off := 1286) (tgt := 1319) c35 dL_law_33 (by decide) (by decide) (by decide) (by decide) ?_
        exact K_35 i x m h6 hJ E
      by_cases c36 : v = (36 : Int32)
      · refine L_tabE (off := 1319) (tgt := 1352) c36 dL_law_33 (by decide) (by decide) (by decide) (by decide) ?_
        exact K_36 i x m h6 hJ E
      by_cases c37 : v = (37 : Int32)
      · refine L_tabE (off := 1382) (tgt := 1415) c37 dL_law_33 (by decide) (by decide) (by decide) (by decide) ?_
        exact K_37 i x m h6 hJ E
      by_cases c38 : v = (38 : Int32)
      · refine L_tabE (off := 1415) (tgt := 1448) c38 dL_law_33 (by decide) (by decide) (by decide) (by decide) ?_
        exact K_38 i x m h6 hJ E
      refine T_tabOut (tgt := 1471) ⟨dL_law_33, by decide⟩ (by
          have n0 := ne_toInt c0; rw [show (0 : Int32).toInt = 0 from rfl] at n0
          have n1 := ne_toInt c1; rw [show (1 : Int32).toInt = 1 from rfl] at n1
          have n2 := ne_toInt c2; rw [show (2 : Int32).toInt = 2 from rfl] at n2
          have n3 := ne_toInt c3; rw [show (3 : Int32).toInt = 3 from rfl] at n3
          have n4 := ne_toInt c4; rw [show (4 : Int32).toInt = 4 from rfl] at n4
          have n5 := ne_toInt c5; rw [show (5 : Int32).toInt = 5 from rfl] at n5
          have n6 := ne_toInt c6; rw [show (6 : Int32).toInt = 6 from rfl] at n6
          have n7 := ne_toInt c7; rw [show (7 : Int32).toInt = 7 from rfl] at n7
          have n8 := ne_toInt c8; rw [show (8 : Int32).toInt = 8 from rfl] at n8
          have n9 := ne_toInt c9; rw [show (9 : Int32).toInt = 9 from rfl] at n9
          have n10 := ne_toInt c10; rw [show (10 : Int32).toInt = 10 from rfl] at n10
          have n11 := ne_toInt c11; rw [show (11 : Int32).toInt = 11 from rfl] at n11
          have n12 := ne_toInt c12; rw [show (12 : Int32).toInt = 12 from rfl] at n12
          have n13 := ne_toInt c13; rw [show (13 : Int32).toInt = 13 from rfl] at n13
          have n14 := ne_toInt c14; rw [show (14 : Int32).toInt = 14 from rfl] at n14
          have n15 := ne_toInt c15; rw [show (15 : Int32).toInt = 15 from rfl] at n15
          have n16 := ne_toInt c16; rw [show (16 : Int32).toInt = 16 from rfl] at n16
          have n17 := ne_toInt c17; rw [show (17 : Int32).toInt = 17 from rfl] at n17
          have n18 := ne_toInt c18; rw [show (18 : Int32).toInt = 18 from rfl] at n18
          have n19 := ne_toInt c19; rw [show (19 : Int32).toInt = 19 from rfl] at n19
          have n20 := ne_toInt c20; rw [show (20 : Int32).toInt = 20 from rfl] at n20
          have n21 := ne_toInt c21; rw [show (21 : Int32).toInt = 21 from rfl] at n21
          have n22 := ne_toInt c22; rw [show (22 : Int32).toInt = 22 from rfl] at n22
          have n23 := ne_toInt c23; rw [show (23 : Int32).toInt = 23 from rfl] at n23
          have n24 := ne_toInt c24; rw [show (24 : Int32).toInt = 24 from rfl] at n24
          have n25 := ne_toInt c25; rw [show (25 : Int32).toInt = 25 from rfl] at n25
          have n26 := ne_toInt c26; rw [show (26 : Int32).toInt = 26 from rfl] at n26
          have n27 := ne_toInt c27; rw [show (27 : Int32).toInt = 27 from rfl] at n27
          have n28 := ne_toInt c28; rw [show (28 : Int32).toInt = 28 from rfl] at n28
          have n29 := ne_toInt c29; rw [show (29 : Int32).toInt = 29 from rfl] at n29
          have n30 := ne_toInt c30; rw [show (30 : Int32).toInt = 30 from rfl] at n30
          have n31 := ne_toInt c31; rw [show (31 : Int32).toInt = 31 from rfl] at n31
          have n32 := ne_toInt c32; rw [show (32 : Int32).toInt = 32 from rfl] at n32
          have n33 := ne_toInt c33; rw [show (33 : Int32).toInt = 33 from rfl] at n33
          have n34 := ne_toInt c34; rw [show (34 : Int32).toInt = 34 from rfl] at n34
          have n35 := ne_toInt c35; rw [show (35 : Int32).toInt = 35 from rfl] at n35
          have n36 := ne_toInt c36; rw [show (36 : Int32).toInt = 36 from rfl] at n36
          have n37 := ne_toInt c37; rw [show (37 : Int32).toInt = 37 from rfl] at n37
          have n38 := ne_toInt c38; rw [show (38 : Int32).toInt = 38 from rfl] at n38
          omega) ?_
      exact E x m hJ
