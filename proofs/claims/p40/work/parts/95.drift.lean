/-! ===== seen, share, drifted, ashore ===== -/
theorem OK2.bind {α β γ δ : Type} {o : Option α} {u : Option β} {f : α → Option γ} {g : β → Option δ} {P : α → β → Prop} {R : γ → δ → Prop} (h : OK2 o u P) (k : ∀ a b, P a b → OK2 (f a) (g b) R) : OK2 (o.bind f) (u.bind g) R := by
  obtain ⟨a, b, rfl, rfl, hp⟩ := h
  exact k a b hp
theorem OK2.mono {α β : Type} {o : Option α} {u : Option β} {P R : α → β → Prop} (h : OK2 o u P) (k : ∀ a b, P a b → R a b) : OK2 o u R := by
  obtain ⟨a, b, h1, h2, hp⟩ := h
  exact ⟨a, b, h1, h2, k a b hp⟩
theorem LOOP2 {St Su R T : Type} (W : Nat → St → Int32 → Option R) (S : (St → Int32 → Option R) → St → Int32 → Option R) (hW : ∀ n, W (n + 1) = S (W n)) (W' : Nat → Su → Int32 → Option T) (S' : (Su → Int32 → Option T) → Su → Int32 → Option T) (hW' : ∀ n, W' (n + 1) = S' (W' n)) (I : Nat → St → Su → Prop) (P : R → T → Prop) (N : Nat)
    (hs : ∀ i st su, i < N → I i st su → ∀ (ih : St → Int32 → Option R) (ih' : Su → Int32 → Option T), (∀ st' su', I (i + 1) st' su' → OK2 (ih st' (nI (i + 1))) (ih' su' (nI (i + 1))) P) → OK2 (S ih st (nI i)) (S' ih' su (nI i)) P)
    (he : ∀ st su, I N st su → ∀ ih ih', OK2 (S ih st (nI N)) (S' ih' su (nI N)) P) : ∀ n i st su, N < i + n → i ≤ N → I i st su → OK2 (W n st (nI i)) (W' n su (nI i)) P := by
  intro n
  induction n with
  | zero => intro i st su h1 h2; omega
  | succ n ih =>
    intro i st su h1 h2 hI
    rw [hW, hW']
    by_cases hi : i = N
    · subst hi; exact he st su hI _ _
    · exact hs i st su (by omega) hI _ _ (fun st' su' hI' => ih (i + 1) st' su' (by omega) (by omega) hI')
theorem w3 (p : Int32) : fX11_within p.toInt64 (0 : Int64) (3 : Int64) = some (bI (0 ≤ p ∧ p ≤ 3)) := within_i p 0 3
theorem op_seen {x m : aH} (hJ : JJ x m) (p1 : Int32) : OK2 (fX10_seen x p1) (fX11_seen m p1) (fun a b => a = b) := by
  obtain ⟨w, t, hR⟩ := hJ
  obtain ⟨⟨hw, ht⟩, ⟨hs, hv, hh⟩, hms, hmv⟩ := hR.1.1
  have hla := hw.2.2.2.1
  by_cases hp : 0 ≤ p1 ∧ p1 ≤ 3
  · obtain ⟨y, hy, rfl⟩ := le_arg (N := 3) (by omega) rfl hp
    unfold fX10_seen fX11_seen fX5_lit
    rw [isWay_x, w3, bI_t hp, bI_t ⟨hp.1, by have := hp.2; grind⟩]
    simp only [Option.bind_some, if_neg n10]
    have ebind : ∀ o : Option Int64, (o.bind fun q => some q) = o := fun o => by cases o <;> rfl
    rw [ebind, ebind, ebind]
    refine LOOP2 (fun n (st : Int64) l => wX5_lit_5 x (nI y) n st l) (fun ih st l => sX5_lit_5 x (nI y) ih st l) (fun n => rfl) (fun n (st : Int64) l => wX11_seen_21 m (nI y) n st l) (fun ih st l => sX11_seen_21 m (nI y) ih st l) (fun n => rfl) (fun i a b => a = b) _ 64 ?_ ?_ 2000 0 0 0 (by omega) (by omega) rfl
    · rintro i a b hi rfl ih ih' hk
      unfold sX5_lit_5 sX11_seen_21 jX5_lit_29 jX11_seen_47
      have c : ¬ (64 : Int32) ≤ nI i := by rw [leL (by omega) (by omega)]; omega
      rw [if_neg c, if_neg c, isLit_x hs.2.2.1.1 hla (by omega) hi, isSeen_m hms.2.2.1.1 hla (by omega) hi]
      simp only [Option.bind_some]
      by_cases hl : litF w.lamp y i = true
      · rw [if_pos hl, if_neg n10, if_neg n10, nI_1]
        exact hk _ _ rfl
      · rw [if_neg hl, if_pos rfl, if_pos rfl, nI_1, Int64.or_zero]
        exact hk _ _ rfl
    · rintro a b rfl ih ih'
      exact OK2.eq rfl rfl rfl
  · have hp4 : ¬ (0 ≤ p1 ∧ p1 < 4) := by grind
    refine OK2.eq (a := -9223372036854775808) (b := -9223372036854775808) ?_ ?_ rfl
    · simp [fX10_seen, isWay_x, bI_f hp4]
    · simp [fX11_seen, w3, bI_f hp]
/-! share -/
def awF (w : SEA) (t : STD) (q i : Nat) : Nat := if t.home i = 0 ∧ w.pa i = q then 1 else 0
def owF (w : SEA) (t : STD) (q i : Nat) : Nat := if t.home i = 0 ∧ w.pa i = q then w.ow i else 0
theorem away_x {x : aH} {a q : Nat} {w : SEA} {t : STD} (hw : SOK w) (ht : TOK w t) (hs : vSea x w) (hv : vStd x a w.lost t) (hq : q < 4) : fX8_awayOf x a (nI q) = some (nI (nsum (awF w t q) w.lost)) := by
  have hn := hw.1
  unfold fX8_awayOf
  refine OK.eq (OK.bind (P := fun r => r = nI (nsum (awF w t q) w.lost)) ?_ (fun r hr => OK.ret hr))
  refine LOOPUP (fun n st l => wX8_awayOf_4 a x (nI q) n st l) (fun ih st l => sX8_awayOf_4 a x (nI q) ih st l) (fun n => rfl) (fun i st => st = nI (nsum (awF w t q) i)) _ w.lost ?_ ?_ 2000 0 0 (by omega) (by omega) rfl
  · rintro i st hi rfl ih hk
    have h1 := (ht.1 i hi).2
    have h2 := (hw.2.2.1 i hi).1
    unfold sX8_awayOf_4 jX8_awayOf_38 jX8_awayOf_39
    refine OK.f (by rw [hv.1, leN (by omega) (by omega)]; omega) (OK.r (isHome_x hn (fun i hi => (ht.1 i hi).2) hv hi) ?_)
    have go : ∀ b : Nat, b = awF w t q i → OK (ih (nI (nsum (awF w t q) i) + nI b) (nI i + 1)) (fun r => r = nI (nsum (awF w t q) w.lost)) := by
      rintro b rfl
      rw [addN, nI_1]
      exact hk _ rfl
    refine OK.i (fun c => OK.t (in10 (by omega)) ?_) (fun c => go 0 ?_)
    · rw [ixN (by omega), (hs.2.1 i (by omega)).1]
      rw [eqR (by omega) (by omega)] at c
      refine OK.i (fun c2 => go 1 ?_) (fun c2 => go 0 ?_)
      · rw [eqN (by omega) (by omega)] at c2
        unfold awF; rw [if_pos ⟨c, c2⟩]
      · rw [eqN (by omega) (by omega)] at c2
        unfold awF; rw [if_neg (fun z => c2 z.2)]
    · rw [eqR (by omega) (by omega)] at c
      unfold awF; rw [if_neg (fun z => c z.1)]
  · rintro st rfl ih
    unfold sX8_awayOf_4
    exact OK.t (by rw [hv.1, leN (by omega) (by omega)]; exact Nat.le_refl _) (OK.ret rfl)
theorem claim_x {x : aH} {a q : Nat} {w : SEA} {t : STD} (hw : SOK w) (ht : TOK w t) (hs : vSea x w) (hv : vStd x a w.lost t) (hq : q < 4) : fX8_claim x a (nI q) = some (nI (nsum (awF w t q) w.lost) + nI (nsum (owF w t q) w.lost) / 3) := by
  have hn := hw.1
  unfold fX8_claim
  refine OK.eq (OK.bind (P := fun r => r = nI (nsum (owF w t q) w.lost)) ?_ (fun r hr => OK.r (away_x hw ht hs hv hq) (OK.ret (by rw [hr]))))
  refine LOOPUP (fun n st l => wX8_claim_4 a x (nI q) n st l) (fun ih st l => sX8_claim_4 a x (nI q) ih st l) (fun n => rfl) (fun i st => st = nI (nsum (owF w t q) i)) _ w.lost ?_ ?_ 2000 0 0 (by omega) (by omega) rfl
  · rintro i st hi rfl ih hk
    have h1 := (ht.1 i hi).2
    have h2 := (hw.2.2.1 i hi).1
    unfold sX8_claim_4 jX8_claim_46 jX8_claim_47
    refine OK.f (by rw [hv.1, leN (by omega) (by omega)]; omega) (OK.r (isHome_x hn (fun i hi => (ht.1 i hi).2) hv hi) ?_)
    have go : ∀ b : Nat, b = owF w t q i → OK (ih (nI (nsum (owF w t q) i) + nI b) (nI i + 1)) (fun r => r = nI (nsum (owF w t q) w.lost)) := by
      rintro b rfl
      rw [addN, nI_1]
      exact hk _ rfl
    refine OK.i (fun c => OK.t (in10 (by omega)) ?_) (fun c => go 0 ?_)
    · rw [ixN (by omega), (hs.2.1 i (by omega)).1, (hs.2.1 i (by omega)).2]
      rw [eqR (by omega) (by omega)] at c
      refine OK.i (fun c2 => OK.t (in10 (by omega)) (go _ ?_)) (fun c2 => go 0 ?_)
      · rw [eqN (by omega) (by omega)] at c2
        unfold owF; rw [if_pos ⟨c, c2⟩]
      · rw [eqN (by omega) (by omega)] at c2
        unfold owF; rw [if_neg (fun z => c2 z.2)]
    · rw [eqR (by omega) (by omega)] at c
      unfold owF; rw [if_neg (fun z => c z.1)]
  · rintro st rfl ih
    unfold sX8_claim_4
    exact OK.t (by rw [hv.1, leN (by omega) (by omega)]; exact Nat.le_refl _) (OK.ret rfl)
theorem weight_m {m : aH} {q : Nat} {w : SEA} {t : STD} (hw : SOK w) (ht : TOK w t) (hs : mSea m w) (hv : mStd m w.lost t) (hq : q < 4) : fX11_weightOf m (nI q) = some (nI (nsum (awF w t q) w.lost) + nI (nsum (owF w t q) w.lost) / 3) := by
  have hn := hw.1
  unfold fX11_weightOf
  refine OK.eq (OK.bind (P := fun r => r = (nI (nsum (awF w t q) w.lost), nI (nsum (owF w t q) w.lost))) ?_ (fun r hr => OK.ret (by rw [hr])))
  refine LOOPUP (fun n (st : Int32 × Int32) l => wX11_weightOf_7 m (nI q) n st.1 st.2 l) (fun ih st l => sX11_weightOf_7 m (nI q) (fun a b c => ih (a, b) c) st.1 st.2 l) (fun n => rfl) (fun i st => st = (nI (nsum (awF w t q) i), nI (nsum (owF w t q) i))) _ w.lost ?_ ?_ 2000 0 (0, 0) (by omega) (by omega) rfl
  · rintro i st hi rfl ih hk
    have h1 := (ht.1 i hi).2
    have h2 := (hw.2.2.1 i hi).1
    try dsimp only
    unfold sX11_weightOf_7 jX11_weightOf_59
    refine OK.f (by rw [hs.2.2.2.1, leN (by omega) (by omega)]; omega) (OK.t (inAdd (by omega) (by omega)) ?_)
    rw [ixA (by omega), ixA (by omega), ixA (by omega), (hs.2.1 i (by omega)).1, (hs.2.1 i (by omega)).2, (hv.1 i hi).2]
    have e1 : nsum (awF w t q) (i + 1) = nsum (awF w t q) i + awF w t q i := rfl
    have e2 : nsum (owF w t q) (i + 1) = nsum (owF w t q) i + owF w t q i := rfl
    refine OK.i (fun c => OK.t (inAdd (by omega) (by omega)) (OK.i (fun c2 => OK.t (inAdd (by omega) (by omega)) ?_) (fun c2 => ?_))) (fun c => ?_)
    · rw [eqN (by omega) (by omega)] at c
      rw [eqR (by omega) (by omega)] at c2
      rw [nI_1, nI_1, addN]
      refine hk _ ?_
      rw [e1, e2]
      unfold awF owF
      rw [if_pos ⟨c2, c⟩, if_pos ⟨c2, c⟩]
    · rw [eqR (by omega) (by omega)] at c2
      rw [nI_1]
      refine hk _ ?_
      rw [e1, e2]
      unfold awF owF
      rw [if_neg (fun z => c2 z.1), if_neg (fun z => c2 z.1)]
      rfl
    · rw [eqN (by omega) (by omega)] at c
      rw [nI_1]
      refine hk _ ?_
      rw [e1, e2]
      unfold awF owF
      rw [if_neg (fun z => c z.2), if_neg (fun z => c z.2)]
      rfl
  · rintro st rfl ih
    try dsimp only
    unfold sX11_weightOf_7
    exact OK.t (by rw [hs.2.2.2.1, leN (by omega) (by omega)]; exact Nat.le_refl _) (OK.ret rfl)
theorem w9999 (p : Int32) : fX11_within p.toInt64 (0 : Int64) (9999 : Int64) = some (bI (0 ≤ p ∧ p ≤ 9999)) := within_i p 0 9999
theorem op_share {x m : aH} (hJ : JJ x m) (p1 p2 : Int32) : OK2 (fX10_share x p1 p2) (fX11_share m p1 p2) (fun a b => a = b) := by
  obtain ⟨w, t, hR⟩ := hJ
  obtain ⟨⟨hw, ht⟩, ⟨hs, hv, hh⟩, hms, hmv⟩ := hR.1.1
  unfold fX10_share fX11_share
  rw [isWithin_1, w3, w9999]
  simp only [Option.bind_some]
  by_cases hp : 0 ≤ p1 ∧ p1 ≤ 3
  · rw [bI_t hp]
    simp only [if_neg n10]
    obtain ⟨q, hq, rfl⟩ := le_arg (N := 3) (by omega) rfl hp
    by_cases h2 : 0 ≤ p2 ∧ p2 ≤ 9999
    · rw [bI_t h2, if_neg n10, if_neg (Int32.not_lt.mpr h2.1), if_pos h2.2]
      refine OK2.bind (P := fun a b => a = b) ?_ (fun a b h => ?_)
      · refine LOOP2 (fun n (st : Int32) l => wX10_share_27 x (nI q) p2 n st l) (fun ih st l => sX10_share_27 x (nI q) p2 ih st l) (fun n => rfl) (fun n (st : Int32) l => wX11_share_31 m (nI q) p2 n st l) (fun ih st l => sX11_share_31 m (nI q) p2 ih st l) (fun n => rfl) (fun i a b => a = b) _ 4 ?_ ?_ 2000 0 0 0 (by omega) (by omega) rfl
        · rintro i a b hi rfl ih ih' hk
          unfold sX10_share_27 sX11_share_31
          have c : ¬ (4 : Int32) ≤ nI i := by rw [leL (by omega) (by omega)]; omega
          rw [if_neg c, if_neg c, claim_x hw ht hs hv hi, weight_m hw ht hms hmv hi]
          simp only [Option.bind_some]
          rw [nI_1]
          exact hk _ _ rfl
        · rintro a b rfl ih ih'
          exact OK2.eq rfl rfl rfl
      · subst h
        by_cases h0 : a = 0
        · rw [if_pos h0, if_pos h0]
          exact OK2.eq rfl rfl rfl
        · rw [if_neg h0, if_neg h0, claim_x hw ht hs hv (show q < 4 by omega), weight_m hw ht hms hmv (show q < 4 by omega)]
          simp only [Option.bind_some]
          rw [if_pos h0]
          exact OK2.eq rfl rfl rfl
    · rw [bI_f h2, if_pos rfl]
      by_cases h3 : p2 < 0
      · rw [if_pos h3]; exact OK2.eq rfl rfl rfl
      · rw [if_neg h3, if_neg (by grind)]; exact OK2.eq rfl rfl rfl
  · rw [bI_f hp]
    exact OK2.eq rfl rfl rfl
/-! drifted -/
theorem sbit {n k : Nat} (hn : n < 2 ^ 64) (hk : k < 64) : (lN n >>> ((nI k).toInt64 &&& 63)) &&& 1 = lN (n / 2 ^ k % 2) := by
  rw [← wb_bit hn hk, wb_c k hk, wb_cu k hk]
  apply wb_inj
  rw [Int64.toBitVec_and, Int64.toBitVec_and, Int64.toBitVec_shiftRight, wb_tb k, wb_sm k hk]
  show ((lN n).toBitVec.sshiftRight' (BitVec.ofNat 64 k)) &&& 1#64 = ((lN n).toUInt64 >>> UInt64.ofNat k).toBitVec &&& 1#64
  rw [UInt64.toBitVec_shiftRight]
  have h1 : (UInt64.ofNat k).toBitVec % 64 = BitVec.ofNat 64 k := by
    show BitVec.ofNat 64 k % 64#64 = BitVec.ofNat 64 k
    apply BitVec.eq_of_toNat_eq
    rw [BitVec.toNat_umod, BitVec.toNat_ofNat, BitVec.toNat_ofNat, Nat.mod_eq_of_lt (show k < 2 ^ 64 by omega)]
    exact Nat.mod_eq_of_lt hk
  rw [h1]
  apply BitVec.eq_of_getLsbD_eq
  intro i hi
  have ht : (BitVec.ofNat 64 k).toNat = k := by rw [BitVec.toNat_ofNat, Nat.mod_eq_of_lt (by omega)]
  rw [BitVec.getLsbD_and, BitVec.getLsbD_and, BitVec.sshiftRight', ht, BitVec.getLsbD_sshiftRight, BitVec.ushiftRight_eq', ht, BitVec.getLsbD_ushiftRight]
  by_cases h0 : i = 0
  · subst h0
    simp [hk]
  · have : (1#64).getLsbD i = false := by simp [h0]
    rw [this, Bool.and_false, Bool.and_false]
theorem lgc0 (v : Int64) : lg_cmp v 0 = 0 ↔ v = 0 := by
  constructor
  · intro h
    have a1 : ¬ v < 0 := fun z => by have := (lgc_lt v 0).mpr z; rw [h] at this; exact absurd this (by decide)
    have a2 : ¬ 0 < v := fun z => by have := (lgc_gt v 0).mpr z; rw [h] at this; exact absurd this (by decide)
    exact Int64.le_antisymm (Int64.not_lt.mp a2) (Int64.not_lt.mp a1)
  · rintro rfl; rfl
theorem lgcE (u v : Int64) : lg_cmp u v = 0 ↔ u = v := by
  constructor
  · intro h
    have a1 : ¬ u < v := fun z => by have := (lgc_lt u v).mpr z; rw [h] at this; exact absurd this (by decide)
    have a2 : ¬ v < u := fun z => by have := (lgc_gt u v).mpr z; rw [h] at this; exact absurd this (by decide)
    exact Int64.le_antisymm (Int64.not_lt.mp a2) (Int64.not_lt.mp a1)
  · rintro rfl
    unfold lg_cmp
    rw [if_neg Int64.lt_irrefl, if_pos rfl]
theorem w20 (p : Int32) : fX11_within p.toInt64 (0 : Int64) (20 : Int64) = some (bI (0 ≤ p ∧ p ≤ 20)) := within_i p 0 20
theorem op_drifted {x m : aH} (hJ : JJ x m) (p1 p2 : Int32) : OK2 (fX10_drifted x p1 p2) (fX11_drifted m p1 p2) (fun a b => a = b) := by
  obtain ⟨w, t, hR⟩ := hJ
  obtain ⟨⟨hw, ht⟩, ⟨hs, hv, hh⟩, hms, hmv⟩ := hR.1.1
  unfold fX10_drifted fX11_drifted fX2_ago
  rw [isWithin_0, isCell_i, w20]
  simp only [Option.bind_some]
  by_cases hp : 0 ≤ p1 ∧ p1 ≤ 63
  · rw [bI_t hp]
    simp only [if_neg n10]
    by_cases h2 : 0 ≤ p2 ∧ p2 ≤ 20
    · rw [bI_t h2, if_neg n10, if_neg (Int32.not_lt.mpr h2.1), if_pos h2.2]
      obtain ⟨N, hN, rfl⟩ := le_arg (N := 20) (by omega) rfl h2
      refine OK2.bind (P := fun a b => a = b) (OK2.mono (R := fun a b => a = b) (P := fun a b => a = b) ?_ (fun a b h => h)) (fun a b h => OK2.eq rfl rfl h)
      have ebind : ∀ o : Option Int64, (o.bind fun q => some q) = o := fun o => by cases o <;> rfl
      rw [ebind]
      refine LOOP2 (fun n (st : Int64) l => wX2_ago_7 x (nI N) n st l) (fun ih st l => sX2_ago_7 x (nI N) ih st l) (fun n => rfl) (fun n (st : Int64) l => wX11_drifted_31 m (nI N) n st l) (fun ih st l => sX11_drifted_31 m (nI N) ih st l) (fun n => rfl) (fun i a b => a = b) _ N ?_ ?_ 2000 0 _ _ (by omega) (by omega) rfl
      · rintro i a b hi rfl ih ih' hk
        unfold sX2_ago_7 sX11_drifted_31
        have c : ¬ nI N ≤ nI i := by rw [leN (by omega) (by omega)]; omega
        rw [if_neg c, if_neg c]
        refine OK2.bind (P := fun a b => a = b) ?_ (fun a b h => by rw [h, nI_1]; exact hk _ _ rfl)
        obtain ⟨n, hn, rfl⟩ := wb_of a
        refine LOOP2 (fun q (st : Int64) l => wX2_ago_19 x (nI N) (lN n) (nI i) q st l) (fun ih st l => sX2_ago_19 x (nI N) (lN n) (nI i) ih st l) (fun n => rfl) (fun q (st : Int64) l => wX11_drifted_43 m (nI N) (lN n) (nI i) q st l) (fun ih st l => sX11_drifted_43 m (nI N) (lN n) (nI i) ih st l) (fun n => rfl) (fun i a b => a = b) _ 64 ?_ ?_ 2000 0 0 0 (by omega) (by omega) rfl
        · rintro j u v hj rfl ih ih' hk
          unfold sX2_ago_19 sX11_drifted_43 jX2_ago_53
          have c : ¬ (64 : Int32) ≤ nI j := by rw [leL (by omega) (by omega)]; omega
          have hdf := (hw.2.1 j hj).2
          have hcl : carF (w.df j) j < 64 := carF_lt hj
          rw [if_neg c, if_neg c, carried_x (hs.1 j hj).2 hdf hj, driftsTo_m (hms.1 j hj).2 hdf hj]
          simp only [Option.bind_some]
          rw [wb_bit hn hcl, sbit hn hcl, nI_1]
          rcases (show n / 2 ^ carF (w.df j) j % 2 = 0 ∨ n / 2 ^ carF (w.df j) j % 2 = 1 by omega) with e | e
          · rw [e, if_pos (by decide), wb_shl 0 hj, Nat.zero_mul, show lN 0 = 0 from rfl, Int64.or_zero]
            exact hk _ _ rfl
          · rw [e, if_neg (by decide)]
            exact hk _ _ rfl
        · rintro u v rfl ih ih'
          exact OK2.eq rfl rfl rfl
      · rintro a b rfl ih ih'
        unfold sX2_ago_7 sX11_drifted_31
        have c : nI N ≤ nI N := Int32.le_refl _
        rw [if_pos c, if_pos c]
        exact OK2.eq rfl rfl rfl
    · rw [bI_f h2, if_pos rfl]
      by_cases h3 : p2 < 0
      · rw [if_pos h3]; exact OK2.eq rfl rfl rfl
      · rw [if_neg h3, if_neg (by grind)]; exact OK2.eq rfl rfl rfl
  · rw [bI_f hp]
    exact OK2.eq rfl rfl rfl
/-! ashore -/
theorem first2 {x m : aH} {w : SEA} {d n a : Nat} {c s : Nat} (hw : SOK w) (hs : vSea x w) (hms : mSea m w) (hd : d < 6) (h : shR x m d 0 n) (hc : c < 64) (hs1 : s ≤ 1) : OK2 (wX2_firstUnlike_9 (61 + 2 * d) x 2000 (nI c) (nI s) 0) (wX11_firstFalse_17 m (nI d) 2000 (nI c) (nI s) 0) (fun a b => a = b) := by
  have hn := h.1.2
  have cd : (0 : Int32) ≤ nI d ∧ nI d < (6 : Int32) := inN (by omega) hd
  refine LOOP2 (fun q (st : Int32 × Int32) l => wX2_firstUnlike_9 (61 + 2 * d) x q st.1 st.2 l) (fun ih st l => sX2_firstUnlike_9 (61 + 2 * d) x (fun a b c => ih (a, b) c) st.1 st.2 l) (fun n => rfl) (fun q (st : Int32 × Int32) l => wX11_firstFalse_17 m (nI d) q st.1 st.2 l) (fun ih st l => sX11_firstFalse_17 m (nI d) (fun a b c => ih (a, b) c) st.1 st.2 l) (fun n => rfl) (fun i a b => a = b ∧ ∃ c s : Nat, c < 64 ∧ s ≤ 1 ∧ a = (nI c, nI s)) _ (if n < 49 then n else 49) ?_ ?_ 2000 0 (nI c, nI s) (nI c, nI s) (by split <;> omega) (by omega) ⟨rfl, c, s, hc, hs1, rfl⟩
  · rintro i a b hi ⟨rfl, c, s, hc, hs1, rfl⟩ ih ih' hk
    have hin : i < n ∧ i < 49 := by split at hi <;> omega
    have c1 : ¬ nI n ≤ nI i := by rw [leN (by omega) (by omega)]; omega
    have c2 : ¬ (49 : Int32) ≤ nI i := by rw [leL (by omega) (by omega)]; omega
    have c3 : (0 : Int32) ≤ nI (60 * d + i) ∧ nI (60 * d + i) < (360 : Int32) := inN (by omega) (by omega)
    obtain ⟨v, hv⟩ := (h.2.2.2 i hin.1).2 rfl
    have hdf := (hw.2.1 c hc).2
    have hcl : carF (w.df c) c < 64 := carF_lt hc
    have hla := hw.2.2.2.1
    try dsimp only
    unfold sX2_firstUnlike_9 sX11_firstFalse_17
    rw [h.2.1.2.1, if_neg c1, if_neg c2, if_neg c2, if_pos cd, ixN (show d < 2147483648 by omega), h.2.2.1.2, if_neg c1, mulL, addN, if_pos c3, ixN (show 60 * d + i < 2147483648 by omega), number_x h hin.1, hv]
    simp only [Option.bind_some, ti_tl]
    have e64 : (lg_cmp v.toInt64 64 = 0) ↔ v = 64 := by rw [lgcE, show (64 : Int64) = (64 : Int32).toInt64 from rfl, tl_eq]
    have ec : (lg_cmp v.toInt64 (nI c).toInt64 = 0) ↔ v = nI c := by rw [lgcE, tl_eq]
    have go : OK2 (jX2_firstUnlike_50 (61 + 2 * d) (fun a b c => ih (a, b) c) x (nI c) (nI s) (nI i)) (jX11_firstFalse_70 (fun a b c => ih' (a, b) c) m (nI d) (nI c) (nI s) (nI i)) (fun a b => a = b) := by
      unfold jX2_firstUnlike_50 jX11_firstFalse_70 jX2_firstUnlike_69 jX2_firstUnlike_88 jX2_firstUnlike_93 jX11_firstFalse_101 jX11_firstFalse_103
      rcases (show s = 0 ∨ s = 1 by omega) with rfl | rfl
      · have z0 : nI 0 = (0 : Int32) := rfl
        rw [if_pos z0, if_pos z0, carried_x (hs.1 c hc).2 hdf hc, driftsTo_m (hms.1 c hc).2 hdf hc]
        simp only [Option.bind_some]
        rw [if_pos z0, ix_168, hs.2.2.1.1, hms.2.2.1.1, nI_1]
        by_cases hl : nI (carF (w.df c) c) = nI w.lamp
        · rw [if_pos hl, if_pos hl]
          exact hk (nI (carF (w.df c) c), 1) _ ⟨rfl, _, 1, hcl, by omega, rfl⟩
        · rw [if_neg hl, if_neg hl]
          exact hk (nI (carF (w.df c) c), 0) _ ⟨rfl, _, 0, hcl, by omega, rfl⟩
      · have z1 : ¬ nI 1 = (0 : Int32) := by decide
        rw [if_neg z1, if_neg z1, if_neg z1, nI_1]
        exact hk (nI c, 1) _ ⟨rfl, c, 1, hc, by omega, rfl⟩
    by_cases h64 : v = 64
    · rw [if_pos h64, if_pos (e64.mpr h64)]
      exact go
    · rw [if_neg h64, if_neg (fun z => h64 (e64.mp z))]
      by_cases hvc : v = nI c
      · rw [if_pos hvc, if_pos (ec.mpr hvc)]
        exact go
      · rw [if_neg hvc, if_neg (fun z => hvc (ec.mp z))]
        exact OK2.eq rfl rfl rfl
  · rintro a b ⟨rfl, c, s, hc, hs1, rfl⟩ ih ih'
    try dsimp only
    unfold sX2_firstUnlike_9 sX11_firstFalse_17
    rw [h.2.1.2.1, if_pos cd, ixN (show d < 2147483648 by omega), h.2.2.1.2]
    by_cases hn49 : n < 49
    · rw [if_pos hn49]
      have c1 : nI n ≤ nI n := Int32.le_refl _
      have c2 : ¬ (49 : Int32) ≤ nI n := by rw [leL (by omega) (by omega)]; omega
      rw [if_pos c1, if_neg c2, if_pos c1]
      exact OK2.eq rfl rfl rfl
    · rw [if_neg hn49]
      have c2 : (49 : Int32) ≤ nI 49 := by decide
      rw [if_pos c2, if_pos c2]
      by_cases h1 : nI n ≤ nI 49
      · rw [if_pos h1]; exact OK2.eq rfl rfl rfl
      · rw [if_neg h1]; exact OK2.eq rfl rfl rfl
theorem unlike2 {x m : aH} {w : SEA} {t : STD} {d n c i : Nat} (hJ : JN x m w t) (hd : d < 6) (h : shR x m d 0 n) (hc : c < 64) (hi : i < w.lost) : OK2 (fX2_firstUnlike x (61 + 2 * d) (nI c) (nI (t.home i))) (fX11_firstFalse m (nI d) (nI i) (nI c)) (fun a b => a = b) := by
  obtain ⟨⟨hw, ht⟩, ⟨hs, hv, hh⟩, hms, hmv⟩ := hJ
  have hn := hw.1
  have c1 : (0 : Int32) ≤ (30 : Int32) + nI i ∧ (30 : Int32) + nI i < (172 : Int32) := inAdd (by omega) (by omega)
  unfold fX2_firstUnlike fX11_firstFalse
  rw [if_pos c1, ixA (by omega), (hmv.1 i hi).2]
  refine OK2.bind (first2 (a := 0) hw hs hms hd h hc (ht.1 i hi).2) (fun a b hab => ?_)
  subst hab
  rcases a with a | a <;> exact OK2.eq rfl rfl rfl
theorem w02 (p : Int32) : fX11_within p.toInt64 (0 : Int64) (2 : Int64) = some (bI (0 ≤ p ∧ p ≤ 2)) := within_i p 0 2
theorem from2 {x m : aH} {w : SEA} {t : STD} {d n i : Nat} {wl : Bool} (hJ : JN x m w t) (hd : d < 6) (h : shR x m d 0 n) (hi : i < w.lost) (p3 : Int32) : OK2 (fX2_from x (61 + 2 * d) (nI (t.home i)) (if wl = true then 1 else 0)) (wX11_ashore_73 m (nI d) (nI i) p3 2000 0 (-2) 0) (fun a b => a = if wl = true then b.2 else b.1) := by
  have ha : ∃ r : Nat → Int32, ∀ c, c < 64 → fX2_firstUnlike x (61 + 2 * d) (nI c) (nI (t.home i)) = some (r c) ∧ fX11_firstFalse m (nI d) (nI i) (nI c) = some (r c) := by
    refine ⟨fun c => if hc : c < 64 then Classical.choose (unlike2 hJ hd h hc hi) else 0, fun c hc => ?_⟩
    simp only [dif_pos hc]
    obtain ⟨b, h1, h2, h3⟩ := Classical.choose_spec (unlike2 hJ hd h hc hi)
    exact ⟨h1, h2.trans (congrArg some h3.symm)⟩
  obtain ⟨r, hr⟩ := ha
  unfold fX2_from
  have key : OK2 (wX2_from_6 (61 + 2 * d) x (nI (t.home i)) (if wl = true then 1 else 0) 2000 0 0) (wX11_ashore_73 m (nI d) (nI i) p3 2000 0 (-2) 0) (fun a b => elS a (fun v => wl = true ∧ v = b.2) (fun v => if wl = true then b.2 = -2 else v = b.1)) := by
    by_cases hwl : wl = true
    · -- the least: the class stops there, the reference goes on
      rw [if_pos hwl]
      obtain ⟨e, e1, e2, e3⟩ := lead_ex (fun c => ¬ r c = -2) 64
      have hx : wX2_from_6 (61 + 2 * d) x (nI (t.home i)) 1 2000 0 0 = some (if e < 64 then .inl (nI e) else .inr 0) := by
        refine OK.eq ?_
        refine LOOPUP (fun q (st : Int32) l => wX2_from_6 (61 + 2 * d) x (nI (t.home i)) 1 q st l) (fun ih st l => sX2_from_6 (61 + 2 * d) x (nI (t.home i)) 1 ih st l) (fun n => rfl) (fun k st => st = 0) _ e ?_ ?_ 2000 0 0 (by omega) (by omega) rfl
        · rintro k st hk rfl ih hh
          unfold sX2_from_6 jX2_from_36
          refine OK.f (by rw [leL (by omega) (by omega)]; omega) (OK.r (hr k (by omega)).1 (OK.f (e2 k hk) ?_))
          rw [nI_1]
          exact hh _ rfl
        · rintro st rfl ih
          unfold sX2_from_6
          by_cases he : e < 64
          · rw [if_pos he]
            exact OK.f (by rw [leL (by omega) (by omega)]; omega) (OK.r (hr e he).1 (OK.t (Decidable.not_not.mp (e3 he)) (OK.f n10 (OK.ret rfl))))
          · rw [if_neg he]
            exact OK.t (by rw [leL (by omega) (by omega)]; omega) (OK.ret rfl)
      have hm : OK (wX11_ashore_73 m (nI d) (nI i) p3 2000 0 (-2) 0) (fun b => b.2 = if e < 64 then nI e else -2) := by
        refine LOOPUP (fun q (st : Int32 × Int32) l => wX11_ashore_73 m (nI d) (nI i) p3 q st.1 st.2 l) (fun ih st l => sX11_ashore_73 m (nI d) (nI i) p3 (fun a b c => ih (a, b) c) st.1 st.2 l) (fun n => rfl) (fun k st => (k ≤ e ∧ st = (0, -2)) ∨ (e < k ∧ st.2 = nI e ∧ ∃ q : Nat, 1 ≤ q ∧ q ≤ k ∧ st.1 = nI q)) _ 64 ?_ ?_ 2000 0 (0, -2) (by omega) (by omega) (Or.inl ⟨by omega, rfl⟩)
        · rintro k ⟨s1, s2⟩ hk hI ih hh
          try dsimp only
          unfold sX11_ashore_73 jX11_ashore_105 jX11_ashore_110
          refine OK.f (by rw [leL (by omega) (by omega)]; omega) (OK.r (hr k hk).2 ?_)
          rcases hI with ⟨h1, h2⟩ | ⟨h1, h2, q, q1, q2, q3⟩
          · obtain ⟨rfl, rfl⟩ := Prod.mk.inj h2
            by_cases hke : k = e
            · subst hke
              refine OK.t (Decidable.not_not.mp (e3 hk)) (OK.t rfl ?_)
              rw [nI_1]
              exact hh _ (Or.inr ⟨by omega, rfl, 1, by omega, by omega, rfl⟩)
            · refine OK.f (e2 k (by omega)) ?_
              rw [nI_1]
              exact hh _ (Or.inl ⟨by omega, rfl⟩)
          · dsimp only at h2 q3
            subst h2 q3
            refine OK.i (fun c => OK.f (by rw [eqR (by omega) (by omega)]; omega) ?_) (fun c => ?_)
            · rw [nI_1, nI_1]
              exact hh _ (Or.inr ⟨by omega, rfl, q + 1, by omega, by omega, rfl⟩)
            · rw [nI_1]
              exact hh _ (Or.inr ⟨by omega, rfl, q, q1, by omega, rfl⟩)
        · rintro ⟨s1, s2⟩ hI ih
          try dsimp only
          unfold sX11_ashore_73
          refine OK.t (by decide) (OK.ret ?_)
          rcases hI with ⟨h1, h2⟩ | ⟨h1, h2, -⟩
          · obtain ⟨rfl, rfl⟩ := Prod.mk.inj h2
            show (-2 : Int32) = _
            rw [if_neg (by omega)]
          · show s2 = _
            rw [if_pos h1]
            exact h2
      refine OK2.mk (OK.of hx) hm (fun a b ha hb => ?_)
      subst ha
      by_cases he : e < 64
      · rw [if_pos he] at hb ⊢
        exact ⟨hwl, hb.symm⟩
      · rw [if_neg he] at hb ⊢
        show if wl = true then b.2 = -2 else _
        rw [if_pos hwl]
        exact hb
    · rw [if_neg hwl]
      refine LOOP2 (fun q (st : Int32) l => wX2_from_6 (61 + 2 * d) x (nI (t.home i)) 0 q st l) (fun ih st l => sX2_from_6 (61 + 2 * d) x (nI (t.home i)) 0 ih st l) (fun n => rfl) (fun q (st : Int32 × Int32) l => wX11_ashore_73 m (nI d) (nI i) p3 q st.1 st.2 l) (fun ih st l => sX11_ashore_73 m (nI d) (nI i) p3 (fun a b c => ih (a, b) c) st.1 st.2 l) (fun n => rfl) (fun k a b => a = b.1) _ 64 ?_ ?_ 2000 0 0 (0, -2) (by omega) (by omega) rfl
      · rintro k a ⟨s1, s2⟩ hk hI ih ih' hh
        dsimp only at hI
        subst hI
        try dsimp only
        unfold sX2_from_6 jX2_from_36 sX11_ashore_73 jX11_ashore_105 jX11_ashore_110
        have c : ¬ (64 : Int32) ≤ nI k := by rw [leL (by omega) (by omega)]; omega
        rw [if_neg c, if_neg c, (hr k hk).1, (hr k hk).2]
        simp only [Option.bind_some]
        by_cases h2 : r k = -2
        · rw [if_pos h2, if_pos h2, if_pos trivial, nI_1]
          by_cases h3 : a = 0
          · rw [if_pos h3]; exact hh _ (a + 1, nI k) rfl
          · rw [if_neg h3]; exact hh _ (a + 1, s2) rfl
        · rw [if_neg h2, if_neg h2, nI_1]
          exact hh _ (a, s2) rfl
      · rintro a ⟨s1, s2⟩ hI ih ih'
        dsimp only at hI
        subst hI
        refine OK2.eq (a := .inr a) (b := (a, s2)) rfl rfl ?_
        show if wl = true then _ else a = a
        rw [if_neg hwl]
  have ebind : ∀ o : Option (Int32 × Int32), (o.bind fun q => some q) = o := fun o => by cases o <;> rfl
  rw [← ebind (wX11_ashore_73 m (nI d) (nI i) p3 2000 0 (-2) 0)]
  refine OK2.bind key (fun a b hab => ?_)
  rcases a with v | v
  · obtain ⟨g1, g2⟩ := hab
    exact OK2.eq rfl rfl (by rw [if_pos g1]; exact g2)
  · have hab' : if wl = true then b.2 = -2 else v = b.1 := hab
    by_cases hwl : wl = true
    · rw [if_pos hwl] at hab'
      show OK2 (if (if wl = true then (1 : Int32) else 0) = 0 then some v else some (-2)) (some b) _
      rw [if_pos hwl, if_neg n10]
      exact OK2.eq rfl rfl (by rw [if_pos hwl, hab'])
    · rw [if_neg hwl] at hab'
      show OK2 (if (if wl = true then (1 : Int32) else 0) = 0 then some v else some (-2)) (some b) _
      rw [if_neg hwl, if_pos rfl]
      exact OK2.eq rfl rfl (by rw [if_neg hwl, hab'])
theorem op_ashore {x m : aH} (hJ : JJ x m) (p1 p2 p3 : Int32) : OK2 (fX10_ashore x p1 p2 p3) (fX11_ashore m p1 p2 p3) (fun a b => a = b) := by
  obtain ⟨w, t, hR⟩ := hJ
  have hN := hR.1.1
  have hS := hR.2.2.2.2
  have ebind : ∀ o : Option Int32, (o.bind fun q => some q) = o := fun o => by cases o <;> rfl
  by_cases hC : 0 ≤ p3 ∧ p3 ≤ 2
  · rcases isLost2 hN p2 with ⟨i, hi, rfl, l1, l2⟩ | ⟨-, l1, l2⟩
    · rcases bytes_x hS p1 with ⟨-, b1, b2⟩ | ⟨d, hd, rfl, ⟨b1, b2⟩ | ⟨b1, b2⟩ | ⟨b1, b2, n, h⟩⟩
      · exact OK2.eq (a := -1) (b := -1) (by simp [fX10_ashore, l1, b1, Int32.not_lt.mpr hC.1, hC.2]) (by simp [fX11_ashore, b2]) rfl
      · exact OK2.eq (a := -11) (b := -11) (by simp [fX10_ashore, l1, b1, Int32.not_lt.mpr hC.1, hC.2]) (by simp [fX11_ashore, b2, l2, w02, bI_t hC]) rfl
      · exact OK2.eq (a := -12) (b := -12) (by simp [fX10_ashore, l1, b1, Int32.not_lt.mpr hC.1, hC.2]) (by simp [fX11_ashore, b2, l2, w02, bI_t hC]) rfl
      · obtain ⟨⟨hw, ht⟩, ⟨hs, hv, hh⟩, hms, hmv⟩ := id hN
        have hn := hw.1
        have cd : (0 : Int32) ≤ nI d ∧ nI d < (6 : Int32) := inN (by omega) hd
        have ci := in10 (show i < 10 by omega)
        have ci2 : (0 : Int32) ≤ nI i ∧ nI i < (172 : Int32) := inN (by omega) (by omega)
        have hhm := isHome_x hn (fun i hi => (ht.1 i hi).2) hv hi
        have ei : ix (nI i) = i := ixN (by omega)
        have ed : ix (nI d) = d := ixN (by omega)
        have g01 : ¬ (1 : Int32) < 0 := by decide
        unfold fX10_ashore fX11_ashore
        rw [l1, b1, b2, l2, w02, bI_t hC]
        simp only [Option.bind_some, if_neg n10, if_neg (Int32.not_lt.mpr hC.1), if_pos hC.2, if_pos cd, if_pos ci, if_pos ci2, hhm, ei, ed, ebind]
        rw [if_neg (show ¬ (1 : Int32) = -1 by decide), if_pos (show (0 : Int32) ≤ 1 by decide), if_pos trivial]
        obtain ⟨p, hp, rfl⟩ := le_arg (N := 2) (by omega) rfl hC
        rcases (show p = 0 ∨ p = 1 ∨ p = 2 by omega) with rfl | rfl | rfl
        · have z00 : nI 0 = (0 : Int32) := rfl
          simp only [if_pos z00]
          have e1 : ri x 16 i = nI (t.cell i) := hv.2.1 i hi
          have e2 : ri m 74 i = nI (t.cell i) := (hmv.1 i hi).1
          rw [e1, e2]
          exact unlike2 hN hd h (ht.1 i hi).1 hi
        · have z10 : ¬ nI 1 = (0 : Int32) := by decide
          have z12 : ¬ nI 1 = (2 : Int32) := by decide
          have z11 : nI 1 = (1 : Int32) := rfl
          simp only [if_neg z10, if_neg z12, if_pos z11]
          unfold jX10_ashore_97
          rw [ebind]
          obtain ⟨a, b, q1, q2, q3⟩ := from2 (wl := false) hN hd h hi (nI 1)
          have q1' : fX2_from x (61 + 2 * d) (nI (t.home i)) 0 = some a := q1
          rw [q1', q2]
          exact OK2.eq rfl rfl q3
        · have z20 : ¬ nI 2 = (0 : Int32) := by decide
          have z22 : nI 2 = (2 : Int32) := rfl
          have z21 : ¬ nI 2 = (1 : Int32) := by decide
          simp only [if_neg z20, if_pos z22, if_neg z21]
          unfold jX10_ashore_97
          rw [ebind]
          obtain ⟨a, b, q1, q2, q3⟩ := from2 (wl := true) hN hd h hi (nI 2)
          have q1' : fX2_from x (61 + 2 * d) (nI (t.home i)) 1 = some a := q1
          rw [q1', q2]
          exact OK2.eq rfl rfl q3
    · refine OK2.eq (a := -1) (b := -1) (by simp [fX10_ashore, l1]) ?_ rfl
      rcases bytes_x hS p1 with ⟨-, b1, b2⟩ | ⟨d, hd, rfl, ⟨b1, b2⟩ | ⟨b1, b2⟩ | ⟨b1, b2, n, h⟩⟩ <;> simp [fX11_ashore, b2, l2]
  · refine OK2.eq (a := -1) (b := -1) ?_ ?_ rfl
    · have e : p3 < 0 ∨ ¬ p3 ≤ 2 := by grind
      rcases isLost2 hN p2 with ⟨i, hi, rfl, l1, l2⟩ | ⟨-, l1, l2⟩
      · rcases e with e | e
        · simp [fX10_ashore, l1, e]
        · simp [fX10_ashore, l1, e]
      · simp [fX10_ashore, l1]
    · rcases isLost2 hN p2 with ⟨i, hi, rfl, l1, l2⟩ | ⟨-, l1, l2⟩ <;> rcases bytes_x hS p1 with ⟨-, b1, b2⟩ | ⟨d, hd, rfl, ⟨b1, b2⟩ | ⟨b1, b2⟩ | ⟨b1, b2, n, h⟩⟩ <;> simp [fX11_ashore, b2, l2, w02, bI_f hC]
