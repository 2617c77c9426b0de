/-! ===== fetch ===== -/
def hsP (w : SEA) (t : STD) (one N L : Nat) : Prop := (runF w t (dgF N L) N).home one = 1
theorem hs_dec (w : SEA) (t : STD) (one N L : Nat) : hsP w t one N L ∨ ¬ hsP w t one N L := by unfold hsP; omega
def fI (x : aH) (w : SEA) (t : STD) (y : aH) : Prop := Fr BXr BXf x y ∧ scrH y w.lost ∧ vStd y 27 w.lost t
theorem line_x {x y : aH} {w : SEA} {t : STD} {one N e : Nat} (hw : SOK w) (ht : TOK w t) (hs : vSea x w) (hN : N ≤ 4) (hone : one < w.lost) (hy : fI x w t y) (he : e ≤ 5 ^ N) (h1 : ∀ L, L < e → ¬ hsP w t one N L) (h2 : e < 5 ^ N → hsP w t one N e) : OK (wX6_fewest_20 15 (nI one) (nI N) 2000 y 0) (fun s => elS s (fun r => e < 5 ^ N ∧ r.1 = nI N ∧ fI x w t r.2 ∧ fi r.2 23 2 = nI e) (fun z => e = 5 ^ N ∧ fI x w t z)) := by
  have hn := hw.1
  have cN : (0 : Int32) ≤ nI N ∧ nI N < (5 : Int32) := inN (by omega) (by omega)
  obtain ⟨s1, s2, s3⟩ := stLN N (by omega)
  refine LOOPUP (fun n (st : aH) l => wX6_fewest_20 15 (nI one) (nI N) n st l) (fun ih st l => sX6_fewest_20 15 (nI one) (nI N) ih st l) (fun n => rfl) (fun L z => fI x w t z ∧ (0 < L → stds z w t (dgF N (L - 1)) N)) _ e ?_ ?_ 2000 0 y (by omega) (by omega) ⟨hy, fun h => absurd h (by decide)⟩
  · intro L z hL hI ih hk
    obtain ⟨⟨z1, z2, z3⟩, z4⟩ := hI
    unfold sX6_fewest_20
    rw [ixN (by omega), s1]
    refine OK.t cN (OK.f (by rw [leN (by omega) (by omega)]; omega) ?_)
    refine OK.bind (follow_x (x := z) hw ht (hs.fr z1 (by simp <;> omega) (by simp <;> omega)) hN (by omega) (Fr.rf _ _ _) z2 z3 z4) (fun q hq => ?_)
    obtain ⟨q1, q2, q3, q4⟩ := hq
    have hro := runF_ok (f := dgF N L) hw ht N
    rw [q1]
    refine OK.t (SDo hN) (OK.r (isHome_x hn (fun i hi => (hro.1 i hi).2) (q4 N (Nat.le_refl _)) hone) ?_)
    have hb := (hro.1 one hone).2
    have h0 : (runF w t (dgF N L) N).home one = 0 := by
      have := h1 L hL
      unfold hsP at this
      omega
    rw [h0, nI_1]
    exact OK.t rfl (hk _ ⟨⟨z1.tr (q2.w (by simp) (by simp <;> omega)), q3, q4 0 (Nat.zero_le _)⟩, fun _ => q4⟩)
  · intro z hI ih
    obtain ⟨⟨z1, z2, z3⟩, z4⟩ := hI
    unfold sX6_fewest_20
    rw [ixN (by omega), s1]
    refine OK.t cN ?_
    by_cases hlt : e < 5 ^ N
    · refine OK.f (by rw [leN (by omega) (by omega)]; omega) ?_
      refine OK.bind (follow_x (x := z) hw ht (hs.fr z1 (by simp <;> omega) (by simp <;> omega)) hN (by omega) (Fr.rf _ _ _) z2 z3 z4) (fun q hq => ?_)
      obtain ⟨q1, q2, q3, q4⟩ := hq
      have hro := runF_ok (f := dgF N e) hw ht N
      rw [q1]
      refine OK.t (SDo hN) (OK.r (isHome_x hn (fun i hi => (hro.1 i hi).2) (q4 N (Nat.le_refl _)) hone) ?_)
      have h0 : (runF w t (dgF N e) N).home one = 1 := h2 hlt
      rw [h0]
      refine OK.f n10 (OK.ret ⟨hlt, rfl, ⟨?_, ?_, ?_⟩, by simp [gf]⟩)
      · exact z1.tr ((q2.w (by simp) (by simp <;> omega)).tr (Fr.sfi (Fr.rf _ _ _) (by simp)))
      · exact q3.fr (Fr.sfi (Fr.rf [] [(23, 2)] q.2) (by simp)) (fun a ha => by have := ha; unfold SD at this; simp <;> omega)
      · exact (q4 0 (Nat.zero_le _)).frA (Fr.sfi (Fr.rf [] [(23, 2)] q.2) (by simp)) (by simp) (by simp)
    · exact OK.t (by rw [leN (by omega) (by omega)]; omega) (OK.ret ⟨by omega, ⟨z1, z2, z3⟩⟩)
/-- the first line by which one is home; the fewest nights -/
def e1P (w : SEA) (t : STD) (one : Nat) (E : Nat → Nat) (c : Nat) : Prop := (∀ N, N ≤ 4 → E N ≤ 5 ^ N ∧ (∀ L, L < E N → ¬ hsP w t one N L) ∧ (E N < 5 ^ N → hsP w t one N (E N))) ∧ c ≤ 5 ∧ (∀ N, N < c → E N = 5 ^ N) ∧ (c < 5 → E c < 5 ^ c)
theorem e1_ex (w : SEA) (t : STD) (one : Nat) : ∃ E c, e1P w t one E c := by
  have h : ∀ N, ∃ e, e ≤ 5 ^ N ∧ (∀ L, L < e → ¬ hsP w t one N L) ∧ (e < 5 ^ N → hsP w t one N e) := by
    intro N
    obtain ⟨e, q1, q2, q3⟩ := lead_ex (fun L => ¬ hsP w t one N L) (5 ^ N)
    exact ⟨e, q1, q2, fun h => by rcases hs_dec w t one N e with g | g; exact g; exact absurd g (q3 h)⟩
  refine ⟨fun N => Classical.choose (h N), ?_⟩
  obtain ⟨c, c1, c2, c3⟩ := lead_ex (fun N => Classical.choose (h N) = 5 ^ N) 5
  exact ⟨c, fun N _ => Classical.choose_spec (h N), c1, c2, fun hc => by
    have := (Classical.choose_spec (h c)).1
    have := c3 hc
    dsimp only at this ⊢
    omega⟩
theorem fewest_x {x : aH} {w : SEA} {t : STD} {one c : Nat} {E : Nat → Nat} (hw : SOK w) (ht : TOK w t) (hs : vSea x w) (hv : vStd x 15 w.lost t) (hh : scrH x w.lost) (hone : one < w.lost) (hE : e1P w t one E c) : OK (fX6_fewest x 15 (nI one)) (fun q => fI x w t q.2 ∧ q.1 = (if c < 5 then nI c else -1) ∧ (c < 5 → fi q.2 23 2 = nI (E c))) := by
  obtain ⟨g1, g2, g3, g4⟩ := hE
  unfold fX6_fewest
  refine OK.bind (become27 hw hv hh) (fun z hz => ?_)
  have hzh := (hz.TH hw ht hh).2
  refine OK.bind (P := fun s => elS s (fun r => c < 5 ∧ r.1 = nI c ∧ fI x w t r.2 ∧ fi r.2 23 2 = nI (E c)) (fun z => c = 5 ∧ fI x w t z)) ?_ (fun s hs1 => ?_)
  · refine LOOPUP (fun n (st : aH) l => wX6_fewest_12 15 (nI one) n st l) (fun ih st l => sX6_fewest_12 15 (nI one) ih st l) (fun n => rfl) (fun N z => fI x w t z) _ c ?_ ?_ 2000 0 z (by omega) (by omega) ⟨hz.2.w (by simp <;> omega) (by simp <;> omega), hzh, hz.1⟩
    · intro N z hN hI ih hk
      obtain ⟨k1, k2, k3⟩ := g1 N (by omega)
      unfold sX6_fewest_12
      refine OK.f (by rw [ltL (by omega) (by omega)]; omega) (OK.bind (line_x hw ht hs (by omega) hone hI k1 k2 k3) (fun s hs1 => ?_))
      rcases s with r | u
      · exact absurd hs1.1 (by have := g3 N hN; omega)
      · show OK (ih u (nI N + 1)) _
        rw [nI_1]
        exact hk _ hs1.2
    · intro z hI ih
      unfold sX6_fewest_12
      by_cases hc : c < 5
      · obtain ⟨k1, k2, k3⟩ := g1 c (by omega)
        refine OK.f (by rw [ltL (by omega) (by omega)]; omega) (OK.bind (line_x hw ht hs (by omega) hone hI k1 k2 k3) (fun s hs1 => ?_))
        rcases s with r | u
        · exact OK.ret ⟨hc, hs1.2⟩
        · exact absurd hs1.1 (by have := g4 hc; omega)
      · exact OK.t (by rw [ltL (by omega) (by omega)]; omega) (OK.ret ⟨by omega, hI⟩)
  · rcases s with r | u
    · obtain ⟨r1, r2, r3, r4⟩ := hs1
      exact OK.ret ⟨r3, by rw [if_pos r1]; exact r2, fun _ => r4⟩
    · obtain ⟨u1, u2⟩ := hs1
      exact OK.ret ⟨u2, by rw [if_neg (by omega)], fun h => absurd h (by omega)⟩
/-! the reference -/
theorem fetches_m {m : aH} {w : SEA} {t : STD} {T one e : Nat} (hw : SOK w) (ht : TOK w t) (hms : mSea m w) (hmv : mStd m w.lost t) (hT : T ≤ 4) (hone : one < w.lost) (h1 : ∀ L, L < e → ¬ hsP w t one T L) (h2 : e < 5 ^ T → hsP w t one T e) : ∀ (d k p f : Nat) (y : aH), k + d = T → p < 5 ^ k → d + 1 ≤ f → p * 5 ^ d ≤ e → Fr TRr TRf m y → trd y k p → OK (fX11_fetches f y (nI one) (nI k) (nI T)) (fun q => Fr TRr TRf m q.2 ∧ if e < (p + 1) * 5 ^ d then q.1 = 1 ∧ trd q.2 T e else q.1 = 0 ∧ trd q.2 k p) := by
  have hn := hw.1
  have h5 : ∀ k, k ≤ 4 → 5 ^ k ≤ 625 := fun k hk => (stLN k (by omega)).2.1
  have co := in10 (show one < 10 by omega)
  intro d
  induction d with
  | zero =>
    intro k p f y hkT hp hf hpe y1 y2
    obtain ⟨f, rfl⟩ : ∃ g, f = g + 1 := ⟨f - 1, by omega⟩
    have : k = T := by omega
    subst this
    rw [Nat.pow_zero, Nat.mul_one] at hpe ⊢
    rw [fX11_fetches_S]
    unfold uX11_fetches
    refine OK.t rfl ?_
    obtain ⟨z, hz, z1, z2⟩ := run_tried (p := p) hw ht hms hmv hT y1 y2 (fun n st l => wX11_fetches_12 (fX11_fetches f) (nI one) (nI k) n st l) (fun ih st l => sX11_fetches_12 (fX11_fetches f) (nI one) (nI k) ih st l) (fun n => rfl) (fun ih x l => rfl)
    obtain ⟨b, hb, hz⟩ := bind_t hz
    refine OK.r hb (OK.r hz (OK.t co ?_))
    have fz : Fr TRr TRf m z := y1.tr (z2.w (by simp <;> omega) (by simp <;> omega))
    have ztr : trd z k p := fun i hi => by rw [z2.r (by simp)]; exact y2 i hi
    have hro := (runF_ok (f := dgF k p) hw ht k).1 one hone
    rw [ixN (by omega), (z1.1 one hone).2]
    by_cases hep : e < p + 1
    · have : e = p := by omega
      subst this
      have hh : (runF w t (dgF k e) k).home one = 1 := h2 (by have := h5 k hT; omega)
      rw [hh]
      refine OK.t rfl (OK.ret ⟨fz, ?_⟩)
      rw [if_pos hep]
      exact ⟨rfl, ztr⟩
    · have hh : (runF w t (dgF k p) k).home one = 0 := by
        have := h1 p (by omega)
        unfold hsP at this
        have := hro.2
        omega
      rw [hh]
      refine OK.f (by decide) (OK.ret ⟨fz, ?_⟩)
      rw [if_neg hep]
      exact ⟨rfl, ztr⟩
  | succ d ih =>
    intro k p f y hkT hp hf hpe y1 y2
    obtain ⟨f, rfl⟩ : ∃ g, f = g + 1 := ⟨f - 1, by omega⟩
    have ck : (0 : Int32) ≤ nI k ∧ nI k < (4 : Int32) := inN (by omega) (by omega)
    have e1 : ∀ q, (5 * p + q) * 5 ^ d = p * 5 ^ (d + 1) + q * 5 ^ d := fun q => by rw [Nat.pow_succ, Nat.add_mul, Nat.mul_comm 5 p, Nat.mul_assoc, Nat.mul_comm 5]
    have e5 : (p + 1) * 5 ^ (d + 1) = (5 * p + 5) * 5 ^ d := by rw [e1, Nat.pow_succ, Nat.add_mul, Nat.one_mul, Nat.mul_comm (5 ^ d) 5]
    have hd5 : 0 < 5 ^ d := Nat.pow_pos (by decide)
    rw [fX11_fetches_S]
    unfold uX11_fetches
    refine OK.f (by rw [eqN (by omega) (by omega)]; omega) ?_
    refine OK.bind (P := fun s => elS s (fun r => e < (p + 1) * 5 ^ (d + 1) ∧ r.1 = 1 ∧ Fr TRr TRf m r.2 ∧ trd r.2 T e) (fun z => ¬ e < (p + 1) * 5 ^ (d + 1) ∧ Fr TRr TRf m z ∧ trd z k p)) ?_ (fun s hs1 => ?_)
    · refine LOOPUP (fun n (st : aH) l => wX11_fetches_54 (fX11_fetches f) (nI one) (nI k) (nI T) n st l) (fun ih st l => sX11_fetches_54 (fX11_fetches f) (nI one) (nI k) (nI T) ih st l) (fun n => rfl) (fun q z => (5 * p + q) * 5 ^ d ≤ e ∧ Fr TRr TRf m z ∧ trd z k p) _ 5 ?_ ?_ 2000 0 y (by omega) (by omega) ⟨by rw [e1, Nat.zero_mul, Nat.add_zero]; exact hpe, y1, y2⟩
      · intro q z hq hz ih2 hh
        obtain ⟨z0, z1, z2⟩ := hz
        unfold sX11_fetches_54
        refine OK.f (by rw [ltL (by omega) (by omega)]; omega) (OK.t ck ?_)
        rw [nI_1, ixN (by omega)]
        have hp5 : 5 * p + q < 5 ^ (k + 1) := by rw [Nat.pow_succ]; omega
        refine OK.bind (ih (k + 1) (5 * p + q) f (sri z 84 k (nI q)) (by omega) hp5 (by omega) z0 (Fr.sri z1 (by simp)) (fun i hi => ?_)) (fun u hu => ?_)
        · rw [gr]
          by_cases e : i = k
          · subst e; rw [if_pos ⟨rfl, rfl⟩, pd_at hq]
          · rw [if_neg (fun g => e g.2), pd_up hq (by omega)]; exact z2 i (by omega)
        · obtain ⟨u1, u2⟩ := hu
          have e6 : 5 * p + q + 1 = 5 * p + (q + 1) := by omega
          rw [e6] at u2
          by_cases hlt : e < (5 * p + (q + 1)) * 5 ^ d
          · rw [if_pos hlt] at u2
            refine OK.f (by rw [u2.1]; decide) (OK.ret ⟨?_, rfl, u1, u2.2⟩)
            rw [e5]
            exact Nat.lt_of_lt_of_le hlt (Nat.mul_le_mul_right _ (by omega))
          · rw [if_neg hlt] at u2
            refine OK.t u2.1 ?_
            rw [nI_1]
            exact hh _ ⟨by omega, u1, fun i hi => by rw [u2.2 i (by omega), pd_up hq hi]⟩
      · intro z hz ih2
        unfold sX11_fetches_54
        refine OK.t (by decide) (OK.ret ⟨?_, hz.2⟩)
        rw [e5]
        have := hz.1
        omega
    · rcases s with r | z
      · obtain ⟨s1, s2, s3, s4⟩ := hs1
        exact OK.ret ⟨s3, by rw [if_pos s1]; exact ⟨s2, s4⟩⟩
      · obtain ⟨s1, s2, s3⟩ := hs1
        exact OK.ret ⟨s2, by rw [if_neg s1]; exact ⟨rfl, s3⟩⟩
theorem op_fetch {x m : aH} {w : SEA} {t : STD} (hJ : JN x m w t) (p1 p2 : Int32) : OK2 (fX10_fetch x p1 p2) (fX11_fetch m p1 p2) (fun a b => TH w.lost x m a.2 b.2 ∧ a.1 = b.1) := by
  have bad : fX10_fetch x p1 p2 = some (-1, x) → fX11_fetch m p1 p2 = some (-1, m) → OK2 (fX10_fetch x p1 p2) (fX11_fetch m p1 p2) (fun a b => TH w.lost x m a.2 b.2 ∧ a.1 = b.1) := fun h1 h2 => OK2.eq h1 h2 ⟨TH.rf hJ, rfl⟩
  obtain ⟨⟨hw, ht⟩, ⟨hs, hv, hh⟩, hms, hmv⟩ := id hJ
  rcases isLost2 hJ p1 with ⟨one, hone, rfl, l1, l2⟩ | ⟨-, l1, l2⟩
  · by_cases h1 : -1 ≤ p2
    · obtain ⟨E, c, hE⟩ := e1_ex w t one
      have hn := hw.1
      have ans : ∃ v : Int32, OK (fX10_fetch x (nI one) p2) (fun a => (Fr XSr XSf x a.2 ∧ scrH a.2 w.lost) ∧ a.1 = v) ∧ OK (fX11_fetch m (nI one) p2) (fun a => Fr MSr MSf m a.2 ∧ a.1 = v) := by
        refine ⟨if c < 5 then (if p2 = -1 then nI c else if p2 < nI c then nI (dgF c (E c) (ix p2)) else -2) else -2, ?_, ?_⟩
        · unfold fX10_fetch
          refine OK.r l1 (OK.f n10 (OK.t h1 (OK.bind (fewest_x hw ht hs hv hh hone hE) (fun q hq => ?_))))
          obtain ⟨⟨q1, q2, q3⟩, q4, q5⟩ := hq
          have fq : Fr XSr XSf x q.2 := q1.w (by simp <;> omega) (by simp <;> omega)
          by_cases hc : c < 5
          · rw [if_pos hc] at q4 ⊢
            rw [q4, q5 hc]
            refine OK.f (lt0 (by omega)) ?_
            by_cases hm1 : p2 = -1
            · refine OK.t ?_ (OK.t hm1 (OK.ret ⟨⟨fq, q2⟩, (if_pos hm1).symm⟩))
              rw [hm1]
              have := le0 (n := c) (by omega)
              grind
            · refine OK.i (fun g => OK.f hm1 ?_) (fun g => OK.ret ⟨⟨fq, q2⟩, by rw [if_neg hm1, if_neg g]⟩)
              obtain ⟨k, hk, rfl⟩ := (in_range p2 c (by omega)).mp ⟨by grind, g⟩
              have hEc := hE.2.2.2 hc
              have := (stLN c hc).2.1
              exact OK.r (wayOf_x _ (by omega) hk (by omega)) (OK.ret ⟨⟨fq, q2⟩, by rw [if_neg hm1, if_pos g, ixN (by omega)]⟩)
          · rw [if_neg hc] at q4 ⊢
            exact OK.t (by rw [q4]; decide) (OK.ret ⟨⟨fq, q2⟩, rfl⟩)
        · obtain ⟨g1, g2, g3, g4⟩ := hE
          unfold fX11_fetch
          refine OK.r l2 (OK.f n10 (OK.t h1 ?_))
          refine OK.bind (P := fun s => elS s (fun r => c < 5 ∧ Fr TRr TRf m r.2 ∧ r.1 = if p2 = -1 then nI c else if p2 < nI c then nI (dgF c (E c) (ix p2)) else -2) (fun z => ¬ c < 5 ∧ Fr TRr TRf m z)) ?_ (fun s hs1 => ?_)
          · refine LOOPUP (fun n (st : aH) l => wX11_fetch_18 (nI one) p2 n st l) (fun ih st l => sX11_fetch_18 (nI one) p2 ih st l) (fun n => rfl) (fun N z => Fr TRr TRf m z) _ c ?_ ?_ 2000 0 m (by omega) (by omega) (Fr.rf _ _ _)
            · intro N z hN hI ih hk
              obtain ⟨k1, k2, k3⟩ := g1 N (by omega)
              unfold sX11_fetch_18
              refine OK.f (by rw [ltL (by omega) (by omega)]; omega) (OK.bind (fetches_m hw ht hms hmv (show N ≤ 4 by omega) hone k2 k3 N 0 0 64 z (by omega) (by decide) (by omega) (by omega) hI (fun i hi => by omega)) (fun u hu => ?_))
              obtain ⟨u1, u2⟩ := hu
              have hEN := g3 N hN
              rw [if_neg (by omega)] at u2
              refine OK.t u2.1 ?_
              rw [nI_1]
              exact hk _ u1
            · intro z hI ih
              unfold sX11_fetch_18
              by_cases hc : c < 5
              · obtain ⟨k1, k2, k3⟩ := g1 c (by omega)
                refine OK.f (by rw [ltL (by omega) (by omega)]; omega) (OK.bind (fetches_m hw ht hms hmv (show c ≤ 4 by omega) hone k2 k3 c 0 0 64 z (by omega) (by decide) (by omega) (by omega) hI (fun i hi => by omega)) (fun u hu => ?_))
                obtain ⟨u1, u2⟩ := hu
                have hEN := g4 hc
                rw [if_pos (by omega)] at u2
                refine OK.f (by rw [u2.1]; decide) ?_
                by_cases hm1 : p2 = -1
                · refine OK.f (by rw [hm1]; decide) (OK.ret ⟨hc, u1, by rw [if_pos hm1]⟩)
                · have hp0 : 0 ≤ p2 := by grind
                  refine OK.t hp0 (OK.i (fun g => OK.ret ⟨hc, u1, by rw [if_neg hm1, if_neg (Int32.not_lt.mpr g)]⟩) (fun g => ?_))
                  obtain ⟨k, hk, rfl⟩ := (in_range p2 c (by omega)).mp ⟨hp0, Int32.not_le.mp g⟩
                  refine OK.t (inN (by omega) (by omega)) (OK.ret ⟨hc, u1, ?_⟩)
                  show ri u.2 84 (ix (nI k)) = _
                  rw [if_neg hm1, if_pos (Int32.not_le.mp g), ixN (by omega)]
                  exact u2.2 k hk
              · exact OK.t (by rw [ltL (by omega) (by omega)]; omega) (OK.ret ⟨hc, hI⟩)
          · rcases s with r | z
            · obtain ⟨s1, s2, s3⟩ := hs1
              exact OK.ret ⟨s2.w (by simp <;> omega) (by simp <;> omega), by rw [if_pos s1]; exact s3⟩
            · obtain ⟨s1, s2⟩ := hs1
              exact OK.ret ⟨s2.w (by simp <;> omega) (by simp <;> omega), by rw [if_neg s1]⟩
      obtain ⟨v, ex, em⟩ := ans
      exact OK2.mk ex em (fun a b ha hb => ⟨⟨ha.1.1, hb.1, ha.1.2⟩, by rw [ha.2, hb.2]⟩)
    · exact bad (by simp [fX10_fetch, l1, h1]) (by simp [fX11_fetch, l2, h1])
  · exact bad (by simp [fX10_fetch, l1]) (by simp [fX11_fetch, l2])
