/-! ===== drawn ===== -/
def zN (z : Int32) : Int32 := z * (1103515245 : Int32) + (12345 : Int32)
def zI (z : Int32) : Nat → Int32
  | 0 => z
  | k + 1 => zN (zI z k)
def uN (z : Int32) (k : Nat) : Nat := z.toBitVec.toNat / 2 ^ k
def wayZ (fog : Nat) (z : Int32) : Nat := if fog ≤ uN z 16 % 12 then uN z 8 % 4 else 4
theorem wayZ_le (fog : Nat) (z : Int32) : wayZ fog z ≤ 4 := by
  unfold wayZ
  split
  · have := Nat.mod_lt (uN z 8) (show 0 < 4 by decide); omega
  · omega
theorem uN_lt (z : Int32) {k : Nat} (hk : 1 ≤ k) : uN z k < 2147483648 := by
  unfold uN
  have h := z.toBitVec.isLt
  have h2 : 2 ^ 1 ≤ 2 ^ k := Nat.pow_le_pow_right (by decide) hk
  have : z.toBitVec.toNat / 2 ^ k ≤ z.toBitVec.toNat / 2 ^ 1 := Nat.div_le_div_left h2 (by decide)
  omega
theorem u16 (z : Int32) : (Int32.toUInt32 z >>> (Int32.toUInt32 (16 : Int32) &&& Int32.toUInt32 31)).toInt32 = nI (uN z 16) := by
  obtain ⟨n, hn, rfl⟩ := wb_of32 z
  rw [pk_ushrN hn 16 16 (by decide)]
  unfold uN
  rw [pk_tn hn]
theorem u8 (z : Int32) : (Int32.toUInt32 z >>> (Int32.toUInt32 (8 : Int32) &&& Int32.toUInt32 31)).toInt32 = nI (uN z 8) := by
  obtain ⟨n, hn, rfl⟩ := wb_of32 z
  rw [pk_ushrN hn 8 8 (by decide)]
  unfold uN
  rw [pk_tn hn]
theorem r16 (z : Int32) : nI (uN z 16) - nI (uN z 16) / (12 : Int32) * (12 : Int32) = nI (uN z 16 % 12) := nI_rem (k := 12) rfl (uN_lt z (by decide)) (by decide) (by decide)
theorem r8 (z : Int32) : nI (uN z 8) - nI (uN z 8) / (4 : Int32) * (4 : Int32) = nI (uN z 8 % 4) := nI_rem (k := 4) rfl (uN_lt z (by decide)) (by decide) (by decide)
def fZ (fog : Nat) (z : Int32) : Nat → Nat := fun k => wayZ fog (zI z (k + 1))
/-- the seed as the y-th year begins -/
def yZ (N : Nat) (z : Int32) : Nat → Int32
  | 0 => z
  | y + 1 => zI (yZ N z y) N
def hY (w : SEA) (t : STD) (fog N : Nat) (z : Int32) (y i : Nat) : Nat := (runF w t (fZ fog (yZ N z y)) N).home i
theorem nsum_swap (f : Nat → Nat → Nat) (n k : Nat) : nsum (fun i => nsum (fun y => f y i) k) n = nsum (fun y => nsum (fun i => f y i) n) k := by
  induction k with
  | zero =>
    show nsum (fun i => 0) n = 0
    induction n with
    | zero => rfl
    | succ n ih => show nsum (fun i => 0) n + 0 = 0; rw [ih]
  | succ k ih =>
    show _ = nsum (fun y => nsum (fun i => f y i) n) k + nsum (fun i => f k i) n
    rw [← ih]
    clear ih
    induction n with
    | zero => rfl
    | succ n ih =>
      show nsum (fun i => nsum (fun y => f y i) (k + 1)) n + nsum (fun y => f y n) (k + 1) = (nsum (fun i => nsum (fun y => f y i) k) n + nsum (fun y => f y n) k) + (nsum (fun i => f k i) n + f k n)
      rw [ih]
      have : nsum (fun y => f y n) (k + 1) = nsum (fun y => f y n) k + f k n := rfl
      omega
theorem fr26 {x y : aH} {w : SEA} {u : STD} {a : Nat} (h : vStd x a w.lost u) (k : Fr [26] [] x y) (ha : a ≠ 25) : vStd y a w.lost u := h.fr k (by simp; omega) (by simp) (by simp) (by simp)
abbrev DXr : List Nat := [13, 14, 26, 28, 29, 30]
abbrev DXf : List (Nat × Nat) := [(27, 5), (27, 6), (27, 7)]
def dI (x : aH) (w : SEA) (t : STD) (fog N : Nat) (z : Int32) (y : Nat) (u : aH) : Prop := Fr DXr DXf x u ∧ scrH u w.lost ∧ (∀ i, i < w.lost → ri u 26 i = nI (nsum (fun k => hY w t fog N z k i) y)) ∧ (∀ i, w.lost ≤ i → i < 10 → ri u 26 i = 0)
theorem draw_x {x : aH} {w : SEA} {t : STD} {Y N fog : Nat} {z : Int32} (hw : SOK w) (ht : TOK w t) (hs : vSea x w) (hv : vStd x 15 w.lost t) (hh : scrH x w.lost) (hY30 : Y ≤ 30) (hN : N ≤ 30) (hf : fog ≤ 12) : OK (fX6_draw x 15 z (nI Y) (nI N) (nI fog)) (dI x w t fog N z Y) := by
  have hn := hw.1
  unfold fX6_draw
  refine OK.bind (P := dI x w t fog N z 0) ?_ (fun u0 hu0 => ?_)
  · refine OK.mono (P := fun y => Fr [26] [] x y ∧ ∀ i, i < 10 → ri y 26 i = 0) ?_ (fun y hy => ⟨hy.1.w (by simp) (by simp), hh.fr hy.1 (by simp), fun i hi => hy.2 i (by omega), fun i _ hi => hy.2 i hi⟩)
    refine LOOPUP (fun n (st : aH) l => wX6_draw_3 15 z (nI Y) (nI N) (nI fog) n st l) (fun ih st l => sX6_draw_3 15 z (nI Y) (nI N) (nI fog) ih st l) (fun n => rfl) (fun j y => Fr [26] [] x y ∧ ∀ i, i < j → ri y 26 i = 0) _ 10 ?_ ?_ 2000 0 x (by omega) (by omega) ⟨Fr.rf _ _ _, fun i hi => by omega⟩
    · intro j y hj hI ih hk
      unfold sX6_draw_3
      refine OK.f (by rw [leL (by omega) (by omega)]; omega) (OK.t (in10 hj) ?_)
      rw [nI_1, ixN (by omega)]
      refine hk _ ⟨Fr.sri hI.1 (by simp), fun i hi => ?_⟩
      rw [gr]
      by_cases e : i = j
      · rw [if_pos ⟨rfl, e⟩]
      · rw [if_neg (fun q => e q.2)]; exact hI.2 i (by omega)
    · intro y hI ih
      unfold sX6_draw_3
      exact OK.t (by decide) (OK.ret hI)
  · rw [ix_0]
    refine OK.bind (P := dI x w t fog N z Y) ?_ (fun q hq => OK.ret hq)
    refine LOOPUP (fun n (st : aH × Int32) l => wX6_draw_38 15 (nI Y) (nI N) (nI fog) (27 + 4 * 0) n st.1 st.2 l) (fun ih st l => sX6_draw_38 15 (nI Y) (nI N) (nI fog) (27 + 4 * 0) (fun a b c => ih (a, b) c) st.1 st.2 l) (fun n => rfl) (fun y st => dI x w t fog N z y st.1 ∧ st.2 = yZ N z y) _ Y ?_ ?_ 2000 0 (u0, z) (by omega) (by omega) ⟨hu0, rfl⟩
    · rintro y ⟨u, zz⟩ hy ⟨hI, hz⟩ ih hk
      dsimp only at hI hz
      subst hz
      obtain ⟨u1, u2, u3, u4⟩ := hI
      have hsu : vSea u w := hs.fr u1 (by simp) (by simp)
      have hvu : vStd u 15 w.lost t := hv.fr u1 (by simp) (by simp) (by simp) (by simp)
      try dsimp only
      unfold sX6_draw_38
      refine OK.f (by rw [leN (by omega) (by omega)]; omega) ?_
      refine OK.bind (become_x sd27 sd15 (by decide) hn (u2 27 sd27) hvu) (fun v hv1 => ?_)
      have hb0 : behP u w t v := ⟨hv1.1, hv1.2.1.w (by simp <;> omega) (by simp)⟩
      refine OK.bind (P := fun q => q.1 = zI (yZ N z y) N ∧ behP u w (runF w t (fZ fog (yZ N z y)) N) q.2) ?_ (fun q hq => ?_)
      · refine LOOPUP (fun n (st : aH × Int32) l => wX6_draw_53 15 (nI Y) (nI N) (nI fog) (27 + 4 * 0) (nI y) n st.1 st.2 l) (fun ih st l => sX6_draw_53 15 (nI Y) (nI N) (nI fog) (27 + 4 * 0) (nI y) (fun a b c => ih (a, b) c) st.1 st.2 l) (fun n => rfl) (fun k st => st.2 = zI (yZ N z y) k ∧ behP u w (runF w t (fZ fog (yZ N z y)) k) st.1) _ N ?_ ?_ 2000 0 (v, yZ N z y) (by omega) (by omega) ⟨rfl, hb0⟩
        · rintro k ⟨s, zz⟩ hkN ⟨hz, hb⟩ ih hk2
          dsimp only at hz hb
          subst hz
          try dsimp only
          unfold sX6_draw_53
          refine OK.f (by rw [leN (by omega) (by omega)]; omega) ?_
          have ez : zI (yZ N z y) k * (1103515245 : Int32) + (12345 : Int32) = zI (yZ N z y) (k + 1) := rfl
          rw [ez, u16, u8, r16, r8]
          have go : ∀ way : Nat, way = fZ fog (yZ N z y) k → OK (jX6_draw_97 15 (fun a b c => ih (a, b) c) s (nI Y) (nI N) (nI fog) (27 + 4 * 0) (zI (yZ N z y) (k + 1)) (nI y) (nI k) (27 + 4 * 0) (nI way)) (fun q => q.1 = zI (yZ N z y) N ∧ behP u w (runF w t (fZ fog (yZ N z y)) N) q.2) := by
            rintro way rfl
            unfold jX6_draw_97
            refine OK.bind (behind_step hw (runF_ok hw ht k) hsu hb (wayZ_le _ _)) (fun q hq => ?_)
            rw [nI_1]
            exact hk2 _ ⟨rfl, hq⟩
          have hm := Nat.mod_lt (uN (zI (yZ N z y) (k + 1)) 16) (show 0 < 12 by decide)
          refine OK.i (fun c => ?_) (fun c => ?_)
          · rw [leN (by omega) (by omega)] at c
            refine go _ ?_
            show _ = wayZ fog _
            unfold wayZ
            rw [if_pos c]
          · rw [leN (by omega) (by omega)] at c
            refine go 4 ?_
            show _ = wayZ fog _
            unfold wayZ
            rw [if_neg c]
        · rintro ⟨s, zz⟩ ⟨hz, hb⟩ ih
          try dsimp only
          unfold sX6_draw_53
          exact OK.t (by rw [leN (by omega) (by omega)]; exact Nat.le_refl _) (OK.ret ⟨hz, hb⟩)
      · obtain ⟨q1, q2⟩ := hq
        have hru := runF_ok (f := fZ fog (yZ N z y)) hw ht N
        have e26 : ri q.2 26 = ri u 26 := q2.2.r (by simp)
        refine OK.bind (P := fun r => Fr [26] [] q.2 r ∧ (∀ i, i < w.lost → ri r 26 i = nI (nsum (fun k => hY w t fog N z k i) (y + 1))) ∧ (∀ i, w.lost ≤ i → i < 10 → ri r 26 i = 0)) ?_ (fun r hr => ?_)
        · refine LOOPUP (fun n (st : aH) l => wX6_draw_110 15 (nI Y) (nI N) (nI fog) (27 + 4 * 0) q.1 (nI y) n st l) (fun ih st l => sX6_draw_110 15 (nI Y) (nI N) (nI fog) (27 + 4 * 0) q.1 (nI y) ih st l) (fun n => rfl) (fun j r => Fr [26] [] q.2 r ∧ (∀ i, i < w.lost → ri r 26 i = nI (if i < j then nsum (fun k => hY w t fog N z k i) (y + 1) else nsum (fun k => hY w t fog N z k i) y)) ∧ (∀ i, w.lost ≤ i → i < 10 → ri r 26 i = 0)) _ w.lost ?_ ?_ 2000 0 q.2 (by omega) (by omega) ⟨Fr.rf _ _ _, fun i hi => by rw [e26, u3 i hi, if_neg (by omega)], fun i h1 h2 => by rw [e26]; exact u4 i h1 h2⟩
          · intro j r hj hI ih hk2
            obtain ⟨r1, r2, r3⟩ := hI
            have hvr : vStd r 27 w.lost (runF w t (fZ fog (yZ N z y)) N) := fr26 q2.1 r1 (by decide)
            have hle := (hru.1 j hj).2
            unfold sX6_draw_110
            refine OK.f (by rw [hvr.1, leN (by omega) (by omega)]; omega) (OK.t (in10 (by omega)) (OK.r (isHome_x hn (fun i hi => (hru.1 i hi).2) hvr hj) ?_))
            have go : ∀ v : Nat, v = hY w t fog N z y j → OK (jX6_draw_143 15 ih r (nI Y) (nI N) (nI fog) (27 + 4 * 0) q.1 (nI y) (nI j) (nI j) (ri r 26 (ix (nI j))) (nI v)) (fun r => Fr [26] [] q.2 r ∧ (∀ i, i < w.lost → ri r 26 i = nI (nsum (fun k => hY w t fog N z k i) (y + 1))) ∧ (∀ i, w.lost ≤ i → i < 10 → ri r 26 i = 0)) := by
              rintro v rfl
              unfold jX6_draw_143
              refine OK.t (in10 (by omega)) ?_
              rw [nI_1, ixN (by omega), r2 j hj, if_neg (Nat.lt_irrefl j), addN]
              refine hk2 _ ⟨Fr.sri r1 (by simp), fun i hi => ?_, fun i h1 h2 => ?_⟩
              · rw [gr]
                by_cases e : i = j
                · subst e; rw [if_pos ⟨rfl, rfl⟩, if_pos (by omega)]; rfl
                · rw [if_neg (fun q => e q.2), r2 i hi]
                  congr 1
                  by_cases e2 : i < j
                  · rw [if_pos e2, if_pos (by omega)]
                  · rw [if_neg e2, if_neg (by omega)]
              · rw [gr, if_neg (by omega)]; exact r3 i h1 h2
            refine OK.i (fun c => ?_) (fun c => ?_)
            · rw [eqR (by omega) (by omega)] at c
              exact go 0 c.symm
            · rw [eqR (by omega) (by omega)] at c
              exact go 1 (show 1 = (runF w t (fZ fog (yZ N z y)) N).home j by omega)
          · intro r hI ih
            have hvr : vStd r 27 w.lost (runF w t (fZ fog (yZ N z y)) N) := fr26 q2.1 hI.1 (by decide)
            unfold sX6_draw_110
            exact OK.t (by rw [hvr.1, leN (by omega) (by omega)]; exact Nat.le_refl _) (OK.ret ⟨hI.1, fun i hi => by rw [hI.2.1 i hi, if_pos hi], hI.2.2⟩)
        · obtain ⟨r1, r2, r3⟩ := hr
          rw [nI_1]
          refine hk _ ⟨⟨?_, ?_, r2, r3⟩, q1⟩
          · exact u1.tr ((q2.2.w (by simp <;> omega) (by simp)).tr (r1.w (by simp) (by simp)))
          · exact ((q2.TH hw hru u2).2).fr r1 (by simp)
    · rintro ⟨u, zz⟩ ⟨hI, hz⟩ ih
      try dsimp only
      unfold sX6_draw_38
      exact OK.t (by rw [leN (by omega) (by omega)]; exact Nat.le_refl _) (OK.ret hI)
theorem homeInAll_x {x : aH} {n : Nat} {f : Nat → Nat} (hn : n ≤ 10) (h1 : ∀ i, i < n → ri x 26 i = nI (f i)) (h2 : ∀ i, n ≤ i → i < 10 → ri x 26 i = 0) : fX6_homeInAll x = some (nI (nsum f n)) := by
  unfold fX6_homeInAll
  refine OK.eq (OK.bind (P := fun r => r = nI (nsum f n)) ?_ (fun q hq => OK.ret hq))
  refine LOOPUP (fun n st l => wX6_homeInAll_4 x n st l) (fun ih st l => sX6_homeInAll_4 x ih st l) (fun n => rfl) (fun i st => st = nI (nsum f (if i < n then i else n))) _ 10 ?_ ?_ 2000 0 0 (by omega) (by omega) (show (0 : Int32) = nI (nsum f (if 0 < n then 0 else n)) by rw [show (if 0 < n then 0 else n) = 0 by split <;> omega]; rfl)
  · rintro i st hi rfl ih hk
    unfold sX6_homeInAll_4
    refine OK.f (by rw [leL (by omega) (by omega)]; omega) (OK.t (in10 (by omega)) ?_)
    rw [nI_1, ixN (by omega)]
    by_cases hin : i < n
    · rw [if_pos hin, h1 i hin, addN]
      refine hk _ ?_
      congr 1
      by_cases h : i + 1 < n
      · rw [if_pos h]; rfl
      · rw [if_neg h, show n = i + 1 by omega]; rfl
    · rw [if_neg hin, h2 i (by omega) hi, Int32.add_zero]
      refine hk _ ?_
      rw [if_neg (by omega)]
  · rintro st rfl ih
    unfold sX6_homeInAll_4
    refine OK.t (by decide) (OK.ret ?_)
    congr 2
    split <;> omega
def dM (m : aH) (w : SEA) (t : STD) (fog N : Nat) (z : Int32) (one y : Nat) (st : aH × Int32 × Int32 × Int32) : Prop := Fr [80, 81, 82, 83] GF2 m st.1 ∧ st.2.1 = yZ N z y ∧ st.2.2.1 = nI (nsum (fun k => nsum (hY w t fog N z k) w.lost) y) ∧ st.2.2.2 = nI (if one < w.lost then nsum (fun k => hY w t fog N z k one) y else 0)
theorem drawn_m {m : aH} {w : SEA} {t : STD} {Y N fog one : Nat} {z nmf p3 : Int32} (hw : SOK w) (ht : TOK w t) (hs : mSea m w) (hv : mStd m w.lost t) (hY30 : Y ≤ 30) (hN : N ≤ 30) (hf : fog ≤ 12) (e1 : nmf / (10000 : Int32) = nI Y) (e2 : (nmf / (100 : Int32)) - (nmf / (100 : Int32)) / (100 : Int32) * (100 : Int32) = nI N) (e3 : nmf - nmf / (100 : Int32) * (100 : Int32) = nI fog) (h3 : (p3 = -1 ∧ one = w.lost) ∨ (p3 = nI one ∧ one < w.lost)) : OK (jX11_drawn_69 m z nmf p3) (fun q => Fr MSr MSf m q.2 ∧ q.1 = if one < w.lost then nI (nsum (fun k => hY w t fog N z k one) Y) else nI (nsum (fun k => nsum (hY w t fog N z k) w.lost) Y)) := by
  have hn := hw.1
  unfold jX11_drawn_69
  refine OK.bind (P := fun q => dM m w t fog N z one Y (q.2.2, yZ N z Y, q.1, q.2.1)) ?_ (fun q hq => ?_)
  · refine LOOPUP (fun n (st : aH × Int32 × Int32 × Int32) l => wX11_drawn_81 nmf p3 n st.1 st.2.1 st.2.2.1 st.2.2.2 l) (fun ih st l => sX11_drawn_81 nmf p3 (fun a b c d e => ih (a, b, c, d) e) st.1 st.2.1 st.2.2.1 st.2.2.2 l) (fun n => rfl) (fun y st => dM m w t fog N z one y st) _ Y ?_ ?_ 2000 0 (m, z, 0, 0) (by omega) (by omega) ⟨Fr.rf _ _ _, rfl, rfl, by split <;> rfl⟩
    · rintro y ⟨u, zz, a, b⟩ hy ⟨u1, u2, u3, u4⟩ ih hk
      dsimp only at u1 u2 u3 u4
      subst u2 u3 u4
      try dsimp only
      unfold sX11_drawn_81
      rw [e1]
      refine OK.f (by rw [leN (by omega) (by omega)]; omega) ?_
      have hsu : mSea u w := hs.fr u1 (by simp) (by simp) (by simp) (by simp)
      refine OK.bind (begins_m hn hsu.2.2.2.1 (hv.fr u1 (by simp))) (fun v hv1 => ?_)
      obtain ⟨v1, v2⟩ := hv1
      have hru := runF_ok (f := fZ fog (yZ N z y)) hw ht N
      refine OK.bind (P := fun q => q.1 = zI (yZ N z y) N ∧ mScr q.2 w.lost (runF w t (fZ fog (yZ N z y)) N) ∧ Fr [80, 81, 82, 83] GF2 m q.2) ?_ (fun q hq => ?_)
      · refine LOOPUP (fun n (st : aH × Int32) l => wX11_drawn_98 nmf p3 (nI (nsum (fun k => nsum (hY w t fog N z k) w.lost) y)) (nI (if one < w.lost then nsum (fun k => hY w t fog N z k one) y else 0)) (nI y) n st.1 st.2 l) (fun ih st l => sX11_drawn_98 nmf p3 (nI (nsum (fun k => nsum (hY w t fog N z k) w.lost) y)) (nI (if one < w.lost then nsum (fun k => hY w t fog N z k one) y else 0)) (nI y) (fun a b c => ih (a, b) c) st.1 st.2 l) (fun n => rfl) (fun k st => st.2 = zI (yZ N z y) k ∧ mScr st.1 w.lost (runF w t (fZ fog (yZ N z y)) k) ∧ Fr [80, 81, 82, 83] GF2 m st.1) _ N ?_ ?_ 2000 0 (v, yZ N z y) (by omega) (by omega) ⟨rfl, v1, u1.tr (v2.w (by simp <;> omega) (by simp <;> omega))⟩
        · rintro k ⟨s, zz⟩ hkN ⟨hz, hb, hb2⟩ ih hk2
          dsimp only at hz hb hb2
          subst hz
          try dsimp only
          unfold sX11_drawn_98
          rw [e2, e3]
          refine OK.f (by rw [leN (by omega) (by omega)]; omega) ?_
          have ez : zI (yZ N z y) k * (1103515245 : Int32) + (12345 : Int32) = zI (yZ N z y) (k + 1) := rfl
          rw [ez, u16, u8, r16, r8]
          have go : ∀ way : Nat, way = fZ fog (yZ N z y) k → OK (jX11_drawn_149 (fun a b c => ih (a, b) c) s nmf p3 (zI (yZ N z y) (k + 1)) (nI (nsum (fun k => nsum (hY w t fog N z k) w.lost) y)) (nI (if one < w.lost then nsum (fun k => hY w t fog N z k one) y else 0)) (nI y) (nI k) (nI way)) (fun q => q.1 = zI (yZ N z y) N ∧ mScr q.2 w.lost (runF w t (fZ fog (yZ N z y)) N) ∧ Fr [80, 81, 82, 83] GF2 m q.2) := by
            rintro way rfl
            unfold jX11_drawn_149
            refine OK.bind (goes_m hw (runF_ok hw ht k) (hs.fr hb2 (by simp) (by simp) (by simp) (by simp)) hb (wayZ_le _ _)) (fun q hq => ?_)
            rw [nI_1]
            exact hk2 _ ⟨rfl, hq.1, hb2.tr hq.2.1⟩
          have hm := Nat.mod_lt (uN (zI (yZ N z y) (k + 1)) 16) (show 0 < 12 by decide)
          refine OK.i (fun c => ?_) (fun c => ?_)
          · rw [leN (by omega) (by omega)] at c
            refine go _ ?_
            show _ = wayZ fog _
            unfold wayZ
            rw [if_pos c]
          · rw [leN (by omega) (by omega)] at c
            refine go 4 ?_
            show _ = wayZ fog _
            unfold wayZ
            rw [if_neg c]
        · rintro ⟨s, zz⟩ ⟨hz, hb⟩ ih
          try dsimp only
          unfold sX11_drawn_98
          rw [e2]
          exact OK.t (by rw [leN (by omega) (by omega)]; exact Nat.le_refl _) (OK.ret ⟨hz, hb⟩)
      · obtain ⟨q1, q2, q3⟩ := hq
        refine OK.r (homeMany_m hn (by rw [q3.f (by simp)]; exact hs.2.2.2.1) q2) ?_
        unfold jX11_drawn_183
        rw [addN]
        rcases h3 with ⟨h3, h4⟩ | ⟨h3, h4⟩
        · refine OK.t (by rw [h3]; decide) ?_
          rw [nI_1, Int32.add_zero]
          refine hk _ ⟨q3, q1, rfl, ?_⟩
          show nI _ = nI _
          rw [if_neg (by omega), if_neg (by omega)]
        · refine OK.f (by rw [h3]; exact lt0 (by omega)) (OK.t (by rw [h3]; exact in10 (by omega)) ?_)
          rw [h3, ixN (by omega), (q2.1 one h4).2, addN, nI_1]
          refine hk _ ⟨q3, q1, rfl, ?_⟩
          show nI _ = nI _
          rw [if_pos h4, if_pos h4]
          rfl
    · rintro ⟨u, zz, a, b⟩ ⟨u1, u2, u3, u4⟩ ih
      try dsimp only
      unfold sX11_drawn_81
      rw [e1]
      exact OK.t (by rw [leN (by omega) (by omega)]; exact Nat.le_refl _) (OK.ret ⟨u1, rfl, u3, u4⟩)
  · obtain ⟨u1, u2, u3, u4⟩ := hq
    dsimp only at u1 u2 u3 u4
    have hf : Fr MSr MSf m q.2.2 := u1.w (by simp <;> omega) (by simp <;> omega)
    rcases h3 with ⟨h3, h4⟩ | ⟨h3, h4⟩
    · refine OK.f (by rw [h3]; decide) (OK.ret ⟨hf, ?_⟩)
      rw [if_neg (by omega)]; exact u3
    · refine OK.t (by rw [h3]; exact le0 (by omega)) (OK.ret ⟨hf, ?_⟩)
      rw [if_pos h4] at u4 ⊢
      exact u4
theorem w130 (p : Int32) : fX11_within p.toInt64 (1 : Int64) (30 : Int64) = some (bI (1 ≤ p ∧ p ≤ 30)) := within_i p 1 30
theorem w012 (p : Int32) : fX11_within p.toInt64 (0 : Int64) (12 : Int64) = some (bI (0 ≤ p ∧ p ≤ 12)) := within_i p 0 12
theorem op_drawn {x m : aH} {w : SEA} {t : STD} (hJ : JN x m w t) (p1 p2 p3 : Int32) : OK2 (fX10_drawn x p1 p2 p3) (fX11_drawn m p1 p2 p3) (fun a b => TH w.lost x m a.2 b.2 ∧ a.1 = b.1) := by
  have bad : fX10_drawn x p1 p2 p3 = some (-1, x) → fX11_drawn m p1 p2 p3 = some (-1, m) → OK2 (fX10_drawn x p1 p2 p3) (fX11_drawn m p1 p2 p3) (fun a b => TH w.lost x m a.2 b.2 ∧ a.1 = b.1) := fun h1 h2 => OK2.eq h1 h2 ⟨TH.rf hJ, rfl⟩
  obtain ⟨⟨hw, ht⟩, ⟨hs, hv, hh⟩, hms, hmv⟩ := id hJ
  rcases i_cases p2 with hneg | ⟨k, hk, rfl⟩
  · exact bad (by simp [fX10_drawn, hneg]) (by simp [fX11_drawn, hneg])
  · have n0 : ¬ (nI k < 0) := lt0 hk
    have e1 : nI k / (10000 : Int32) = nI (k / 10000) := nI_div (k := 10000) rfl hk (by decide) (by decide)
    have e0 : nI k / (100 : Int32) = nI (k / 100) := nI_div (k := 100) rfl hk (by decide) (by decide)
    have b0 : k / 100 < 2147483648 := Nat.lt_of_le_of_lt (Nat.div_le_self _ _) hk
    have b1 : k / 10000 < 2147483648 := Nat.lt_of_le_of_lt (Nat.div_le_self _ _) hk
    have e2 : (nI k / (100 : Int32)) - (nI k / (100 : Int32)) / (100 : Int32) * (100 : Int32) = nI (k / 100 % 100) := by rw [e0]; exact nI_rem (k := 100) rfl b0 (by decide) (by decide)
    have e3 : nI k - nI k / (100 : Int32) * (100 : Int32) = nI (k % 100) := nI_rem (k := 100) rfl hk (by decide) (by decide)
    have m2 := Nat.mod_lt (k / 100) (show 0 < 100 by decide)
    have m3 := Nat.mod_lt k (show 0 < 100 by decide)
    generalize hYY : k / 10000 = Y at *
    generalize hNN : k / 100 % 100 = N at *
    generalize hFF : k % 100 = fog at *
    have c1 : (nI Y < (1 : Int32)) ↔ Y < 1 := ltR (by omega) (by omega)
    have c2 : ((30 : Int32) < nI Y) ↔ 30 < Y := ltL (by omega) (by omega)
    have c3 : (nI N < (1 : Int32)) ↔ N < 1 := ltR (by omega) (by omega)
    have c4 : ((30 : Int32) < nI N) ↔ 30 < N := ltL (by omega) (by omega)
    have c5 : (nI fog ≤ (12 : Int32)) ↔ fog ≤ 12 := leR (by omega) (by omega)
    have d1 : bI ((1 : Int32) ≤ nI Y ∧ nI Y ≤ 30) = if 1 ≤ Y ∧ Y ≤ 30 then 1 else 0 := ite_iff (by rw [leL (by omega) (by omega), leR (by omega) (by omega)]) rfl rfl
    have d2 : bI ((1 : Int32) ≤ nI N ∧ nI N ≤ 30) = if 1 ≤ N ∧ N ≤ 30 then 1 else 0 := ite_iff (by rw [leL (by omega) (by omega), leR (by omega) (by omega)]) rfl rfl
    have d3 : bI ((0 : Int32) ≤ nI fog ∧ nI fog ≤ 12) = if fog ≤ 12 then 1 else 0 := ite_iff ⟨fun h => c5.mp h.2, fun h => ⟨le0 (by omega), c5.mpr h⟩⟩ rfl rfl
    by_cases g1 : 1 ≤ Y ∧ Y ≤ 30
    · by_cases g2 : 1 ≤ N ∧ N ≤ 30
      · by_cases g3 : fog ≤ 12
        · have exx : ∀ one : Nat, ((p3 = -1 ∧ one = w.lost) ∨ (p3 = nI one ∧ one < w.lost)) → OK (jX10_drawn_76 x p1 p3 (nI Y) (nI N) (nI fog)) (fun q => (Fr XSr XSf x q.2 ∧ scrH q.2 w.lost) ∧ q.1 = if one < w.lost then nI (nsum (fun k => hY w t fog N p1 k one) Y) else nI (nsum (fun k => nsum (hY w t fog N p1 k) w.lost) Y)) := by
            intro one h3
            unfold jX10_drawn_76
            refine OK.bind (draw_x (z := p1) (fog := fog) hw ht hs hv hh g1.2 g2.2 g3) (fun q hq => ?_)
            obtain ⟨q1, q2, q3, q4⟩ := hq
            have hf : Fr XSr XSf x q := q1.w (by simp <;> omega) (by simp <;> omega)
            rcases h3 with ⟨h3, h4⟩ | ⟨h3, h4⟩
            · refine OK.t h3 (OK.r (homeInAll_x hw.1 q3 q4) (OK.ret ⟨⟨hf, q2⟩, ?_⟩))
              rw [if_neg (by omega)]
              exact congrArg nI (nsum_swap (fun k i => hY w t fog N p1 k i) w.lost Y)
            · have hn := hw.1
              refine OK.f (by rw [h3]; intro e; have := le0 (n := one) (by omega); rw [e] at this; exact absurd this (by decide)) (OK.t (by rw [h3]; exact in10 (by omega)) (OK.ret ⟨⟨hf, q2⟩, ?_⟩))
              rw [if_pos h4, h3, ixN (by omega)]
              exact q3 one h4
          have fin : ∀ one : Nat, ((p3 = -1 ∧ one = w.lost) ∨ (p3 = nI one ∧ one < w.lost)) → fX10_drawn x p1 (nI k) p3 = jX10_drawn_76 x p1 p3 (nI Y) (nI N) (nI fog) → fX11_drawn m p1 (nI k) p3 = jX11_drawn_69 m p1 (nI k) p3 → OK2 (fX10_drawn x p1 (nI k) p3) (fX11_drawn m p1 (nI k) p3) (fun a b => TH w.lost x m a.2 b.2 ∧ a.1 = b.1) := by
            intro one h3 f1 f2
            rw [f1, f2]
            exact OK2.mk (exx one h3) (drawn_m (fog := fog) hw ht hms hmv g1.2 g2.2 g3 e1 e2 e3 h3) (fun a b ha hb => ⟨⟨ha.1.1, hb.1, ha.1.2⟩, by rw [ha.2, hb.2]⟩)
          have x1 : ∀ r, (if p3 = (-1 : Int32) then jX10_drawn_76 x p1 p3 (nI Y) (nI N) (nI fog) else (fX10_isLost x p3).bind fun q68_12 => if q68_12 = (0 : Int32) then some ((-1 : Int32), x) else jX10_drawn_76 x p1 p3 (nI Y) (nI N) (nI fog)) = r → fX10_drawn x p1 (nI k) p3 = r := by
            intro r hr
            unfold fX10_drawn
            rw [if_neg n0, e1, e2, e3, if_neg (by rw [c1]; omega), if_neg (by rw [c2]; omega), if_neg (by rw [c3]; omega), if_neg (by rw [c4]; omega), if_pos (c5.mpr g3)]
            exact hr
          have x2 : ∀ r, (if p3 = (-1 : Int32) then jX11_drawn_69 m p1 (nI k) p3 else (fX11_isLost m (Int32.toInt64 p3)).bind fun q61_20 => if q61_20 = (0 : Int32) then some ((-1 : Int32), m) else jX11_drawn_69 m p1 (nI k) p3) = r → fX11_drawn m p1 (nI k) p3 = r := by
            intro r hr
            unfold fX11_drawn
            rw [if_neg n0, e1, e2, e3, w130, w130, w012, d1, d2, d3]
            simp only [Option.bind_some]
            rw [if_pos g1, if_neg n10, if_pos g2, if_neg n10, if_pos g3, if_neg n10]
            exact hr
          by_cases h3 : p3 = -1
          · exact fin w.lost (Or.inl ⟨h3, rfl⟩) (x1 _ (by rw [if_pos h3])) (x2 _ (by rw [if_pos h3]))
          · rcases isLost2 hJ p3 with ⟨i, hi, hpi, l1, l2⟩ | ⟨-, l1, l2⟩
            · exact fin i (Or.inr ⟨hpi, hi⟩) (x1 _ (by rw [if_neg h3, l1]; rfl)) (x2 _ (by rw [if_neg h3, l2]; rfl))
            · exact bad (x1 _ (by rw [if_neg h3, l1]; rfl)) (x2 _ (by rw [if_neg h3, l2]; rfl))
        · refine bad ?_ ?_
          · unfold fX10_drawn
            rw [if_neg n0, e1, e2, e3, if_neg (by rw [c1]; omega), if_neg (by rw [c2]; omega), if_neg (by rw [c3]; omega), if_neg (by rw [c4]; omega), if_neg (by rw [c5]; omega)]
          · unfold fX11_drawn
            rw [if_neg n0, e1, e2, e3, w130, w130, w012, d1, d2, d3]
            simp only [Option.bind_some]
            rw [if_pos g1, if_neg n10, if_pos g2, if_neg n10, if_neg g3, if_pos rfl]
      · refine bad ?_ ?_
        · unfold fX10_drawn
          rw [if_neg n0, e1, e2, if_neg (by rw [c1]; omega), if_neg (by rw [c2]; omega)]
          by_cases h : N < 1
          · rw [if_pos (c3.mpr h)]
          · rw [if_neg (by rw [c3]; omega), if_pos (by rw [c4]; omega)]
        · unfold fX11_drawn
          rw [if_neg n0, e1, e2, w130, w130, d1, d2]
          simp only [Option.bind_some]
          rw [if_pos g1, if_neg n10, if_neg g2, if_pos rfl]
    · refine bad ?_ ?_
      · unfold fX10_drawn
        rw [if_neg n0, e1]
        by_cases h : Y < 1
        · rw [if_pos (c1.mpr h)]
        · rw [if_neg (by rw [c1]; omega), if_pos (by rw [c2]; omega)]
      · unfold fX11_drawn
        rw [if_neg n0, e1, w130, d1]
        simp only [Option.bind_some]
        rw [if_neg g1, if_pos rfl]
