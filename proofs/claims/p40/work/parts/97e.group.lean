/-! ===== the readers' tiers, one by one ===== -/
theorem ebp (o : Option (Int32 × aH)) : (o.bind fun q => some (q.1, q.2)) = o := by cases o <;> rfl
theorem t_sets (c : Int32) : (tierT c = 0 → c = 124) ∧ (tierT c = 1 → c = 38) ∧ (tierT c = 2 → c = 60 ∨ c = 61 ∨ c = 62) ∧ (tierT c = 3 → c = 43 ∨ c = 45) ∧ (tierT c = 4 → c = 37 ∨ c = 42 ∨ c = 47) := by
  refine ⟨?_, ?_, ?_, ?_, ?_⟩ <;> (unfold tierT; grind (splits := 25))
theorem j_124 (a b : Int32) : joinF 124 a b = if a = 0 then (if b = 0 then 0 else 1) else 1 := rfl
theorem j_38 (a b : Int32) : joinF 38 a b = if a = 0 then 0 else if b = 0 then 0 else 1 := rfl
theorem j_60 (a b : Int32) : joinF 60 a b = if b ≤ a then 0 else 1 := rfl
theorem j_61 (a b : Int32) : joinF 61 a b = if a = b then 1 else 0 := rfl
theorem j_62 (a b : Int32) : joinF 62 a b = if a ≤ b then 0 else 1 := rfl
theorem j_43 (a b : Int32) : joinF 43 a b = a + b := rfl
theorem j_45 (a b : Int32) : joinF 45 a b = a - b := rfl
theorem j_42 (a b : Int32) : joinF 42 a b = a * b := rfl
theorem j_37 (a b : Int32) : joinF 37 a b = if b = 0 then 0 else a - a / b * b := rfl
theorem j_47 (a b : Int32) : joinF 47 a b = if b = 0 then 0 else a / b := rfl
section
variable {g : Nat → Nat} {L : Nat}
theorem tier_RES {t o : Nat} (ht : t < 5) (ht2 : t ≠ 2) {gP : aH → Int32 → Int32 → Option (Int32 × aH)} {rs : aH → Option (Int32 × aH)} {lr : Nat → aH → Int32 → Option (Int32 × aH)}
    (hP : ∀ x p s, XP g L x p s → RES g L x p s s o (gP x (nI t) (nI o)) rs)
    (hstop : ∀ n m v p, MP g L m p o → ¬ (p < L ∧ tierT (nI (g p)) = nI t) → lr (n + 1) m v = some (v, m))
    (hgood : ∀ n m v w m2 p p2, MP g L m p o → p < L → tierT (nI (g p)) = nI t → rs (sfi m 73 12 (nI (p + 1))) = some (w, m2) → MP g L m2 p2 o → lr (n + 1) m v = lr n m2 (joinF (nI (g p)) v w))
    (hbad : ∀ n m v w m2 p p2, MP g L m p o → p < L → tierT (nI (g p)) = nI t → rs (sfi m 73 12 (nI (p + 1))) = some (w, m2) → MQF g L m2 p2 → ∃ v', lr (n + 1) m v = lr n m2 v')
    (hq : ∀ n m v p, MQF g L m p → ∃ w, lr (n + 1) m v = some (w, m))
    (x : aH) (p s : Nat) (h : XP g L x p s) : RES g L x p s s o (uX9_readTier gP x (nI t) (nI o)) (fun m => (rs m).bind fun q => lr 2000 q.2 q.1) := by
  have hbad2 : ∀ n m v w m2 p p2, MP g L m p o → p < L → tierT (nI (g p)) = nI t → rs (sfi m 73 12 (nI (p + 1))) = some (w, m2) → MQF g L m2 p2 → ∃ w', lr (n + 2) m v = some (w', m2) := by
    intro n m v w m2 p p2 a1 a2 a3 a4 a5
    obtain ⟨v', e1⟩ := hbad (n + 1) m v w m2 p p2 a1 a2 a3 a4 a5
    obtain ⟨w', e2⟩ := hq n m2 v' p2 a5
    exact ⟨w', e1.trans e2⟩
  rcases hP x p s h with ⟨x2, p2, s2, v, g1, ⟨g2, g3, g4, g8⟩, g5, g6, g7⟩ | ⟨x2, p2, g1, ⟨g2, g3⟩, g7⟩
  · have e : uX9_readTier gP x (nI t) (nI o) = (wX9_readTier_7 gP (nI t) (nI o) 2000 x2 1).bind endT := by
      unfold uX9_readTier
      rw [g1]
      rfl
    rw [e]
    have hl := g3.1
    rcases tier_loop ht ht2 hP hstop hgood hbad2 120 2000 2000 x2 p2 s2 s v g3 (by omega) (by omega) (by omega) g6 with ⟨x4, p4, s4, z, b1, ⟨b2, b3, b4, b8⟩, b5, b6, b7⟩ | ⟨x4, p4, b1, ⟨b2, b3⟩, b7⟩
    · refine Or.inl ⟨x4, p4, s4, z, b1, ⟨g2.tr b2, b3, by omega, by omega⟩, fun i hi => ⟨(b5 i hi).1.trans (g5 i hi).1, (b5 i hi).2.trans (g5 i hi).2⟩, b6, fun m hm => ?_⟩
      obtain ⟨m2, d1, d2, d3⟩ := g7 m hm
      obtain ⟨m4, k1, k2, k3⟩ := b7 m2 d3
      have em : ri m2 80 = ri m 80 := d2.r (by simp)
      replace k1 : lr 2000 m2 (v (ri m2 80)) = _ := k1
      rw [em] at k1
      refine ⟨m4, ?_, d2.tr k2, k3⟩
      show (rs m).bind _ = _
      rw [d1]
      exact k1
    · refine Or.inr ⟨x4, p4, b1, ⟨g2.tr b2, b3⟩, fun m hm => ?_⟩
      obtain ⟨m2, d1, d2, d3⟩ := g7 m hm
      obtain ⟨m4, w', k1, k2, k3⟩ := b7 m2 d3
      have em : ri m2 80 = ri m 80 := d2.r (by simp)
      replace k1 : lr 2000 m2 (v (ri m2 80)) = _ := k1
      rw [em] at k1
      refine ⟨m4, w', ?_, d2.tr k2, k3⟩
      show (rs m).bind _ = _
      rw [d1]
      exact k1
  · refine Or.inr ⟨x2, p2, ?_, ⟨g2, g3⟩, fun m hm => ?_⟩
    · unfold uX9_readTier
      rw [g1]
      show (wX9_readTier_7 gP (nI t) (nI o) (1999 + 1) x2 0).bind endT = _
      rw [W9]
      unfold sX9_readTier_7
      rw [if_pos rfl]
      rfl
    · obtain ⟨m2, w, d1, d2, d3⟩ := g7 m hm
      obtain ⟨w', k⟩ := hq 1999 m2 w p2 d3
      refine ⟨m2, w', ?_, d2, d3⟩
      show (rs m).bind _ = _
      rw [d1]
      exact k
theorem either_RES {o : Nat} {gP : aH → Int32 → Int32 → Option (Int32 × aH)} {rs : aH → Option (Int32 × aH)} (hP : ∀ x p s, XP g L x p s → RES g L x p s s o (gP x (nI 0) (nI o)) rs) (x : aH) (p s : Nat) (h : XP g L x p s) : RES g L x p s s o (uX9_readTier gP x (nI 0) (nI o)) (uX11_either rs) := by
  have e : uX11_either rs = fun m => (rs m).bind fun q => wX11_either_5 rs 2000 q.2 q.1 := by
    funext m
    unfold uX11_either
    simp only [ebp]
  rw [e]
  refine tier_RES (t := 0) (lr := fun n m v => wX11_either_5 rs n m v) (by omega) (by omega) hP ?_ ?_ ?_ ?_ x p s h
  · intro n m v p hm hn
    show sX11_either_5 rs (wX11_either_5 rs n) m v = _
    unfold sX11_either_5
    rw [takes_n hm (fun z => hn ⟨z.1, by rw [z.2]; rfl⟩) (by decide)]
    rfl
  · intro n m v w m2 p p2 hm hp ht h1 h2
    have hc := (t_sets _).1 ht
    show sX11_either_5 rs (wX11_either_5 rs n) m v = _
    unfold sX11_either_5 jX11_either_27 jX11_either_32
    rw [takes_y hm hp hc]
    simp only [Option.bind_some]
    rw [if_neg n10, h1]
    simp only [Option.bind_some]
    rw [hc, j_124]
    by_cases z : v = 0
    · rw [if_pos z, if_pos z]
      by_cases z2 : w = 0
      · rw [if_pos z2, if_pos z2]
      · rw [if_neg z2, if_neg z2]
    · rw [if_neg z, if_neg z]
  · intro n m v w m2 p p2 hm hp ht h1 h2
    have hc := (t_sets _).1 ht
    have e : wX11_either_5 rs (n + 1) m v = (if v = (0 : Int32) then if w = (0 : Int32) then wX11_either_5 rs n m2 0 else wX11_either_5 rs n m2 1 else wX11_either_5 rs n m2 1) := by
      show sX11_either_5 rs (wX11_either_5 rs n) m v = _
      unfold sX11_either_5 jX11_either_27 jX11_either_32
      rw [takes_y hm hp hc]
      simp only [Option.bind_some]
      rw [if_neg n10, h1]
      rfl
    show ∃ v', wX11_either_5 rs (n + 1) m v = _
    rw [e]
    by_cases z : v = 0
    · rw [if_pos z]
      by_cases z2 : w = 0
      · rw [if_pos z2]; exact ⟨_, rfl⟩
      · rw [if_neg z2]; exact ⟨_, rfl⟩
    · rw [if_neg z]; exact ⟨_, rfl⟩
  · intro n m v p hm
    show ∃ w, sX11_either_5 rs (wX11_either_5 rs n) m v = _
    unfold sX11_either_5
    rw [takes_q _ hm]
    exact ⟨v, rfl⟩
theorem both_RES {o : Nat} {gP : aH → Int32 → Int32 → Option (Int32 × aH)} {rs : aH → Option (Int32 × aH)} (hP : ∀ x p s, XP g L x p s → RES g L x p s s o (gP x (nI 1) (nI o)) rs) (x : aH) (p s : Nat) (h : XP g L x p s) : RES g L x p s s o (uX9_readTier gP x (nI 1) (nI o)) (uX11_both rs) := by
  have e : uX11_both rs = fun m => (rs m).bind fun q => wX11_both_5 rs 2000 q.2 q.1 := by
    funext m
    unfold uX11_both
    simp only [ebp]
  rw [e]
  refine tier_RES (t := 1) (lr := fun n m v => wX11_both_5 rs n m v) (by omega) (by omega) hP ?_ ?_ ?_ ?_ x p s h
  · intro n m v p hm hn
    show sX11_both_5 rs (wX11_both_5 rs n) m v = _
    unfold sX11_both_5
    rw [takes_n hm (fun z => hn ⟨z.1, by rw [z.2]; rfl⟩) (by decide)]
    rfl
  · intro n m v w m2 p p2 hm hp ht h1 h2
    have hc := (t_sets _).2.1 ht
    show sX11_both_5 rs (wX11_both_5 rs n) m v = _
    unfold sX11_both_5 jX11_both_31 jX11_both_32
    rw [takes_y hm hp hc]
    simp only [Option.bind_some]
    rw [if_neg n10, h1]
    simp only [Option.bind_some]
    rw [hc, j_38]
    by_cases z : v = 0
    · rw [if_pos z, if_pos z]
    · rw [if_neg z, if_neg z]
      by_cases z2 : w = 0
      · rw [if_pos z2, if_pos z2]
      · rw [if_neg z2, if_neg z2]
  · intro n m v w m2 p p2 hm hp ht h1 h2
    have hc := (t_sets _).2.1 ht
    have e : wX11_both_5 rs (n + 1) m v = (if v = (0 : Int32) then wX11_both_5 rs n m2 0 else if w = (0 : Int32) then wX11_both_5 rs n m2 0 else wX11_both_5 rs n m2 1) := by
      show sX11_both_5 rs (wX11_both_5 rs n) m v = _
      unfold sX11_both_5 jX11_both_31 jX11_both_32
      rw [takes_y hm hp hc]
      simp only [Option.bind_some]
      rw [if_neg n10, h1]
      rfl
    show ∃ v', wX11_both_5 rs (n + 1) m v = _
    rw [e]
    by_cases z : v = 0
    · rw [if_pos z]; exact ⟨_, rfl⟩
    · rw [if_neg z]
      by_cases z2 : w = 0
      · rw [if_pos z2]; exact ⟨_, rfl⟩
      · rw [if_neg z2]; exact ⟨_, rfl⟩
  · intro n m v p hm
    show ∃ w, sX11_both_5 rs (wX11_both_5 rs n) m v = _
    unfold sX11_both_5
    rw [takes_q _ hm]
    exact ⟨v, rfl⟩
theorem MP.f {m : aH} {p o : Nat} (h : MP g L m p o) : ¬ (0 : Int32) ≤ fi m 73 14 := by rw [h.2.1]; decide
theorem MB.hit {m : aH} {p : Nat} (h : MB g L m p) (hp : p < L) : fX11_byteAt m = some (nI (g p)) := by rw [h.at, if_pos hp]
theorem MB.miss {m : aH} {p : Nat} (h : MB g L m p) (hp : ¬ p < L) : fX11_byteAt m = some 0 := by rw [h.at, if_neg hp]; rfl
/-- the byte that is not of a tier -/
theorem MB.off {m : aH} {p t : Nat} (h : MB g L m p) (hn : ¬ (p < L ∧ tierT (nI (g p)) = nI t)) (ht : t < 5) : ∃ c, fX11_byteAt m = some c ∧ tierT c ≠ nI t := by
  by_cases hp : p < L
  · exact ⟨_, h.hit hp, fun z => hn ⟨hp, z⟩⟩
  · refine ⟨_, h.miss hp, fun z => (tier_ops ht z).1 ?_⟩
    have z : (-1 : Int32) = nI t := z
    have := le0 (n := t) (by omega)
    rw [← z] at this
    exact absurd this (by decide)
theorem sums_RES {o : Nat} {gP : aH → Int32 → Int32 → Option (Int32 × aH)} {rs : aH → Option (Int32 × aH)} (hP : ∀ x p s, XP g L x p s → RES g L x p s s o (gP x (nI 3) (nI o)) rs) (x : aH) (p s : Nat) (h : XP g L x p s) : RES g L x p s s o (uX9_readTier gP x (nI 3) (nI o)) (uX11_sums rs) := by
  have e : uX11_sums rs = fun m => (rs m).bind fun q => wX11_sums_5 rs 2000 q.2 q.1 := by
    funext m
    unfold uX11_sums
    simp only [ebp]
  rw [e]
  have step : ∀ n m v w m2 p, MP g L m p o → p < L → tierT (nI (g p)) = nI 3 → rs (sfi m 73 12 (nI (p + 1))) = some (w, m2) → wX11_sums_5 rs (n + 1) m v = wX11_sums_5 rs n m2 (joinF (nI (g p)) v w) := by
    intro n m v w m2 p hm hp ht h1
    show sX11_sums_5 rs (wX11_sums_5 rs n) m v = _
    unfold sX11_sums_5 jX11_sums_30 jX11_sums_44 jX11_sums_73
    rw [if_neg hm.f, hm.1.hit hp, hm.1.2.1.2, addR, h1]
    simp only [Option.bind_some]
    rcases (t_sets _).2.2.2.1 ht with hc | hc
    · rw [hc, j_43, if_pos rfl, if_pos rfl, if_neg n10]
    · rw [hc, j_45, if_neg (by decide), if_pos rfl, if_neg (by decide), if_pos trivial]
  refine tier_RES (t := 3) (lr := fun n m v => wX11_sums_5 rs n m v) (by omega) (by omega) hP ?_ ?_ ?_ ?_ x p s h
  · intro n m v p hm hn
    show sX11_sums_5 rs (wX11_sums_5 rs n) m v = _
    unfold sX11_sums_5
    obtain ⟨c, e1, e2⟩ := hm.1.off hn (by omega)
    rw [if_neg hm.f, e1]
    simp only [Option.bind_some]
    rw [if_neg (fun z => e2 (by rw [z]; rfl)), if_neg (fun z => e2 (by rw [z]; rfl))]
  · intro n m v w m2 p p2 hm hp ht h1 h2
    exact step n m v w m2 p hm hp ht h1
  · intro n m v w m2 p p2 hm hp ht h1 h2
    exact ⟨_, step n m v w m2 p hm hp ht h1⟩
  · intro n m v p hm
    show ∃ w, sX11_sums_5 rs (wX11_sums_5 rs n) m v = _
    unfold sX11_sums_5
    rw [if_pos hm.ge]
    exact ⟨v, rfl⟩
theorem product_RES {o : Nat} {gP : aH → Int32 → Int32 → Option (Int32 × aH)} {rs : aH → Option (Int32 × aH)} (hP : ∀ x p s, XP g L x p s → RES g L x p s s o (gP x (nI 4) (nI o)) rs) (x : aH) (p s : Nat) (h : XP g L x p s) : RES g L x p s s o (uX9_readTier gP x (nI 4) (nI o)) (uX11_product rs) := by
  have e : uX11_product rs = fun m => (rs m).bind fun q => (fX11_byteAt q.2).bind fun b => wX11_product_10 rs 2000 q.2 q.1 b := by
    funext m
    unfold uX11_product
    simp only [ebp]
  rw [e]
  have step : ∀ n m v w m2 p, MP g L m p o → p < L → tierT (nI (g p)) = nI 4 → rs (sfi m 73 12 (nI (p + 1))) = some (w, m2) → wX11_product_10 rs (n + 1) m v (nI (g p)) = (fX11_byteAt m2).bind fun b => wX11_product_10 rs n m2 (joinF (nI (g p)) v w) b := by
    intro n m v w m2 p hm hp ht h1
    show sX11_product_10 rs (wX11_product_10 rs n) m v (nI (g p)) = _
    unfold sX11_product_10 jX11_product_35 jX11_product_85
    rw [if_neg hm.f, hm.1.2.1.2, addR, h1]
    simp only [Option.bind_some]
    rcases (t_sets _).2.2.2.2 ht with hc | hc | hc
    · rw [hc, j_37, if_neg (by decide), if_neg (by decide), if_pos rfl, if_neg (by decide)]
      by_cases z : w = 0
      · rw [if_pos z, if_pos z]
      · rw [if_neg z, if_neg z, if_neg (by decide), if_pos z]
    · rw [hc, j_42, if_pos rfl, if_pos rfl]
    · rw [hc, j_47, if_neg (by decide), if_pos rfl, if_neg (by decide)]
      by_cases z : w = 0
      · rw [if_pos z, if_pos z]
      · rw [if_neg z, if_neg z, if_pos rfl, if_pos z]
  refine tier_RES (t := 4) (lr := fun n m v => (fX11_byteAt m).bind fun b => wX11_product_10 rs n m v b) (by omega) (by omega) hP ?_ ?_ ?_ ?_ x p s h
  · intro n m v p hm hn
    obtain ⟨c, e1, e2⟩ := hm.1.off hn (by omega)
    show (fX11_byteAt m).bind (fun b => sX11_product_10 rs (wX11_product_10 rs n) m v b) = _
    rw [e1]
    simp only [Option.bind_some]
    unfold sX11_product_10
    rw [if_neg hm.f, if_neg (fun z => e2 (by rw [z]; rfl)), if_neg (fun z => e2 (by rw [z]; rfl)), if_neg (fun z => e2 (by rw [z]; rfl))]
  · intro n m v w m2 p p2 hm hp ht h1 h2
    show (fX11_byteAt m).bind (fun b => wX11_product_10 rs (n + 1) m v b) = _
    rw [hm.1.hit hp]
    exact step n m v w m2 p hm hp ht h1
  · intro n m v w m2 p p2 hm hp ht h1 h2
    refine ⟨joinF (nI (g p)) v w, ?_⟩
    show (fX11_byteAt m).bind (fun b => wX11_product_10 rs (n + 1) m v b) = _
    rw [hm.1.hit hp]
    exact step n m v w m2 p hm hp ht h1
  · intro n m v p hm
    refine ⟨v, ?_⟩
    show (fX11_byteAt m).bind (fun b => sX11_product_10 rs (wX11_product_10 rs n) m v b) = _
    rw [hm.1.at]
    simp only [Option.bind_some]
    unfold sX11_product_10
    rw [if_pos hm.ge]
theorem some_if' {c : Prop} [Decidable c] (a b : Int32) (m : aH) : (if c then some (a, m) else some (b, m)) = some ((if c then a else b), m) := by
  by_cases h : c
  · rw [if_pos h, if_pos h]
  · rw [if_neg h, if_neg h]
theorem cmp_m {o : Nat} {rs : aH → Option (Int32 × aH)} {m m2 m3 : aH} {p2 : Nat} {v w : Int32} (h1 : rs m = some (v, m2)) (hm : MP g L m2 p2 o) (hp : p2 < L) (ht : tierT (nI (g p2)) = nI 2) (h2 : rs (sfi m2 73 12 (nI (p2 + 1))) = some (w, m3)) : uX11_compared rs m = some (joinF (nI (g p2)) v w, m3) := by
  unfold uX11_compared jX11_compared_37
  rw [h1]
  simp only [Option.bind_some]
  rw [hm.1.hit hp]
  simp only [Option.bind_some]
  rw [if_neg hm.f, hm.1.2.1.2, addR, h2]
  simp only [Option.bind_some]
  rcases (t_sets _).2.2.1 ht with hc | hc | hc
  · rw [hc, j_60, if_pos rfl, if_pos rfl, some_if']
  · rw [hc, j_61, if_neg (by decide), if_pos rfl, if_neg (by decide), if_pos rfl, some_if']
  · rw [hc, j_62, if_neg (by decide), if_neg (by decide), if_pos rfl, if_neg (by decide), if_neg (by decide), some_if']
end
