/-! ===== what is told, mended, undone, done again ===== -/
theorem told_x {x m : aH} {w : SEA} {t : STD} {nm wh : Nat} (hJ : JN x m w t) (hv : validP w.lost nm wh) : ∃ v, validV wh v ∧ fX10_told x (nI nm) (nI wh) = some (nI v) ∧ ri m 74 (placeN nm wh) = nI v := by
  obtain ⟨⟨hw, ht⟩, ⟨hs, hvs, hh⟩, hms, hmv⟩ := hJ
  obtain ⟨v0, v1, v2, v3⟩ := hv
  have hn := hw.1
  have hfin : wh = 0 ∨ wh = 1 ∨ wh = 2 ∨ wh = 3 ∨ wh = 4 ∨ wh = 5 ∨ wh = 6 ∨ wh = 7 ∨ wh = 8 ∨ wh = 9 := by omega
  have hnm : nm < 64 := by
    by_cases h : wh ≤ 3
    · have := v1 h; omega
    · by_cases h2 : wh ≤ 5
      · exact v2 (by omega) h2
      · have := v3 (by omega); omega
  have c64 : (0 : Int32) ≤ nI nm ∧ nI nm < (64 : Int32) := inN (by omega) hnm
  have e : ix (nI nm) = nm := ixN (by omega)
  unfold fX10_told
  rcases hfin with rfl | rfl | rfl | rfl | rfl | rfl | rfl | rfl | rfl | rfl
  · have h := v1 (by omega)
    have b := (ht.1 nm h).1
    have c := in10 (show nm < 10 by omega)
    refine ⟨t.cell nm, ⟨Nat.zero_le _, by show _ ≤ 63; omega⟩, ?_, by rw [show placeN nm 0 = nm by unfold placeN; simp]; exact (hmv.1 nm h).1⟩
    rw [if_pos (by decide), if_pos c, e]; exact congrArg some (hvs.2.1 nm h)
  · have h := v1 (by omega)
    have b := (hw.2.2.1 nm h).1
    have c := in10 (show nm < 10 by omega)
    refine ⟨w.pa nm, ⟨Nat.zero_le _, by show _ ≤ 3; omega⟩, ?_, by rw [show placeN nm 1 = 10 + nm by unfold placeN; simp]; exact (hms.2.1 nm (by omega)).1⟩
    rw [if_neg (by decide), if_pos (by decide), if_pos c, e]; exact congrArg some (hs.2.1 nm (by omega)).1
  · have h := v1 (by omega)
    have b := (hw.2.2.1 nm h).2
    have c := in10 (show nm < 10 by omega)
    refine ⟨w.ow nm, ⟨Nat.zero_le _, by show _ ≤ 9; omega⟩, ?_, by rw [show placeN nm 2 = 20 + nm by unfold placeN; simp]; exact (hms.2.1 nm (by omega)).2⟩
    rw [if_neg (by decide), if_neg (by decide), if_pos (by decide), if_pos c, e]; exact congrArg some (hs.2.1 nm (by omega)).2
  · have h := v1 (by omega)
    have b := (ht.1 nm h).2
    refine ⟨t.home nm, ⟨Nat.zero_le _, by show _ ≤ 1; omega⟩, ?_, by rw [show placeN nm 3 = 30 + nm by unfold placeN; simp]; exact (hmv.1 nm h).2⟩
    rw [if_neg (by decide), if_neg (by decide), if_neg (by decide), if_pos (by decide), isHome_x hn (fun i hi => (ht.1 i hi).2) hvs h]
    simp only [Option.bind_some]
    rcases (show t.home nm = 0 ∨ t.home nm = 1 by omega) with q | q
    · rw [q]; rfl
    · rw [q]; rfl
  · have b := (hw.2.1 nm hnm).1
    refine ⟨w.dp nm, ⟨Nat.zero_le _, by show _ ≤ 9; omega⟩, ?_, by rw [show placeN nm 4 = 40 + nm by unfold placeN; simp]; exact (hms.1 nm hnm).1⟩
    rw [if_neg (by decide), if_neg (by decide), if_neg (by decide), if_neg (by decide), if_pos (by decide), if_pos c64, e]; exact congrArg some (hs.1 nm hnm).1
  · have b := (hw.2.1 nm hnm).2
    refine ⟨w.df nm, ⟨Nat.zero_le _, by show _ ≤ 4; omega⟩, ?_, by rw [show placeN nm 5 = 104 + nm by unfold placeN; simp]; exact (hms.1 nm hnm).2⟩
    rw [if_neg (by decide), if_neg (by decide), if_neg (by decide), if_neg (by decide), if_neg (by decide), if_pos (by decide), if_pos c64, e]; exact congrArg some (hs.1 nm hnm).2
  · have b := hw.2.2.2.1
    exact ⟨w.lamp, ⟨Nat.zero_le _, by show _ ≤ 63; omega⟩, congrArg some hs.2.2.1.1, hms.2.2.1.1⟩
  · have b := ht.2
    exact ⟨t.oil, ⟨Nat.zero_le _, by show _ ≤ 999; omega⟩, congrArg some hvs.2.2.2, hmv.2.1⟩
  · have b := hw.2.2.2.2.1
    exact ⟨w.burns, ⟨b.1, by show _ ≤ 9; omega⟩, congrArg some hs.2.2.1.2.1, hms.2.2.1.2.1⟩
  · have b := hw.2.2.2.2.2
    exact ⟨w.walks, ⟨b.1, by show _ ≤ 9; omega⟩, congrArg some hs.2.2.1.2.2, hms.2.2.1.2.2⟩
def tellW (w : SEA) (nm wh v : Nat) : SEA := (w.lost, if wh = 4 then va_up w.dp nm v else w.dp, if wh = 5 then va_up w.df nm v else w.df, if wh = 1 then va_up w.pa nm v else w.pa, if wh = 2 then va_up w.ow nm v else w.ow, if wh = 6 then v else w.lamp, if wh = 8 then v else w.burns, if wh = 9 then v else w.walks, w.lf)
def tellS (t : STD) (nm wh v : Nat) : STD := (if wh = 0 then va_up t.cell nm v else t.cell, if wh = 3 then va_up t.home nm v else t.home, if wh = 7 then v else t.oil)
theorem up_lt {f : Nat → Nat} {k v i b : Nat} (hv : v < b) (hf : f i < b) : va_up f k v i < b := by
  by_cases e : i = k
  · subst e; rw [va_up_self]; exact hv
  · rw [va_up_ne _ _ e]; exact hf
theorem tell_ok {w : SEA} {t : STD} {nm wh v : Nat} (hw : SOK w) (ht : TOK w t) (hp : validP w.lost nm wh) (hv : validV wh v) : SOK (tellW w nm wh v) ∧ TOK (tellW w nm wh v) (tellS t nm wh v) := by
  obtain ⟨w1, w2, w3, w4, w5, w6⟩ := hw
  obtain ⟨v1, v2⟩ := hv
  unfold lowN at v1
  unfold highN at v2
  refine ⟨⟨w1, fun c hc => ⟨?_, ?_⟩, fun i hi => ⟨?_, ?_⟩, ?_, ?_, ?_⟩, fun i hi => ⟨?_, ?_⟩, ?_⟩
  · show (if wh = 4 then va_up w.dp nm v else w.dp) c < 10
    by_cases e : wh = 4
    · subst e; rw [if_pos rfl]; exact up_lt (by simp at v2; omega) (w2 c hc).1
    · rw [if_neg e]; exact (w2 c hc).1
  · show (if wh = 5 then va_up w.df nm v else w.df) c < 5
    by_cases e : wh = 5
    · subst e; rw [if_pos rfl]; exact up_lt (by simp at v2; omega) (w2 c hc).2
    · rw [if_neg e]; exact (w2 c hc).2
  · show (if wh = 1 then va_up w.pa nm v else w.pa) i < 4
    by_cases e : wh = 1
    · subst e; rw [if_pos rfl]; exact up_lt (by simp at v2; omega) (w3 i hi).1
    · rw [if_neg e]; exact (w3 i hi).1
  · show (if wh = 2 then va_up w.ow nm v else w.ow) i < 10
    by_cases e : wh = 2
    · subst e; rw [if_pos rfl]; exact up_lt (by simp at v2; omega) (w3 i hi).2
    · rw [if_neg e]; exact (w3 i hi).2
  · show (if wh = 6 then v else w.lamp) < 64
    by_cases e : wh = 6
    · subst e; rw [if_pos rfl]; simp at v2; omega
    · rw [if_neg e]; exact w4
  · show 1 ≤ (if wh = 8 then v else w.burns) ∧ (if wh = 8 then v else w.burns) < 10
    by_cases e : wh = 8
    · subst e; rw [if_pos rfl]; simp at v1 v2; omega
    · rw [if_neg e]; exact w5
  · show 1 ≤ (if wh = 9 then v else w.walks) ∧ (if wh = 9 then v else w.walks) < 10
    by_cases e : wh = 9
    · subst e; rw [if_pos rfl]; simp at v1 v2; omega
    · rw [if_neg e]; exact w6
  · show (if wh = 0 then va_up t.cell nm v else t.cell) i < 64
    by_cases e : wh = 0
    · subst e; rw [if_pos rfl]; exact up_lt (by simp at v2; omega) (ht.1 i hi).1
    · rw [if_neg e]; exact (ht.1 i hi).1
  · show (if wh = 3 then va_up t.home nm v else t.home) i ≤ 1
    have h := (ht.1 i hi).2
    by_cases e : wh = 3
    · subst e; rw [if_pos rfl]
      have := up_lt (f := t.home) (k := nm) (v := v) (i := i) (b := 2) (by simp at v2; omega) (by omega)
      omega
    · rw [if_neg e]; exact h
  · show (if wh = 7 then v else t.oil) < 1000
    by_cases e : wh = 7
    · subst e; rw [if_pos rfl]; simp at v2; omega
    · rw [if_neg e]; exact ht.2
theorem up_at {f : Nat → Nat} {g : Nat → Int32} {k v i : Nat} {b : Nat} (h : g (b + i) = nI (f i)) : (if b + i = b + k then nI v else g (b + i)) = nI (va_up f k v i) := by
  by_cases e : i = k
  · subst e; rw [if_pos rfl, va_up_self]
  · rw [if_neg (by omega), va_up_ne _ _ e]; exact h
theorem mtell {m : aH} {w : SEA} {t : STD} {nm wh v : Nat} (hw : SOK w) (hms : mSea m w) (hmv : mStd m w.lost t) (hp : validP w.lost nm wh) : mSea (sri m 74 (placeN nm wh) (nI v)) (tellW w nm wh v) ∧ mStd (sri m 74 (placeN nm wh) (nI v)) w.lost (tellS t nm wh v) := by
  obtain ⟨v0, v1, v2, v3⟩ := hp
  have hn := hw.1
  have fm : Fr [74] [] m (sri m 74 (placeN nm wh) (nI v)) := Fr.sri (Fr.rf _ _ _) (by simp)
  have e74 : ∀ k, ri (sri m 74 (placeN nm wh) (nI v)) 74 k = if k = placeN nm wh then nI v else ri m 74 k := fun k => by rw [gr]; simp
  have hfin : wh = 0 ∨ wh = 1 ∨ wh = 2 ∨ wh = 3 ∨ wh = 4 ∨ wh = 5 ∨ wh = 6 ∨ wh = 7 ∨ wh = 8 ∨ wh = 9 := by omega
  refine ⟨⟨fun c hc => ?_, fun i hi => ?_, ?_, hms.2.2.2.1, hms.2.2.2.2.fr fm (by simp) (by simp)⟩, fun i hi => ?_, ?_, fun i h1 h2 => ?_⟩
  · have h1 := hms.1 c hc
    show _ = nI ((if wh = 4 then va_up w.dp nm v else w.dp) c) ∧ _ = nI ((if wh = 5 then va_up w.df nm v else w.df) c)
    rw [e74, e74]
    unfold placeN
    rcases hfin with rfl | rfl | rfl | rfl | rfl | rfl | rfl | rfl | rfl | rfl <;> simp at v1 v2 v3 ⊢
    · rw [if_neg (by omega), if_neg (by omega)]; exact h1
    · rw [if_neg (by omega), if_neg (by omega)]; exact h1
    · rw [if_neg (by omega), if_neg (by omega)]; exact h1
    · rw [if_neg (by omega), if_neg (by omega)]; exact h1
    · refine ⟨?_, by rw [if_neg (by omega)]; exact h1.2⟩
      by_cases e : c = nm
      · subst e; rw [if_pos rfl, va_up_self]
      · rw [if_neg (by omega), va_up_ne _ _ e]; exact h1.1
    · refine ⟨by rw [if_neg (by omega)]; exact h1.1, ?_⟩
      by_cases e : c = nm
      · subst e; rw [if_pos rfl, va_up_self]
      · rw [if_neg (by omega), va_up_ne _ _ e]; exact h1.2
    · rw [if_neg (by omega), if_neg (by omega)]; exact h1
    · rw [if_neg (by omega), if_neg (by omega)]; exact h1
    · rw [if_neg (by omega), if_neg (by omega)]; exact h1
    · rw [if_neg (by omega), if_neg (by omega)]; exact h1
  · have h1 := hms.2.1 i hi
    show _ = nI ((if wh = 1 then va_up w.pa nm v else w.pa) i) ∧ _ = nI ((if wh = 2 then va_up w.ow nm v else w.ow) i)
    rw [e74, e74]
    unfold placeN
    rcases hfin with rfl | rfl | rfl | rfl | rfl | rfl | rfl | rfl | rfl | rfl <;> simp at v1 v2 v3 ⊢
    · rw [if_neg (by omega), if_neg (by omega)]; exact h1
    · refine ⟨?_, by rw [if_neg (by omega)]; exact h1.2⟩
      by_cases e : i = nm
      · subst e; rw [if_pos rfl, va_up_self]
      · rw [if_neg (by omega), va_up_ne _ _ e]; exact h1.1
    · refine ⟨by rw [if_neg (by omega)]; exact h1.1, ?_⟩
      by_cases e : i = nm
      · subst e; rw [if_pos rfl, va_up_self]
      · rw [if_neg (by omega), va_up_ne _ _ e]; exact h1.2
    · rw [if_neg (by omega), if_neg (by omega)]; exact h1
    · rw [if_neg (by omega), if_neg (by omega)]; exact h1
    · rw [if_neg (by omega), if_neg (by omega)]; exact h1
    · rw [if_neg (by omega), if_neg (by omega)]; exact h1
    · rw [if_neg (by omega), if_neg (by omega)]; exact h1
    · rw [if_neg (by omega), if_neg (by omega)]; exact h1
    · rw [if_neg (by omega), if_neg (by omega)]; exact h1
  · have h1 := hms.2.2.1
    show _ = nI (if wh = 6 then v else w.lamp) ∧ _ = nI (if wh = 8 then v else w.burns) ∧ _ = nI (if wh = 9 then v else w.walks)
    rw [e74, e74, e74]
    unfold placeN
    rcases hfin with rfl | rfl | rfl | rfl | rfl | rfl | rfl | rfl | rfl | rfl <;> simp at v1 v2 v3 ⊢
    · rw [if_neg (by omega), if_neg (by omega), if_neg (by omega)]; exact h1
    · rw [if_neg (by omega), if_neg (by omega), if_neg (by omega)]; exact h1
    · rw [if_neg (by omega), if_neg (by omega), if_neg (by omega)]; exact h1
    · rw [if_neg (by omega), if_neg (by omega), if_neg (by omega)]; exact h1
    · rw [if_neg (by omega), if_neg (by omega), if_neg (by omega)]; exact h1
    · rw [if_neg (by omega), if_neg (by omega), if_neg (by omega)]; exact h1
    · exact h1.2
    · exact h1
    · exact ⟨h1.1, h1.2.2⟩
    · exact ⟨h1.1, h1.2.1⟩
  · have h1 := hmv.1 i hi
    show _ = nI ((if wh = 0 then va_up t.cell nm v else t.cell) i) ∧ _ = nI ((if wh = 3 then va_up t.home nm v else t.home) i)
    rw [e74, e74]
    unfold placeN
    rcases hfin with rfl | rfl | rfl | rfl | rfl | rfl | rfl | rfl | rfl | rfl <;> simp at v1 v2 v3 ⊢
    · refine ⟨?_, by rw [if_neg (by omega)]; exact h1.2⟩
      by_cases e : i = nm
      · subst e; rw [if_pos rfl, va_up_self]
      · rw [if_neg (by omega), va_up_ne _ _ e]; exact h1.1
    · rw [if_neg (by omega), if_neg (by omega)]; exact h1
    · rw [if_neg (by omega), if_neg (by omega)]; exact h1
    · refine ⟨by rw [if_neg (by omega)]; exact h1.1, ?_⟩
      by_cases e : i = nm
      · subst e; rw [if_pos rfl, va_up_self]
      · rw [if_neg (by omega), va_up_ne _ _ e]; exact h1.2
    · rw [if_neg (by omega), if_neg (by omega)]; exact h1
    · rw [if_neg (by omega), if_neg (by omega)]; exact h1
    · rw [if_neg (by omega), if_neg (by omega)]; exact h1
    · rw [if_neg (by omega), if_neg (by omega)]; exact h1
    · rw [if_neg (by omega), if_neg (by omega)]; exact h1
    · rw [if_neg (by omega), if_neg (by omega)]; exact h1
  · have h1 := hmv.2.1
    show _ = nI (if wh = 7 then v else t.oil)
    rw [e74]
    unfold placeN
    rcases hfin with rfl | rfl | rfl | rfl | rfl | rfl | rfl | rfl | rfl | rfl <;> simp at v1 v2 v3 ⊢
    · rw [if_neg (by omega)]; exact h1
    · rw [if_neg (by omega)]; exact h1
    · rw [if_neg (by omega)]; exact h1
    · rw [if_neg (by omega)]; exact h1
    · rw [if_neg (by omega)]; exact h1
    · rw [if_neg (by omega)]; exact h1
    · exact h1
    · exact h1
    · exact h1
  · have h3 := hmv.2.2 i h1 h2
    rw [e74]
    unfold placeN
    rcases hfin with rfl | rfl | rfl | rfl | rfl | rfl | rfl | rfl | rfl | rfl <;> simp at v1 v2 v3 ⊢ <;> (rw [if_neg (by omega)]; exact h3)
