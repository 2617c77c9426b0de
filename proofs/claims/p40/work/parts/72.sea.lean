/-! the sea, by numbers -/
theorem isLit_x {x : aH} {la w c : Nat} (hl : fi x 1 4 = nI la) (hla : la < 64) (hw : w < 4) (hc : c < 64) : fX5_isLit x (nI w) (nI c) = some (if litF la w c = true then 1 else 0) := by
  rw [isLit_hp, hl]; exact isLit_all w hw la hla c hc
theorem isSeen_m {m : aH} {la w c : Nat} (hl : ri m 74 168 = nI la) (hla : la < 64) (hw : w < 4) (hc : c < 64) : fX11_isSeen m (nI c) (nI w) = some (if litF la w c = true then 1 else 0) := by
  rw [isSeen_hp, show ix (168 : Int32) = 168 from rfl, hl]; exact isSeen_all w hw la hla c hc
theorem far_x {x : aH} {la c : Nat} (hl : fi x 1 4 = nI la) (hla : la < 64) (hc : c < 64) : fX5_far x (nI c) = some (nI (farF la c)) := by
  rw [far_hp, hl]; exact far_all la hla c hc
theorem nearer_x {x : aH} {la c : Nat} (hl : fi x 1 4 = nI la) (hla : la < 64) (hc : c < 64) (hne : c ≠ la) : fX5_nearer x (nI c) = some (nI (nearF la c)) := by
  rw [nearer_hp, hl]; exact (nearer_all la hla c hc hne).1
theorem walksTo_m {m : aH} {la c : Nat} (hl : ri m 74 168 = nI la) (hla : la < 64) (hc : c < 64) (hne : c ≠ la) : fX11_walksTo m (nI c) = some (nI (nearF la c)) := by
  rw [walksTo_hp, show ix (168 : Int32) = 168 from rfl, hl]; exact (nearer_all la hla c hc hne).2
theorem carried_x {x : aH} {df c : Nat} (hd : ri x 3 c = nI df) (hdf : df < 5) (hc : c < 64) : fX5_carried x (nI c) = some (nI (carF df c)) := by
  rw [← (carried_all df hdf c hc).1]
  unfold fX5_carried
  have e : ri x 3 (ix (nI c)) = ri (hpD (nI df)) 3 (ix (nI c)) := by rw [ixN (by omega), hd]; rfl
  rw [e]
theorem driftsTo_m {m : aH} {df c : Nat} (hd : ri m 74 (104 + c) = nI df) (hdf : df < 5) (hc : c < 64) : fX11_driftsTo m (nI c) = some (nI (carF df c)) := by
  rw [← (carried_all df hdf c hc).2]
  unfold fX11_driftsTo
  have e : ri m 74 (ix ((104 : Int32) + nI c)) = ri (hpD (nI df)) 74 (ix ((104 : Int32) + nI c)) := by rw [addL, ixN (by omega), hd]; rfl
  rw [e]
  rfl
