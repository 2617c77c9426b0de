/-! ===== the sea: cells, ways (by going through all of them) ===== -/
def hpX (la : Int32) : aH := (fun _ _ => la, fun _ _ => 0, fun _ _ => 0)
def hpM (la : Int32) : aH := (fun _ _ => 0, fun _ _ => la, fun _ _ => 0)
def hpD (df : Int32) : aH := (fun _ _ => 0, fun _ _ => df, fun _ _ => 0)
theorem isLit_hp (x : aH) (w c : Int32) : fX5_isLit x w c = fX5_isLit (hpX (fi x 1 4)) w c := rfl
theorem far_hp (x : aH) (c : Int32) : fX5_far x c = fX5_far (hpX (fi x 1 4)) c := rfl
theorem nearer_hp (x : aH) (c : Int32) : fX5_nearer x c = fX5_nearer (hpX (fi x 1 4)) c := rfl
theorem isSeen_hp (x : aH) (c w : Int32) : fX11_isSeen x c w = fX11_isSeen (hpM (ri x 74 (ix (168 : Int32)))) c w := rfl
theorem walksTo_hp (x : aH) (c : Int32) : fX11_walksTo x c = fX11_walksTo (hpM (ri x 74 (ix (168 : Int32)))) c := rfl
theorem alongX_hp (x : aH) (c : Int32) : fX11_alongX x c = fX11_alongX (hpM (ri x 74 (ix (168 : Int32)))) c := rfl
theorem alongY_hp (x : aH) (c : Int32) : fX11_alongY x c = fX11_alongY (hpM (ri x 74 (ix (168 : Int32)))) c := rfl
set_option maxRecDepth 20000 in
theorem isLit_all : ∀ w, w < 4 → ∀ la, la < 64 → ∀ c, c < 64 → fX5_isLit (hpX (nI la)) (nI w) (nI c) = some (if litF la w c = true then 1 else 0) := by decide +kernel
set_option maxRecDepth 20000 in
theorem isSeen_all : ∀ w, w < 4 → ∀ la, la < 64 → ∀ c, c < 64 → fX11_isSeen (hpM (nI la)) (nI c) (nI w) = some (if litF la w c = true then 1 else 0) := by decide +kernel
set_option maxRecDepth 20000 in
theorem far_all : ∀ la, la < 64 → ∀ c, c < 64 → fX5_far (hpX (nI la)) (nI c) = some (nI (farF la c)) := by decide +kernel
set_option maxRecDepth 20000 in
theorem farM_all : ∀ la, la < 64 → ∀ c, c < 64 → ((fX11_alongX (hpM (nI la)) (nI c)).bind fun a => (fX11_sizeOf a).bind fun b => (fX11_alongY (hpM (nI la)) (nI c)).bind fun d => (fX11_sizeOf d).bind fun e => some (b + e)) = some (nI (farF la c)) := by decide +kernel
set_option maxRecDepth 20000 in
theorem nearer_all : ∀ la, la < 64 → ∀ c, c < 64 → c ≠ la → fX5_nearer (hpX (nI la)) (nI c) = some (nI (nearF la c)) ∧ fX11_walksTo (hpM (nI la)) (nI c) = some (nI (nearF la c)) := by decide +kernel
theorem carried_all : ∀ df, df < 5 → ∀ c, c < 64 → fX5_carried (hpD (nI df)) (nI c) = some (nI (carF df c)) ∧ fX11_driftsTo (hpD (nI df)) (nI c) = some (nI (carF df c)) := by decide +kernel
