/-! ===== the abstract machine's words: heaps with small addresses, a frame's judgement, contracts ===== -/
/-- what may change: int fields, int rows, long rows -/
abbrev aH : Type := (Nat → Nat → Int32) × (Nat → Nat → Int32) × (Nat → Nat → Int64)
/-- the shape: kinds, lengths, fields and rows that are references, how many cells -/
abbrev aS : Type := (Nat → Nat) × (Nat → Nat) × (Nat → Nat → Option Nat) × (Nat → Nat → Option Nat) × Nat
/-- the script: its length, its ints -/
abbrev aZ : Type := Nat × (Nat → Int32)
/-- the machine's own numbers: where our cells begin, where the read-only rows lie, classes, array classes -/
abbrev aG : Type := Nat × (Nat → Nat) × va_G × (Nat → ClassId)
def fi (h : aH) : Nat → Nat → Int32 := h.1
def ri (h : aH) : Nat → Nat → Int32 := h.2.1
def rj (h : aH) : Nat → Nat → Int64 := h.2.2
def kd (S : aS) : Nat → Nat := S.1
def ln (S : aS) : Nat → Nat := S.2.1
def fr (S : aS) : Nat → Nat → Option Nat := S.2.2.1
def rr (S : aS) : Nat → Nat → Option Nat := S.2.2.2.1
def nx (S : aS) : Nat := S.2.2.2.2
def sfi (h : aH) (a k : Nat) (v : Int32) : aH := (va_up h.1 a (va_up (h.1 a) k v), h.2.1, h.2.2)
def sri (h : aH) (a k : Nat) (v : Int32) : aH := (h.1, va_up h.2.1 a (va_up (h.2.1 a) k v), h.2.2)
def srj (h : aH) (a k : Nat) (v : Int64) : aH := (h.1, h.2.1, va_up h.2.2 a (va_up (h.2.2 a) k v))
def srow (h : aH) (a : Nat) (f : Nat → Int32) : aH := (h.1, va_up h.2.1 a f, h.2.2)
def srowj (h : aH) (a : Nat) (f : Nat → Int64) : aH := (h.1, h.2.1, va_up h.2.2 a f)
/-- the five static rows: LOWEST, HIGHEST, LINES, OWN, ABOVE -/
def stL : List (List Int) := [[0, 0, 0, 0, 0, 0, 0, 0, 1, 1], [63, 3, 9, 1, 9, 4, 63, 999, 9, 9], [1, 5, 25, 125, 625], [1, 10, 11, 2, 20, 0, 0, 0, 0, 30, 0, 0, 0, 41, 40, 0, 0, 0, 50, 0, 0, 0, 0, 60, 70, 0, 0, 0, 0, 80, 0, 81], [-1, 0, 0, 2, 1, 3, 0, 4]]
def stT : List (String × String) := [("DrownedLight", "LOWEST"), ("DrownedLight", "HIGHEST"), ("DrownedLight$Search", "LINES"), ("DrownedLight$Acts", "OWN"), ("DrownedLight$Acts", "ABOVE")]
/-- read-only rows: 0 to 4 the static ones, 5 the script -/
def roN (Z : aZ) (i : Nat) : Nat := if i < 5 then (stL.getD i []).length else Z.1
def roC (Z : aZ) (i : Nat) : Nat → Int32 := if i < 5 then (fun j => Int32.ofInt ((stL.getD i []).getD j 0)) else Z.2
def adr (g : aG) (a : Nat) : Nat := if a < 1000 then g.1 + a else g.2.1 (a - 1000)
def tv (g : aG) : Value → Value
  | .ref a => .ref (adr g a)
  | v => v
def isRefTy : FieldType → Bool
  | .object _ => true
  | .array _ => true
  | _ => false
def a_fty (ci k : Nat) : FieldType := (tyCl.getD ci (fun _ => .int)) k
def a_N (ci : Nat) : Nat := (vwCl.getD ci ("", fun _ => ("", "", "", false), 0)).2.2
def a_fv (g : aG) (S : aS) (h : aH) (a k : Nat) : Value := if isRefTy (a_fty (kd S a) k) = true then va_rf ((fr S a k).map (adr g)) else .int (fi h a k)
def a_ent (g : aG) (S : aS) (h : aH) (a : Nat) : va_E :=
  if kd S a < 12 then .inr (kd S a, (List.range (a_N (kd S a))).map (a_fv g S h a))
  else if kd S a = 20 then .inl (g.2.2.2 0, (ln S a, .inl (ri h a)))
  else if kd S a = 21 then .inl (g.2.2.2 1, (ln S a, .inr (.inl (rj h a))))
  else .inl (g.2.2.2 (kd S a - 20), (ln S a, .inr (.inr (.inr (.inr (fun j => (rr S a j).map (adr g)))))))
def a_ws (g : aG) (S : aS) (h : aH) : va_W := (List.range (nx S)).map fun a => (g.1 + a, a_ent g S h a)
def a_A (g : aG) : Nat → Prop := fun q => g.1 ≤ q
def a_tys (g : aG) : List (ClassId × FieldType) := [(g.2.2.2 0, .int), (g.2.2.2 1, .long), (g.2.2.2 2, .object "DrownedLight$Stand"), (g.2.2.2 3, .object "DrownedLight$Shelf")]
/-- our cells as the heap has them -/
def HREL (g : aG) (S : aS) (h : aH) (H : Heap) : Prop := nx S ≤ 1000 ∧ va_P g.2.2.1 vwCl (a_ws g S h) H
/-- words of the nest, and of arrays of objects -/
def nestW : List Cond := [Cond.methodLinkNest RX10 18 yX9_init "DrownedLight", Cond.methodLinkNest RX10 25 yX3_init "DrownedLight", Cond.methodLinkNest RX10 60 yX4_init "DrownedLight", Cond.methodLinkNest RX10 67 yX1_init "DrownedLight", Cond.methodLinkNest RX10 74 yX0_init "DrownedLight", Cond.methodLinkNest RX10 85 yX7_init "DrownedLight"]
/-- what a frame's start knows: classes, read-only rows, statics -/
def KREL (g : aG) (Z : aZ) (U : State) : Prop :=
  va_K g.2.2.1 vwCl (a_tys g) U ∧ (∀ i, i < 6 → roN Z i < 2 ^ 31 ∧ va_T .int (g.2.1 i) (roN Z i) (fun j => .int (roC Z i j)) (a_A g) U U.heap)
  ∧ (∀ i, i < 5 → va_Z (stT.getD i ("", "")).1 (stT.getD i ("", "")).2 "[I" (.ref (g.2.1 i)) (a_A g) U U.heap)
  ∧ (∀ w ∈ nestW, va_Nw w U) ∧ va_AO "DrownedLight$Stand" U ∧ va_AO "DrownedLight$Shelf" U
def TBL : List Cond := lw_tbl.filter goodWord
theorem tb (i : Nat) {w : Cond} (h : lw_tbl[i]? = some w) (hg : goodWord w = true) : w ∈ TBL := List.mem_filter.mpr ⟨List.mem_of_getElem? h, hg⟩
theorem tb_good {w : Cond} (h : w ∈ TBL) : goodWord w = true := (List.mem_filter.mp h).2
theorem tb_in {w : Cond} (h : w ∈ TBL) : w ∈ lw_tbl := (List.mem_filter.mp h).1
def M_ws (M : MD) : List Cond := Cond.code M.2.2.2.2 M.1 M.2.1 M.2.2.1 :: TBL
/-- the method's own words stand among the tables' -/
def MOK (M : MD) : Prop := Cond.code M.2.2.2.2 M.1 M.2.1 M.2.2.1 ∈ TBL ∧ Cond.initialized M.2.2.2.2.cls ∈ TBL ∧ plainName M.2.2.2.2.cls = true ∧ M.2.1 ≤ 21 ∧ M.2.2.2.2.cls = M.2.2.2.1 ∧ (M.2.2.2.2.cls ≠ "java/lang/invoke/MethodHandle" ∧ M.2.2.2.2.cls ≠ "java/lang/invoke/VarHandle")
theorem MOK.good {M : MD} (h : MOK M) : GoodIn TBL (M_ws M) := by
  intro w hw
  rcases List.mem_cons.mp hw with rfl | hw
  · exact ⟨h.1, good_of_word (tb_good h.1)⟩
  · exact ⟨hw, good_of_word (tb_good hw)⟩
/-- locals: what isn't null is held -/
def a_lvl (g : aG) (ls : List Value) : List (Nat × Value) := (ls.zipIdx).filterMap fun q => if q.1 = Value.null then none else some (q.2, tv g q.1)
theorem a_lvl_mem {g : aG} {ls : List Value} {i : Nat} {w : Value} : (i, w) ∈ a_lvl g ls ↔ ∃ v, ls[i]? = some v ∧ v ≠ .null ∧ w = tv g v := by
  unfold a_lvl
  rw [List.mem_filterMap]
  constructor
  · rintro ⟨⟨v, j⟩, h1, h2⟩
    have h3 := List.mem_zipIdx_iff_getElem?.mp h1
    dsimp only at h2 h3
    split at h2
    · cases h2
    · rename_i hne
      cases h2
      exact ⟨v, h3, hne, rfl⟩
  · rintro ⟨v, h1, h2, rfl⟩
    exact ⟨(v, i), List.mem_zipIdx_iff_getElem?.mpr h1, by dsimp only; rw [if_neg h2]⟩
theorem tv_cat (g : aG) (v : Value) : (tv g v).category = v.category := by cases v <;> rfl
def a_kill (ls : List Value) (i : Nat) : List Value := match i with
  | 0 => ls
  | j + 1 => if (ls.getD j .null).category = 2 then ls.set j .null else ls
def st1 (ls : List Value) (i : Nat) (v : Value) : List Value := (a_kill ls i).set i v
def st2 (ls : List Value) (i : Nat) (v : Value) : List Value := ((a_kill ls i).set i v).set (i + 1) .null
