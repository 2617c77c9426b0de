/-! ===== the rules: an instruction each ===== -/
def DI (M : MD) (pc : Nat) (i : Instr) (n pc' : Nat) : Prop := decode M.1 pc = .ok (i, n) ∧ pc + n = pc'
def DB (M : MD) (pc : Nat) (i : Instr) (off : Int) (pc' tgt : Nat) : Prop := decode M.1 pc = .ok (i, 3) ∧ pc + 3 = pc' ∧ (pc : Int) + off = (tgt : Int)
def DC (M : MD) (pc : Nat) (v : Int32) (pc' : Nat) : Prop := (∃ n, decode M.1 pc = .ok (.iconst n, 1) ∧ Int32.ofInt n = v ∧ pc + 1 = pc') ∨ (∃ n, decode M.1 pc = .ok (.bipush n, 2) ∧ (Int8.ofInt n).toInt32 = v ∧ pc + 2 = pc') ∨ (∃ n, decode M.1 pc = .ok (.sipush n, 3) ∧ (Int16.ofInt n).toInt32 = v ∧ pc + 3 = pc') ∨ (∃ k, decode M.1 pc = .ok (.ldc k, 2) ∧ Cond.constant M.2.2.2.1 k v ∈ TBL ∧ pc + 2 = pc') ∨ (∃ k, decode M.1 pc = .ok (.ldc_w k, 3) ∧ Cond.constant M.2.2.2.1 k v ∈ TBL ∧ pc + 3 = pc')
def DCL (M : MD) (pc : Nat) (v : Int64) (pc' : Nat) : Prop := (∃ n : Fin 2, decode M.1 pc = .ok (.lconst n, 1) ∧ Int64.ofNat (n : Nat) = v ∧ pc + 1 = pc') ∨ (∃ k, decode M.1 pc = .ok (.ldc2_w k, 3) ∧ Cond.constantLong M.2.2.2.1 k v ∈ TBL ∧ pc + 3 = pc')
def DLi (M : MD) (pc i pc' : Nat) : Prop := (∃ k : Fin 4, decode M.1 pc = .ok (.iload_n k, 1) ∧ (k : Nat) = i ∧ pc + 1 = pc') ∨ (decode M.1 pc = .ok (.iload i, 2) ∧ pc + 2 = pc')
def DLl (M : MD) (pc i pc' : Nat) : Prop := (∃ k : Fin 4, decode M.1 pc = .ok (.lload_n k, 1) ∧ (k : Nat) = i ∧ pc + 1 = pc') ∨ (decode M.1 pc = .ok (.lload i, 2) ∧ pc + 2 = pc')
def DLa (M : MD) (pc i pc' : Nat) : Prop := (∃ k : Fin 4, decode M.1 pc = .ok (.aload_n k, 1) ∧ (k : Nat) = i ∧ pc + 1 = pc') ∨ (decode M.1 pc = .ok (.aload i, 2) ∧ pc + 2 = pc')
def DSi (M : MD) (pc i pc' : Nat) : Prop := i < M.2.1 ∧ ((∃ k : Fin 4, decode M.1 pc = .ok (.istore_n k, 1) ∧ (k : Nat) = i ∧ pc + 1 = pc') ∨ (decode M.1 pc = .ok (.istore i, 2) ∧ pc + 2 = pc'))
def DSl (M : MD) (pc i pc' : Nat) : Prop := i + 1 < M.2.1 ∧ ((∃ k : Fin 4, decode M.1 pc = .ok (.lstore_n k, 1) ∧ (k : Nat) = i ∧ pc + 1 = pc') ∨ (decode M.1 pc = .ok (.lstore i, 2) ∧ pc + 2 = pc'))
def DSa (M : MD) (pc i pc' : Nat) : Prop := i < M.2.1 ∧ ((∃ k : Fin 4, decode M.1 pc = .ok (.astore_n k, 1) ∧ (k : Nat) = i ∧ pc + 1 = pc') ∨ (decode M.1 pc = .ok (.astore i, 2) ∧ pc + 2 = pc'))
def DIN (M : MD) (pc i : Nat) (v : Int32) (pc' : Nat) : Prop := i < M.2.1 ∧ ∃ n, decode M.1 pc = .ok (.iinc i n, 3) ∧ Int32.ofInt n = v ∧ pc + 3 = pc'
def DRi (M : MD) (pc : Nat) : Prop := decode M.1 pc = .ok (.ireturn, 1) ∧ M.2.2.1 = some .int
def DRz (M : MD) (pc : Nat) : Prop := decode M.1 pc = .ok (.ireturn, 1) ∧ M.2.2.1 = some .boolean
def DRl (M : MD) (pc : Nat) : Prop := decode M.1 pc = .ok (.lreturn, 1) ∧ M.2.2.1 = some .long
def DRa (M : MD) (pc : Nat) : Prop := decode M.1 pc = .ok (.areturn, 1) ∧ ∃ n, M.2.2.1 = some (.object n)
def DRv (M : MD) (pc : Nat) : Prop := decode M.1 pc = .ok (.return_, 1) ∧ M.2.2.1 = none
theorem st1_mem {g : aG} {ls : List Value} {i : Nat} {v : Value} (hi : ∀ q ∈ a_lvl g ls, True) : ∀ q ∈ a_lvl g (st1 ls i v), q ∈ (i, tv g v) :: (a_lvl g ls).filter (fun q => !(q.1 == i) && !(q.1 + 1 == i && q.2.category == 2)) := by
  rintro ⟨j, w⟩ hq
  obtain ⟨v', h1, h2, rfl⟩ := a_lvl_mem.mp hq
  unfold st1 at h1
  by_cases hji : i = j
  · subst hji
    have hl := (List.getElem?_eq_some_iff.mp h1).1
    rw [List.getElem?_set_self (by simpa using hl)] at h1
    cases h1
    exact List.mem_cons_self
  · rw [List.getElem?_set_ne hji] at h1
    have h3 : ls[j]? = some v' ∧ ¬ (j + 1 = i ∧ v'.category = 2) := by
      match i, h1, hji with
      | 0, h1, hji => exact ⟨h1, fun z => by omega⟩
      | i + 1, h1, hji =>
        have e : a_kill ls (i + 1) = if (ls.getD i .null).category = 2 then ls.set i .null else ls := rfl
        rw [e] at h1
        split at h1
        · rename_i hc
          by_cases hij : i = j
          · subst hij
            have hl := (List.getElem?_eq_some_iff.mp h1).1
            rw [List.getElem?_set_self (by simpa using hl)] at h1
            cases h1
            exact absurd rfl h2
          · rw [List.getElem?_set_ne hij] at h1
            exact ⟨h1, fun z => by omega⟩
        · rename_i hc
          refine ⟨h1, fun z => ?_⟩
          obtain ⟨z1, z2⟩ := z
          have : j = i := by omega
          subst this
          rw [List.getD_eq_getElem?_getD, h1] at hc
          exact hc z2
    refine List.mem_cons_of_mem _ (List.mem_filter.mpr ⟨a_lvl_mem.mpr ⟨v', h3.1, h2, rfl⟩, ?_⟩)
    simp only [Bool.and_eq_true, Bool.not_eq_true', beq_eq_false_iff_ne, ne_eq, Bool.and_eq_false_imp, beq_iff_eq]
    exact ⟨fun z => hji z.symm, fun z1 z2 => h3.2 ⟨z1, by rw [tv_cat] at z2; exact z2⟩⟩
theorem st2_mem {g : aG} {ls : List Value} {i : Nat} {v : Value} (hi : ∀ q ∈ a_lvl g ls, True) : ∀ q ∈ a_lvl g (st2 ls i v), q ∈ (i, tv g v) :: (a_lvl g ls).filter (fun q => !(q.1 == i) && (!(q.1 == i + 1) && !(q.1 + 1 == i && q.2.category == 2))) := by
  rintro ⟨j, w⟩ hq
  obtain ⟨v', h1, h2, rfl⟩ := a_lvl_mem.mp hq
  have hj : j ≠ i + 1 := by
    rintro rfl
    unfold st2 at h1
    have hl := (List.getElem?_eq_some_iff.mp h1).1
    rw [List.getElem?_set_self (by simpa using hl)] at h1
    cases h1
    exact h2 rfl
  have h4 : (j, tv g v') ∈ a_lvl g (st1 ls i v) := by
    refine a_lvl_mem.mpr ⟨v', ?_, h2, rfl⟩
    unfold st2 at h1
    rwa [List.getElem?_set_ne (Ne.symm hj)] at h1
  rcases List.mem_cons.mp (st1_mem hi _ h4) with h5 | h5
  · rw [h5]; exact List.mem_cons_self
  · obtain ⟨h6, h7⟩ := List.mem_filter.mp h5
    refine List.mem_cons_of_mem _ (List.mem_filter.mpr ⟨h6, ?_⟩)
    simp only [Bool.and_eq_true, Bool.not_eq_true', beq_eq_false_iff_ne, ne_eq] at h7 ⊢
    exact ⟨h7.1, hj, h7.2⟩
section RULES
variable {Z : aZ} {M : MD} {d bc bs pc pc' tgt : Nat} {ls st : List Value} {S : aS} {h : aH} {Q : Option Value → aS → aH → Prop}
abbrev TK (Z : aZ) (M : MD) (d bc bs : Nat) (S : aS) (h : aH) (Q : Option Value → aS → aH → Prop) (pc : Nat) (ls st : List Value) : Prop := TJ Z M d bc bs pc ls st S h Q
theorem T_iadd {x y : Int32} (hd : DI M pc (.iadd) 1 pc') (k : TK Z M d bc bs S h Q pc' ls (.int (x + y) :: st)) : TK Z M d bc bs S h Q pc ls (.int y :: .int x :: st) := by
  intro g p l e R s m args below meth c QF hF hR H locs cells slots lsA hH hS hl hc hs
  obtain ⟨hd, rfl⟩ := hd
  exact lv_iadd hF.1 hF.2.1 hd (k g p l e R s m args below meth c QF hF hR H locs cells slots lsA hH hS hl hc hs)
theorem T_isub {x y : Int32} (hd : DI M pc (.isub) 1 pc') (k : TK Z M d bc bs S h Q pc' ls (.int (x - y) :: st)) : TK Z M d bc bs S h Q pc ls (.int y :: .int x :: st) := by
  intro g p l e R s m args below meth c QF hF hR H locs cells slots lsA hH hS hl hc hs
  obtain ⟨hd, rfl⟩ := hd
  exact lv_isub hF.1 hF.2.1 hd (k g p l e R s m args below meth c QF hF hR H locs cells slots lsA hH hS hl hc hs)
theorem T_imul {x y : Int32} (hd : DI M pc (.imul) 1 pc') (k : TK Z M d bc bs S h Q pc' ls (.int (x * y) :: st)) : TK Z M d bc bs S h Q pc ls (.int y :: .int x :: st) := by
  intro g p l e R s m args below meth c QF hF hR H locs cells slots lsA hH hS hl hc hs
  obtain ⟨hd, rfl⟩ := hd
  exact lv_imul hF.1 hF.2.1 hd (k g p l e R s m args below meth c QF hF hR H locs cells slots lsA hH hS hl hc hs)
theorem T_iand {x y : Int32} (hd : DI M pc (.iand) 1 pc') (k : TK Z M d bc bs S h Q pc' ls (.int (x &&& y) :: st)) : TK Z M d bc bs S h Q pc ls (.int y :: .int x :: st) := by
  intro g p l e R s m args below meth c QF hF hR H locs cells slots lsA hH hS hl hc hs
  obtain ⟨hd, rfl⟩ := hd
  exact lv_iand hF.1 hF.2.1 hd (k g p l e R s m args below meth c QF hF hR H locs cells slots lsA hH hS hl hc hs)
theorem T_ior {x y : Int32} (hd : DI M pc (.ior) 1 pc') (k : TK Z M d bc bs S h Q pc' ls (.int (x ||| y) :: st)) : TK Z M d bc bs S h Q pc ls (.int y :: .int x :: st) := by
  intro g p l e R s m args below meth c QF hF hR H locs cells slots lsA hH hS hl hc hs
  obtain ⟨hd, rfl⟩ := hd
  exact lv_ior hF.1 hF.2.1 hd (k g p l e R s m args below meth c QF hF hR H locs cells slots lsA hH hS hl hc hs)
theorem T_ixor {x y : Int32} (hd : DI M pc (.ixor) 1 pc') (k : TK Z M d bc bs S h Q pc' ls (.int (x ^^^ y) :: st)) : TK Z M d bc bs S h Q pc ls (.int y :: .int x :: st) := by
  intro g p l e R s m args below meth c QF hF hR H locs cells slots lsA hH hS hl hc hs
  obtain ⟨hd, rfl⟩ := hd
  exact lv_ixor hF.1 hF.2.1 hd (k g p l e R s m args below meth c QF hF hR H locs cells slots lsA hH hS hl hc hs)
theorem T_ishl {x y : Int32} (hd : DI M pc (.ishl) 1 pc') (k : TK Z M d bc bs S h Q pc' ls (.int (x <<< (y &&& 31)) :: st)) : TK Z M d bc bs S h Q pc ls (.int y :: .int x :: st) := by
  intro g p l e R s m args below meth c QF hF hR H locs cells slots lsA hH hS hl hc hs
  obtain ⟨hd, rfl⟩ := hd
  exact lv_ishl hF.1 hF.2.1 hd (k g p l e R s m args below meth c QF hF hR H locs cells slots lsA hH hS hl hc hs)
theorem T_ishr {x y : Int32} (hd : DI M pc (.ishr) 1 pc') (k : TK Z M d bc bs S h Q pc' ls (.int (x >>> (y &&& 31)) :: st)) : TK Z M d bc bs S h Q pc ls (.int y :: .int x :: st) := by
  intro g p l e R s m args below meth c QF hF hR H locs cells slots lsA hH hS hl hc hs
  obtain ⟨hd, rfl⟩ := hd
  exact lv_ishr hF.1 hF.2.1 hd (k g p l e R s m args below meth c QF hF hR H locs cells slots lsA hH hS hl hc hs)
theorem T_idiv {x y : Int32} (hd : DI M pc (.idiv) 1 pc') (hne : ¬ y = 0) (k : TK Z M d bc bs S h Q pc' ls (.int (x / y) :: st)) : TK Z M d bc bs S h Q pc ls (.int y :: .int x :: st) := by
  intro g p l e R s m args below meth c QF hF hR H locs cells slots lsA hH hS hl hc hs
  obtain ⟨hd, rfl⟩ := hd
  exact lv_idiv hF.1 hF.2.1 hd hne (k g p l e R s m args below meth c QF hF hR H locs cells slots lsA hH hS hl hc hs)
theorem T_irem {x y : Int32} (hd : DI M pc (.irem) 1 pc') (hne : ¬ y = 0) (k : TK Z M d bc bs S h Q pc' ls (.int (x - x / y * y) :: st)) : TK Z M d bc bs S h Q pc ls (.int y :: .int x :: st) := by
  intro g p l e R s m args below meth c QF hF hR H locs cells slots lsA hH hS hl hc hs
  obtain ⟨hd, rfl⟩ := hd
  exact lv_irem hF.1 hF.2.1 hd hne (k g p l e R s m args below meth c QF hF hR H locs cells slots lsA hH hS hl hc hs)
theorem T_iushr {x y : Int32} (hd : DI M pc (.iushr) 1 pc') (k : TK Z M d bc bs S h Q pc' ls (.int (x.toUInt32 >>> (y.toUInt32 &&& Int32.toUInt32 31)).toInt32 :: st)) : TK Z M d bc bs S h Q pc ls (.int y :: .int x :: st) := by
  intro g p l e R s m args below meth c QF hF hR H locs cells slots lsA hH hS hl hc hs
  obtain ⟨hd, rfl⟩ := hd
  exact lv_iushr hF.1 hF.2.1 hd rfl (k g p l e R s m args below meth c QF hF hR H locs cells slots lsA hH hS hl hc hs)
theorem T_ineg {x : Int32} (hd : DI M pc (.ineg) 1 pc') (k : TK Z M d bc bs S h Q pc' ls (.int (-x) :: st)) : TK Z M d bc bs S h Q pc ls (.int x :: st) := by
  intro g p l e R s m args below meth c QF hF hR H locs cells slots lsA hH hS hl hc hs
  obtain ⟨hd, rfl⟩ := hd
  exact lv_ineg hF.1 hF.2.1 hd (k g p l e R s m args below meth c QF hF hR H locs cells slots lsA hH hS hl hc hs)
theorem T_ladd {x y : Int64} (hd : DI M pc (.ladd) 1 pc') (k : TK Z M d bc bs S h Q pc' ls (.long (x + y) :: st)) : TK Z M d bc bs S h Q pc ls (.long y :: .long x :: st) := by
  intro g p l e R s m args below meth c QF hF hR H locs cells slots lsA hH hS hl hc hs
  obtain ⟨hd, rfl⟩ := hd
  exact lv_ladd hF.1 hF.2.1 hd (k g p l e R s m args below meth c QF hF hR H locs cells slots lsA hH hS hl hc hs)
theorem T_lsub {x y : Int64} (hd : DI M pc (.lsub) 1 pc') (k : TK Z M d bc bs S h Q pc' ls (.long (x - y) :: st)) : TK Z M d bc bs S h Q pc ls (.long y :: .long x :: st) := by
  intro g p l e R s m args below meth c QF hF hR H locs cells slots lsA hH hS hl hc hs
  obtain ⟨hd, rfl⟩ := hd
  exact lv_lsub hF.1 hF.2.1 hd (k g p l e R s m args below meth c QF hF hR H locs cells slots lsA hH hS hl hc hs)
theorem T_lmul {x y : Int64} (hd : DI M pc (.lmul) 1 pc') (k : TK Z M d bc bs S h Q pc' ls (.long (x * y) :: st)) : TK Z M d bc bs S h Q pc ls (.long y :: .long x :: st) := by
  intro g p l e R s m args below meth c QF hF hR H locs cells slots lsA hH hS hl hc hs
  obtain ⟨hd, rfl⟩ := hd
  exact lv_lmul hF.1 hF.2.1 hd (k g p l e R s m args below meth c QF hF hR H locs cells slots lsA hH hS hl hc hs)
theorem T_land {x y : Int64} (hd : DI M pc (.land) 1 pc') (k : TK Z M d bc bs S h Q pc' ls (.long (x &&& y) :: st)) : TK Z M d bc bs S h Q pc ls (.long y :: .long x :: st) := by
  intro g p l e R s m args below meth c QF hF hR H locs cells slots lsA hH hS hl hc hs
  obtain ⟨hd, rfl⟩ := hd
  exact lv_land hF.1 hF.2.1 hd (k g p l e R s m args below meth c QF hF hR H locs cells slots lsA hH hS hl hc hs)
theorem T_lor {x y : Int64} (hd : DI M pc (.lor) 1 pc') (k : TK Z M d bc bs S h Q pc' ls (.long (x ||| y) :: st)) : TK Z M d bc bs S h Q pc ls (.long y :: .long x :: st) := by
  intro g p l e R s m args below meth c QF hF hR H locs cells slots lsA hH hS hl hc hs
  obtain ⟨hd, rfl⟩ := hd
  exact lv_lor hF.1 hF.2.1 hd (k g p l e R s m args below meth c QF hF hR H locs cells slots lsA hH hS hl hc hs)
theorem T_lxor {x y : Int64} (hd : DI M pc (.lxor) 1 pc') (k : TK Z M d bc bs S h Q pc' ls (.long (x ^^^ y) :: st)) : TK Z M d bc bs S h Q pc ls (.long y :: .long x :: st) := by
  intro g p l e R s m args below meth c QF hF hR H locs cells slots lsA hH hS hl hc hs
  obtain ⟨hd, rfl⟩ := hd
  exact lv_lxor hF.1 hF.2.1 hd (k g p l e R s m args below meth c QF hF hR H locs cells slots lsA hH hS hl hc hs)
theorem T_lcmp {x y : Int64} (hd : DI M pc (.lcmp) 1 pc') (k : TK Z M d bc bs S h Q pc' ls (.int (lg_cmp x y) :: st)) : TK Z M d bc bs S h Q pc ls (.long y :: .long x :: st) := by
  intro g p l e R s m args below meth c QF hF hR H locs cells slots lsA hH hS hl hc hs
  obtain ⟨hd, rfl⟩ := hd
  exact W.lcmp hF.1 hF.2.1 hd (k g p l e R s m args below meth c QF hF hR H locs cells slots lsA hH hS hl hc hs)
theorem T_lushr {x : Int64} {y : Int32} (hd : DI M pc (.lushr) 1 pc') (k : TK Z M d bc bs S h Q pc' ls (.long (x.toUInt64 >>> (y.toInt64.toUInt64 &&& Int64.toUInt64 63)).toInt64 :: st)) : TK Z M d bc bs S h Q pc ls (.int y :: .long x :: st) := by
  intro g p l e R s m args below meth c QF hF hR H locs cells slots lsA hH hS hl hc hs
  obtain ⟨hd, rfl⟩ := hd
  exact lv_lushr hF.1 hF.2.1 hd rfl (k g p l e R s m args below meth c QF hF hR H locs cells slots lsA hH hS hl hc hs)
theorem T_lshl {x : Int64} {y : Int32} (hd : DI M pc (.lshl) 1 pc') (k : TK Z M d bc bs S h Q pc' ls (.long (x <<< (y.toInt64 &&& 63)) :: st)) : TK Z M d bc bs S h Q pc ls (.int y :: .long x :: st) := by
  intro g p l e R s m args below meth c QF hF hR H locs cells slots lsA hH hS hl hc hs
  obtain ⟨hd, rfl⟩ := hd
  exact lv_lshl hF.1 hF.2.1 hd rfl (k g p l e R s m args below meth c QF hF hR H locs cells slots lsA hH hS hl hc hs)
theorem T_lshr {x : Int64} {y : Int32} (hd : DI M pc (.lshr) 1 pc') (k : TK Z M d bc bs S h Q pc' ls (.long (x >>> (y.toInt64 &&& 63)) :: st)) : TK Z M d bc bs S h Q pc ls (.int y :: .long x :: st) := by
  intro g p l e R s m args below meth c QF hF hR H locs cells slots lsA hH hS hl hc hs
  obtain ⟨hd, rfl⟩ := hd
  exact lv_lshr hF.1 hF.2.1 hd rfl (k g p l e R s m args below meth c QF hF hR H locs cells slots lsA hH hS hl hc hs)
theorem T_i2l {x : Int32} (hd : DI M pc (.i2l) 1 pc') (k : TK Z M d bc bs S h Q pc' ls (.long x.toInt64 :: st)) : TK Z M d bc bs S h Q pc ls (.int x :: st) := by
  intro g p l e R s m args below meth c QF hF hR H locs cells slots lsA hH hS hl hc hs
  obtain ⟨hd, rfl⟩ := hd
  exact lv_i2l hF.1 hF.2.1 hd rfl (k g p l e R s m args below meth c QF hF hR H locs cells slots lsA hH hS hl hc hs)
theorem T_l2i {x : Int64} (hd : DI M pc (.l2i) 1 pc') (k : TK Z M d bc bs S h Q pc' ls (.int x.toInt32 :: st)) : TK Z M d bc bs S h Q pc ls (.long x :: st) := by
  intro g p l e R s m args below meth c QF hF hR H locs cells slots lsA hH hS hl hc hs
  obtain ⟨hd, rfl⟩ := hd
  exact lv_l2i hF.1 hF.2.1 hd rfl (k g p l e R s m args below meth c QF hF hR H locs cells slots lsA hH hS hl hc hs)
theorem T_i2b {x : Int32} (hd : DI M pc (.i2b) 1 pc') (k : TK Z M d bc bs S h Q pc' ls (.int x.toInt8.toInt32 :: st)) : TK Z M d bc bs S h Q pc ls (.int x :: st) := by
  intro g p l e R s m args below meth c QF hF hR H locs cells slots lsA hH hS hl hc hs
  obtain ⟨hd, rfl⟩ := hd
  exact lv_i2b hF.1 hF.2.1 hd rfl (k g p l e R s m args below meth c QF hF hR H locs cells slots lsA hH hS hl hc hs)
theorem T_i2s {x : Int32} (hd : DI M pc (.i2s) 1 pc') (k : TK Z M d bc bs S h Q pc' ls (.int x.toInt16.toInt32 :: st)) : TK Z M d bc bs S h Q pc ls (.int x :: st) := by
  intro g p l e R s m args below meth c QF hF hR H locs cells slots lsA hH hS hl hc hs
  obtain ⟨hd, rfl⟩ := hd
  exact lv_i2s hF.1 hF.2.1 hd rfl (k g p l e R s m args below meth c QF hF hR H locs cells slots lsA hH hS hl hc hs)
theorem T_dup {v : Value} (hd : DI M pc (.dup) 1 pc') (hv : v.category = 1) (k : TK Z M d bc bs S h Q pc' ls (v :: v :: st)) : TK Z M d bc bs S h Q pc ls (v :: st) := by
  intro g p l e R s m args below meth c QF hF hR H locs cells slots lsA hH hS hl hc hs
  obtain ⟨hd, rfl⟩ := hd
  exact lv_dup hF.1 hF.2.1 hd ((tv_cat g v).trans hv) (k g p l e R s m args below meth c QF hF hR H locs cells slots lsA hH hS hl hc hs)
theorem T_pop {v : Value} (hd : DI M pc (.pop) 1 pc') (hv : v.category = 1) (k : TK Z M d bc bs S h Q pc' ls (st)) : TK Z M d bc bs S h Q pc ls (v :: st) := by
  intro g p l e R s m args below meth c QF hF hR H locs cells slots lsA hH hS hl hc hs
  obtain ⟨hd, rfl⟩ := hd
  exact lv_pop hF.1 hF.2.1 hd ((tv_cat g v).trans hv) (k g p l e R s m args below meth c QF hF hR H locs cells slots lsA hH hS hl hc hs)
theorem T_dup2 {v w : Value} (hd : DI M pc (.dup2) 1 pc') (hv : v.category = 1) (hw : w.category = 1) (k : TK Z M d bc bs S h Q pc' ls (v :: w :: v :: w :: st)) : TK Z M d bc bs S h Q pc ls (v :: w :: st) := by
  intro g p l e R s m args below meth c QF hF hR H locs cells slots lsA hH hS hl hc hs
  obtain ⟨hd, rfl⟩ := hd
  exact lv_dup2_11 hF.1 hF.2.1 hd ((tv_cat g v).trans hv) ((tv_cat g w).trans hw) (k g p l e R s m args below meth c QF hF hR H locs cells slots lsA hH hS hl hc hs)
theorem T_dup_x1 {v w : Value} (hd : DI M pc (.dup_x1) 1 pc') (hv : v.category = 1) (hw : w.category = 1) (k : TK Z M d bc bs S h Q pc' ls (v :: w :: v :: st)) : TK Z M d bc bs S h Q pc ls (v :: w :: st) := by
  intro g p l e R s m args below meth c QF hF hR H locs cells slots lsA hH hS hl hc hs
  obtain ⟨hd, rfl⟩ := hd
  exact lv_dup_x1 hF.1 hF.2.1 hd ((tv_cat g v).trans hv) ((tv_cat g w).trans hw) (k g p l e R s m args below meth c QF hF hR H locs cells slots lsA hH hS hl hc hs)
theorem T_const {v : Int32} (hd : DC M pc v pc') (k : TK Z M d bc bs S h Q pc' ls (.int v :: st)) : TK Z M d bc bs S h Q pc ls st := by
  intro g p l e R s m args below meth c QF hF hR H locs cells slots lsA hH hS hl hc hs
  have kk := k g p l e R s m args below meth c QF hF hR H locs cells slots lsA hH hS hl hc hs
  rcases hd with ⟨n, h1, h2, rfl⟩ | ⟨n, h1, h2, rfl⟩ | ⟨n, h1, h2, rfl⟩ | ⟨n, h1, h2, rfl⟩ | ⟨n, h1, h2, rfl⟩
  · exact lv_iconst hF.1 hF.2.1 h1 h2 kk
  · exact lv_bipush hF.1 hF.2.1 h1 h2 kk
  · exact lv_sipush hF.1 hF.2.1 h1 h2 kk
  · exact lv_ldc hF.1 hF.2.1 hF.2.2.2.1 (hF.2.2.2.2.1 _ h2) h1 kk
  · exact lv_ldcw hF.1 hF.2.1 hF.2.2.2.1 (hF.2.2.2.2.1 _ h2) h1 kk
theorem T_constL {v : Int64} (hd : DCL M pc v pc') (k : TK Z M d bc bs S h Q pc' ls (.long v :: st)) : TK Z M d bc bs S h Q pc ls st := by
  intro g p l e R s m args below meth c QF hF hR H locs cells slots lsA hH hS hl hc hs
  have kk := k g p l e R s m args below meth c QF hF hR H locs cells slots lsA hH hS hl hc hs
  rcases hd with ⟨n, h1, h2, rfl⟩ | ⟨n, h1, h2, rfl⟩
  · exact lv_lconst hF.1 hF.2.1 h1 h2 kk
  · exact lv_ldc2 hF.1 hF.2.1 hF.2.2.2.1 (hF.2.2.2.2.1 _ h2) h1 kk
theorem T_iload {i : Nat} {x : Int32} (hd : DLi M pc i pc') (hx : ls[i]? = some (.int x)) (k : TK Z M d bc bs S h Q pc' ls (.int x :: st)) : TK Z M d bc bs S h Q pc ls st := by
  intro g p l e R s m args below meth c QF hF hR H locs cells slots lsA hH hS hl hc hs
  have kk := k g p l e R s m args below meth c QF hF hR H locs cells slots lsA hH hS hl hc hs
  have hq := hl.2.2 (i, tv g (.int x)) (a_lvl_mem.mpr ⟨_, hx, (fun z => by cases z), rfl⟩)
  rcases hd with ⟨n, h1, h2, rfl⟩ | ⟨h1, rfl⟩
  · exact lv_iload_n hF.1 hF.2.1 h1 h2 hq kk
  · exact lv_iload hF.1 hF.2.1 h1 hq kk
theorem T_istore {i : Nat} {x : Int32} (hd : DSi M pc i pc') (k : TK Z M d bc bs S h Q pc' (st1 ls i (.int x)) st) : TK Z M d bc bs S h Q pc ls (.int x :: st) := by
  intro g p l e R s m args below meth c QF hF hR H locs cells slots lsA hH hS hl hc hs
  obtain ⟨hi, hd⟩ := hd
  rcases hd with ⟨n, h1, h2, rfl⟩ | ⟨h1, rfl⟩
  · exact lv_istore_n hF.1 hF.2.1 h1 h2 hl hi rfl (fun ls' hl' => k g p l e R s m args below meth c QF hF hR H locs cells slots ls' hH hS (lvh_sub hl' (st1_mem (fun _ _ => trivial))) hc hs)
  · exact lv_istore hF.1 hF.2.1 h1 hl hi rfl (fun ls' hl' => k g p l e R s m args below meth c QF hF hR H locs cells slots ls' hH hS (lvh_sub hl' (st1_mem (fun _ _ => trivial))) hc hs)
theorem T_lload {i : Nat} {x : Int64} (hd : DLl M pc i pc') (hx : ls[i]? = some (.long x)) (k : TK Z M d bc bs S h Q pc' ls (.long x :: st)) : TK Z M d bc bs S h Q pc ls st := by
  intro g p l e R s m args below meth c QF hF hR H locs cells slots lsA hH hS hl hc hs
  have kk := k g p l e R s m args below meth c QF hF hR H locs cells slots lsA hH hS hl hc hs
  have hq := hl.2.2 (i, tv g (.long x)) (a_lvl_mem.mpr ⟨_, hx, (fun z => by cases z), rfl⟩)
  rcases hd with ⟨n, h1, h2, rfl⟩ | ⟨h1, rfl⟩
  · exact lv_lload_n hF.1 hF.2.1 h1 h2 hq kk
  · exact lv_lload hF.1 hF.2.1 h1 hq kk
theorem T_lstore {i : Nat} {x : Int64} (hd : DSl M pc i pc') (k : TK Z M d bc bs S h Q pc' (st2 ls i (.long x)) st) : TK Z M d bc bs S h Q pc ls (.long x :: st) := by
  intro g p l e R s m args below meth c QF hF hR H locs cells slots lsA hH hS hl hc hs
  obtain ⟨hi, hd⟩ := hd
  rcases hd with ⟨n, h1, h2, rfl⟩ | ⟨h1, rfl⟩
  · exact lv_lstore_n hF.1 hF.2.1 h1 h2 hl hi rfl (fun ls' hl' => k g p l e R s m args below meth c QF hF hR H locs cells slots ls' hH hS (lvh_sub hl' (st2_mem (fun _ _ => trivial))) hc hs)
  · exact lv_lstore hF.1 hF.2.1 h1 hl hi rfl (fun ls' hl' => k g p l e R s m args below meth c QF hF hR H locs cells slots ls' hH hS (lvh_sub hl' (st2_mem (fun _ _ => trivial))) hc hs)
theorem T_aload {i : Nat} {x : Nat} (hd : DLa M pc i pc') (hx : ls[i]? = some (.ref x)) (k : TK Z M d bc bs S h Q pc' ls (.ref x :: st)) : TK Z M d bc bs S h Q pc ls st := by
  intro g p l e R s m args below meth c QF hF hR H locs cells slots lsA hH hS hl hc hs
  have kk := k g p l e R s m args below meth c QF hF hR H locs cells slots lsA hH hS hl hc hs
  have hq := hl.2.2 (i, tv g (.ref x)) (a_lvl_mem.mpr ⟨_, hx, (fun z => by cases z), rfl⟩)
  rcases hd with ⟨n, h1, h2, rfl⟩ | ⟨h1, rfl⟩
  · exact lv_aload_n hF.1 hF.2.1 h1 h2 hq kk
  · exact lv_aload hF.1 hF.2.1 h1 hq kk
theorem T_astore {i : Nat} {x : Nat} (hd : DSa M pc i pc') (k : TK Z M d bc bs S h Q pc' (st1 ls i (.ref x)) st) : TK Z M d bc bs S h Q pc ls (.ref x :: st) := by
  intro g p l e R s m args below meth c QF hF hR H locs cells slots lsA hH hS hl hc hs
  obtain ⟨hi, hd⟩ := hd
  rcases hd with ⟨n, h1, h2, rfl⟩ | ⟨h1, rfl⟩
  · exact lv_astore_n hF.1 hF.2.1 h1 h2 hl hi rfl (fun ls' hl' => k g p l e R s m args below meth c QF hF hR H locs cells slots ls' hH hS (lvh_sub hl' (st1_mem (fun _ _ => trivial))) hc hs)
  · exact lv_astore hF.1 hF.2.1 h1 hl hi rfl (fun ls' hl' => k g p l e R s m args below meth c QF hF hR H locs cells slots ls' hH hS (lvh_sub hl' (st1_mem (fun _ _ => trivial))) hc hs)
theorem T_iinc {i : Nat} {x v : Int32} (hd : DIN M pc i v pc') (hx : ls[i]? = some (.int x)) (k : TK Z M d bc bs S h Q pc' (st1 ls i (.int (x + v))) st) : TK Z M d bc bs S h Q pc ls st := by
  intro g p l e R s m args below meth c QF hF hR H locs cells slots lsA hH hS hl hc hs
  obtain ⟨hi, n, h1, h2, rfl⟩ := hd
  obtain ⟨j, hj⟩ := List.getElem?_of_mem (a_lvl_mem.mpr ⟨_, hx, (fun z => by cases z), rfl⟩ : (i, tv g (.int x)) ∈ a_lvl g ls)
  subst h2
  exact lv_iinc hF.1 hF.2.1 h1 hl hj rfl hi rfl (fun ls' hl' => k g p l e R s m args below meth c QF hF hR H locs cells slots ls' hH hS (lvh_sub hl' (st1_mem (fun _ _ => trivial))) hc hs)
theorem T_icmp_eq {x y : Int32} {off : Int} (hd : DB M pc (.if_icmp .eq off) off pc' tgt) (kt : x = y → TK Z M d bc bs S h Q tgt ls st) (kf : ¬ (x = y) → TK Z M d bc bs S h Q pc' ls st) : TK Z M d bc bs S h Q pc ls (.int y :: .int x :: st) := by
  intro g p l e R s m args below meth c QF hF hR H locs cells slots lsA hH hS hl hc hs
  obtain ⟨hd, rfl, ht⟩ := hd
  exact lv_icmp_eq hF.1 hF.2.1 hd ht (fun q => kt q g p l e R s m args below meth c QF hF hR H locs cells slots lsA hH hS hl hc hs) (fun q => kf q g p l e R s m args below meth c QF hF hR H locs cells slots lsA hH hS hl hc hs)
theorem T_if_eq {x : Int32} {off : Int} (hd : DB M pc (.ifCond .eq off) off pc' tgt) (kt : x = 0 → TK Z M d bc bs S h Q tgt ls st) (kf : ¬ (x = 0) → TK Z M d bc bs S h Q pc' ls st) : TK Z M d bc bs S h Q pc ls (.int x :: st) := by
  intro g p l e R s m args below meth c QF hF hR H locs cells slots lsA hH hS hl hc hs
  obtain ⟨hd, rfl, ht⟩ := hd
  exact lv_if_eq hF.1 hF.2.1 hd ht (fun q => kt q g p l e R s m args below meth c QF hF hR H locs cells slots lsA hH hS hl hc hs) (fun q => kf q g p l e R s m args below meth c QF hF hR H locs cells slots lsA hH hS hl hc hs)
theorem T_icmp_ne {x y : Int32} {off : Int} (hd : DB M pc (.if_icmp .ne off) off pc' tgt) (kt : ¬ x = y → TK Z M d bc bs S h Q tgt ls st) (kf : x = y → TK Z M d bc bs S h Q pc' ls st) : TK Z M d bc bs S h Q pc ls (.int y :: .int x :: st) := by
  intro g p l e R s m args below meth c QF hF hR H locs cells slots lsA hH hS hl hc hs
  obtain ⟨hd, rfl, ht⟩ := hd
  exact lv_icmp_ne hF.1 hF.2.1 hd ht (fun q => kt q g p l e R s m args below meth c QF hF hR H locs cells slots lsA hH hS hl hc hs) (fun q => kf q g p l e R s m args below meth c QF hF hR H locs cells slots lsA hH hS hl hc hs)
theorem T_if_ne {x : Int32} {off : Int} (hd : DB M pc (.ifCond .ne off) off pc' tgt) (kt : ¬ x = 0 → TK Z M d bc bs S h Q tgt ls st) (kf : x = 0 → TK Z M d bc bs S h Q pc' ls st) : TK Z M d bc bs S h Q pc ls (.int x :: st) := by
  intro g p l e R s m args below meth c QF hF hR H locs cells slots lsA hH hS hl hc hs
  obtain ⟨hd, rfl, ht⟩ := hd
  exact lv_if_ne hF.1 hF.2.1 hd ht (fun q => kt q g p l e R s m args below meth c QF hF hR H locs cells slots lsA hH hS hl hc hs) (fun q => kf q g p l e R s m args below meth c QF hF hR H locs cells slots lsA hH hS hl hc hs)
theorem T_icmp_lt {x y : Int32} {off : Int} (hd : DB M pc (.if_icmp .lt off) off pc' tgt) (kt : x < y → TK Z M d bc bs S h Q tgt ls st) (kf : ¬ (x < y) → TK Z M d bc bs S h Q pc' ls st) : TK Z M d bc bs S h Q pc ls (.int y :: .int x :: st) := by
  intro g p l e R s m args below meth c QF hF hR H locs cells slots lsA hH hS hl hc hs
  obtain ⟨hd, rfl, ht⟩ := hd
  exact lv_icmp_lt hF.1 hF.2.1 hd ht (fun q => kt q g p l e R s m args below meth c QF hF hR H locs cells slots lsA hH hS hl hc hs) (fun q => kf q g p l e R s m args below meth c QF hF hR H locs cells slots lsA hH hS hl hc hs)
theorem T_if_lt {x : Int32} {off : Int} (hd : DB M pc (.ifCond .lt off) off pc' tgt) (kt : x < 0 → TK Z M d bc bs S h Q tgt ls st) (kf : ¬ (x < 0) → TK Z M d bc bs S h Q pc' ls st) : TK Z M d bc bs S h Q pc ls (.int x :: st) := by
  intro g p l e R s m args below meth c QF hF hR H locs cells slots lsA hH hS hl hc hs
  obtain ⟨hd, rfl, ht⟩ := hd
  exact lv_if_lt hF.1 hF.2.1 hd ht (fun q => kt q g p l e R s m args below meth c QF hF hR H locs cells slots lsA hH hS hl hc hs) (fun q => kf q g p l e R s m args below meth c QF hF hR H locs cells slots lsA hH hS hl hc hs)
theorem T_icmp_ge {x y : Int32} {off : Int} (hd : DB M pc (.if_icmp .ge off) off pc' tgt) (kt : y ≤ x → TK Z M d bc bs S h Q tgt ls st) (kf : ¬ (y ≤ x) → TK Z M d bc bs S h Q pc' ls st) : TK Z M d bc bs S h Q pc ls (.int y :: .int x :: st) := by
  intro g p l e R s m args below meth c QF hF hR H locs cells slots lsA hH hS hl hc hs
  obtain ⟨hd, rfl, ht⟩ := hd
  exact lv_icmp_ge hF.1 hF.2.1 hd ht (fun q => kt q g p l e R s m args below meth c QF hF hR H locs cells slots lsA hH hS hl hc hs) (fun q => kf q g p l e R s m args below meth c QF hF hR H locs cells slots lsA hH hS hl hc hs)
theorem T_if_ge {x : Int32} {off : Int} (hd : DB M pc (.ifCond .ge off) off pc' tgt) (kt : 0 ≤ x → TK Z M d bc bs S h Q tgt ls st) (kf : ¬ (0 ≤ x) → TK Z M d bc bs S h Q pc' ls st) : TK Z M d bc bs S h Q pc ls (.int x :: st) := by
  intro g p l e R s m args below meth c QF hF hR H locs cells slots lsA hH hS hl hc hs
  obtain ⟨hd, rfl, ht⟩ := hd
  exact lv_if_ge hF.1 hF.2.1 hd ht (fun q => kt q g p l e R s m args below meth c QF hF hR H locs cells slots lsA hH hS hl hc hs) (fun q => kf q g p l e R s m args below meth c QF hF hR H locs cells slots lsA hH hS hl hc hs)
theorem T_icmp_gt {x y : Int32} {off : Int} (hd : DB M pc (.if_icmp .gt off) off pc' tgt) (kt : y < x → TK Z M d bc bs S h Q tgt ls st) (kf : ¬ (y < x) → TK Z M d bc bs S h Q pc' ls st) : TK Z M d bc bs S h Q pc ls (.int y :: .int x :: st) := by
  intro g p l e R s m args below meth c QF hF hR H locs cells slots lsA hH hS hl hc hs
  obtain ⟨hd, rfl, ht⟩ := hd
  exact lv_icmp_gt hF.1 hF.2.1 hd ht (fun q => kt q g p l e R s m args below meth c QF hF hR H locs cells slots lsA hH hS hl hc hs) (fun q => kf q g p l e R s m args below meth c QF hF hR H locs cells slots lsA hH hS hl hc hs)
theorem T_if_gt {x : Int32} {off : Int} (hd : DB M pc (.ifCond .gt off) off pc' tgt) (kt : 0 < x → TK Z M d bc bs S h Q tgt ls st) (kf : ¬ (0 < x) → TK Z M d bc bs S h Q pc' ls st) : TK Z M d bc bs S h Q pc ls (.int x :: st) := by
  intro g p l e R s m args below meth c QF hF hR H locs cells slots lsA hH hS hl hc hs
  obtain ⟨hd, rfl, ht⟩ := hd
  exact lv_if_gt hF.1 hF.2.1 hd ht (fun q => kt q g p l e R s m args below meth c QF hF hR H locs cells slots lsA hH hS hl hc hs) (fun q => kf q g p l e R s m args below meth c QF hF hR H locs cells slots lsA hH hS hl hc hs)
theorem T_icmp_le {x y : Int32} {off : Int} (hd : DB M pc (.if_icmp .le off) off pc' tgt) (kt : x ≤ y → TK Z M d bc bs S h Q tgt ls st) (kf : ¬ (x ≤ y) → TK Z M d bc bs S h Q pc' ls st) : TK Z M d bc bs S h Q pc ls (.int y :: .int x :: st) := by
  intro g p l e R s m args below meth c QF hF hR H locs cells slots lsA hH hS hl hc hs
  obtain ⟨hd, rfl, ht⟩ := hd
  exact lv_icmp_le hF.1 hF.2.1 hd ht (fun q => kt q g p l e R s m args below meth c QF hF hR H locs cells slots lsA hH hS hl hc hs) (fun q => kf q g p l e R s m args below meth c QF hF hR H locs cells slots lsA hH hS hl hc hs)
theorem T_if_le {x : Int32} {off : Int} (hd : DB M pc (.ifCond .le off) off pc' tgt) (kt : x ≤ 0 → TK Z M d bc bs S h Q tgt ls st) (kf : ¬ (x ≤ 0) → TK Z M d bc bs S h Q pc' ls st) : TK Z M d bc bs S h Q pc ls (.int x :: st) := by
  intro g p l e R s m args below meth c QF hF hR H locs cells slots lsA hH hS hl hc hs
  obtain ⟨hd, rfl, ht⟩ := hd
  exact lv_if_le hF.1 hF.2.1 hd ht (fun q => kt q g p l e R s m args below meth c QF hF hR H locs cells slots lsA hH hS hl hc hs) (fun q => kf q g p l e R s m args below meth c QF hF hR H locs cells slots lsA hH hS hl hc hs)
theorem T_goto {off : Int} (hd : DB M pc (.goto off) off pc' tgt) (k : TK Z M d bc bs S h Q tgt ls st) : TK Z M d bc bs S h Q pc ls st := by
  intro g p l e R s m args below meth c QF hF hR H locs cells slots lsA hH hS hl hc hs
  obtain ⟨hd, rfl, ht⟩ := hd
  exact lv_goto hF.1 hF.2.1 hd ht (k g p l e R s m args below meth c QF hF hR H locs cells slots lsA hH hS hl hc hs)
theorem T_tabOut {x : Int32} {df lo hi : Int} {offs : Array Int} {n : Nat} (hd : decode M.1 pc = .ok (.tableswitch df lo hi offs, n) ∧ (pc : Int) + df = (tgt : Int)) (hx : x.toInt < lo ∨ hi < x.toInt) (k : TK Z M d bc bs S h Q tgt ls st) : TK Z M d bc bs S h Q pc ls (.int x :: st) := by
  intro g p l e R s m args below meth c QF hF hR H locs cells slots lsA hH hS hl hc hs
  exact lv_tableOut hF.1 hF.2.1 hd.1 hx hd.2 (k g p l e R s m args below meth c QF hF hR H locs cells slots lsA hH hS hl hc hs)
theorem T_tabIn {x : Int32} {df lo hi off : Int} {offs : Array Int} {n : Nat} (hd : decode M.1 pc = .ok (.tableswitch df lo hi offs, n)) (h1 : lo ≤ x.toInt) (h2 : x.toInt ≤ hi) (ho : offs[(x.toInt - lo).toNat]? = some off) (ht : (pc : Int) + off = (tgt : Int)) (k : TK Z M d bc bs S h Q tgt ls st) : TK Z M d bc bs S h Q pc ls (.int x :: st) := by
  intro g p l e R s m args below meth c QF hF hR H locs cells slots lsA hH hS hl hc hs
  exact lv_tableIn hF.1 hF.2.1 hd (by omega) (by omega) ho ht (k g p l e R s m args below meth c QF hF hR H locs cells slots lsA hH hS hl hc hs)
theorem T_lookup {x : Int32} {df off : Int} {ps : Array (Int × Int)} {n : Nat} (hd : decode M.1 pc = .ok (.lookupswitch df ps, n)) (hp : (ps.toList.zip (ps.toList.drop 1)).all (fun (a, next) => a.1 < next.1) = true) (ho : Op.lookupswitch.offset ps.toList df x.toInt = off) (ht : (pc : Int) + off = (tgt : Int)) (k : TK Z M d bc bs S h Q tgt ls st) : TK Z M d bc bs S h Q pc ls (.int x :: st) := by
  intro g p l e R s m args below meth c QF hF hR H locs cells slots lsA hH hS hl hc hs
  exact lv_lookup hF.1 hF.2.1 hd hp ho ht (k g p l e R s m args below meth c QF hF hR H locs cells slots lsA hH hS hl hc hs)
theorem T_ireti {v : Int32} (hd : DRi M pc) (hq : Q (some (.int v)) S h) : TK Z M d bc bs S h Q pc ls [.int v] := by
  intro g p l e R s m args below meth c QF hF hR H locs cells slots lsA hH hS hl hc hs
  exact hR (some (.int v)) S h H locs cells slots lsA pc hq hH hS (by omega) (by omega) ⟨hd.1, _, hd.2, rfl⟩
theorem T_iretz {v : Int32} (hd : DRz M pc) (hv : v = 0 ∨ v = 1) (hq : Q (some (.int v)) S h) : TK Z M d bc bs S h Q pc ls [.int v] := by
  intro g p l e R s m args below meth c QF hF hR H locs cells slots lsA hH hS hl hc hs
  exact hR (some (.int v)) S h H locs cells slots lsA pc hq hH hS (by omega) (by omega) ⟨hd.1, _, hd.2, by rcases hv with rfl | rfl <;> rfl⟩
theorem T_lret {v : Int64} (hd : DRl M pc) (hq : Q (some (.long v)) S h) : TK Z M d bc bs S h Q pc ls [.long v] := by
  intro g p l e R s m args below meth c QF hF hR H locs cells slots lsA hH hS hl hc hs
  exact hR (some (.long v)) S h H locs cells slots lsA pc hq hH hS (by omega) (by omega) hd
theorem T_aret {v : Nat} (hd : DRa M pc) (hq : Q (some (.ref v)) S h) : TK Z M d bc bs S h Q pc ls [.ref v] := by
  intro g p l e R s m args below meth c QF hF hR H locs cells slots lsA hH hS hl hc hs
  exact hR (some (.ref v)) S h H locs cells slots lsA pc hq hH hS (by omega) (by omega) hd
theorem T_vret (hd : DRv M pc) (hq : Q none S h) : TK Z M d bc bs S h Q pc ls [] := by
  intro g p l e R s m args below meth c QF hF hR H locs cells slots lsA hH hS hl hc hs
  exact hR none S h H locs cells slots lsA pc hq hH hS (by omega) (by omega) hd
end RULES
