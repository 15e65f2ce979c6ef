/-! THE MACHINE KEEPS STEP: one instruction of the abstract machine is one of the machine. -/
section AM1
variable {p : Program} {l : Launch} {e : Env} {R : Room} {s : State} {m : MethodId} {args : Array Value} {below : List Frame} {meth : Method} {c : Code} {Q : State → Prop}
variable {D : va_G} {cA : Nat → ClassId} {base : Nat} {cs : Nat → Nat} {L : Nat} {xs : Nat → Int32} {y n0 sl0 : Nat}
def am_Cx (D : va_G) (cA : Nat → ClassId) (base : Nat) (cs : Nat → Nat) (L : Nat) (xs : Nat → Int32) (p : Program) (R : Room) (s : State) (m : MethodId) (args : Array Value) (meth : Method) (c : Code) (y n0 : Nat) : Prop :=
  p.tables.exec = Jvm.exec ∧ c.code = mBy y ∧ c.maxLocals = mml y ∧ s.vm.findClass (mNm y).cls = some m.cls ∧ ((mNm y).name = "<init>" → meth.name = "<init>") ∧ (∀ w ∈ lw_tbl, goodWord w = true → w.before args s = true) ∧ am_K D cA cs L xs (am_A base) s s.heap ∧ base + n0 = s.heap.size ∧ 1 ≤ R.frames ∧ 64 ≤ R.locals
def am_W (D : va_G) (cA : Nat → ClassId) (base : Nat) (cs : Nat → Nat) (L : Nat) (xs : Nat → Int32) (p : Program) (l : Launch) (e : Env) (R : Room) (s : State) (m : MethodId) (args : Array Value) (below : List Frame) (meth : Method) (c : Code) (y n0 sl0 : Nat) (Q : State → Prop) (pc : Nat) (ls : ALS) (st : List Value) (h : AH) : Prop :=
  ∀ (H : Heap) (locs : List Loc) (lsA : Array Slot), am_Hp D cA base cs L xs h H → va_S (am_A base) s.heap H locs → lv_has lsA (mml y) (am_lv base cs 0 ls) → am_Lg y ls → n0 ≤ h.2.2.2.1 → sl0 ≤ h.2.2.2.2 → W p l e R s m args below meth c H locs (h.2.2.2.1 - n0) (h.2.2.2.2 - sl0) Q (F0 m pc lsA (st.map (am_v base cs)))
theorem am_beq {a b : Nat} (h : Nat.beq a b = true) : a = b := Nat.eq_of_beq_eq_true h
theorem am_dec {pc nx k : Nat} {i : Instr} (h : decode (mBy y) pc = .ok (i, nx - pc)) (hn : nx = pc + k) : decode (mBy y) pc = .ok (i, k) := by
  rw [h, hn]; congr 2; omega
/-- instructions on the stack alone -/
theorem am_s_alu {i : Instr} {pc nx : Nat} {v : Int32} {ops : List Nat} {rt : Nat} {ls ls' : ALS} {st st' : List Value} {h h' : AH} {pc' : Nat} (X : am_Cx D cA base cs L xs p R s m args meth c y n0) (hd : decode (mBy y) pc = .ok (i, nx - pc)) (ho : am_ops y pc nx i v ops = true)
    (hi : i = .iadd ∨ i = .isub ∨ i = .imul ∨ i = .iand ∨ i = .ior ∨ i = .ixor ∨ i = .ishl ∨ i = .ishr ∨ i = .iushr ∨ i = .idiv ∨ i = .irem ∨ i = .ineg ∨ i = .i2b ∨ i = .i2s ∨ i = .i2c ∨ i = .i2l ∨ i = .l2i ∨ i = .land ∨ i = .lor ∨ i = .lshl ∨ i = .lshr ∨ i = .lushr ∨ i = .dup ∨ i = .dup2 ∨ i = .pop ∨ i = .aconst_null)
    (hs : am_step (i, nx, v, ops) rt ls st h = some (.inl (pc', ls', st', h'))) (k : am_W D cA base cs L xs p l e R s m args below meth c y n0 sl0 Q pc' ls' st' h') : am_W D cA base cs L xs p l e R s m args below meth c y n0 sl0 Q pc ls st h := by
  obtain ⟨hx, hb, -⟩ := X
  obtain ⟨I, P, S, n, sl⟩ := h
  intro H locs lsA hH hS hl hg hn hsl
  rcases hi with rfl | rfl | rfl | rfl | rfl | rfl | rfl | rfl | rfl | rfl | rfl | rfl | rfl | rfl | rfl | rfl | rfl | rfl | rfl | rfl | rfl | rfl | rfl | rfl | rfl | rfl
  all_goals have hn1 : nx = pc + 1 := am_beq ho
  all_goals replace hd := am_dec hd hn1
  all_goals subst hn1
  all_goals simp only [am_step] at hs
  · split at hs
    · cases hs; exact lv_iadd hx hb hd (k H locs lsA hH hS hl hg hn hsl)
    · cases hs
  · split at hs
    · cases hs; exact lv_isub hx hb hd (k H locs lsA hH hS hl hg hn hsl)
    · cases hs
  · split at hs
    · cases hs; exact lv_imul hx hb hd (k H locs lsA hH hS hl hg hn hsl)
    · cases hs
  · split at hs
    · cases hs; exact lv_iand hx hb hd (k H locs lsA hH hS hl hg hn hsl)
    · cases hs
  · split at hs
    · cases hs; exact lv_ior hx hb hd (k H locs lsA hH hS hl hg hn hsl)
    · cases hs
  · split at hs
    · cases hs; exact lv_ixor hx hb hd (k H locs lsA hH hS hl hg hn hsl)
    · cases hs
  · split at hs
    · cases hs; exact lv_ishl hx hb hd (k H locs lsA hH hS hl hg hn hsl)
    · cases hs
  · split at hs
    · cases hs; exact lv_ishr hx hb hd (k H locs lsA hH hS hl hg hn hsl)
    · cases hs
  · split at hs
    · cases hs; exact lv_iushr hx hb hd rfl (k H locs lsA hH hS hl hg hn hsl)
    · cases hs
  · split at hs
    · rename_i y1 x1 r1
      by_cases h0 : y1 = 0
      · simp [h0] at hs
      · simp only [h0, decide_false, cond_false] at hs
        cases hs; exact lv_idiv hx hb hd h0 (k H locs lsA hH hS hl hg hn hsl)
    · cases hs
  · split at hs
    · rename_i y1 x1 r1
      by_cases h0 : y1 = 0
      · simp [h0] at hs
      · simp only [h0, decide_false, cond_false] at hs
        cases hs; exact lv_irem hx hb hd h0 (k H locs lsA hH hS hl hg hn hsl)
    · cases hs
  · split at hs
    · cases hs; exact lv_ineg hx hb hd (k H locs lsA hH hS hl hg hn hsl)
    · cases hs
  · split at hs
    · cases hs; exact lv_i2b hx hb hd rfl (k H locs lsA hH hS hl hg hn hsl)
    · cases hs
  · split at hs
    · cases hs; exact lv_i2s hx hb hd rfl (k H locs lsA hH hS hl hg hn hsl)
    · cases hs
  · split at hs
    · cases hs; exact lv_i2c hx hb hd rfl (k H locs lsA hH hS hl hg hn hsl)
    · cases hs
  · split at hs
    · cases hs; exact lv_i2l hx hb hd rfl (k H locs lsA hH hS hl hg hn hsl)
    · cases hs
  · split at hs
    · cases hs; exact lv_l2i hx hb hd rfl (k H locs lsA hH hS hl hg hn hsl)
    · cases hs
  · split at hs
    · cases hs; exact lv_land hx hb hd (k H locs lsA hH hS hl hg hn hsl)
    · cases hs
  · split at hs
    · cases hs; exact lv_lor hx hb hd (k H locs lsA hH hS hl hg hn hsl)
    · cases hs
  · split at hs
    · cases hs; exact lv_lshl hx hb hd rfl (k H locs lsA hH hS hl hg hn hsl)
    · cases hs
  · split at hs
    · cases hs; exact lv_lshr hx hb hd rfl (k H locs lsA hH hS hl hg hn hsl)
    · cases hs
  · split at hs
    · cases hs; exact lv_lushr hx hb hd rfl (k H locs lsA hH hS hl hg hn hsl)
    · cases hs
  · split at hs
    · cases hs; exact lv_dup hx hb hd rfl (k H locs lsA hH hS hl hg hn hsl)
    · cases hs; exact lv_dup hx hb hd rfl (k H locs lsA hH hS hl hg hn hsl)
    · cases hs
  · split at hs
    · cases hs; exact lv_dup2_11 hx hb hd rfl rfl (k H locs lsA hH hS hl hg hn hsl)
    · cases hs
  · split at hs
    · cases hs; exact lv_pop hx hb hd rfl (k H locs lsA hH hS hl hg hn hsl)
    · cases hs; exact lv_pop hx hb hd rfl (k H locs lsA hH hS hl hg hn hsl)
    · cases hs
  · cases hs; exact lv_null hx hb hd (k H locs lsA hH hS hl hg hn hsl)
/-- constants -/
theorem am_s_const {i : Instr} {pc nx : Nat} {v : Int32} {ops : List Nat} {rt : Nat} {ls ls' : ALS} {st st' : List Value} {h h' : AH} {pc' : Nat} (X : am_Cx D cA base cs L xs p R s m args meth c y n0) (hd : decode (mBy y) pc = .ok (i, nx - pc)) (ho : am_ops y pc nx i v ops = true)
    (hi : (∃ a, i = .iconst a) ∨ (∃ a, i = .bipush a) ∨ (∃ a, i = .sipush a) ∨ (∃ a, i = .ldc a) ∨ (∃ a, i = .ldc2_w a) ∨ (∃ a, i = .ldc_w a))
    (hs : am_step (i, nx, v, ops) rt ls st h = some (.inl (pc', ls', st', h'))) (k : am_W D cA base cs L xs p l e R s m args below meth c y n0 sl0 Q pc' ls' st' h') : am_W D cA base cs L xs p l e R s m args below meth c y n0 sl0 Q pc ls st h := by
  obtain ⟨hx, hb, hml, hown, -, hts, hK, -⟩ := X
  obtain ⟨I, P, S, n, sl⟩ := h
  intro H locs lsA hH hS hl hg hn hsl
  rcases hi with ⟨a, rfl⟩ | ⟨a, rfl⟩ | ⟨a, rfl⟩ | ⟨a, rfl⟩ | ⟨a, rfl⟩ | ⟨a, rfl⟩
  · simp only [am_ops, Bool.and_eq_true, decide_eq_true_eq] at ho
    have hn1 := am_beq ho.1
    replace hd := am_dec hd hn1
    subst hn1
    simp only [am_step] at hs
    cases hs; exact lv_iconst hx hb hd ho.2 (k H locs lsA hH hS hl hg hn hsl)
  · simp only [am_ops, Bool.and_eq_true, decide_eq_true_eq] at ho
    have hn1 := am_beq ho.1
    replace hd := am_dec hd hn1
    subst hn1
    simp only [am_step] at hs
    cases hs; exact lv_bipush hx hb hd ho.2 (k H locs lsA hH hS hl hg hn hsl)
  · simp only [am_ops, Bool.and_eq_true, decide_eq_true_eq] at ho
    have hn1 := am_beq ho.1
    replace hd := am_dec hd hn1
    subst hn1
    simp only [am_step] at hs
    cases hs; exact lv_sipush hx hb hd ho.2 (k H locs lsA hH hS hl hg hn hsl)
  · simp only [am_ops, Bool.and_eq_true] at ho
    obtain ⟨ho1, ho⟩ := ho
    have hn1 := am_beq ho1
    replace hd := am_dec hd hn1
    subst hn1
    simp only [am_step] at hs
    split at ho
    · cases hs; exact lv_ldc hx hb hown (hts _ (am_w_in ho) rfl) hd (k H locs lsA hH hS hl hg hn hsl)
    · rename_i sid
      simp only [Bool.and_eq_true, decide_eq_true_eq] at ho
      obtain ⟨⟨o1, o2⟩, o3⟩ := ho
      replace o3 := am_beq o3
      have h8 : sid < 8 := by simpa using o2
      cases hs
      rw [o1] at hown
      have hz := hK.2.2.2.2.2.1 sid h8
      rw [o3] at hz
      have kk := k H locs lsA hH hS hl hg hn hsl
      have e1 : am_v base cs (.ref (1010 + sid)) = .ref (cs (10 + sid)) := by
        simp only [am_v, am_ad]
        rw [if_neg (by omega), show 1010 + sid - 1000 = 10 + sid by omega]
      simp only [List.map_cons, e1] at kk
      exact va_ldcS hx hb hown hz hd kk
    · cases ho
  · simp only [am_ops, Bool.and_eq_true] at ho
    obtain ⟨ho1, ho⟩ := ho
    have hn1 := am_beq ho1
    replace hd := am_dec hd hn1
    subst hn1
    simp only [am_step] at hs
    split at ho
    · cases hs; exact lv_ldc2 hx hb hown (hts _ (am_w_in ho) rfl) hd (k H locs lsA hH hS hl hg hn hsl)
    · cases ho
  · simp only [am_ops, Bool.and_eq_true] at ho
    obtain ⟨ho1, ho⟩ := ho
    have hn1 := am_beq ho1
    replace hd := am_dec hd hn1
    subst hn1
    simp only [am_step] at hs
    split at ho
    · cases hs; exact lv_ldcw hx hb hown (hts _ (am_w_in ho) rfl) hd (k H locs lsA hH hS hl hg hn hsl)
    · cases ho
end AM1
