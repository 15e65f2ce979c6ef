/-! locals, jumps -/
section AM2
variable {p : Program} {l : Launch} {e : Env} {R : Room} {s : State} {m : MethodId} {args : Array Value} {below : List Frame} {meth : Method} {c : Code} {Q : State → Prop}
variable {D : va_G} {cA : Nat → ClassId} {base : Nat} {cs : Nat → Nat} {L : Nat} {xs : Nat → Int32} {y n0 sl0 : Nat}
theorem am_st_lt {y j : Nat} (h : am_st y j = true) : j < mml y := by
  simp only [am_st, Bool.and_eq_true] at h
  simpa using h.1
theorem am_s_load {i : Instr} {pc nx : Nat} {v : Int32} {ops : List Nat} {rt : Nat} {ls ls' : ALS} {st st' : List Value} {h h' : AH} {pc' : Nat} (X : am_Cx D cA base cs L xs p R s m args meth c y n0) (hd : decode (mBy y) pc = .ok (i, nx - pc)) (ho : am_ops y pc nx i v ops = true)
    (hi : (∃ a, i = .iload_n a) ∨ (∃ a, i = .iload a) ∨ (∃ a, i = .lload_n a) ∨ (∃ a, i = .aload_n a) ∨ (∃ a, i = .aload a))
    (hs : am_step (i, nx, v, ops) rt ls st h = some (.inl (pc', ls', st', h'))) (k : am_W D cA base cs L xs p l e R s m args below meth c y n0 sl0 Q pc' ls' st' h') : am_W D cA base cs L xs p l e R s m args below meth c y n0 sl0 Q pc ls st h := by
  obtain ⟨hx, hb, -⟩ := X
  obtain ⟨I, P, S, n, sl⟩ := h
  intro H locs lsA hH hS hl hg hn hsl
  rcases hi with ⟨a, rfl⟩ | ⟨a, rfl⟩ | ⟨a, rfl⟩ | ⟨a, rfl⟩ | ⟨a, rfl⟩
  all_goals simp only [am_ops, Bool.and_eq_true, decide_eq_true_eq] at ho
  all_goals obtain ⟨ho1, rfl⟩ := ho
  all_goals have hn1 := am_beq ho1
  all_goals replace hd := am_dec hd hn1
  all_goals subst hn1
  all_goals simp only [am_step] at hs
  · split at hs
    · rename_i x hv; cases hs; exact lv_iload_n hx hb hd rfl (am_local hl hv) (k H locs lsA hH hS hl hg hn hsl)
    · cases hs
  · split at hs
    · rename_i x hv; cases hs; exact lv_iload hx hb hd (am_local hl hv) (k H locs lsA hH hS hl hg hn hsl)
    · cases hs
  · split at hs
    · rename_i x hv; cases hs; exact lv_lload_n hx hb hd rfl (am_local hl hv) (k H locs lsA hH hS hl hg hn hsl)
    · cases hs
  · split at hs
    · rename_i x hv; cases hs; exact lv_aload_n hx hb hd rfl (am_local hl hv) (k H locs lsA hH hS hl hg hn hsl)
    · rename_i hv; cases hs; exact lv_aload_nN hx hb hd rfl (am_local hl hv) (k H locs lsA hH hS hl hg hn hsl)
    · cases hs
  · split at hs
    · rename_i x hv; cases hs; exact lv_aload hx hb hd (am_local hl hv) (k H locs lsA hH hS hl hg hn hsl)
    · rename_i hv; cases hs; exact lv_aloadN hx hb hd (am_local hl hv) (k H locs lsA hH hS hl hg hn hsl)
    · cases hs
theorem am_s_store {i : Instr} {pc nx : Nat} {v : Int32} {ops : List Nat} {rt : Nat} {ls ls' : ALS} {st st' : List Value} {h h' : AH} {pc' : Nat} (X : am_Cx D cA base cs L xs p R s m args meth c y n0) (hd : decode (mBy y) pc = .ok (i, nx - pc)) (ho : am_ops y pc nx i v ops = true)
    (hi : (∃ a, i = .istore_n a) ∨ (∃ a, i = .istore a) ∨ (∃ a, i = .astore_n a) ∨ (∃ a, i = .astore a))
    (hs : am_step (i, nx, v, ops) rt ls st h = some (.inl (pc', ls', st', h'))) (k : am_W D cA base cs L xs p l e R s m args below meth c y n0 sl0 Q pc' ls' st' h') : am_W D cA base cs L xs p l e R s m args below meth c y n0 sl0 Q pc ls st h := by
  obtain ⟨hx, hb, -⟩ := X
  obtain ⟨I, P, S, n, sl⟩ := h
  intro H locs lsA hH hS hl hg hn hsl
  rcases hi with ⟨a, rfl⟩ | ⟨a, rfl⟩ | ⟨a, rfl⟩ | ⟨a, rfl⟩
  all_goals simp only [am_ops, Bool.and_eq_true, decide_eq_true_eq] at ho
  all_goals obtain ⟨⟨ho1, rfl⟩, ho2⟩ := ho
  all_goals have hn1 := am_beq ho1
  all_goals replace hd := am_dec hd hn1
  all_goals subst hn1
  all_goals simp only [am_step] at hs
  · split at hs
    · rename_i x r hq; cases hq; cases hs; exact lv_istore_n hx hb hd rfl hl (am_st_lt ho2) rfl (fun lsB hB => k H locs lsB hH hS (am_has_put hg ho2 hB) (hg.put rfl) hn hsl)
    · cases hs
  · split at hs
    · rename_i x r hq; cases hq; cases hs; exact lv_istore hx hb hd hl (am_st_lt ho2) rfl (fun lsB hB => k H locs lsB hH hS (am_has_put hg ho2 hB) (hg.put rfl) hn hsl)
    · cases hs
  · split at hs
    · rename_i x r hq; cases hq; cases hs; exact lv_astore_n hx hb hd rfl hl (am_st_lt ho2) rfl (fun lsB hB => k H locs lsB hH hS (am_has_put hg ho2 hB) (hg.put rfl) hn hsl)
    · rename_i r hq; cases hq; cases hs; exact lv_astore_nN hx hb hd rfl hl (am_st_lt ho2) rfl (fun lsB hB => k H locs lsB hH hS (am_has_put hg ho2 hB) (hg.put rfl) hn hsl)
    · cases hs
  · split at hs
    · rename_i x r hq; cases hq; cases hs; exact lv_astore hx hb hd hl (am_st_lt ho2) rfl (fun lsB hB => k H locs lsB hH hS (am_has_put hg ho2 hB) (hg.put rfl) hn hsl)
    · rename_i r hq; cases hq; cases hs; exact lv_astoreN hx hb hd hl (am_st_lt ho2) rfl (fun lsB hB => k H locs lsB hH hS (am_has_put hg ho2 hB) (hg.put rfl) hn hsl)
    · cases hs
theorem am_s_iinc {a : Nat} {b : Int} {pc nx : Nat} {v : Int32} {ops : List Nat} {rt : Nat} {ls ls' : ALS} {st st' : List Value} {h h' : AH} {pc' : Nat} (X : am_Cx D cA base cs L xs p R s m args meth c y n0) (hd : decode (mBy y) pc = .ok (.iinc a b, nx - pc)) (ho : am_ops y pc nx (.iinc a b) v ops = true)
    (hs : am_step (.iinc a b, nx, v, ops) rt ls st h = some (.inl (pc', ls', st', h'))) (k : am_W D cA base cs L xs p l e R s m args below meth c y n0 sl0 Q pc' ls' st' h') : am_W D cA base cs L xs p l e R s m args below meth c y n0 sl0 Q pc ls st h := by
  obtain ⟨hx, hb, -⟩ := X
  obtain ⟨I, P, S, n, sl⟩ := h
  intro H locs lsA hH hS hl hg hn hsl
  simp only [am_ops, Bool.and_eq_true, decide_eq_true_eq] at ho
  obtain ⟨⟨⟨ho1, rfl⟩, ho2⟩, ho3⟩ := ho
  have hn1 := am_beq ho1
  replace hd := am_dec hd hn1
  subst hn1
  simp only [am_step] at hs
  split at hs
  · rename_i x hv
    cases hs
    obtain ⟨kq, hkq⟩ := List.getElem?_of_mem (am_lv_mem (base := base) (cs := cs) (k := 0).mpr ⟨a, _, hv, rfl⟩)
    rw [Nat.zero_add] at hkq
    exact lv_iinc hx hb hd hl (k := kq) hkq (by rw [ho3]) (am_st_lt ho2) rfl (fun lsB hB => k H locs lsB hH hS (am_has_put (x := .int (x + v)) hg ho2 hB) (hg.put rfl) hn hsl)
  · cases hs
theorem am_s_if {i : Instr} {pc nx : Nat} {v : Int32} {ops : List Nat} {rt : Nat} {ls ls' : ALS} {st st' : List Value} {h h' : AH} {pc' : Nat} (X : am_Cx D cA base cs L xs p R s m args meth c y n0) (hd : decode (mBy y) pc = .ok (i, nx - pc)) (ho : am_ops y pc nx i v ops = true)
    (hi : (∃ c o, i = .ifCond c o) ∨ (∃ c o, i = .if_icmp c o))
    (hs : am_step (i, nx, v, ops) rt ls st h = some (.inl (pc', ls', st', h'))) (k : am_W D cA base cs L xs p l e R s m args below meth c y n0 sl0 Q pc' ls' st' h') : am_W D cA base cs L xs p l e R s m args below meth c y n0 sl0 Q pc ls st h := by
  obtain ⟨hx, hb, -⟩ := X
  obtain ⟨I, P, S, n, sl⟩ := h
  intro H locs lsA hH hS hl hg hn hsl
  rcases hi with ⟨cc, o, rfl⟩ | ⟨cc, o, rfl⟩
  all_goals simp only [am_ops, Bool.and_eq_true] at ho
  all_goals obtain ⟨ho1, ho⟩ := ho
  all_goals have hn1 := am_beq ho1
  all_goals replace hd := am_dec hd hn1
  all_goals subst hn1
  all_goals split at ho
  · rename_i t
    have ht := of_decide_eq_true ho
    simp only [am_step] at hs
    split at hs
    · rename_i x r hq
      cases hq
      cases cc <;> simp only at hs <;> cases hs
      · exact lv_if_eq hx hb hd ht (fun q => by rw [if_pos q] at k; exact k H locs lsA hH hS hl hg hn hsl) (fun q => by rw [if_neg q] at k; exact k H locs lsA hH hS hl hg hn hsl)
      · exact lv_if_ne hx hb hd ht (fun q => by rw [if_neg q] at k; exact k H locs lsA hH hS hl hg hn hsl) (fun q => by rw [if_pos q] at k; exact k H locs lsA hH hS hl hg hn hsl)
      · exact lv_if_lt hx hb hd ht (fun q => by rw [if_pos q] at k; exact k H locs lsA hH hS hl hg hn hsl) (fun q => by rw [if_neg q] at k; exact k H locs lsA hH hS hl hg hn hsl)
      · exact lv_if_ge hx hb hd ht (fun q => by rw [if_pos q] at k; exact k H locs lsA hH hS hl hg hn hsl) (fun q => by rw [if_neg q] at k; exact k H locs lsA hH hS hl hg hn hsl)
      · exact lv_if_gt hx hb hd ht (fun q => by rw [if_pos q] at k; exact k H locs lsA hH hS hl hg hn hsl) (fun q => by rw [if_neg q] at k; exact k H locs lsA hH hS hl hg hn hsl)
      · exact lv_if_le hx hb hd ht (fun q => by rw [if_pos q] at k; exact k H locs lsA hH hS hl hg hn hsl) (fun q => by rw [if_neg q] at k; exact k H locs lsA hH hS hl hg hn hsl)
    · cases hs
  · cases ho
  · rename_i t
    have ht := of_decide_eq_true ho
    simp only [am_step] at hs
    split at hs
    · rename_i x1 x2 r hq
      cases hq
      cases cc <;> simp only at hs <;> cases hs
      · exact lv_icmp_eq hx hb hd ht (fun q => by rw [if_pos q] at k; exact k H locs lsA hH hS hl hg hn hsl) (fun q => by rw [if_neg q] at k; exact k H locs lsA hH hS hl hg hn hsl)
      · exact lv_icmp_ne hx hb hd ht (fun q => by rw [if_neg q] at k; exact k H locs lsA hH hS hl hg hn hsl) (fun q => by rw [if_pos q] at k; exact k H locs lsA hH hS hl hg hn hsl)
      · exact lv_icmp_lt hx hb hd ht (fun q => by rw [if_pos q] at k; exact k H locs lsA hH hS hl hg hn hsl) (fun q => by rw [if_neg q] at k; exact k H locs lsA hH hS hl hg hn hsl)
      · exact lv_icmp_ge hx hb hd ht (fun q => by rw [if_pos q] at k; exact k H locs lsA hH hS hl hg hn hsl) (fun q => by rw [if_neg q] at k; exact k H locs lsA hH hS hl hg hn hsl)
      · exact lv_icmp_gt hx hb hd ht (fun q => by rw [if_pos q] at k; exact k H locs lsA hH hS hl hg hn hsl) (fun q => by rw [if_neg q] at k; exact k H locs lsA hH hS hl hg hn hsl)
      · exact lv_icmp_le hx hb hd ht (fun q => by rw [if_pos q] at k; exact k H locs lsA hH hS hl hg hn hsl) (fun q => by rw [if_neg q] at k; exact k H locs lsA hH hS hl hg hn hsl)
    · cases hs
  · cases ho
theorem am_s_jump {i : Instr} {pc nx : Nat} {v : Int32} {ops : List Nat} {rt : Nat} {ls ls' : ALS} {st st' : List Value} {h h' : AH} {pc' : Nat} (X : am_Cx D cA base cs L xs p R s m args meth c y n0) (hd : decode (mBy y) pc = .ok (i, nx - pc)) (ho : am_ops y pc nx i v ops = true)
    (hi : (∃ o, i = .goto o) ∨ (∃ o, i = .ifnull o) ∨ (∃ o, i = .ifnonnull o))
    (hs : am_step (i, nx, v, ops) rt ls st h = some (.inl (pc', ls', st', h'))) (k : am_W D cA base cs L xs p l e R s m args below meth c y n0 sl0 Q pc' ls' st' h') : am_W D cA base cs L xs p l e R s m args below meth c y n0 sl0 Q pc ls st h := by
  obtain ⟨hx, hb, -⟩ := X
  obtain ⟨I, P, S, n, sl⟩ := h
  intro H locs lsA hH hS hl hg hn hsl
  rcases hi with ⟨o, rfl⟩ | ⟨o, rfl⟩ | ⟨o, rfl⟩
  all_goals simp only [am_ops, Bool.and_eq_true] at ho
  all_goals obtain ⟨ho1, ho⟩ := ho
  all_goals have hn1 := am_beq ho1
  all_goals replace hd := am_dec hd hn1
  all_goals subst hn1
  all_goals split at ho
  · have ht := of_decide_eq_true ho
    simp only [am_step] at hs
    cases hs; exact lv_goto hx hb hd ht (k H locs lsA hH hS hl hg hn hsl)
  · cases ho
  · have ht := of_decide_eq_true ho
    simp only [am_step] at hs
    split at hs
    · rename_i hq; cases hq; cases hs; exact lv_ifnullN hx hb hd ht (k H locs lsA hH hS hl hg hn hsl)
    · rename_i hq; cases hq; cases hs; exact lv_ifnull hx hb hd (k H locs lsA hH hS hl hg hn hsl)
    · cases hs
  · cases ho
  · have ht := of_decide_eq_true ho
    simp only [am_step] at hs
    split at hs
    · rename_i hq; cases hq; cases hs; exact lv_ifnonnullN hx hb hd (k H locs lsA hH hS hl hg hn hsl)
    · rename_i hq; cases hq; cases hs; exact lv_ifnonnull hx hb hd ht (k H locs lsA hH hS hl hg hn hsl)
    · cases hs
  · cases ho
end AM2
