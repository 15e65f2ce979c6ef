/-! THE MACHINE KEEPS RUN -/
section AM8
variable {p : Program} {l : Launch} {e : Env} {R : Room} {s : State} {m : MethodId} {args : Array Value} {below : List Frame} {meth : Method} {c : Code} {Q : State → Prop}
variable {D : va_G} {cA : Nat → ClassId} {base : Nat} {cs : Nat → Nat} {L : Nat} {xs : Nat → Int32} {y n0 sl0 : Nat}
theorem am_chk_at {pc nx : Nat} {i : Instr} {v : Int32} {ops : List Nat} (hcd : cd y pc = some (i, nx, v, ops)) : decode (mBy y) pc = .ok (i, nx - pc) ∧ am_ops y pc nx i v ops = true := by
  have h := am_chk_all y pc
  unfold am_chk at h
  rw [hcd] at h
  simp only [Bool.and_eq_true, decide_eq_true_eq] at h
  exact ⟨h.1.1, h.2⟩
set_option maxHeartbeats 4000000 in
theorem am_stepW {pc : Nat} {ce : CE} {ls ls' : ALS} {st st' : List Value} {h h' : AH} {pc' : Nat} (X : am_Cx D cA base cs L xs p R s m args meth c y n0) (hcd : cd y pc = some ce) (hR1 : h'.2.2.2.1 - n0 ≤ R.cells) (hR2 : h'.2.2.2.2 - sl0 ≤ R.slots)
    (hs : am_step ce (mrt y) ls st h = some (.inl (pc', ls', st', h'))) (k : am_W D cA base cs L xs p l e R s m args below meth c y n0 sl0 Q pc' ls' st' h') : am_W D cA base cs L xs p l e R s m args below meth c y n0 sl0 Q pc ls st h := by
  obtain ⟨i, nx, v, ops⟩ := ce
  obtain ⟨hd, ho⟩ := am_chk_at hcd
  cases i
  case iadd => exact am_s_alu X hd ho (by simp) hs k
  case isub => exact am_s_alu X hd ho (by simp) hs k
  case imul => exact am_s_alu X hd ho (by simp) hs k
  case iand => exact am_s_alu X hd ho (by simp) hs k
  case ior => exact am_s_alu X hd ho (by simp) hs k
  case ixor => exact am_s_alu X hd ho (by simp) hs k
  case ishl => exact am_s_alu X hd ho (by simp) hs k
  case ishr => exact am_s_alu X hd ho (by simp) hs k
  case iushr => exact am_s_alu X hd ho (by simp) hs k
  case idiv => exact am_s_alu X hd ho (by simp) hs k
  case irem => exact am_s_alu X hd ho (by simp) hs k
  case ineg => exact am_s_alu X hd ho (by simp) hs k
  case i2b => exact am_s_alu X hd ho (by simp) hs k
  case i2s => exact am_s_alu X hd ho (by simp) hs k
  case i2c => exact am_s_alu X hd ho (by simp) hs k
  case i2l => exact am_s_alu X hd ho (by simp) hs k
  case l2i => exact am_s_alu X hd ho (by simp) hs k
  case land => exact am_s_alu X hd ho (by simp) hs k
  case lor => exact am_s_alu X hd ho (by simp) hs k
  case lshl => exact am_s_alu X hd ho (by simp) hs k
  case lshr => exact am_s_alu X hd ho (by simp) hs k
  case lushr => exact am_s_alu X hd ho (by simp) hs k
  case dup => exact am_s_alu X hd ho (by simp) hs k
  case dup2 => exact am_s_alu X hd ho (by simp) hs k
  case pop => exact am_s_alu X hd ho (by simp) hs k
  case aconst_null => exact am_s_alu X hd ho (by simp) hs k
  case iconst a => exact am_s_const X hd ho (by simp) hs k
  case bipush a => exact am_s_const X hd ho (by simp) hs k
  case sipush a => exact am_s_const X hd ho (by simp) hs k
  case ldc a => exact am_s_const X hd ho (by simp) hs k
  case ldc2_w a => exact am_s_const X hd ho (by simp) hs k
  case ldc_w a => exact am_s_const X hd ho (by simp) hs k
  case iload_n a => exact am_s_load X hd ho (by simp) hs k
  case iload a => exact am_s_load X hd ho (by simp) hs k
  case lload_n a => exact am_s_load X hd ho (by simp) hs k
  case aload_n a => exact am_s_load X hd ho (by simp) hs k
  case aload a => exact am_s_load X hd ho (by simp) hs k
  case istore_n a => exact am_s_store X hd ho (by simp) hs k
  case istore a => exact am_s_store X hd ho (by simp) hs k
  case astore_n a => exact am_s_store X hd ho (by simp) hs k
  case astore a => exact am_s_store X hd ho (by simp) hs k
  case iinc a b => exact am_s_iinc X hd ho hs k
  case ifCond a b => exact am_s_if X hd ho (by simp) hs k
  case if_icmp a b => exact am_s_if X hd ho (by simp) hs k
  case goto a => exact am_s_jump X hd ho (by simp) hs k
  case ifnull a => exact am_s_jump X hd ho (by simp) hs k
  case ifnonnull a => exact am_s_jump X hd ho (by simp) hs k
  case tableswitch a b c d => exact am_s_tsw X hd ho hs k
  case lookupswitch a b => exact am_s_lsw X hd ho hs k
  case getfield a => exact am_s_getf X hd ho hs k
  case putfield a => exact am_s_putf X hd ho hs k
  case getstatic a => exact am_s_gets X hd ho hs k
  case arraylength => exact am_s_arr X hd ho (by simp) hs k
  case iaload => exact am_s_arr X hd ho (by simp) hs k
  case baload => exact am_s_arr X hd ho (by simp) hs k
  case iastore => exact am_s_arr X hd ho (by simp) hs k
  case aaload => exact am_s_ref X hd ho (by simp) hs k
  case aastore => exact am_s_ref X hd ho (by simp) hs k
  case new a => exact am_s_new X hd ho hR1 hR2 hs k
  case newarray a => exact am_s_newa X hd ho hR1 hR2 hs k
  case anewarray a => exact am_s_anew X hd ho hR1 hR2 hs k
  case checkcast a => exact am_s_cast X hd ho hs k
  case invokespecial a => exact am_s_spec X hd ho hs k
  case invokestatic a => exact am_s_copy X hd ho hs k
  case invokevirtual a => exact am_s_clone X hd ho hR1 hR2 hs k
  case ireturn => exfalso; obtain ⟨I, P, S, n, sl⟩ := h; simp only [am_step, Bool.cond_eq_ite] at hs; (repeat' split at hs) <;> cases hs
  case areturn => exfalso; obtain ⟨I, P, S, n, sl⟩ := h; simp only [am_step, Bool.cond_eq_ite] at hs; (repeat' split at hs) <;> cases hs
  case return_ => exfalso; obtain ⟨I, P, S, n, sl⟩ := h; simp only [am_step, Bool.cond_eq_ite] at hs; (repeat' split at hs) <;> cases hs
  all_goals (obtain ⟨I, P, S, n, sl⟩ := h; simp only [am_step] at hs; cases hs)
end AM8
