/-! SOUNDNESS: what the abstract machine answers, the machine answers -/
section AMA
variable {p : Program} {l : Launch} {e : Env} {R : Room} {s : State} {m : MethodId} {args : Array Value} {below : List Frame} {meth : Method} {c : Code} {Q : State → Prop}
variable {D : va_G} {cA : Nat → ClassId} {base : Nat} {cs : Nat → Nat} {L : Nat} {xs : Nat → Int32} {y n0 sl0 : Nat}
theorem am_ml_ok : ∀ y, y < 222 → mnp y + (bif mst y then 0 else 1) + (bif am_feed y then 1 else 0) ≤ mml y := by decide +kernel
theorem am_pad_get : ∀ (n : Nat) (ls : ALS) (i : Nat) (v : Value), lget (am_pad n ls) i = some v → lget ls i = some v := by
  intro n
  induction n with
  | zero => intro ls i v h; cases h
  | succ n ih =>
    intro ls i v h
    cases ls with
    | nil =>
      cases i with
      | zero => cases h
      | succ i => have := ih [] i v h; cases this
    | cons o t =>
      cases i with
      | zero => exact h
      | succ i => exact ih t i v h
theorem am_lay_in (base : Nat) (cs : Nat → Nat) : ∀ (as : List Value) (k i : Nat) (v : Value), am_short as = true → lget (am_lay as) i = some v → (k + i, am_v base cs v) ∈ lv_args k (as.map (am_v base cs)) ∧ v.category = 1 := by
  intro as
  induction as with
  | nil => intro k i v _ h; cases h
  | cons a as ih =>
    intro k i v hs h
    cases a with
    | int x =>
      cases i with
      | zero => cases h; exact ⟨List.mem_cons_self, rfl⟩
      | succ i =>
        have := ih (k + 1) i v hs h
        refine ⟨List.mem_cons_of_mem _ ?_, this.2⟩
        rw [show k + (i + 1) = k + 1 + i by omega]
        exact this.1
    | ref x =>
      cases i with
      | zero => cases h; exact ⟨List.mem_cons_self, rfl⟩
      | succ i =>
        have := ih (k + 1) i v hs h
        refine ⟨List.mem_cons_of_mem _ ?_, this.2⟩
        rw [show k + (i + 1) = k + 1 + i by omega]
        exact this.1
    | null =>
      cases i with
      | zero => cases h; exact ⟨List.mem_cons_self, rfl⟩
      | succ i =>
        have := ih (k + 1) i v hs h
        refine ⟨List.mem_cons_of_mem _ ?_, this.2⟩
        rw [show k + (i + 1) = k + 1 + i by omega]
        exact this.1
    | long x => cases hs
    | float x => cases hs
    | double x => cases hs
    | retAddr x => cases hs
theorem am_sl_len (base : Nat) (cs : Nat → Nat) : ∀ (as : List Value), am_short as = true → (lg_sl (as.map (am_v base cs))).length = as.length := by
  intro as
  induction as with
  | nil => intro _; rfl
  | cons a as ih =>
    intro hs
    have e : ∀ v : Value, v.category = 1 → am_short as = true → (lg_sl ((v :: as).map (am_v base cs))).length = (v :: as).length := by
      intro v hv ha
      have := ih ha
      unfold lg_sl at this ⊢
      simp only [List.map_cons, List.flatMap_cons, am_v_cat, hv, List.length_append, List.length_cons, this]
      simp; omega
    cases a <;> first | exact e _ rfl hs | cases hs
theorem am_entry {z : Nat} {as : List Value} (hz : z < 222) (ha : am_args z as = true) (hlen : as.length = mnp z + (bif mst z then 0 else 1)) : (lg_sl (as.map (am_v base cs))).length ≤ mml z ∧ am_Lg z (am_pad (mml z) (am_lay as)) ∧ ∀ q ∈ am_lv base cs 0 (am_pad (mml z) (am_lay as)), q ∈ lv_args 0 (as.map (am_v base cs)) := by
  have hml := am_ml_ok z hz
  unfold am_args at ha
  split at ha
  · rename_i a x b
    have hf : am_feed z = true := ha
    rw [hf] at hml
    simp only [List.length_cons, List.length_nil] at hlen
    refine ⟨?_, ?_, ?_⟩
    · show 4 ≤ mml z
      simp only [cond_true] at hml; omega
    · intro i v hv
      have := am_pad_get _ _ _ _ hv
      match i, this with
      | 0, this => cases this; exact Or.inl rfl
      | 1, this => exact Or.inr ⟨hf, rfl⟩
      | 2, this => cases this
      | 3, this => cases this; exact Or.inl rfl
      | i + 4, this => cases this
    · intro q hq
      obtain ⟨i, v, hv, rfl⟩ := am_lv_mem.mp hq
      have := am_pad_get _ _ _ _ hv
      match i, this with
      | 0, this => cases this; simp [lv_args, am_v, Value.category]
      | 1, this => cases this; simp [lv_args, am_v, Value.category]
      | 2, this => cases this
      | 3, this => cases this; simp [lv_args, am_v, Value.category]
      | i + 4, this => cases this
  · refine ⟨?_, ?_, ?_⟩
    · rw [am_sl_len base cs as ha]; omega
    · intro i v hv
      exact Or.inl (am_lay_in base cs as 0 i v ha (am_pad_get _ _ _ _ hv)).2
    · intro q hq
      obtain ⟨i, v, hv, rfl⟩ := am_lv_mem.mp hq
      exact (am_lay_in base cs as 0 i v ha (am_pad_get _ _ _ _ hv)).1
def am_RunOK (l : Launch) (D : va_G) (cA : Nat → ClassId) (base : Nat) (cs : Nat → Nat) (L : Nat) (xs : Nat → Int32) (k : Nat) : Prop :=
  ∀ (d y pc : Nat) (ls : ALS) (st : List Value) (h : AH) (v : Option Value) (h' : AH), am_run k d y pc ls st h = some (v, h') → ∀ (p : Program) (e : Env) (R : Room) (s : State) (m : MethodId) (args : Array Value) (below : List Frame) (meth : Method) (c : Code) (Q : State → Prop) (n0 sl0 : Nat),
    am_Cx D cA base cs L xs p R s m args meth c y n0 → d + 1 ≤ R.frames → 64 * (d + 1) ≤ R.locals → h'.2.2.2.1 - n0 ≤ R.cells → h'.2.2.2.2 - sl0 ≤ R.slots →
    (∀ (pcr : Nat) (lsr : ALS) (str : List Value) (ce : CE), cd y pcr = some ce → am_step ce (mrt y) lsr str h' = some (.inr v) → am_W D cA base cs L xs p l e R s m args below meth c y n0 sl0 Q pcr lsr str h') →
    am_W D cA base cs L xs p l e R s m args below meth c y n0 sl0 Q pc ls st h
/-- a method's end -/
theorem am_ret {v : Option Value} {h' : AH} {lsr : ALS} {str : List Value} {pcr : Nat} {ce : CE} {mc ms : Nat} (X : am_Cx D cA base cs L xs p R s m args meth c y n0) (hrt : am_rt (mRe y) (mrt y) = true) (hr : meth.sig.returnType = mRe y) (hlocks : meth.locks = false) (hcd : cd y pcr = some ce) (hs : am_step ce (mrt y) lsr str h' = some (.inr v)) (hmc : h'.2.2.2.1 - n0 = mc) (hms : h'.2.2.2.2 - sl0 = ms) :
    am_W D cA base cs L xs p l e R s m args below meth c y n0 sl0 (MQ below (am_Qc D cA base cs L xs v h') args s mc ms (am_A base)) pcr lsr str h' := by
  obtain ⟨hx, hb, hml, hown, hnm, hts, hK, hb0, hf1, hf2⟩ := X
  obtain ⟨i, nx, w, ops⟩ := ce
  obtain ⟨hd, ho⟩ := am_chk_at hcd
  obtain ⟨I, P, S, n, sl⟩ := h'
  intro H locs lsA hH hS hl hg hn hsl
  subst hmc; subst hms
  cases i
  case ireturn =>
    have hn1 : nx = pcr + 1 := am_beq ho
    replace hd := am_dec hd hn1
    simp only [am_step] at hs
    split at hs
    · rename_i x
      split at hs
      · rename_i h0
        cases hs
        rw [h0] at hrt
        have hre : mRe y = some .int := by
          unfold am_rt at hrt; split at hrt <;> first | assumption | (simp_all; done) | cases hrt
        exact W.iret (v := x) hx hb (by rw [hr, hre]) (fun t ht hW => ⟨rfl, by rw [ht]; exact hH, hS.F ht⟩) hS.2.2 hd
      · rename_i h0
        rw [h0] at hrt
        have hre : mRe y = some .boolean := by
          unfold am_rt at hrt; split at hrt <;> first | assumption | (simp_all; done) | cases hrt
        by_cases hw : x = 0 ∨ x = 1
        · have hbo : (decide (x = 0) || decide (x = 1)) = true := by simpa using hw
          rw [hbo, cond_true] at hs
          cases hs
          exact W.zret (v := x) hx hb (by rw [hr, hre]) (by rcases hw with rfl | rfl <;> decide) (fun t ht hW => ⟨rfl, by rw [ht]; exact hH, hS.F ht⟩) hS.2.2 hd
        · have hbo : (decide (x = 0) || decide (x = 1)) = false := by simpa using hw
          rw [hbo, cond_false] at hs
          cases hs
      · rename_i h0
        rw [h0] at hrt
        have hre : mRe y = some .byte := by
          unfold am_rt at hrt; split at hrt <;> first | assumption | (simp_all; done) | cases hrt
        by_cases hw : x.toInt8.toInt32 = x
        · simp only [hw, decide_true, cond_true] at hs
          cases hs
          exact W.zret (v := x) hx hb (by rw [hr, hre]) (by show Value.int x.toInt8.toInt32 = _; rw [hw]) (fun t ht hW => ⟨rfl, by rw [ht]; exact hH, hS.F ht⟩) hS.2.2 hd
        · simp only [hw, decide_false, cond_false] at hs
          cases hs
      · cases hs
    · cases hs
  case areturn =>
    have hn1 : nx = pcr + 1 := am_beq ho
    replace hd := am_dec hd hn1
    have hre : mrt y = 3 → ∃ rt, mRe y = some rt ∧ ((∃ n, rt = .object n) ∨ ∃ t, rt = .array t) := by
      intro h0
      rw [h0] at hrt
      unfold am_rt at hrt
      split at hrt <;> first | (rename_i q; exact ⟨_, q, Or.inr ⟨_, rfl⟩⟩) | (rename_i q; exact ⟨_, q, Or.inl ⟨_, rfl⟩⟩) | (simp_all; done) | cases hrt
    simp only [am_step] at hs
    split at hs
    · rename_i a
      cases hb1 : Nat.beq (mrt y) 3 with
      | false => rw [hb1] at hs; cases hs
      | true =>
        rw [hb1, cond_true] at hs
        cases hs
        obtain ⟨rt, r1, r2⟩ := hre (am_beq hb1)
        exact W.aret (v := .ref (am_ad base cs a)) hx hb (by rw [hr, r1]) r2 (Or.inr ⟨_, rfl⟩) (fun t ht hW => ⟨rfl, by rw [ht]; exact hH, hS.F ht⟩) hS.2.2 hd
    · cases hb1 : Nat.beq (mrt y) 3 with
      | false => rw [hb1] at hs; cases hs
      | true =>
        rw [hb1, cond_true] at hs
        cases hs
        obtain ⟨rt, r1, r2⟩ := hre (am_beq hb1)
        exact W.aret (v := .null) hx hb (by rw [hr, r1]) r2 (Or.inl rfl) (fun t ht hW => ⟨rfl, by rw [ht]; exact hH, hS.F ht⟩) hS.2.2 hd
    · cases hs
  case return_ =>
    have hn1 : nx = pcr + 1 := am_beq ho
    replace hd := am_dec hd hn1
    simp only [am_step] at hs
    split at hs
    · cases hb1 : Nat.beq (mrt y) 9 with
      | false => rw [hb1] at hs; cases hs
      | true =>
        rw [hb1, cond_true] at hs
        cases hs
        rw [am_beq hb1] at hrt
        have hre : mRe y = none := by
          unfold am_rt at hrt; split at hrt <;> first | assumption | (simp_all; done) | cases hrt
        exact W.vret hx hb (by rw [hr, hre]) (fun t ht hW => ⟨rfl, by rw [ht]; exact hH, hS.F ht⟩) hS.2.2 hd
    · cases hs
  all_goals (exfalso; simp only [am_step, Bool.cond_eq_ite] at hs; (repeat' split at hs) <;> cases hs)
theorem am_MetofW {y : MethodName} {ws ws' : List Jvm.Cond} {rm : Room} {Pc : Array Value → State → Prop} {Qc : Array Value → State → Outcome → State → Prop} {mc ms : Nat} {free : Addr → Prop} {cc : ByteArray} {maxL : Nat} {ret : Option FieldType}
    (hy : plainFor y = true) (hw : ws = Jvm.Cond.code y cc maxL ret :: ws')
    (body : ∀ p e s m args below meth c s₁, BodyLoose p l y (headSpec ws rm) cc maxL ret e s m args below meth c s₁ → c.maxLocals = maxL → Pc args s →
      W p l e (headSpec ws rm).room s m args below meth c s.heap [] 0 0 (MQ below Qc args s mc ms free) (entryFrame m args maxL)) : Met l y ws rm Pc Qc mc ms free := by
  refine MetFree.of_bodySF (code := cc) (maxLocals := maxL) (ret := ret) hy (fun args s m h hn => ?_) (fun p e s m args below meth c s₁ B hml hP _ => ?_)
  · obtain ⟨meth, c, h1, h2, h3, h4, h5, h6, -, -⟩ := Cond.code_spec hn (atoms_spec (ws := ws) h _ (by rw [hw]; exact List.mem_cons_self))
    exact ⟨meth, c, h1, h2, h3, h4, h5, h6⟩
  · obtain ⟨t, a1, o, b1, b2, b3⟩ := body p e s m args below meth c s₁ B hml hP s₁ (by rw [B.state]; rfl) (Stand.of_body B)
    exact ⟨t, o, a1, b1, b2, ⟨b3.1, b3.2⟩⟩
theorem am_met_of {k d z : Nat} {as : List Value} {h h' : AH} {v : Option Value} (ok : am_RunOK l D cA base cs L xs k) (hrun : am_run k d z 0 (am_pad (mml z) (am_lay as)) [] h = some (v, h')) (hz : z < 222) (ha : am_args z as = true) (hlen : as.length = mnp z + (bif mst z then 0 else 1)) : am_Met l D cA base cs L xs d z as h v h' := by
  obtain ⟨f1, f2, f3, f4, f5, f6⟩ := am_mfacts hz
  refine am_MetofW (cc := mBy z) (maxL := mml z) (ret := mRe z) f6 rfl ?_
  intro p e s m args below meth c s₁ B hml hv
  obtain ⟨rfl, hH, hK, hsz⟩ := hv
  have hts := atoms_spec (ws := am_wsy z) B.pre
  have X : am_Cx D cA base cs L xs p (am_rm d (h'.2.2.2.1 - h.2.2.2.1) (h'.2.2.2.2 - h.2.2.2.2)) s m (as.map (am_v base cs)).toArray meth c z h.2.2.2.1 := ⟨B.exec, B.bytes, hml, findClass_of_methodNamed B.named, fun hq => (name_of_methodNamed B.named B.method).1.trans hq, fun w hw hg => hts w (List.mem_cons_of_mem _ (List.mem_filter.mpr ⟨hw, hg⟩)), hK, hsz, by show 1 ≤ d + 1; omega, by show 64 ≤ 64 * (d + 1); omega⟩
  have hr := B.returns
  have hlocks := B.notSynchronized
  obtain ⟨g1, g2, g3⟩ := am_entry (base := base) (cs := cs) hz ha hlen
  have hl := lv_entry (as.map (am_v base cs)) (n := mml z) g1
  rw [lg_entry_eq]
  generalize (lg_sl (as.map (am_v base cs)) ++ List.replicate (mml z - (lg_sl (as.map (am_v base cs))).length) Slot.unset).toArray = lsA at hl ⊢
  have hl2 : lv_has lsA (mml z) (am_lv base cs 0 (am_pad (mml z) (am_lay as))) := ⟨hl.1, hl.2.1, fun q hq => hl.2.2 q (g3 q hq)⟩
  have hW := ok d z 0 _ [] h v h' hrun p e (am_rm d (h'.2.2.2.1 - h.2.2.2.1) (h'.2.2.2.2 - h.2.2.2.2)) s m (as.map (am_v base cs)).toArray below meth c (MQ below (am_Qc D cA base cs L xs v h') (as.map (am_v base cs)).toArray s (h'.2.2.2.1 - h.2.2.2.1) (h'.2.2.2.2 - h.2.2.2.2) (am_A base)) h.2.2.2.1 h.2.2.2.2 X (Nat.le_refl _) (Nat.le_refl _) (Nat.le_refl _) (Nat.le_refl _)
    (fun pcr lsr str ce hcd hs => am_ret X f4 hr hlocks hcd hs rfl rfl) s.heap [] lsA hH va_S.rf hl2 g2 (Nat.le_refl _) (Nat.le_refl _)
  exact W.cs (by omega) (by omega) hW
theorem am_runW (l : Launch) (D : va_G) (cA : Nat → ClassId) (base : Nat) (cs : Nat → Nat) (L : Nat) (xs : Nat → Int32) : ∀ k, am_RunOK l D cA base cs L xs k := by
  intro k
  induction k with
  | zero => intro d y pc ls st h v h' e0; simp [am_run] at e0
  | succ k ih =>
    intro d y pc ls st h v h' e0 p e R s m args below meth c Q n0 sl0 X hf hl64 hR1 hR2 hret
    rw [am_run] at e0
    cases hc : cd y pc with
    | none => rw [hc] at e0; cases e0
    | some ce =>
      rw [hc] at e0
      simp only at e0
      cases hs : am_step ce (mrt y) ls st h with
      | some nx =>
        rw [hs] at e0
        cases nx with
        | inl q =>
          obtain ⟨pc', ls', st', h2⟩ := q
          have g2 := am_run_grow _ _ _ _ _ _ _ _ _ e0
          exact am_stepW X hc (by omega) (by omega) hs (ih _ _ _ _ _ _ _ _ e0 p e R s m args below meth c Q n0 sl0 X hf hl64 hR1 hR2 hret)
        | inr r =>
          simp only [Option.some.injEq, Prod.mk.injEq] at e0
          obtain ⟨rfl, rfl⟩ := e0
          exact hret pc ls st ce hc hs
      | none =>
        rw [hs] at e0
        simp only at e0
        cases hl : am_call ce st h with
        | none => rw [hl] at e0; cases e0
        | some q =>
          obtain ⟨z, as, r⟩ := q
          rw [hl] at e0
          cases d with
          | zero => cases e0
          | succ d' =>
            simp only at e0
            cases hr : am_run k d' z 0 (am_pad (mml z) (am_lay as)) [] h with
            | none => rw [hr] at e0; cases e0
            | some q =>
              obtain ⟨v1, h2⟩ := q
              rw [hr] at e0
              have g1 := am_run_grow _ _ _ _ _ _ _ _ _ hr
              have g2 := am_run_grow _ _ _ _ _ _ _ _ _ e0
              exact am_callW X hc hs hl (by omega) (by omega) g1 (by omega) (by omega) (fun hz ha hlen => am_met_of ih hr hz ha hlen) (ih _ _ _ _ _ _ _ _ e0 p e R s m args below meth c Q n0 sl0 X hf hl64 hR1 hR2 hret)
end AMA
