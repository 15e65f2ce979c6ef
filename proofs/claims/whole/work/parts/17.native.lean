/-! casts, Object's constructor, arraycopy, clone -/
section AM7
variable {p : Program} {l : Launch} {e : Env} {R : Room} {s : State} {m : MethodId} {args : Array Value} {below : List Frame} {meth : Method} {c : Code} {Q : State → Prop}
variable {D : va_G} {cA : Nat → ClassId} {base : Nat} {cs : Nat → Nat} {L : Nat} {xs : Nat → Int32} {y n0 sl0 : Nat}
theorem am_nmI (hK : am_K D cA cs L xs (am_A base) s s.heap) : s.vm.findClass "[I" = some (cA 0) := (hK.1.2 0 (cA 0, .int) rfl).2
set_option maxRecDepth 100000 in
theorem am_wObj : Jvm.Cond.instanceMethod Lib.objectInit ∈ lw_tbl := List.mem_of_getElem? (i := pObj) rfl
set_option maxRecDepth 100000 in
theorem am_wObjC : Jvm.Cond.code Lib.objectInit ⟨#[0xb1]⟩ 1 none ∈ lw_tbl := List.mem_of_getElem? (i := pObjC) rfl
set_option maxRecDepth 100000 in
theorem am_wAcN : Jvm.Cond.native arraycopyName ∈ lw_tbl := List.mem_of_getElem? (i := pAcN) rfl
set_option maxRecDepth 100000 in
theorem am_wAcS : Jvm.Cond.static arraycopyName ∈ lw_tbl := List.mem_of_getElem? (i := pAcS) rfl
set_option maxRecDepth 100000 in
theorem am_wAcI : Jvm.Cond.initialized "java/lang/System" ∈ lw_tbl := List.mem_of_getElem? (i := pAcI) rfl
set_option maxRecDepth 100000 in
theorem am_wClN : Jvm.Cond.native ⟨"java/lang/Object", "clone", "()Ljava/lang/Object;"⟩ ∈ lw_tbl := List.mem_of_getElem? (i := pClN) rfl
set_option maxRecDepth 100000 in
theorem am_wClI : Jvm.Cond.instanceMethod ⟨"java/lang/Object", "clone", "()Ljava/lang/Object;"⟩ ∈ lw_tbl := List.mem_of_getElem? (i := pClI) rfl
set_option maxRecDepth 100000 in
theorem am_wClM : Jvm.Cond.sameMethod "[I" "java/lang/Object" "clone" "()Ljava/lang/Object;" ∈ lw_tbl := List.mem_of_getElem? (i := pClM) rfl
set_option maxRecDepth 100000 in
theorem am_wClS : Jvm.Cond.selects "[I" ⟨"[I", "clone", "()Ljava/lang/Object;"⟩ ⟨"java/lang/Object", "clone", "()Ljava/lang/Object;"⟩ ∈ lw_tbl := List.mem_of_getElem? (i := pClS) rfl
set_option maxRecDepth 100000 in
theorem am_wClC : Jvm.Cond.castable "[I" "java/lang/Cloneable" ∈ lw_tbl := List.mem_of_getElem? (i := pClC) rfl
theorem am_s_cast {x : Nat} {pc nx : Nat} {v : Int32} {ops : List Nat} {rt : Nat} {ls ls' : ALS} {st st' : List Value} {h h' : AH} {pc' : Nat} (X : am_Cx D cA base cs L xs p R s m args meth c y n0) (hd : decode (mBy y) pc = .ok (.checkcast x, nx - pc)) (ho : am_ops y pc nx (.checkcast x) v ops = true)
    (hs : am_step (.checkcast x, nx, v, ops) rt ls st h = some (.inl (pc', ls', st', h'))) (k : am_W D cA base cs L xs p l e R s m args below meth c y n0 sl0 Q pc' ls' st' h') : am_W D cA base cs L xs p l e R s m args below meth c y n0 sl0 Q pc ls st h := by
  obtain ⟨hx, hb, hml, hown, hnm, hts, hK, -⟩ := X
  obtain ⟨I, P, S, n, sl⟩ := h
  intro H locs lsA hH hS hl hg hn hsl
  simp only [am_ops, Bool.and_eq_true] at ho
  obtain ⟨ho1, ho⟩ := ho
  have hn1 := am_beq ho1
  replace hd := am_dec hd hn1
  subst hn1
  simp only [am_step] at hs
  split at ho
  · split at hs
    · rename_i a r
      cases hb1 : Nat.beq (S a).1 0 with
      | false => rw [hb1] at hs; cases hs
      | true =>
        rw [hb1, cond_true] at hs
        cases hs
        exact va_castA hx hb hown (hts _ (am_w_in ho) rfl) hH.1 a (am_arrAt hH (am_beq hb1)) (am_nmI hK) hd (k H locs lsA hH hS hl hg hn hsl)
    · cases hs
  · cases ho
theorem am_s_spec {x : Nat} {pc nx : Nat} {v : Int32} {ops : List Nat} {rt : Nat} {ls ls' : ALS} {st st' : List Value} {h h' : AH} {pc' : Nat} (X : am_Cx D cA base cs L xs p R s m args meth c y n0) (hd : decode (mBy y) pc = .ok (.invokespecial x, nx - pc)) (ho : am_ops y pc nx (.invokespecial x) v ops = true)
    (hs : am_step (.invokespecial x, nx, v, ops) rt ls st h = some (.inl (pc', ls', st', h'))) (k : am_W D cA base cs L xs p l e R s m args below meth c y n0 sl0 Q pc' ls' st' h') : am_W D cA base cs L xs p l e R s m args below meth c y n0 sl0 Q pc ls st h := by
  obtain ⟨hx, hb, hml, hown, hnm, hts, hK, hb0, hf1, hf2⟩ := X
  obtain ⟨I, P, S, n, sl⟩ := h
  intro H locs lsA hH hS hl hg hn hsl
  simp only [am_ops, Bool.and_eq_true] at ho
  obtain ⟨ho1, ho⟩ := ho
  have hn1 := am_beq ho1
  replace hd := am_dec hd hn1
  subst hn1
  simp only [am_step] at hs
  split at hs
  · rename_i p1 a r
    cases hb1 : Nat.ble (am_cats r) 8 with
    | false => rw [hb1] at hs; cases hs
    | true =>
      rw [hb1, cond_true] at hs
      have h8 := Nat.le_of_ble_eq_true hb1
      cases hs
      have hcat := am_cats_eq base cs st'
      exact W.objInit hx hb hown (hts _ (am_w_in ho) rfl) (hts _ am_wObj rfl) (hts _ am_wObjC rfl) rfl (hl.1.trans hml.symm) rfl hd hf1 (by show 2 * 0 + ((st'.map (am_v base cs)).map fun v => v.category).sum + 12 ≤ _; omega) (k H locs lsA hH hS hl hg hn hsl)
  · cases hs
theorem am_s_copy {x : Nat} {pc nx : Nat} {v : Int32} {ops : List Nat} {rt : Nat} {ls ls' : ALS} {st st' : List Value} {h h' : AH} {pc' : Nat} (X : am_Cx D cA base cs L xs p R s m args meth c y n0) (hd : decode (mBy y) pc = .ok (.invokestatic x, nx - pc)) (ho : am_ops y pc nx (.invokestatic x) v ops = true)
    (hs : am_step (.invokestatic x, nx, v, ops) rt ls st h = some (.inl (pc', ls', st', h'))) (k : am_W D cA base cs L xs p l e R s m args below meth c y n0 sl0 Q pc' ls' st' h') : am_W D cA base cs L xs p l e R s m args below meth c y n0 sl0 Q pc ls st h := by
  obtain ⟨hx, hb, hml, hown, hnm, hts, hK, hb0, hf1, hf2⟩ := X
  obtain ⟨I, P, S, n, sl⟩ := h
  intro H locs lsA hH hS hl hg hn hsl
  simp only [am_ops, Bool.and_eq_true] at ho
  obtain ⟨ho1, ho⟩ := ho
  have hn1 := am_beq ho1
  replace hd := am_dec hd hn1
  subst hn1
  simp only [am_step] at hs
  split at hs
  · rename_i p1 cn dp b1 sp a1 r
    cases hb1 : (Nat.beq (S a1).1 0 && Nat.beq (S b1).1 0 && !(decide (sp < 0)) && !(decide (dp < 0)) && !(decide (cn < 0)) && Nat.ble (sp.toNatClampNeg + cn.toNatClampNeg) (S a1).2 && Nat.ble (dp.toNatClampNeg + cn.toNatClampNeg) (S b1).2 && Nat.ble (am_cats r) 8) with
    | false => rw [hb1] at hs; cases hs
    | true =>
      rw [hb1, cond_true] at hs
      simp only [Bool.and_eq_true, Bool.not_eq_true', decide_eq_false_iff_not] at hb1
      obtain ⟨⟨⟨⟨⟨⟨⟨g1, g2⟩, g3⟩, g4⟩, g5⟩, g6⟩, g7⟩, g8⟩ := hb1
      replace g1 := am_beq g1
      replace g2 := am_beq g2
      replace g6 := Nat.le_of_ble_eq_true g6
      replace g7 := Nat.le_of_ble_eq_true g7
      replace g8 := Nat.le_of_ble_eq_true g8
      cases hs
      have hcat := am_cats_eq base cs st'
      refine va_copyi (ty := .int) hx hb (hml.trans hl.1.symm) hown (hts _ (am_w_in ho) rfl) (hts _ am_wAcN rfl) (hts _ am_wAcS rfl) (hts _ am_wAcI rfl) hK.1 hH.1 am_D hS a1 b1 0 0 (am_arrAt hH g1) (am_arrAt hH g2) rfl rfl rfl g3 g4 g5 g6 g7 (fun _ _ => rfl) hf1 ?_ hd (fun H1 locs1 w1 _ w3 => k H1 locs1 lsA (am_HpI hH (by omega) ?_ w1) w3 hl hg hn hsl)
      · rw [hcat]
        have : nativeFrameWords "java/lang/System" "arraycopy" 5 = 7 := by decide +kernel
        rw [this]; omega
      · unfold am_el
        rw [if_pos g2]
        simp [va_up]
  · cases hs
theorem am_s_clone {x : Nat} {pc nx : Nat} {v : Int32} {ops : List Nat} {rt : Nat} {ls ls' : ALS} {st st' : List Value} {h h' : AH} {pc' : Nat} (X : am_Cx D cA base cs L xs p R s m args meth c y n0) (hd : decode (mBy y) pc = .ok (.invokevirtual x, nx - pc)) (ho : am_ops y pc nx (.invokevirtual x) v ops = true)
    (hR1 : h'.2.2.2.1 - n0 ≤ R.cells) (hR2 : h'.2.2.2.2 - sl0 ≤ R.slots)
    (hs : am_step (.invokevirtual x, nx, v, ops) rt ls st h = some (.inl (pc', ls', st', h'))) (k : am_W D cA base cs L xs p l e R s m args below meth c y n0 sl0 Q pc' ls' st' h') : am_W D cA base cs L xs p l e R s m args below meth c y n0 sl0 Q pc ls st h := by
  obtain ⟨hx, hb, hml, hown, hnm, hts, hK, hb0, hf1, hf2⟩ := X
  obtain ⟨I, P, S, n, sl⟩ := h
  intro H locs lsA hH hS hl hg hn hsl
  simp only [am_ops, Bool.and_eq_true] at ho
  obtain ⟨ho1, ho⟩ := ho
  have hn1 := am_beq ho1
  replace hd := am_dec hd hn1
  subst hn1
  simp only [am_step] at hs
  split at hs
  · rename_i p1 a r
    cases hb1 : (Nat.beq (S a).1 0 && Nat.blt n 1000 && Nat.ble (am_cats r) 8) with
    | false => simp only [hb1] at hs; cases hs
    | true =>
      simp only [hb1, cond_true] at hs
      simp only [Bool.and_eq_true] at hb1
      have g1 := am_beq hb1.1.1
      have hlt : n < 1000 := by simpa using hb1.1.2
      have g8 := Nat.le_of_ble_eq_true hb1.2
      cases hs
      simp only at hR1 hR2 hn hsl
      have hcat := am_cats_eq base cs r
      show W p l e R s m args below meth c H locs (n - n0) (sl - sl0) Q (F0 m pc lsA (.ref (am_ad base cs a) :: r.map (am_v base cs)))
      have hadd : am_v base cs (Value.ref n) = .ref (base + n) := by
        simp only [am_v, am_ad]; rw [if_pos hlt]
      refine va_clone (ty := .int) hx hb (hml.trans hl.1.symm) hown (hts _ (am_w_in ho) rfl) (hts _ am_wClM rfl) (hts _ am_wClN rfl) (hts _ am_wClI rfl) (hts _ am_wClS rfl) (hK.2.2.2.2.2.2.1 _ am_wClC rfl) hK.1 hH.1 am_D hS (fun q hq => by show base ≤ q; omega) a 0 (am_arrAt hH g1) rfl (am_nmI hK) ?_ hf1 (by omega) (by omega) (by show sl - sl0 + (S a).2 ≤ _; omega) hd (fun q H1 gK gP gD gS => ?_)
      · intro i w hw
        rw [vp_cell_i] at hw
        have hlt2 : i < (S a).2 := by
          have := (Array.getElem?_eq_some_iff.mp hw).1
          rwa [arrV_size] at this
        rw [arrV_read _ _ hlt2] at hw
        cases hw
        rfl
      · refine am_bound (fun hz => ?_)
        have hq := am_fresh gP gD (by omega)
        subst hq
        have kw := k H1 locs lsA (am_HpN (kd := 0) (len := (S a).2) (I' := va_up I n (I a)) (P' := P) hH hlt (Or.inl (by omega)) (fun k hk => by simp [va_up, hk]) (fun k hk => rfl) (by
          rw [show am_el cA base cs (va_up I n (I a)) P (va_up S n (0, (S a).2)) n = .inl (cA 0, (S a).2, .inl (I a)) by unfold am_el; simp [va_up]]; exact gP)) gS hl hg (by simp only; omega) (by simp only; omega)
        simp only [List.map_cons, hadd] at kw
        exact W.cs (by omega) (by show sl - sl0 + (S a).2 = sl + (S a).2 - sl0; omega) kw
  · cases hs
end AM7
