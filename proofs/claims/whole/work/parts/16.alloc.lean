/-! new cells, natives -/
section AM6
variable {p : Program} {l : Launch} {e : Env} {R : Room} {s : State} {m : MethodId} {args : Array Value} {below : List Frame} {meth : Method} {c : Code} {Q : State → Prop} {H : Heap} {locs : List Loc} {cells slots : Nat} {g : JFrame}
variable {D : va_G} {cA : Nat → ClassId} {base : Nat} {cs : Nat → Nat} {L : Nat} {xs : Nat → Int32} {y n0 sl0 : Nat}
theorem am_bound (k : H.size ≤ s.heap.size + cells → W p l e R s m args below meth c H locs cells slots Q g) : W p l e R s m args below meth c H locs cells slots Q g := fun T hT X => k (by rw [← hT]; exact X.heapSize) T hT X
theorem am_fresh {I : AI} {P : AP} {S : AS} {n q : Nat} {el : va_E} {H1 : Heap} (gP : va_P D am_cls (am_ws cA base cs I P S n ++ [(q, el)]) H1) (gD : va_D (am_A base) (am_ws cA base cs I P S n ++ [(q, el)])) (hz : H1.size ≤ base + n + 1) : q = base + n := by
  have hl : (am_ws cA base cs I P S n ++ [(q, el)])[n]? = some (q, el) := by
    rw [List.getElem?_append_right (by rw [am_ws_len]; exact Nat.le_refl n), am_ws_len]; simp
  have h1 : q < H1.size := (gP n _ hl).lt
  have h2 : base ≤ q := gD.2 n _ hl
  by_cases h3 : q = base + n
  · exact h3
  · exfalso
    have hk : q - base < n := by omega
    have hw : (am_ws cA base cs I P S n ++ [(q, el)])[q - base]? = some (base + (q - base), am_el cA base cs I P S (q - base)) := by
      rw [List.getElem?_append_left (by rw [am_ws_len]; exact hk), am_ws_get hk]
    have := gD.1 (q - base) n _ _ hw hl (by simp only; omega)
    omega
set_option maxRecDepth 100000 in
theorem am_pIns {ci : Nat} (h : ci < 10) : Jvm.Cond.instantiable (RXs ci) (fN ci) ∈ lw_tbl := by
  refine List.mem_of_getElem? (i := pIns ci) ?_
  rcases am_lt10 h with rfl | rfl | rfl | rfl | rfl | rfl | rfl | rfl | rfl | rfl <;> rfl
set_option maxRecDepth 100000 in
theorem am_pIni {ci : Nat} (h : ci < 10) : Jvm.Cond.initialized (RXs ci) ∈ lw_tbl := by
  refine List.mem_of_getElem? (i := pIni ci) ?_
  rcases am_lt10 h with rfl | rfl | rfl | rfl | rfl | rfl | rfl | rfl | rfl | rfl <;> rfl
/-- one more cell: the world behind it -/
theorem am_HpN {I I' : AI} {P P' : AP} {S : AS} {n sl sl' kd len : Nat} {H H1 : Heap} (hH : am_Hp D cA base cs L xs (I, P, S, n, sl) H) (hn : n < 1000) (hkd : kd ≤ 3 ∨ (10 ≤ kd ∧ kd < 20 ∧ len = fN (kd - 10)))
    (hI : ∀ k, k ≠ n → I' k = I k) (hPp : ∀ k, k ≠ n → P' k = P k)
    (hP : va_P D am_cls (am_ws cA base cs I P S n ++ [(base + n, am_el cA base cs I' P' (va_up S n (kd, len)) n)]) H1) : am_Hp D cA base cs L xs (I', P', va_up S n (kd, len), n + 1, sl') H1 := by
  have hS2 : ∀ k, k ≠ n → va_up S n (kd, len) k = S k := fun k hk => by simp [va_up, hk]
  have hSn : va_up S n (kd, len) n = (kd, len) := by simp [va_up]
  obtain ⟨-, ⟨h1, h2, h3⟩, hc⟩ := hH
  refine ⟨?_, ⟨by omega, fun a ha hb => ?_, fun a ha => ?_⟩, fun z => ?_⟩
  · rw [am_ws_push (I := I) (P := P) (S := S)]
    · exact hP
    · intro k hk
      unfold am_el am_f
      rw [hS2 k (by omega), hI k (by omega), hPp k (by omega)]
  · rw [hS2 a (by omega)]; exact h2 a (by omega) hb
  · by_cases hq : a = n
    · subst hq; rw [hSn]; exact hkd
    · rw [hS2 a hq]; exact h3 a (by omega)
  · rw [hS2 _ (by omega), hI _ (by omega), hPp _ (by omega)]; exact hc z
theorem am_s_new {x : Nat} {pc nx : Nat} {v : Int32} {ops : List Nat} {rt : Nat} {ls ls' : ALS} {st st' : List Value} {h h' : AH} {pc' : Nat} (X : am_Cx D cA base cs L xs p R s m args meth c y n0) (hd : decode (mBy y) pc = .ok (.new x, nx - pc)) (ho : am_ops y pc nx (.new x) v ops = true)
    (hR1 : h'.2.2.2.1 - n0 ≤ R.cells) (hR2 : h'.2.2.2.2 - sl0 ≤ R.slots)
    (hs : am_step (.new x, nx, v, ops) rt ls st h = some (.inl (pc', ls', st', h'))) (k : am_W D cA base cs L xs p l e R s m args below meth c y n0 sl0 Q pc' ls' st' h') : am_W D cA base cs L xs p l e R s m args below meth c y n0 sl0 Q pc ls st h := by
  obtain ⟨hx, hb, hml, hown, hnm, hts, hK, hb0, -⟩ := X
  obtain ⟨I, P, S, n, sl⟩ := h
  intro H locs lsA hH hS hl hg hn hsl
  simp only [am_ops, Bool.and_eq_true] at ho
  obtain ⟨ho1, ho⟩ := ho
  have hn1 := am_beq ho1
  replace hd := am_dec hd hn1
  subst hn1
  simp only [am_step] at hs
  split at ho
  · rename_i ci p1
    simp only [Bool.and_eq_true] at ho
    have hci : ci < 10 := by simpa using ho.1
    cases hb1 : Nat.blt n 1000 with
    | false => simp only [hb1] at hs; cases hs
    | true =>
      simp only [hb1, cond_true] at hs
      have hlt : n < 1000 := by simpa using hb1
      cases hs
      simp only at hR1 hR2 hn hsl
      show W p l e R s m args below meth c H locs (n - n0) (sl - sl0) Q (F0 m pc lsA (st.map (am_v base cs)))
      have hadd : am_v base cs (Value.ref n) = .ref (base + n) := by
        simp only [am_v, am_ad]; rw [if_pos hlt]
      refine va_new (fs := am_f base cs (va_up I n (fun _ => 0)) (va_up P n (fun _ => none)) ci (fN ci) n) hx hb (am_hts hts) (am_in_ok hci) (tyXs ci) (am_ty_ok hci) hown (hts _ (am_w_in ho.2) rfl) (hts _ (am_pIns hci) rfl) (hts _ (am_pIni hci) rfl) hK.1 hH.1 am_D hS (fun q hq => by show base ≤ q; omega) (am_cls_at hci) ?_ (by omega) (by omega) hd (fun q H1 gP gD gS => ?_)
      · intro j hj
        unfold vp_V
        rw [List.getD_eq_getElem?_getD, am_f_get hj]
        have := am_tyc_ok ci hci j hj
        unfold am_tyc at this
        split at this <;> rename_i h1 h2 <;> first | (rw [h1, h2]; simp [va_up, defaultValue, va_rf]; done) | cases this
      · refine am_bound (fun hz => ?_)
        have hq := am_fresh gP gD (by omega)
        subst hq
        have kw := k H1 locs lsA (am_HpN (kd := 10 + ci) (len := fN ci) (I' := va_up I n (fun _ => 0)) (P' := va_up P n (fun _ => none)) hH hlt (Or.inr ⟨by omega, by omega, by rw [show 10 + ci - 10 = ci by omega]⟩) (fun k hk => by simp [va_up, hk]) (fun k hk => by simp [va_up, hk]) (by
          rw [am_el_obj (ci := ci) (by simp [va_up]) (by simp [va_up])]; exact gP)) gS hl hg (by simp only; omega) (by simp only; omega)
        simp only [List.map_cons, hadd] at kw
        rw [show n - n0 + 1 = n + 1 - n0 by omega, show sl - sl0 + fN ci = sl + fN ci - sl0 by omega]
        exact kw
  · cases ho
theorem am_cA0 (hK : am_K D cA cs L xs (am_A base) s s.heap) {cB : ClassId} {tys : List (ClassId × FieldType)} (gK : va_K D am_cls (tys ++ [(cB, .int)]) s) : cB = cA 0 := by
  have h1 : s.vm.findClass ("[" ++ FieldType.int.toString) = some (cA 0) := (hK.1.2 0 (cA 0, .int) rfl).2
  have h2 : s.vm.findClass ("[" ++ FieldType.int.toString) = some cB := (gK.2 tys.length (cB, .int) (by simp)).2
  exact Option.some.inj (h2.symm.trans h1)
theorem am_cAk (hK : am_K D cA cs L xs (am_A base) s s.heap) {kd : Nat} (k1 : 1 ≤ kd) (k3 : kd ≤ 3) {cB : ClassId} {tys : List (ClassId × FieldType)} (gK : va_K D am_cls (tys ++ [(cB, .object (am_comp kd))]) s) : cB = cA kd := by
  obtain ⟨_, _, _, _, _, h1⟩ := (hK.1.2 kd (cA kd, .object (am_comp kd)) (am_tys_at k1 k3)).2
  obtain ⟨_, _, _, _, _, h2⟩ := (gK.2 tys.length (cB, .object (am_comp kd)) (by simp)).2
  exact Option.some.inj (h2.symm.trans h1)
set_option maxRecDepth 100000 in
theorem am_pArr : Jvm.Cond.arrayClass .int ∈ lw_tbl := List.mem_of_getElem? (i := pArr) rfl
theorem am_in_ok2 {x : Int32} {n : Nat} (h : am_in x n = true) : ¬ x < 0 ∧ x.toNatClampNeg < n := by
  simp only [am_in, Bool.and_eq_true, Bool.not_eq_true', decide_eq_false_iff_not] at h
  exact ⟨h.1, by simpa using h.2⟩
theorem am_s_newa {x : ArrayType} {pc nx : Nat} {v : Int32} {ops : List Nat} {rt : Nat} {ls ls' : ALS} {st st' : List Value} {h h' : AH} {pc' : Nat} (X : am_Cx D cA base cs L xs p R s m args meth c y n0) (hd : decode (mBy y) pc = .ok (.newarray x, nx - pc)) (ho : am_ops y pc nx (.newarray x) v ops = true)
    (hR1 : h'.2.2.2.1 - n0 ≤ R.cells) (hR2 : h'.2.2.2.2 - sl0 ≤ R.slots)
    (hs : am_step (.newarray x, nx, v, ops) rt ls st h = some (.inl (pc', ls', st', h'))) (k : am_W D cA base cs L xs p l e R s m args below meth c y n0 sl0 Q pc' ls' st' h') : am_W D cA base cs L xs p l e R s m args below meth c y n0 sl0 Q pc ls st h := by
  obtain ⟨hx, hb, hml, hown, hnm, hts, hK, hb0, -⟩ := X
  obtain ⟨I, P, S, n, sl⟩ := h
  intro H locs lsA hH hS hl hg hn hsl
  simp only [am_ops, Bool.and_eq_true, decide_eq_true_eq] at ho
  obtain ⟨ho1, rfl⟩ := ho
  have hn1 := am_beq ho1
  replace hd := am_dec hd hn1
  subst hn1
  simp only [am_step] at hs
  split at hs
  · rename_i w r
    cases hb1 : (Nat.blt n 1000 && am_in w 1000000) with
    | false => simp only [hb1] at hs; cases hs
    | true =>
      simp only [hb1, cond_true] at hs
      simp only [Bool.and_eq_true] at hb1
      have hlt : n < 1000 := by simpa using hb1.1
      obtain ⟨hw0, hw1⟩ := am_in_ok2 hb1.2
      cases hs
      simp only at hR1 hR2 hn hsl
      show W p l e R s m args below meth c H locs (n - n0) (sl - sl0) Q (F0 m pc lsA (.int w :: r.map (am_v base cs)))
      have hadd : am_v base cs (Value.ref n) = .ref (base + n) := by
        simp only [am_v, am_ad]; rw [if_pos hlt]
      refine va_newa (atype := .int) (ty := .int) (a0 := (w.toNatClampNeg, .inl (fun _ => 0))) hx hb (hts _ am_pArr rfl) rfl hK.1 hH.1 am_D hS (fun q hq => by show base ≤ q; omega) (fun cB => rfl) hw0 rfl (by show w.toNatClampNeg * 4 ≤ 536870912; omega) (by omega) (by omega) hd (fun q cB H1 gK gP gD gS => ?_)
      refine am_bound (fun hz => ?_)
      have hq := am_fresh gP gD (by omega)
      have hcB := am_cA0 hK gK
      subst hq; subst hcB
      have kw := k H1 locs lsA (am_HpN (kd := 0) (len := w.toNatClampNeg) (I' := va_up I n (fun _ => 0)) (P' := P) hH hlt (Or.inl (by omega)) (fun k hk => by simp [va_up, hk]) (fun k hk => rfl) (by
          rw [show am_el cA base cs (va_up I n (fun _ => 0)) P (va_up S n (0, w.toNatClampNeg)) n = .inl (cA 0, w.toNatClampNeg, .inl (fun _ => 0)) by unfold am_el; simp [va_up]]; exact gP)) gS hl hg (by simp only; omega) (by simp only; omega)
      simp only [List.map_cons, hadd] at kw
      rw [show n - n0 + 1 = n + 1 - n0 by omega, show sl - sl0 + w.toNatClampNeg = sl + w.toNatClampNeg - sl0 by omega]
      exact kw
  · cases hs
theorem am_s_anew {x : Nat} {pc nx : Nat} {v : Int32} {ops : List Nat} {rt : Nat} {ls ls' : ALS} {st st' : List Value} {h h' : AH} {pc' : Nat} (X : am_Cx D cA base cs L xs p R s m args meth c y n0) (hd : decode (mBy y) pc = .ok (.anewarray x, nx - pc)) (ho : am_ops y pc nx (.anewarray x) v ops = true)
    (hR1 : h'.2.2.2.1 - n0 ≤ R.cells) (hR2 : h'.2.2.2.2 - sl0 ≤ R.slots)
    (hs : am_step (.anewarray x, nx, v, ops) rt ls st h = some (.inl (pc', ls', st', h'))) (k : am_W D cA base cs L xs p l e R s m args below meth c y n0 sl0 Q pc' ls' st' h') : am_W D cA base cs L xs p l e R s m args below meth c y n0 sl0 Q pc ls st h := by
  obtain ⟨hx, hb, hml, hown, hnm, hts, hK, hb0, -⟩ := X
  obtain ⟨I, P, S, n, sl⟩ := h
  intro H locs lsA hH hS hl hg hn hsl
  simp only [am_ops, Bool.and_eq_true] at ho
  obtain ⟨ho1, ho⟩ := ho
  have hn1 := am_beq ho1
  replace hd := am_dec hd hn1
  subst hn1
  simp only [am_step] at hs
  split at hs
  · rename_i kd p1 w r
    simp only [Bool.and_eq_true] at ho
    have k1 := Nat.le_of_ble_eq_true ho.1.1
    have k3 := Nat.le_of_ble_eq_true ho.1.2
    cases hb1 : (Nat.blt n 1000 && am_in w 1000000) with
    | false => simp only [hb1] at hs; cases hs
    | true =>
      simp only [hb1, cond_true] at hs
      simp only [Bool.and_eq_true] at hb1
      have hlt : n < 1000 := by simpa using hb1.1
      obtain ⟨hw0, hw1⟩ := am_in_ok2 hb1.2
      cases hs
      simp only at hR1 hR2 hn hsl
      show W p l e R s m args below meth c H locs (n - n0) (sl - sl0) Q (F0 m pc lsA (.int w :: r.map (am_v base cs)))
      have hadd : am_v base cs (Value.ref n) = .ref (base + n) := by
        simp only [am_v, am_ad]; rw [if_pos hlt]
      have hAO : va_AO (am_comp kd) s := by
        rcases (show kd = 1 ∨ kd = 2 ∨ kd = 3 by omega) with rfl | rfl | rfl
        · exact hK.2.2.2.2.2.2.2.1
        · exact hK.2.2.2.2.2.2.2.2.1
        · exact hK.2.2.2.2.2.2.2.2.2
      refine va_newq hx hb hown (hts _ (am_w_in ho.2) rfl) hAO hK.1 hH.1 am_D hS (fun q hq => by show base ≤ q; omega) hw0 rfl (by omega) (by omega) (by omega) hd (fun q cB H1 gK gP gD gS => ?_)
      refine am_bound (fun hz => ?_)
      have hq := am_fresh gP gD (by omega)
      have hcB := am_cAk hK k1 k3 gK
      subst hq; subst hcB
      have kw := k H1 locs lsA (am_HpN (kd := kd) (len := w.toNatClampNeg) (I' := I) (P' := va_up P n (fun _ => none)) hH hlt (Or.inl k3) (fun k hk => rfl) (fun k hk => by simp [va_up, hk]) (by
          rw [show am_el cA base cs I (va_up P n (fun _ => none)) (va_up S n (kd, w.toNatClampNeg)) n = .inl (cA kd, w.toNatClampNeg, .inr (.inr (.inr (.inr (fun _ => none))))) by unfold am_el; simp [va_up, k3, show ¬ kd = 0 by omega]]; exact gP)) gS hl hg (by simp only; omega) (by simp only; omega)
      simp only [List.map_cons, hadd] at kw
      rw [show n - n0 + 1 = n + 1 - n0 by omega, show sl - sl0 + w.toNatClampNeg = sl + w.toNatClampNeg - sl0 by omega]
      exact kw
  · cases hs
end AM6
