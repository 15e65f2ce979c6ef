/-! switches, fields, rows -/
section AM3
variable {p : Program} {l : Launch} {e : Env} {R : Room} {s : State} {m : MethodId} {args : Array Value} {below : List Frame} {meth : Method} {c : Code} {Q : State → Prop}
variable {D : va_G} {cA : Nat → ClassId} {base : Nat} {cs : Nat → Nat} {L : Nat} {xs : Nat → Int32} {y n0 sl0 : Nat}
theorem am_ts_spec (x : Int32) (d : Nat) : ∀ (ts : List Nat) (lo : Nat), (∃ j t, ts[j]? = some t ∧ x = nI (lo + j) ∧ am_ts x lo ts d = t) ∨ ((∀ j, j < ts.length → x ≠ nI (lo + j)) ∧ am_ts x lo ts d = d) := by
  intro ts
  induction ts with
  | nil => intro lo; exact Or.inr ⟨fun j hj => absurd hj (Nat.not_lt_zero j), rfl⟩
  | cons t ts ih =>
    intro lo
    by_cases hx : x = nI lo
    · exact Or.inl ⟨0, t, rfl, hx, if_pos hx⟩
    · rcases ih (lo + 1) with ⟨j, t', h1, h2, h3⟩ | ⟨h1, h2⟩
      · exact Or.inl ⟨j + 1, t', h1, by rw [h2]; congr 1; omega, by rw [am_ts, if_neg hx]; exact h3⟩
      · refine Or.inr ⟨fun j hj => ?_, by rw [am_ts, if_neg hx]; exact h2⟩
        cases j with
        | zero => exact hx
        | succ j =>
          have := h1 j (by simpa using hj)
          rwa [show lo + 1 + j = lo + (j + 1) by omega] at this
theorem am_nI_of {x : Int32} {k : Nat} (hk : k < 2 ^ 31) (h : x.toInt = (k : Int)) : x = nI k := by
  apply Int32.toInt_inj.mp
  rw [nI_toInt hk]; exact h
theorem am_s_tsw {d lo hi : Int} {offs : Array Int} {pc nx : Nat} {v : Int32} {ops : List Nat} {rt : Nat} {ls ls' : ALS} {st st' : List Value} {h h' : AH} {pc' : Nat} (X : am_Cx D cA base cs L xs p R s m args meth c y n0) (hd : decode (mBy y) pc = .ok (.tableswitch d lo hi offs, nx - pc)) (ho : am_ops y pc nx (.tableswitch d lo hi offs) v ops = true)
    (hs : am_step (.tableswitch d lo hi offs, nx, v, ops) rt ls st h = some (.inl (pc', ls', st', h'))) (k : am_W D cA base cs L xs p l e R s m args below meth c y n0 sl0 Q pc' ls' st' h') : am_W D cA base cs L xs p l e R s m args below meth c y n0 sl0 Q pc ls st h := by
  obtain ⟨hx, hb, -⟩ := X
  obtain ⟨I, P, S, n, sl⟩ := h
  intro H locs lsA hH hS hl hg hn hsl
  simp only [am_ops] at ho
  split at ho
  · rename_i dd l1 ts
    simp only [Bool.and_eq_true, decide_eq_true_eq] at ho
    obtain ⟨⟨⟨⟨o1, o2⟩, o3⟩, o4⟩, o5⟩ := ho
    have hbig : l1 + ts.length < 1000000 := by simpa using o5
    simp only [am_step] at hs
    split at hs
    · rename_i x r hq
      cases hq
      cases hs
      rcases am_ts_spec x dd ts l1 with ⟨j, t, h1, h2, h3⟩ | ⟨h1, h2⟩
      · rw [h3] at k
        have hj : j < ts.length := (List.getElem?_eq_some_iff.mp h1).1
        have hxi : x.toInt = ((l1 + j : Nat) : Int) := by rw [h2]; exact nI_toInt (by omega)
        have hof : (offs.toList.map (fun o => (pc : Int) + o))[j]? = some (t : Int) := by rw [o4, List.getElem?_map, h1]; rfl
        rw [List.getElem?_map] at hof
        obtain ⟨off, g1, g2⟩ := Option.map_eq_some_iff.mp hof
        refine lv_tableIn hx hb hd (by rw [hxi, o2]; omega) (by rw [hxi, o3]; omega) (off := off) ?_ g2 (k H locs lsA hH hS hl hg hn hsl)
        rw [hxi, o2, show (((l1 + j : Nat) : Int) - (l1 : Int)).toNat = j by omega, ← Array.getElem?_toList]
        exact g1
      · rw [h2] at k
        refine lv_tableOut hx hb hd ?_ o1 (k H locs lsA hH hS hl hg hn hsl)
        by_cases hlo : x.toInt < lo
        · exact Or.inl hlo
        · right
          by_cases hhi : hi < x.toInt
          · exact hhi
          · exfalso
            rw [o2] at hlo
            rw [o3] at hhi
            refine h1 (x.toInt - (l1 : Int)).toNat (by omega) (am_nI_of (by omega) (by omega))
    · cases hs
  · cases ho
theorem am_ls_spec (x : Int32) (pc : Nat) (d : Int) (dd : Nat) (hd : (pc : Int) + d = (dd : Int)) : ∀ (ps : List (Int × Int)) (r : List Nat), ps.map (fun q => (q.1, (pc : Int) + q.2)) = am_prs r → r.all (fun k => Nat.blt k 1000000) = true → (pc : Int) + Op.lookupswitch.offset ps d x.toInt = (am_ls x r dd : Nat) := by
  intro ps
  induction ps with
  | nil =>
    intro r hr hb
    have : am_ls x r dd = dd := by
      match r, hr with
      | [], _ => rfl
      | [_], _ => rfl
      | _ :: _ :: _, hr => simp [am_prs] at hr
    rw [this]
    exact hd
  | cons q ps ih =>
    intro r hr hb
    match r, hr, hb with
    | [], hr, _ => simp [am_prs] at hr
    | [_], hr, _ => simp [am_prs] at hr
    | k :: t :: r, hr, hb =>
      simp only [List.map_cons, am_prs, List.cons.injEq, Prod.mk.injEq] at hr
      obtain ⟨⟨e1, e2⟩, e3⟩ := hr
      simp only [List.all_cons, Bool.and_eq_true] at hb
      have hk : k < 1000000 := by simpa using hb.1
      have ih' := ih r e3 hb.2.2
      by_cases hx : x = nI k
      · have hxi : x.toInt = (k : Int) := by rw [hx]; exact nI_toInt (by omega)
        rw [am_ls, if_pos hx]
        simp only [Op.lookupswitch.offset, e1, hxi] 
        simpa using e2
      · have hxi : ¬ x.toInt = (k : Int) := fun q => hx (am_nI_of (by omega) q)
        rw [am_ls, if_neg hx, ← ih']
        simp [Op.lookupswitch.offset, e1, hxi, Ne.symm hxi]
theorem am_s_lsw {d : Int} {ps : Array (Int × Int)} {pc nx : Nat} {v : Int32} {ops : List Nat} {rt : Nat} {ls ls' : ALS} {st st' : List Value} {h h' : AH} {pc' : Nat} (X : am_Cx D cA base cs L xs p R s m args meth c y n0) (hd : decode (mBy y) pc = .ok (.lookupswitch d ps, nx - pc)) (ho : am_ops y pc nx (.lookupswitch d ps) v ops = true)
    (hs : am_step (.lookupswitch d ps, nx, v, ops) rt ls st h = some (.inl (pc', ls', st', h'))) (k : am_W D cA base cs L xs p l e R s m args below meth c y n0 sl0 Q pc' ls' st' h') : am_W D cA base cs L xs p l e R s m args below meth c y n0 sl0 Q pc ls st h := by
  obtain ⟨hx, hb, -⟩ := X
  obtain ⟨I, P, S, n, sl⟩ := h
  intro H locs lsA hH hS hl hg hn hsl
  simp only [am_ops] at ho
  split at ho
  · rename_i dd r1
    simp only [Bool.and_eq_true, decide_eq_true_eq] at ho
    obtain ⟨⟨⟨o1, o2⟩, o3⟩, o4⟩ := ho
    simp only [am_step] at hs
    split at hs
    · rename_i x r hq
      cases hq
      cases hs
      exact lv_lookup hx hb hd o3 rfl (am_ls_spec x pc d dd o1 ps.toList r1 o2 o4) (k H locs lsA hH hS hl hg hn hsl)
    · cases hs
  · cases ho
end AM3
