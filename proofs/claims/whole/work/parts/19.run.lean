/-! calls, whole runs -/
section AM9
variable {p : Program} {l : Launch} {e : Env} {R : Room} {s : State} {m : MethodId} {args : Array Value} {below : List Frame} {meth : Method} {c : Code} {Q : State → Prop}
variable {D : va_G} {cA : Nat → ClassId} {base : Nat} {cs : Nat → Nat} {L : Nat} {xs : Nat → Int32} {y n0 sl0 : Nat}
set_option maxHeartbeats 4000000 in
theorem am_step_grow {ce : CE} {rt : Nat} {ls ls' : ALS} {st st' : List Value} {h h' : AH} {pc' : Nat} (hs : am_step ce rt ls st h = some (.inl (pc', ls', st', h'))) : h.2.2.2.1 ≤ h'.2.2.2.1 ∧ h.2.2.2.2 ≤ h'.2.2.2.2 := by
  obtain ⟨i, nx, v, ops⟩ := ce
  obtain ⟨I, P, S, n, sl⟩ := h
  cases i <;> simp only [am_step, Bool.cond_eq_ite] at hs <;> (repeat' split at hs) <;> cases hs <;> simp
theorem am_run_grow : ∀ (k d y pc : Nat) (ls : ALS) (st : List Value) (h : AH) (v : Option Value) (h' : AH), am_run k d y pc ls st h = some (v, h') → h.2.2.2.1 ≤ h'.2.2.2.1 ∧ h.2.2.2.2 ≤ h'.2.2.2.2 := by
  intro k
  induction k with
  | zero => intro d y pc ls st h v h' e; simp [am_run] at e
  | succ k ih =>
    intro d y pc ls st h v h' e
    rw [am_run] at e
    cases hc : cd y pc with
    | none => rw [hc] at e; cases e
    | some ce =>
      rw [hc] at e
      simp only at e
      cases hs : am_step ce (mrt y) ls st h with
      | some nx =>
        rw [hs] at e
        cases nx with
        | inl q =>
          obtain ⟨pc', ls', st', h2⟩ := q
          have g1 := am_step_grow hs
          have g2 := ih _ _ _ _ _ _ _ _ e
          omega
        | inr r => simp only [Option.some.injEq, Prod.mk.injEq] at e; obtain ⟨-, rfl⟩ := e; exact ⟨Nat.le_refl _, Nat.le_refl _⟩
      | none =>
        rw [hs] at e
        simp only at e
        cases hl : am_call ce st h with
        | none => rw [hl] at e; cases e
        | some q =>
          obtain ⟨y', as, r⟩ := q
          rw [hl] at e
          cases d with
          | zero => cases e
          | succ d' =>
            simp only at e
            cases hr : am_run k d' y' 0 (am_pad (mml y') (am_lay as)) [] h with
            | none => rw [hr] at e; cases e
            | some q =>
              obtain ⟨v1, h2⟩ := q
              rw [hr] at e
              have g1 := ih _ _ _ _ _ _ _ _ hr
              have g2 := ih _ _ _ _ _ _ _ _ e
              omega
def am_wsy (y : Nat) : List Jvm.Cond := .code (mNm y) (mBy y) (mml y) (mRe y) :: am_good
def am_Pc (D : va_G) (cA : Nat → ClassId) (base : Nat) (cs : Nat → Nat) (L : Nat) (xs : Nat → Int32) (as : List Value) (h : AH) : Array Value → State → Prop := fun a U => a = (as.map (am_v base cs)).toArray ∧ am_Hp D cA base cs L xs h U.heap ∧ am_K D cA cs L xs (am_A base) U U.heap ∧ base + h.2.2.2.1 = U.heap.size
def am_Qc (D : va_G) (cA : Nat → ClassId) (base : Nat) (cs : Nat → Nat) (L : Nat) (xs : Nat → Int32) (v : Option Value) (h : AH) : Array Value → State → Outcome → State → Prop := fun _ st o t => o = .returned (v.map (am_v base cs)) ∧ am_Hp D cA base cs L xs h t.heap ∧ va_F (am_A base) st t
def am_rm (d mc ms : Nat) : Room := { frames := d + 1, cells := mc, slots := ms, locals := 64 * (d + 1) }
def am_Met (l : Launch) (D : va_G) (cA : Nat → ClassId) (base : Nat) (cs : Nat → Nat) (L : Nat) (xs : Nat → Int32) (d y : Nat) (as : List Value) (h : AH) (v : Option Value) (h' : AH) : Prop :=
  Met l (mNm y) (am_wsy y) (am_rm d (h'.2.2.2.1 - h.2.2.2.1) (h'.2.2.2.2 - h.2.2.2.2)) (am_Pc D cA base cs L xs as h) (am_Qc D cA base cs L xs v h') (h'.2.2.2.1 - h.2.2.2.1) (h'.2.2.2.2 - h.2.2.2.2) (am_A base)
theorem am_mfacts {y : Nat} (hy : y < 222) : Jvm.Cond.code (mNm y) (mBy y) (mml y) (mRe y) ∈ lw_tbl ∧ (if mst y then Jvm.Cond.static (mNm y) else Jvm.Cond.instanceMethod (mNm y)) ∈ lw_tbl ∧ Jvm.Cond.initialized (mNm y).cls ∈ lw_tbl ∧ am_rt (mRe y) (mrt y) = true ∧ ((mNm y).cls ≠ "java/lang/invoke/MethodHandle" ∧ (mNm y).cls ≠ "java/lang/invoke/VarHandle" ∧ (parseMethodDescriptor (mNm y).desc).map (fun d => d.parameters.length) = some (mnp y)) ∧ plainFor (mNm y) = true := by
  have hm := am_mchk_all y hy
  unfold am_mchk at hm
  cases hq : am_mt[y]? with
  | none => rw [hq] at hm; cases hm
  | some q =>
    obtain ⟨nm, b, ml, r, np, st, p1, p2, p3⟩ := q
    rw [hq] at hm
    simp only [Bool.and_eq_true, decide_eq_true_eq] at hm
    obtain ⟨⟨⟨⟨⟨⟨⟨m1, m2⟩, m3⟩, m4⟩, m5⟩, m6⟩, m7⟩, m8⟩ := hm
    have e1 : mNm y = nm := by unfold mNm; rw [hq]
    have e2 : mBy y = b := by unfold mBy; rw [hq]
    have e3 : mRe y = r := by unfold mRe; rw [hq]
    have e4 : mnp y = np := by unfold mnp; rw [hq]
    have e5 : mst y = st := by unfold mst; rw [hq]
    rw [e1, e2, e3, e4, e5, ← am_beq m3]
    refine ⟨?_, am_w_in m1, am_w_in m2, m4, ⟨m5, m6, m7⟩, m8⟩
    have h1 : (am_cws.take 222)[y]? = some (.code nm b ml r) := by
      rw [List.getElem?_take_of_lt hy]
      unfold am_cws
      rw [List.getElem?_map, hq]
      rfl
    have h2 := List.mem_of_getElem? h1
    rw [am_cws_ok] at h2
    obtain ⟨q, -, hq2⟩ := List.mem_filterMap.mp h2
    exact List.mem_of_getElem? hq2
theorem am_goodIn {y z : Nat} (hz : z < 222) (args : Array Value) (s : State) : GoodIn (am_wsy y) (am_wsy z) := by
  have hg : ∀ w ∈ am_good, w ∈ am_wsy y ∧ ((w.onTables && w.keeps) = true ∨ ∃ ty, w = .arrayClass ty) := fun w hw => ⟨List.mem_cons_of_mem _ hw, good_of_word (List.mem_filter.mp hw).2⟩
  intro w hw
  rcases List.mem_cons.mp hw with rfl | hw
  · exact hg _ (List.mem_filter.mpr ⟨(am_mfacts hz).1, rfl⟩)
  · exact hg w hw
theorem am_size {h : AH} {H : Heap} {locs : List Loc} (hH : am_Hp D cA base cs L xs h H) (hS : va_S (am_A base) s.heap H locs) (hb0 : base + n0 = s.heap.size) (hn : n0 ≤ h.2.2.2.1) (hz : H.size ≤ s.heap.size + (h.2.2.2.1 - n0)) : base + h.2.2.2.1 = H.size := by
  obtain ⟨I, P, S, n, sl⟩ := h
  simp only at hn hz ⊢
  have h1 : base + n ≤ H.size := by
    by_cases h0 : n = 0
    · have := hS.1; omega
    · have := (hH.1 (n - 1) _ (am_ws_get (by omega))).lt
      simp only at this; omega
  omega
theorem am_gw {w : Jvm.Cond} (h : w ∈ lw_tbl) (hg : goodWord w = true) : w ∈ am_good ∧ ((w.onTables && w.keeps) = true ∨ ∃ ty, w = .arrayClass ty) := ⟨List.mem_filter.mpr ⟨h, hg⟩, good_of_word hg⟩
theorem am_gws {z : Nat} (hz : z < 222) : GoodIn am_good (am_wsy z) := by
  intro w hw
  rcases List.mem_cons.mp hw with rfl | hw
  · exact am_gw (am_mfacts hz).1 rfl
  · exact ⟨hw, good_of_word (List.mem_filter.mp hw).2⟩
theorem am_K.blind {A : Nat → Prop} {U : State} {H : Heap} {g : JFrame} {mk : MethodId} {a : Array Value} (h : am_K D cA cs L xs A U H) : am_K D cA cs L xs A (U.calling g mk a) H := by
  obtain ⟨h1, h2, h3, h4, h5, h6, h7, h8, h9, h10⟩ := h
  have hv : U.vm.Alike (U.calling g mk a).vm := Vm.Alike.refl U.vm
  refine ⟨va_K.moved hv h1, fun i hi => (h2 i hi).moved hv, fun i hi => (h3 i hi).moved hv, h4.moved hv, vk_S.moved hv h5, fun i hi => vk_R.same rfl (h6 i hi), fun w hw hn => ?_, h8.moved hv, h9.moved hv, h10.moved hv⟩
  have hz := h7 w hw hn
  cases w <;> first | (simp [am_nst] at hn; done) | exact va_Nw.same rfl rfl hz
theorem am_blind {as : List Value} {h : AH} : FrameBlind (am_Pc D cA base cs L xs as h) := fun _ _ _ _ q => ⟨q.1, q.2.1, q.2.2.1.blind, q.2.2.2⟩
theorem am_pop_spec : ∀ (n : Nat) (st acc as r : List Value), am_pop n st acc = some (as, r) → ∃ zs, as = zs ++ acc ∧ st = zs.reverse ++ r ∧ zs.length = n := by
  intro n
  induction n with
  | zero => intro st acc as r h; cases h; exact ⟨[], rfl, rfl, rfl⟩
  | succ n ih =>
    intro st acc as r h
    cases st with
    | nil => cases h
    | cons v st =>
      obtain ⟨zs, h1, h2, h3⟩ := ih _ _ _ _ h
      exact ⟨zs ++ [v], by rw [h1]; simp, by rw [h2]; simp, by simp [h3]⟩
theorem am_goOn {H : Heap} {locs : List Loc} {cells slots mc ms pc : Nat} {lsA : Array Slot} {st0 : List Value} {r : List Value} {v : Option Value} {h1 : AH} {a : Array Value}
    (hr : va_Run p l e R s m args below meth c H locs cells slots mc ms (F0 m pc lsA st0) (r.map (am_v base cs)) (am_Qc D cA base cs L xs v h1 a) (am_A base)) (hS : va_S (am_A base) s.heap H locs)
    (kk : ∀ (H1 : Heap) (locs1 : List Loc), am_Hp D cA base cs L xs h1 H1 → va_S (am_A base) s.heap H1 locs1 → W p l e R s m args below meth c H1 locs1 (cells + mc) (slots + ms) Q (F0 m (pc + 3) lsA ((am_push v r).map (am_v base cs)))) : W p l e R s m args below meth c H locs cells slots Q (F0 m pc lsA st0) := by
  intro T hT X
  obtain ⟨v', st₀, t, T', LL, h0, X', hL, e1, e2, ⟨hv, hp, hF⟩, stp⟩ := hr T hT X
  have hv : v' = v.map (am_v base cs) := by injection hv
  subst hv
  rw [va_F, h0] at hF
  obtain ⟨t2, a1, b1⟩ := kk T'.heap (locs ++ LL) (by rw [e1]; exact hp) ⟨Nat.le_trans hS.1 (by rw [e1]; exact hF.1), fun q g1 g2 => by rw [e1, hF.2 q (Nat.lt_of_lt_of_le g1 hS.1) g2]; exact hS.2.1 q g1 g2, fun q hq => by
    rcases List.mem_append.mp hq with hq | hq
    · exact hS.2.2 q hq
    · exact hL q hq⟩ T' rfl X'
  refine ⟨t2, stp t2 ?_, b1⟩
  cases v <;> exact a1
/-- a call, by what is known of the callee -/
theorem am_callW {pc d : Nat} {ce : CE} {ls : ALS} {st as r : List Value} {h h1 : AH} {z : Nat} {v : Option Value} (X : am_Cx D cA base cs L xs p R s m args meth c y n0) (hcd : cd y pc = some ce) (hs : am_step ce (mrt y) ls st h = none) (hc : am_call ce st h = some (z, as, r))
    (hf : d + 2 ≤ R.frames) (hl64 : 64 * (d + 2) ≤ R.locals) (hg1 : h.2.2.2.1 ≤ h1.2.2.2.1 ∧ h.2.2.2.2 ≤ h1.2.2.2.2) (hR1 : h1.2.2.2.1 - n0 ≤ R.cells) (hR2 : h1.2.2.2.2 - sl0 ≤ R.slots)
    (M : z < 222 → am_args z as = true → as.length = mnp z + (bif mst z then 0 else 1) → am_Met l D cA base cs L xs d z as h v h1) (k : am_W D cA base cs L xs p l e R s m args below meth c y n0 sl0 Q ce.2.1 ls (am_push v r) h1) : am_W D cA base cs L xs p l e R s m args below meth c y n0 sl0 Q pc ls st h := by
  obtain ⟨i, nx, w, ops⟩ := ce
  obtain ⟨hd, ho⟩ := am_chk_at hcd
  obtain ⟨hx, hb, hml, hown, hnm, hts, hK, hb0, hf1, hf2⟩ := X
  intro H locs lsA hH hS hl hg hn hsl
  refine am_bound (fun hz => ?_)
  have hsz := am_size hH hS hb0 hn hz
  have hts2 := am_hts hts
  have hgood := am_hts hts
  have hKH : am_K D cA cs L xs (am_A base) s H := hK.kept (fun q g1 g2 => hS.2.1 q g1 g2)
  have hPre : ∀ U : State, U.heap = H → s.WarmedH U.vm → am_Pc D cA base cs L xs as h (as.map (am_v base cs)).toArray U := fun U hU hW => ⟨rfl, by rw [hU]; exact hH, by rw [hU]; exact hKH.warm hW, by rw [hU]; exact hsz⟩
  have hroom : h.2.2.2.1 - n0 + (h1.2.2.2.1 - h.2.2.2.1) ≤ R.cells ∧ h.2.2.2.2 - sl0 + (h1.2.2.2.2 - h.2.2.2.2) ≤ R.slots := by omega
  have hfin : nx = pc + 3 → ∀ (H1 : Heap) (locs1 : List Loc), am_Hp D cA base cs L xs h1 H1 → va_S (am_A base) s.heap H1 locs1 → W p l e R s m args below meth c H1 locs1 (h.2.2.2.1 - n0 + (h1.2.2.2.1 - h.2.2.2.1)) (h.2.2.2.2 - sl0 + (h1.2.2.2.2 - h.2.2.2.2)) Q (F0 m (pc + 3) lsA ((am_push v r).map (am_v base cs))) := by
    intro hnx H1 locs1 g1 g2
    have kw := k H1 locs1 lsA g1 g2 hl hg (by omega) (by omega)
    simp only [hnx] at kw
    exact W.cs (by omega) (by omega) kw
  have hcat := am_cats_eq base cs r
  have hml40 : z < 222 → mml z ≤ 40 := am_mml_le z
  have hrmR : z < 222 → (am_rm d (h1.2.2.2.1 - h.2.2.2.1) (h1.2.2.2.2 - h.2.2.2.2)).frames + 1 ≤ R.frames ∧ 8 + (mml z + 11) + (am_rm d (h1.2.2.2.1 - h.2.2.2.1) (h1.2.2.2.2 - h.2.2.2.2)).locals ≤ R.locals := by
    intro hz
    have := hml40 hz
    show d + 1 + 1 ≤ _ ∧ 8 + (mml z + 11) + 64 * (d + 1) ≤ _
    omega
  unfold am_call at hc
  cases i
  case invokestatic x =>
    simp only [am_call0] at hc
    simp only [am_ops, Bool.and_eq_true] at ho
    obtain ⟨ho1, ho⟩ := ho
    have hn1 := am_beq ho1
    replace hd := am_dec hd hn1
    split at ho
    · simp only at hc; cases hc
    · rename_i z1 a1 p1
      simp only [Bool.and_eq_true] at ho
      simp only at hc
      split at hc
      · rename_i as1 r1 hpop
        cases hb1 : (Nat.ble (am_cats r1) 8 && am_args z1 as1) with
        | false => rw [hb1] at hc; cases hc
        | true =>
          rw [hb1, cond_true] at hc
          cases hc
          simp only [Bool.and_eq_true] at hb1
          obtain ⟨zs, e1, e2, e3⟩ := am_pop_spec _ _ _ _ _ hpop
          rw [List.append_nil] at e1
          subst e1
          have hz : z < 222 := by simpa using ho.1.1.1
          obtain ⟨f1, f2, f3, f4, f5, f6⟩ := am_mfacts hz
          have hst := ho.1.2
          rw [if_pos hst] at f2
          have h8 := Nat.le_of_ble_eq_true hb1.1
          have hnp := am_beq ho.1.1.2
          replace M := M hz hb1.2 (by rw [e3, hnp, hst]; rfl)
          refine am_goOn (va_runS (Ts := am_good) (As := as.map (am_v base cs)) (n := mnp z) ⟨hx, hb, hml, hown, hgood⟩ M (va_cwS (mnp z) hgood ?_ rfl rfl rfl f5 (hrmR hz)) ⟨am_blind, hPre⟩ rfl (by rw [List.length_map, e3, hnp]) hl.1 (by rw [e2]; simp) (by show 2 * 0 + _ ≤ 8; omega) hd hroom) hS (hfin hn1)
          intro w2 hw2
          unfold va_wsS at hw2
          simp only [List.cons_append, List.nil_append, List.mem_cons] at hw2
          rcases hw2 with rfl | rfl | rfl | hw2
          · exact am_gw (am_w_in ho.2) rfl
          · exact am_gw f2 rfl
          · exact am_gw f3 rfl
          · exact am_gws hz w2 hw2
      · cases hc
    · rename_i z1 a1 p1
      simp only [Bool.and_eq_true] at ho
      simp only at hc
      split at hc
      · rename_i as1 r1 hpop
        cases hb1 : (Nat.ble (am_cats r1) 8 && am_args z1 as1) with
        | false => rw [hb1] at hc; cases hc
        | true =>
          rw [hb1, cond_true] at hc
          cases hc
          simp only [Bool.and_eq_true] at hb1
          obtain ⟨zs, e1, e2, e3⟩ := am_pop_spec _ _ _ _ _ hpop
          rw [List.append_nil] at e1
          subst e1
          have hz : z < 222 := by simpa using ho.1.1.1
          obtain ⟨f1, f2, f3, f4, f5, f6⟩ := am_mfacts hz
          have hst := ho.1.2
          rw [if_pos hst] at f2
          have h8 := Nat.le_of_ble_eq_true hb1.1
          have hnp := am_beq ho.1.1.2
          replace M := M hz hb1.2 (by rw [e3, hnp, hst]; rfl)
          exact am_goOn (va_runSN (Ts := am_good) (As := as.map (am_v base cs)) (n := mnp z) ⟨hx, hb, hml, hown, hgood⟩ M ⟨va_cnB (mnp z) hgood (am_gws hz) rfl rfl rfl (hK.2.2.2.2.2.2.1 _ (am_w_in ho.2) rfl) (hts _ f3 rfl) f5 (hrmR hz), hts _ f2 rfl, trivial⟩ ⟨am_blind, hPre⟩ rfl (by rw [List.length_map, e3, hnp]) hl.1 (by rw [e2]; simp) (by show 2 * 0 + _ ≤ 8; omega) hd hroom) hS (hfin hn1)
      · cases hc
    · cases ho
  case invokespecial x =>
    simp only [am_call0] at hc
    simp only [am_ops, Bool.and_eq_true] at ho
    obtain ⟨ho1, ho⟩ := ho
    have hn1 := am_beq ho1
    replace hd := am_dec hd hn1
    split at ho
    · simp only at hc; cases hc
    · rename_i z1 a1 p1
      simp only [Bool.and_eq_true, decide_eq_true_eq, Bool.not_eq_true'] at ho
      simp only at hc
      split at hc
      · rename_i b1 as1 r1 hpop
        cases hb1 : (Nat.ble (am_cats r1) 8 && am_args z1 (.ref b1 :: as1)) with
        | false => rw [hb1] at hc; cases hc
        | true =>
          rw [hb1, cond_true] at hc
          cases hc
          simp only [Bool.and_eq_true] at hb1
          obtain ⟨zs, e1, e2, e3⟩ := am_pop_spec _ _ _ _ _ hpop
          rw [List.append_nil] at e1
          subst e1
          have hz : z < 222 := by simpa using ho.1.1.1.1.1
          obtain ⟨f1, f2, f3, f4, f5, f6⟩ := am_mfacts hz
          have hst := ho.1.1.1.2
          rw [hst, if_neg (by decide)] at f2
          have h8 := Nat.le_of_ble_eq_true hb1.1
          have hnp := am_beq ho.1.1.1.1.2
          have hre : mRe z = none := by
            have q := am_beq ho.2
            rw [q] at f4
            unfold am_rt at f4
            split at f4 <;> first | assumption | (simp_all; done) | cases f4
          have hlen : as1.length = mnp z := by
            simp only [List.length_cons] at e3; omega
          replace M := M hz hb1.2 (by rw [List.length_cons, hlen, hst]; rfl)
          exact am_goOn (va_runI (Ts := am_good) (As := as1.map (am_v base cs)) (b := am_ad base cs b1) (n := mnp z) (bytes := mBy z) (maxL := mml z) ⟨hx, hb, hml, hown, hgood⟩ M (cwI (mnp z) hgood (am_gws hz) (by unfold am_wsy; rw [hre]) rfl rfl (hts _ f3 rfl) (hts _ (am_w_in ho.1.2) rfl) (hts _ f2 rfl) ho.1.1.2 f5 (hrmR hz)) ⟨am_blind, hPre⟩ rfl (by rw [List.length_map, hlen]) hl.1 (by rw [e2]; simp [am_v]) (by show 2 * 0 + _ ≤ 8; omega) hd hroom) hS (hfin hn1)
      · cases hc
    · rename_i z1 a1 p1
      simp only [Bool.and_eq_true, decide_eq_true_eq, Bool.not_eq_true'] at ho
      simp only at hc
      split at hc
      · rename_i b1 as1 r1 hpop
        cases hb1 : (Nat.ble (am_cats r1) 8 && am_args z1 (.ref b1 :: as1)) with
        | false => rw [hb1] at hc; cases hc
        | true =>
          rw [hb1, cond_true] at hc
          cases hc
          simp only [Bool.and_eq_true] at hb1
          obtain ⟨zs, e1, e2, e3⟩ := am_pop_spec _ _ _ _ _ hpop
          rw [List.append_nil] at e1
          subst e1
          have hz : z < 222 := by simpa using ho.1.1.1.1.1
          obtain ⟨f1, f2, f3, f4, f5, f6⟩ := am_mfacts hz
          have hst := ho.1.1.1.2
          rw [hst, if_neg (by decide)] at f2
          have h8 := Nat.le_of_ble_eq_true hb1.1
          have hnp := am_beq ho.1.1.1.1.2
          have hre : mRe z = none := by
            have q := am_beq ho.2
            rw [q] at f4
            unfold am_rt at f4
            split at f4 <;> first | assumption | (simp_all; done) | cases f4
          have hlen : as1.length = mnp z := by
            simp only [List.length_cons] at e3; omega
          replace M := M hz hb1.2 (by rw [List.length_cons, hlen, hst]; rfl)
          exact am_goOn (va_runIN (Ts := am_good) (As := as1.map (am_v base cs)) (b := am_ad base cs b1) (n := mnp z) (bytes := mBy z) (maxL := mml z) ⟨hx, hb, hml, hown, hgood⟩ M ⟨va_cnB (mnp z) hgood (am_gws hz) (by unfold am_wsy; rw [hre]) rfl rfl (hK.2.2.2.2.2.2.1 _ (am_w_in ho.1.2) rfl) (hts _ f3 rfl) f5 (hrmR hz), ho.1.1.2, hts _ f2 rfl⟩ ⟨am_blind, hPre⟩ rfl (by rw [List.length_map, hlen]) hl.1 (by rw [e2]; simp [am_v]) (by show 2 * 0 + _ ≤ 8; omega) hd hroom) hS (hfin hn1)
      · cases hc
    · cases ho
  case invokevirtual x =>
    simp only [am_call0] at hc
    simp only [am_ops, Bool.and_eq_true] at ho
    obtain ⟨ho1, ho⟩ := ho
    have hn1 := am_beq ho1
    replace hd := am_dec hd hn1
    split at ho
    · simp only at hc; cases hc
    · rename_i z1 a1 p1 ci q1
      simp only [Bool.and_eq_true, decide_eq_true_eq, Bool.not_eq_true'] at ho
      simp only at hc
      split at hc
      · rename_i b1 as1 r1 ci1 more1 hpop hmore
        cases hmore
        cases hb1 : (Nat.beq (h.2.2.1 b1).1 (10 + ci) && Nat.ble (am_cats r1) 8 && am_args z1 (.ref b1 :: as1)) with
        | false => rw [hb1] at hc; cases hc
        | true =>
          rw [hb1, cond_true] at hc
          cases hc
          simp only [Bool.and_eq_true] at hb1
          obtain ⟨zs, e1, e2, e3⟩ := am_pop_spec _ _ _ _ _ hpop
          rw [List.append_nil] at e1
          subst e1
          obtain ⟨⟨⟨⟨⟨⟨o1, o2⟩, o3⟩, o4⟩, o5⟩, o6⟩, o7⟩ := ho
          have hz : z < 222 := by simpa using o1
          have hci : ci < 10 := by simpa using o4
          obtain ⟨f1, f2, f3, f4, f5, f6⟩ := am_mfacts hz
          rw [o3, if_neg (by decide)] at f2
          have h8 := Nat.le_of_ble_eq_true hb1.1.2
          have hnp := am_beq o2
          have hlen : as1.length = mnp z := by
            simp only [List.length_cons] at e3; omega
          replace M := M hz hb1.2 (by rw [List.length_cons, hlen, o3]; rfl)
          have hrecv : ∃ cell : Cell, H[am_ad base cs b1]? = some cell ∧ cell.vm.isStatics = false ∧ s.vm.findClass (RXs ci) = some cell.cls := by
            obtain ⟨I, P, S, n, sl⟩ := h
            exact va_recv (q0 := b1) hK.1 hH.1 (am_cls_at hci) (am_objAt hH (am_beq hb1.1.1) hci)
          refine am_goOn (va_runV (Ts := am_good) (C := RXs ci) (As := as1.map (am_v base cs)) (b := am_ad base cs b1) (n := mnp z) (bytes := mBy z) (maxL := mml z) ⟨hx, hb, hml, hown, hgood⟩ M (cwV (mnp z) hgood ?_ rfl rfl rfl ⟨o5, f5⟩ (hrmR hz)) ⟨am_blind, hrecv, hPre⟩ rfl (by rw [List.length_map, hlen]) hl.1 (by rw [e2]; simp [am_v]) (by show 2 * 0 + _ ≤ 8; omega) hd hroom) hS (hfin hn1)
          intro w2 hw2
          unfold wsV at hw2
          simp only [List.cons_append, List.nil_append, List.mem_cons] at hw2
          rcases hw2 with rfl | rfl | rfl | rfl | hw2
          · exact am_gw (am_w_in o6) rfl
          · exact am_gw f2 rfl
          · exact am_gw (am_w_in o7) rfl
          · rw [← o5]; exact am_gw f3 rfl
          · exact am_gws hz w2 hw2
      · cases hc
    · rename_i z1 a1 p1 q1
      simp only [Bool.and_eq_true, decide_eq_true_eq, Bool.not_eq_true'] at ho
      simp only at hc
      split at hc
      · rename_i b1 as1 r1 ci1 more1 hpop hmore
        cases hmore
        cases hb1 : (Nat.beq (h.2.2.1 b1).1 (10 + 20) && Nat.ble (am_cats r1) 8 && am_args z1 (.ref b1 :: as1)) with
        | false => rw [hb1] at hc; cases hc
        | true =>
          rw [hb1, cond_true] at hc
          cases hc
          simp only [Bool.and_eq_true] at hb1
          obtain ⟨zs, e1, e2, e3⟩ := am_pop_spec _ _ _ _ _ hpop
          rw [List.append_nil] at e1
          subst e1
          obtain ⟨⟨⟨⟨⟨o1, o2⟩, o3⟩, o5⟩, o6⟩, o7⟩ := ho
          have hz : z < 222 := by simpa using o1
          obtain ⟨f1, f2, f3, f4, f5, f6⟩ := am_mfacts hz
          rw [o3, if_neg (by decide)] at f2
          have h8 := Nat.le_of_ble_eq_true hb1.1.2
          have hnp := am_beq o2
          have hlen : as1.length = mnp z := by
            simp only [List.length_cons] at e3; omega
          replace M := M hz hb1.2 (by rw [List.length_cons, hlen, o3]; rfl)
          have hrecv : ∃ cell : Cell, H[am_ad base cs b1]? = some cell ∧ cell.vm.isStatics = false ∧ s.vm.findClass "java/lang/String" = some cell.cls := by
            obtain ⟨I, P, S, n, sl⟩ := h
            obtain ⟨i, hi, -, e1, -⟩ := am_strAt hH (am_beq hb1.1.1)
            rw [e1]
            exact vk_recv (adK := fun i => cs (10 + i)) hK.2.2.2.2.1 hi hS
          refine am_goOn (va_runV (Ts := am_good) (C := "java/lang/String") (As := as1.map (am_v base cs)) (b := am_ad base cs b1) (n := mnp z) (bytes := mBy z) (maxL := mml z) ⟨hx, hb, hml, hown, hgood⟩ M (cwV (mnp z) hgood ?_ rfl rfl rfl ⟨o5, f5⟩ (hrmR hz)) ⟨am_blind, hrecv, hPre⟩ rfl (by rw [List.length_map, hlen]) hl.1 (by rw [e2]; simp [am_v]) (by show 2 * 0 + _ ≤ 8; omega) hd hroom) hS (hfin hn1)
          intro w2 hw2
          unfold wsV at hw2
          simp only [List.cons_append, List.nil_append, List.mem_cons] at hw2
          rcases hw2 with rfl | rfl | rfl | rfl | hw2
          · exact am_gw (am_w_in o6) rfl
          · exact am_gw f2 rfl
          · exact am_gw (am_w_in o7) rfl
          · rw [← o5]; exact am_gw f3 rfl
          · exact am_gws hz w2 hw2
      · cases hc
    · cases ho
  all_goals (simp only at hc; cases hc)
end AM9
