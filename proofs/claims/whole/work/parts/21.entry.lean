/-! THE LAW'S ENTRY: the claim out of a run of the abstract machine -/
def am_h0 (L : Nat) (xs : Nat → Int32) : AH := (fun a j => if a < 1000 then 0 else am_cI xs (a - 1000) j, fun a j => if a < 1000 then none else am_cP (a - 1000) j, fun a => if a < 1000 then (99, 0) else am_cS L (a - 1000), 0, 0)
abbrev am_flat : Jvm.Cond := Jvm.Cond.and given_1 narrow_1
def am_w1 (i : Nat) : Jvm.Cond := .arrayOf (.static (sC i) (sNm i) "[I") .int
def am_w2 (i : Nat) : Jvm.Cond := .eq (.length (.static (sC i) (sNm i) "[I")) (.int (Int32.ofNat (am_cS 0 i).2))
def am_w3 (i j : Nat) : Jvm.Cond := .eq (.elem (.static (sC i) (sNm i) "[I") (.int (Int32.ofNat j))) (.int (am_cI (fun _ => 0) i j))
def am_tm (i : Nat) : Term := .string RX2 (sIdx i)
theorem am_eq1 {args : Array Value} {s : State} {a b : Term} (h : (Jvm.Cond.eq a b).before args s = true) : ∃ w, a.eval args s none [] s = some w ∧ b.eval args s none [] s = some w := Cond.eq_one h
theorem am_fl1 : ∀ i, i < 3 → am_w1 i ∈ flatC am_flat := by decide +kernel
theorem am_fl2 : ∀ i, i < 3 → am_w2 i ∈ flatC am_flat := by decide +kernel
theorem am_fl3 : ∀ i, i < 3 → ∀ j, j < (am_cS 0 i).2 → am_w3 i j ∈ flatC am_flat := by decide +kernel
theorem am_fl4 : Jvm.Cond.eq (.static "java/lang/String" "COMPACT_STRINGS" "Z") (.int 1) ∈ flatC am_flat := by decide +kernel
theorem am_fl5 : ∀ i, i < 8 → Jvm.Cond.exactly (am_tm i) "java/lang/String" ∈ flatC am_flat := by decide +kernel
theorem am_fl6 : ∀ i, i < 8 → Jvm.Cond.eq (.field (am_tm i) "java/lang/String" "coder" "B") (.int 0) ∈ flatC am_flat := by decide +kernel
theorem am_fl7 : ∀ i, i < 8 → Jvm.Cond.arrayOf (.field (am_tm i) "java/lang/String" "value" "[B") .byte ∈ flatC am_flat := by decide +kernel
theorem am_fl8 : ∀ i, i < 8 → Jvm.Cond.eq (.length (.field (am_tm i) "java/lang/String" "value" "[B")) (.int (Int32.ofNat (am_len.getD i 0))) ∈ flatC am_flat := by decide +kernel
theorem am_fl9 : ∀ i, i < 8 → ∀ j, j < am_len.getD i 0 → Jvm.Cond.eq (.elem (.field (am_tm i) "java/lang/String" "value" "[B") (.int (Int32.ofNat j))) (.int ((am_byt.getD i []).getD j 0)) ∈ flatC am_flat := by decide +kernel
theorem am_fl10 : ∀ i, i < 8 → ∀ j, j < 8 → i ≠ j → Jvm.Cond.not (.eq (am_tm i) (am_tm j)) ∈ flatC am_flat ∨ Jvm.Cond.not (.eq (am_tm j) (am_tm i)) ∈ flatC am_flat := by decide +kernel
def pLay (i : Nat) : Nat := match i with | 0 => 464 | 1 => 473 | _ => 816
def pSini (i : Nat) : Nat := match i with | 0 => 68 | 1 => 71 | _ => 75
def pSref (i : Nat) : Nat := match i with | 0 => 226 | 1 => 527 | 2 => 528 | 3 => 645 | 4 => 646 | 5 => 647 | 6 => 648 | _ => 649
set_option maxRecDepth 100000 in
theorem am_wLay {i : Nat} (h : i < 3) : Jvm.Cond.laysStatic (sC i) (sNm i) "[I" ∈ lw_tbl := by
  refine List.mem_of_getElem? (i := pLay i) ?_
  rcases (show i = 0 ∨ i = 1 ∨ i = 2 by omega) with rfl | rfl | rfl <;> rfl
set_option maxRecDepth 100000 in
theorem am_wSini {i : Nat} (h : i < 3) : Jvm.Cond.initialized (sC i) ∈ lw_tbl := by
  refine List.mem_of_getElem? (i := pSini i) ?_
  rcases (show i = 0 ∨ i = 1 ∨ i = 2 by omega) with rfl | rfl | rfl <;> rfl
set_option maxRecDepth 100000 in
theorem am_wSref {i : Nat} (h : i < 8) : Jvm.Cond.stringRef RX2 (sIdx i) (sTx i) ∈ lw_tbl := by
  refine List.mem_of_getElem? (i := pSref i) ?_
  rcases (show i = 0 ∨ i = 1 ∨ i = 2 ∨ i = 3 ∨ i = 4 ∨ i = 5 ∨ i = 6 ∨ i = 7 by omega) with rfl | rfl | rfl | rfl | rfl | rfl | rfl | rfl <;> rfl
set_option maxRecDepth 100000 in
theorem am_wCs : Jvm.Cond.laysStatic "java/lang/String" "COMPACT_STRINGS" "Z" ∈ lw_tbl := List.mem_of_getElem? (i := 569) rfl
set_option maxRecDepth 100000 in
theorem am_wCsi : Jvm.Cond.initialized "java/lang/String" ∈ lw_tbl := List.mem_of_getElem? (i := 81) rfl
set_option maxRecDepth 100000 in
theorem am_wOv {kd : Nat} (h1 : 1 ≤ kd) (h3 : kd ≤ 3) : Jvm.Cond.arrayOver (.object (am_comp kd)) ∈ lw_tbl := by
  refine List.mem_of_getElem? (i := pOver kd) ?_
  rcases (show kd = 1 ∨ kd = 2 ∨ kd = 3 by omega) with rfl | rfl | rfl <;> rfl
theorem am_entryK {b L : Nat} {xs : Nat → Int32} {s : State} (hL : L ≤ 384) (hts : ∀ w ∈ lw_tbl, w.before #[Value.ref b] s = true) (hX : va_X b L xs s s.heap) (hbl : b < s.heap.size) (hgv : am_flat.before #[Value.ref b] s = true) :
    ∃ (D : va_G) (cA : Nat → ClassId) (cs : Nat → Nat), cs 3 = b ∧ am_K D cA cs L xs (am_A s.heap.size) s s.heap := by
  have hq := flat_of_before _ hgv
  have hA : ∀ a : Nat, a < s.heap.size → ¬ am_A s.heap.size a := fun a h1 h2 => Nat.not_le.mpr h1 h2
  -- the classes
  have hKn : ∀ ci, ∃ q : ClassId × (Nat → Nat), ci < 10 → u_Kn s (RXs ci) (TXs ci) (fN ci) q.1 q.2 := by
    intro ci
    by_cases hci : ci < 10
    · obtain ⟨c, iS, h⟩ := u_known (ws := am_good) (C := RXs ci) (T := TXs ci) (N := fN ci) (n := fN ci) (fun w hw => hts w (List.mem_filter.mp hw).1) (am_in_ok hci) (hts _ (am_pIns hci))
      exact ⟨(c, iS), fun _ => h⟩
    · exact ⟨(0, fun _ => 0), fun h => absurd h hci⟩
  obtain ⟨fK, hfK⟩ : ∃ fK : Nat → ClassId × (Nat → Nat), ∀ ci, ci < 10 → u_Kn s (RXs ci) (TXs ci) (fN ci) (fK ci).1 (fK ci).2 := ⟨fun ci => (hKn ci).choose, fun ci => (hKn ci).choose_spec⟩
  -- rows' classes
  obtain ⟨c0, k0, comp0, a1, a2, a3⟩ := Cond.arrayClass_spec (hts _ am_pArr)
  have hOv : ∀ kd, ∃ c : ClassId, 1 ≤ kd → kd ≤ 3 → ArrOfT s c (.object (am_comp kd)) ∧ va_RA s c (.object (am_comp kd)) := by
    intro kd
    by_cases h1 : 1 ≤ kd ∧ kd ≤ 3
    · obtain ⟨comp, c, k, g1, g2, g3, g4, g5⟩ := Cond.arrayOver_spec (hts _ (am_wOv h1.1 h1.2))
      exact ⟨c, fun _ _ => ⟨fun n z => ⟨(fun k h => by cases h), k, g3, comp, g4⟩, k, comp, g3, g4, g1, g5⟩⟩
    · exact ⟨0, fun h2 h3 => absurd ⟨h2, h3⟩ h1⟩
  obtain ⟨fO, hfO⟩ : ∃ fO : Nat → ClassId, ∀ kd, 1 ≤ kd → kd ≤ 3 → ArrOfT s (fO kd) (.object (am_comp kd)) ∧ va_RA s (fO kd) (.object (am_comp kd)) := ⟨fun kd => (hOv kd).choose, fun kd => (hOv kd).choose_spec⟩
  -- the statics
  have hSt : ∀ i, ∃ t : Nat, i < 3 → va_Z (sC i) (sNm i) "[I" (.ref t) (am_A s.heap.size) s s.heap ∧ va_T .int t (am_cS L i).2 (fun j => .int (am_cI xs i j)) (am_A s.heap.size) s s.heap := by
    intro i
    by_cases hi : i < 3
    · have e1 : (am_cS L i).2 = (am_cS 0 i).2 := by rcases (show i = 0 ∨ i = 1 ∨ i = 2 by omega) with rfl | rfl | rfl <;> rfl
      have e2 : ∀ j, am_cI xs i j = am_cI (fun _ => 0) i j := by
        intro j; rcases (show i = 0 ∨ i = 1 ∨ i = 2 by omega) with rfl | rfl | rfl <;> rfl
      have e3 : (am_cS 0 i).2 < 2 ^ 31 := by rcases (show i = 0 ∨ i = 1 ∨ i = 2 by omega) with rfl | rfl | rfl <;> decide
      obtain ⟨w2, g1, g2⟩ := am_eq1 (hq _ (am_fl2 i hi))
      obtain ⟨t, ht, hT⟩ := va_Tof (A := am_A s.heap.size) (f := fun j => .int (am_cI xs i j)) e3 (hq _ (am_fl1 i hi)) (by rw [g1]; cases g2; rfl) (fun j hj => by
        obtain ⟨w3, g3, g4⟩ := am_eq1 (hq _ (am_fl3 i hi j hj))
        rw [g3, ← g4]
        show some (Value.int (am_cI (fun _ => 0) i j)) = _
        rw [e2]) hA
      rw [e1]
      exact ⟨t, fun _ => ⟨va_Zof (hts _ (am_wLay hi)) (hts _ (am_wSini hi)) ht hA, hT⟩⟩
    · exact ⟨0, fun h => absurd h hi⟩
  obtain ⟨fS, hfS⟩ : ∃ fS : Nat → Nat, ∀ i, i < 3 → va_Z (sC i) (sNm i) "[I" (.ref (fS i)) (am_A s.heap.size) s s.heap ∧ va_T .int (fS i) (am_cS L i).2 (fun j => .int (am_cI xs i j)) (am_A s.heap.size) s s.heap := ⟨fun i => (hSt i).choose, fun i => (hSt i).choose_spec⟩
  obtain ⟨w4, g5, g6⟩ := am_eq1 (hq _ am_fl4)
  -- the texts
  obtain ⟨adK, adV, hSt2, hev⟩ := vk_Sof (N := 8) (tm := am_tm) (len := am_len) (byt := am_byt) (A := am_A s.heap.size) (by decide) (fun i hi => hq _ (am_fl5 i hi)) (fun i hi => hq _ (am_fl6 i hi)) (fun i hi => hq _ (am_fl7 i hi)) (fun i hi => hq _ (am_fl8 i hi)) (fun i hi j hj => hq _ (am_fl9 i hi j hj)) (fun i j hi hj hij => (am_fl10 i hi j hj hij).imp (hq _) (hq _)) hA
  have hscr : va_T .int b L (fun j => .int (xs j)) (am_A s.heap.size) s s.heap := by
    obtain ⟨scr, x1, x2, x3, x4, x5⟩ := hX
    exact ⟨scr, x1, x2, x3, by omega, by rw [x4], x5, hA b hbl⟩
  refine ⟨(fun ci => (fK ci).1, fun ci => (fK ci).2), fun kd => if kd = 0 then c0 else fO kd, fun k => if k < 3 then fS k else if k = 3 then b else if k < 30 then adK (k - 10) else adV (k - 30), rfl, ⟨fun ci q hc => ?_, fun k q hk => ?_⟩, fun i hi => ?_, fun i hi => ?_, ?_, ⟨fun i hi => ?_, fun i j hi hj he => ?_⟩, fun i hi => ?_, fun w hw hn => ?_, va_AO.of (hts _ (am_wOv (kd := 1) (by omega) (by omega))), va_AO.of (hts _ (am_wOv (kd := 2) (by omega) (by omega))), va_AO.of (hts _ (am_wOv (kd := 3) (by omega) (by omega)))⟩
  · have hci : ci < 10 := (List.getElem?_eq_some_iff.mp hc).1
    rw [am_cls_at hci] at hc
    cases hc
    exact hfK ci hci
  · have hk4 : k < 4 := (List.getElem?_eq_some_iff.mp hk).1
    rcases (show k = 0 ∨ k = 1 ∨ k = 2 ∨ k = 3 by omega) with rfl | rfl | rfl | rfl
    · cases hk; exact ⟨fun n z => ⟨(fun k h => by cases h), k0, a2, comp0, a3⟩, a1⟩
    · cases hk; exact hfO 1 (by omega) (by omega)
    · cases hk; exact hfO 2 (by omega) (by omega)
    · cases hk; exact hfO 3 (by omega) (by omega)
  · simp only [hi, if_true]; exact (hfS i hi).1
  · by_cases h3 : i < 3
    · simp only [h3, if_true]; exact (hfS i h3).2
    · have : i = 3 := by omega
      subst this
      exact hscr
  · exact va_Zof (hts _ am_wCs) (hts _ am_wCsi) (by rw [g5]; cases g6; rfl) hA
  · have z1 : ¬ 10 + i < 3 := by omega
    have z2 : ¬ 10 + i = 3 := by omega
    have z3 : 10 + i < 30 := by omega
    have z4 : ¬ 30 + i < 3 := by omega
    have z5 : ¬ 30 + i = 3 := by omega
    have z6 : ¬ 30 + i < 30 := by omega
    simp only [z1, z2, z3, z4, z5, z6, if_true, if_false, Nat.add_sub_cancel_left]
    exact hSt2.1 i hi
  · have z1 : ¬ 10 + i < 3 := by omega
    have z2 : ¬ 10 + i = 3 := by omega
    have z3 : 10 + i < 30 := by omega
    have y1 : ¬ 10 + j < 3 := by omega
    have y2 : ¬ 10 + j = 3 := by omega
    have y3 : 10 + j < 30 := by omega
    simp only [z1, z2, z3, y1, y2, y3, if_true, if_false, Nat.add_sub_cancel_left] at he
    exact hSt2.2 i j hi hj he
  · have z1 : ¬ 10 + i < 3 := by omega
    have z2 : ¬ 10 + i = 3 := by omega
    have z3 : 10 + i < 30 := by omega
    simp only [z1, z2, z3, if_true, if_false, Nat.add_sub_cancel_left]
    exact vk_R.of (hts _ (am_wSref hi)) (hev i hi)
  · have := hts w hw
    cases w <;> first | (simp [am_nst] at hn; done) | exact va_Nw.of rfl this
theorem am_entryH {D : va_G} {cA : Nat → ClassId} {base : Nat} {cs : Nat → Nat} {L : Nat} {xs : Nat → Int32} {H : Heap} : am_Hp D cA base cs L xs (am_h0 L xs) H := by
  refine ⟨fun k q hk => ?_, ⟨by omega, fun a _ h2 => ?_, fun a h => absurd h (Nat.not_lt_zero a)⟩, fun z => ⟨?_, fun j => ?_, fun j => ?_⟩⟩
  · exact absurd (am_ws_at hk).1 (Nat.not_lt_zero k)
  · simp [h2]
  · simp; intro h; omega
  · simp; intro h; omega
  · simp; intro h; omega
theorem am_W_mono {p : Program} {l : Launch} {e : Env} {R : Room} {s : State} {m : MethodId} {args : Array Value} {below : List Frame} {meth : Method} {c : Code} {H : Heap} {locs : List Loc} {cells slots : Nat} {Q Q' : State → Prop} {g : JFrame} (h : ∀ t, Q t → Q' t) (k : W p l e R s m args below meth c H locs cells slots Q g) : W p l e R s m args below meth c H locs cells slots Q' g := fun T hT X => by
  obtain ⟨t, a, b⟩ := k T hT X
  exact ⟨t, a, h t b⟩
/-- what is left: the law's run in the abstract machine -/
def LawRuns : Prop := ∀ (L : Nat) (xs : Nat → Int32), L ≤ 384 → Ct 300 y_law [.ref 1003] (am_h0 L xs) (fun r h' => r = some (.int 1) ∧ h'.2.2.2.1 ≤ 1000 ∧ h'.2.2.2.2 ≤ 1000000)
theorem whole_of (LR : LawRuns) {p : Program} {e : Env} {s : State} {m : MethodId} {below : List Frame} {meth : Method} {c : Code} (l : Launch) {b L : Nat} {xs : Nat → Int32} (hL : L ≤ 384) (C0 : lw_At p s m meth c b L xs) : W p l e room_1 s m #[Value.ref b] below meth c s.heap [] 0 0 (lw_Z below #[Value.ref b] s) (entryFrame m ([Value.ref b] : List Value).toArray 4) := by
  obtain ⟨hx, hb, hr, hml, hown, hts, hX, hbl, hlocks, hgv⟩ := C0
  obtain ⟨D, cA, cs, hcs, hK⟩ := am_entryK hL hts hX hbl hgv
  obtain ⟨k, r, h', hrun, rfl, hn1, hn2⟩ := LR L xs hL
  have X : am_Cx D cA s.heap.size cs L xs p room_1 s m #[Value.ref b] meth c y_law 0 := ⟨hx, hb, hml, hown, fun h => absurd h (by decide +kernel), fun w hw _ => hts w hw, hK, rfl, by decide, by decide⟩
  have hl := lv_entry ([.ref b]) (n := 4) (Nat.le_of_ble_eq_true rfl)
  rw [lg_entry_eq]
  generalize (lg_sl ([.ref b]) ++ List.replicate (4 - (lg_sl ([.ref b])).length) Slot.unset).toArray = ls at hl ⊢
  have hl2 : lv_has ls (mml y_law) (am_lv s.heap.size cs 0 (am_pad (mml y_law) (am_lay [.ref 1003]))) := by
    have e1 : am_lv s.heap.size cs 0 (am_pad (mml y_law) (am_lay [.ref 1003])) = [(0, .ref b)] := by
      show [(0, am_v s.heap.size cs (.ref 1003))] = _
      show [(0, Value.ref (cs 3))] = _
      rw [hcs]
    rw [e1]
    exact hl
  have hg2 : am_Lg y_law (am_pad (mml y_law) (am_lay [.ref 1003])) := by
    intro i v hv
    have := am_pad_get _ _ _ _ hv
    match i, this with
    | 0, this => cases this; exact Or.inl rfl
    | i + 1, this => cases this
  refine am_runW l D cA s.heap.size cs L xs k 300 y_law 0 _ [] (am_h0 L xs) _ h' hrun p e room_1 s m #[Value.ref b] below meth c (lw_Z below #[Value.ref b] s) 0 0 X (by decide) (by decide) (by show h'.2.2.2.1 - 0 ≤ 600000; omega) (by show h'.2.2.2.2 - 0 ≤ 7302250; omega) ?_ s.heap [] ls am_entryH va_S.rf hl2 hg2 (Nat.le_refl 0) (Nat.le_refl 0)
  intro pcr lsr str ce hcd hs H locs lsA hH hS hl hg hn hsl
  obtain ⟨i, nx, w, ops⟩ := ce
  obtain ⟨hd, ho⟩ := am_chk_at hcd
  obtain ⟨I, P, S, n, sl⟩ := h'
  cases i
  case ireturn =>
    have hn3 : nx = pcr + 1 := am_beq ho
    replace hd := am_dec hd hn3
    simp only [am_step] at hs
    split at hs
    · rename_i x
      have hx1 : x = 1 := by
        simp only [Bool.cond_eq_ite] at hs
        (repeat' split at hs) <;> first | (cases hs; rfl) | (simp_all; done)
      subst hx1
      refine va_forget (fun q hq => hS.2.2 q hq) ?_
      exact W.widen (k := 600000) (n := 7302250) (by show n - 0 ≤ _; simp only at hn1; omega) (by show sl - 0 ≤ _; simp only at hn2; omega) (lw_ret hx hb hr hlocks hd)
    · cases hs
  all_goals (exfalso; simp only [am_step, Bool.cond_eq_ite] at hs; (repeat' split at hs) <;> cases hs)
