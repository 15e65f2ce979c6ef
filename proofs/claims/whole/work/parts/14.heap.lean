/-! fields, rows -/
section AM4
variable {p : Program} {l : Launch} {e : Env} {R : Room} {s : State} {m : MethodId} {args : Array Value} {below : List Frame} {meth : Method} {c : Code} {Q : State → Prop}
variable {D : va_G} {cA : Nat → ClassId} {base : Nat} {cs : Nat → Nat} {L : Nat} {xs : Nat → Int32} {y n0 sl0 : Nat}
def tyXs (ci : Nat) : Nat → FieldType := match ci with | 0 => tyX0 | 1 => tyX1 | 2 => tyX2 | 3 => tyX3 | 4 => tyX4 | 5 => tyX5 | 6 => tyX6 | 7 => tyX7 | 8 => tyX8 | _ => tyX9
def am_tyc (ci k : Nat) : Bool := match fTy ci k, tyXs ci k with
  | 0, .int => true
  | 2, .boolean => true
  | 1, .object _ => true
  | 1, .array _ => true
  | _, _ => false
theorem am_tyc_ok : ∀ ci, ci < 10 → ∀ k, k < fN ci → am_tyc ci k = true := by decide +kernel
theorem am_lt10 {ci : Nat} (h : ci < 10) : ci = 0 ∨ ci = 1 ∨ ci = 2 ∨ ci = 3 ∨ ci = 4 ∨ ci = 5 ∨ ci = 6 ∨ ci = 7 ∨ ci = 8 ∨ ci = 9 := by omega
theorem am_cls_at {ci : Nat} (h : ci < 10) : am_cls[ci]? = some (RXs ci, TXs ci, fN ci) := by
  rcases am_lt10 h with rfl | rfl | rfl | rfl | rfl | rfl | rfl | rfl | rfl | rfl <;> rfl
theorem am_ty_ok {ci : Nat} (h : ci < 10) : ∀ k, k < fN ci → parseFieldDescriptor (TXs ci k).2.2.1 = some (tyXs ci k) := by
  rcases am_lt10 h with rfl | rfl | rfl | rfl | rfl | rfl | rfl | rfl | rfl | rfl
  · exact tyX0_ok
  · exact tyX1_ok
  · exact tyX2_ok
  · exact tyX3_ok
  · exact tyX4_ok
  · exact tyX5_ok
  · exact tyX6_ok
  · exact tyX7_ok
  · exact tyX8_ok
  · exact tyX9_ok
theorem am_nm_ok {ci : Nat} (h : ci < 10) : ∀ a, a < fN ci → ∀ b, b < fN ci → a ≠ b → (TXs ci a).2.1 ≠ (TXs ci b).2.1 := by
  rcases am_lt10 h with rfl | rfl | rfl | rfl | rfl | rfl | rfl | rfl | rfl | rfl
  · exact nmX0
  · exact nmX1
  · exact nmX2
  · exact nmX3
  · exact nmX4
  · exact nmX5
  · exact nmX6
  · exact nmX7
  · exact nmX8
  · exact nmX9
def am_good : List Jvm.Cond := lw_tbl.filter goodWord
theorem am_in_ok {ci : Nat} (h : ci < 10) : ∀ w ∈ u_ws (RXs ci) (TXs ci) (fN ci), w ∈ am_good := by
  intro w hw
  refine List.mem_filter.mpr ⟨?_, ?_⟩
  · rcases am_lt10 h with rfl | rfl | rfl | rfl | rfl | rfl | rfl | rfl | rfl | rfl
    · exact inX0 w hw
    · exact inX1 w hw
    · exact inX2 w hw
    · exact inX3 w hw
    · exact inX4 w hw
    · exact inX5 w hw
    · exact inX6 w hw
    · exact inX7 w hw
    · exact inX8 w hw
    · exact inX9 w hw
  · obtain ⟨k, -, rfl⟩ := List.mem_map.mp hw
    unfold u_lay
    split <;> rfl
theorem am_hts {args : Array Value} {s : State} (h : ∀ w ∈ lw_tbl, goodWord w = true → w.before args s = true) : ∀ w ∈ am_good, w.before args s = true := fun w hw => h w (List.mem_filter.mp hw).1 (List.mem_filter.mp hw).2
theorem am_decl : ∀ ci, ci < 10 → ∀ k, k < fN ci → (TXs ci k).1 = RXs ci := by decide +kernel
theorem am_same {ci k : Nat} {s : State} (hci : ci < 10) (hk : k < fN ci) {z : ClassId × Class × Nat × Field} (h : s.fieldFound? (TXs ci k).1 (TXs ci k).2.1 (TXs ci k).2.2.1 = some z) : s.fieldFound? (RXs ci) (TXs ci k).2.1 (TXs ci k).2.2.1 = some z := by
  rw [am_decl ci hci k hk] at h; exact h
theorem am_cS_kind (L c : Nat) : (am_cS L c).1 = 50 ∨ (am_cS L c).1 = 30 ∨ (am_cS L c).1 = 51 ∨ (am_cS L c).1 = 99 := by
  unfold am_cS
  repeat' split
  all_goals simp
/-- a cell of a kind below 20 lies in the world -/
theorem am_inw {I : AI} {P : AP} {S : AS} {n sl a : Nat} {H : Heap} (hH : am_Hp D cA base cs L xs (I, P, S, n, sl) H) (hk : (S a).1 < 20) : a < n ∧ am_ad base cs a = base + a := by
  obtain ⟨-, ⟨h1, h2, h3⟩, hc⟩ := hH
  have ha : a < n := by
    by_cases h5 : a < n
    · exact h5
    · exfalso
      by_cases h6 : a < 1000
      · rw [h2 a (by omega) h6] at hk; omega
      · have h7 := (hc (a - 1000)).1
        rw [show 1000 + (a - 1000) = a by omega] at h7
        rw [h7] at hk
        rcases am_cS_kind L (a - 1000) with q | q | q | q <;> omega
  exact ⟨ha, if_pos (by omega)⟩
theorem am_objAt {I : AI} {P : AP} {S : AS} {n sl a ci : Nat} {H : Heap} (hH : am_Hp D cA base cs L xs (I, P, S, n, sl) H) (hk : (S a).1 = 10 + ci) (hci : ci < 10) : (am_ws cA base cs I P S n)[a]? = some (am_ad base cs a, .inr (ci, am_f base cs I P ci (fN ci) a)) := by
  obtain ⟨h1, h2⟩ := am_inw (a := a) hH (by omega)
  rw [am_ws_get h1, h2]
  unfold am_el
  rw [if_neg (by omega), if_neg (by omega), hk, show 10 + ci - 10 = ci by omega]
  have h3 := hH.2.1.2.2 a h1
  have h4 : (S a).2 = fN ci := by
    rcases h3 with h3 | ⟨-, -, h3⟩
    · omega
    · rw [h3, hk, show 10 + ci - 10 = ci by omega]
  rw [h4]
theorem am_arrAt {I : AI} {P : AP} {S : AS} {n sl a : Nat} {H : Heap} (hH : am_Hp D cA base cs L xs (I, P, S, n, sl) H) (hk : (S a).1 = 0) : (am_ws cA base cs I P S n)[a]? = some (am_ad base cs a, .inl (cA 0, (S a).2, .inl (I a))) := by
  obtain ⟨h1, h2⟩ := am_inw (a := a) hH (by omega)
  rw [am_ws_get h1, h2]
  unfold am_el
  rw [if_pos hk]
theorem am_refAt {I : AI} {P : AP} {S : AS} {n sl a : Nat} {H : Heap} (hH : am_Hp D cA base cs L xs (I, P, S, n, sl) H) (hk : (S a).1 ≠ 0) (hk2 : (S a).1 ≤ 3) : (am_ws cA base cs I P S n)[a]? = some (am_ad base cs a, .inl (cA (S a).1, (S a).2, .inr (.inr (.inr (.inr (fun j => (P a j).map (am_ad base cs))))))) := by
  obtain ⟨h1, h2⟩ := am_inw (a := a) hH (by omega)
  rw [am_ws_get h1, h2]
  unfold am_el
  rw [if_neg hk, if_pos hk2]
theorem am_f_len {I : AI} {P : AP} {ci len a : Nat} : (am_f base cs I P ci len a).length = len := by simp [am_f]
theorem am_f_get {I : AI} {P : AP} {ci len a k : Nat} (h : k < len) : (am_f base cs I P ci len a)[k]? = some (if fTy ci k = 1 then va_rf ((P a k).map (am_ad base cs)) else .int (I a k)) := by
  simp [am_f, List.getElem?_range h]
theorem am_f_setI {I : AI} {P : AP} {ci len a k : Nat} {x : Int32} (hk : fTy ci k ≠ 1) : (am_f base cs I P ci len a).set k (.int x) = am_f base cs (va_up I a (va_up (I a) k x)) P ci len a := by
  apply List.ext_getElem?
  intro j
  rw [List.getElem?_set, am_f_len]
  by_cases hj : j < len
  · rw [am_f_get (I := va_up I a (va_up (I a) k x)) hj]
    by_cases ha : k = j
    · subst ha
      simp [hj, hk, va_up]
    · rw [if_neg ha, am_f_get hj]
      have : ¬ j = k := fun q => ha q.symm
      simp [va_up, this]
  · rw [List.getElem?_eq_none (l := am_f base cs (va_up I a (va_up (I a) k x)) P ci len a) (by rw [am_f_len]; omega)]
    by_cases ha : k = j
    · subst ha
      simp [hj]
    · rw [if_neg ha, List.getElem?_eq_none (by rw [am_f_len]; omega)]
theorem am_f_setP {I : AI} {P : AP} {ci len a k q : Nat} (hk : fTy ci k = 1) : (am_f base cs I P ci len a).set k (.ref (am_ad base cs q)) = am_f base cs I (va_up P a (va_up (P a) k (some q))) ci len a := by
  apply List.ext_getElem?
  intro j
  rw [List.getElem?_set, am_f_len]
  by_cases hj : j < len
  · rw [am_f_get (P := va_up P a (va_up (P a) k (some q))) hj]
    by_cases ha : k = j
    · subst ha
      simp [hj, hk, va_up, va_rf]
    · rw [if_neg ha, am_f_get hj]
      have : ¬ j = k := fun q => ha q.symm
      simp [va_up, this]
  · rw [List.getElem?_eq_none (l := am_f base cs I (va_up P a (va_up (P a) k (some q))) ci len a) (by rw [am_f_len]; omega)]
    by_cases ha : k = j
    · subst ha
      simp [hj]
    · rw [if_neg ha, List.getElem?_eq_none (by rw [am_f_len]; omega)]
theorem am_el_upI {I : AI} {P : AP} {S : AS} {a k : Nat} {f : Nat → Int32} (h : k ≠ a) : am_el cA base cs (va_up I a f) P S k = am_el cA base cs I P S k := by
  simp [am_el, am_f, va_up, h]
theorem am_el_upP {I : AI} {P : AP} {S : AS} {a k : Nat} {f : Nat → Option Nat} (h : k ≠ a) : am_el cA base cs I (va_up P a f) S k = am_el cA base cs I P S k := by
  simp [am_el, am_f, va_up, h]
theorem am_Cs_upI {I : AI} {P : AP} {S : AS} {a : Nat} {f : Nat → Int32} (h : am_Cs L xs I P S) (ha : a < 1000) : am_Cs L xs (va_up I a f) P S := by
  intro c
  refine ⟨(h c).1, (h c).2.1, fun j => ?_⟩
  have : ¬ 1000 + c = a := by omega
  simp only [va_up, this, if_false]
  exact (h c).2.2 j
theorem am_Cs_upP {I : AI} {P : AP} {S : AS} {a : Nat} {f : Nat → Option Nat} (h : am_Cs L xs I P S) (ha : a < 1000) : am_Cs L xs I (va_up P a f) S := by
  intro c
  refine ⟨(h c).1, fun j => ?_, (h c).2.2⟩
  have : ¬ 1000 + c = a := by omega
  simp only [va_up, this, if_false]
  exact (h c).2.1 j
/-- behind a write of ints into a cell -/
theorem am_HpI {I : AI} {P : AP} {S : AS} {n sl a : Nat} {f : Nat → Int32} {H H1 : Heap} (hH : am_Hp D cA base cs L xs (I, P, S, n, sl) H) (hk : (S a).1 < 20) {el : va_E} (he : el = am_el cA base cs (va_up I a f) P S a)
    (hP : va_P D am_cls ((am_ws cA base cs I P S n).set a (am_ad base cs a, el)) H1) : am_Hp D cA base cs L xs (va_up I a f, P, S, n, sl) H1 := by
  obtain ⟨h1, h2⟩ := am_inw hH hk
  refine ⟨?_, hH.2.1, am_Cs_upI hH.2.2 (by have := hH.2.1.1; omega)⟩
  rw [am_ws_set (I := I) (P := P) (a := a) (fun k hk => am_el_upI hk), ← he, ← h2]
  exact hP
theorem am_HpP {I : AI} {P : AP} {S : AS} {n sl a : Nat} {f : Nat → Option Nat} {H H1 : Heap} (hH : am_Hp D cA base cs L xs (I, P, S, n, sl) H) (hk : (S a).1 < 20) {el : va_E} (he : el = am_el cA base cs I (va_up P a f) S a)
    (hP : va_P D am_cls ((am_ws cA base cs I P S n).set a (am_ad base cs a, el)) H1) : am_Hp D cA base cs L xs (I, va_up P a f, S, n, sl) H1 := by
  obtain ⟨h1, h2⟩ := am_inw hH hk
  refine ⟨?_, hH.2.1, am_Cs_upP hH.2.2 (by have := hH.2.1.1; omega)⟩
  rw [am_ws_set (I := I) (P := P) (a := a) (fun k hk => am_el_upP hk), ← he, ← h2]
  exact hP
theorem am_el_obj {I : AI} {P : AP} {S : AS} {a ci : Nat} (hk : (S a).1 = 10 + ci) (hl : (S a).2 = fN ci) : am_el cA base cs I P S a = .inr (ci, am_f base cs I P ci (fN ci) a) := by
  unfold am_el
  rw [if_neg (by omega), if_neg (by omega), hk, show 10 + ci - 10 = ci by omega, hl]
theorem am_objLen {I : AI} {P : AP} {S : AS} {n sl a ci : Nat} {H : Heap} (hH : am_Hp D cA base cs L xs (I, P, S, n, sl) H) (hk : (S a).1 = 10 + ci) (hci : ci < 10) : (S a).2 = fN ci := by
  have h3 := hH.2.1.2.2 a (am_inw hH (by omega)).1
  rcases h3 with h3 | ⟨-, -, h3⟩
  · omega
  · rw [h3, hk, show 10 + ci - 10 = ci by omega]
theorem am_strAt {I : AI} {P : AP} {S : AS} {n sl a : Nat} {H : Heap} (hH : am_Hp D cA base cs L xs (I, P, S, n, sl) H) (hk : (S a).1 = 30) : ∃ i, i < 8 ∧ a = 1010 + i ∧ am_ad base cs a = cs (10 + i) ∧ P a 0 = some (1030 + i) ∧ I a 1 = 0 := by
  obtain ⟨-, ⟨h1, h2, h3⟩, hc⟩ := hH
  have ha : ¬ a < 1000 := by
    intro h6
    by_cases h5 : a < n
    · rcases h3 a h5 with q | ⟨-, q, -⟩ <;> omega
    · rw [h2 a (by omega) h6] at hk; omega
  obtain ⟨c0, hc0⟩ : ∃ c0, a = 1000 + c0 := ⟨a - 1000, by omega⟩
  obtain ⟨g1, g2, g3⟩ := hc c0
  rw [← hc0] at g1 g2 g3
  have hr : 10 ≤ c0 ∧ c0 < 18 := by
    rw [g1] at hk
    unfold am_cS at hk
    repeat' split at hk
    all_goals first | assumption | (simp at hk)
  refine ⟨c0 - 10, by omega, by omega, ?_, ?_, ?_⟩
  · unfold am_ad
    rw [if_neg ha, show a - 1000 = 10 + (c0 - 10) by omega]
  · rw [g2]
    unfold am_cP
    rw [if_pos ⟨hr.1, hr.2, rfl⟩, show 1020 + c0 = 1030 + (c0 - 10) by omega]
  · rw [g3]
    unfold am_cI
    repeat' rw [if_neg (by omega)]
theorem am_s_getf {x : Nat} {pc nx : Nat} {v : Int32} {ops : List Nat} {rt : Nat} {ls ls' : ALS} {st st' : List Value} {h h' : AH} {pc' : Nat} (X : am_Cx D cA base cs L xs p R s m args meth c y n0) (hd : decode (mBy y) pc = .ok (.getfield x, nx - pc)) (ho : am_ops y pc nx (.getfield x) v ops = true)
    (hs : am_step (.getfield x, nx, v, ops) rt ls st h = some (.inl (pc', ls', st', h'))) (k : am_W D cA base cs L xs p l e R s m args below meth c y n0 sl0 Q pc' ls' st' h') : am_W D cA base cs L xs p l e R s m args below meth c y n0 sl0 Q pc ls st h := by
  obtain ⟨hx, hb, hml, hown, -, hts, hK, -⟩ := X
  obtain ⟨I, P, S, n, sl⟩ := h
  intro H locs lsA hH hS hl hg hn hsl
  simp only [am_ops, Bool.and_eq_true] at ho
  obtain ⟨ho1, ho⟩ := ho
  have hn1 := am_beq ho1
  replace hd := am_dec hd hn1
  subst hn1
  simp only [am_step] at hs
  split at hs
  · rename_i ci kk q1 q2 a r
    cases hb1 : Nat.beq (S a).1 (10 + ci) with
    | false => rw [hb1] at hs; cases hs
    | true =>
      rw [hb1, cond_true] at hs
      have hk := am_beq hb1
      have obj : ∀ (hci : ci < 10) (hkk : kk < fN ci), (∀ {v2 : Value}, (am_f base cs I P ci (fN ci) a)[kk]? = some v2 → W p l e R s m args below meth c H locs (n - n0) (sl - sl0) Q (F0 m (pc + 3) lsA (v2 :: r.map (am_v base cs))) → W p l e R s m args below meth c H locs (n - n0) (sl - sl0) Q (F0 m pc lsA (.ref (am_ad base cs a) :: r.map (am_v base cs)))) → W p l e R s m args below meth c H locs (n - n0) (sl - sl0) Q (F0 m pc lsA ((Value.ref a :: r).map (am_v base cs))) := by
        intro hci hkk row
        have hft := am_tyc_ok ci hci kk hkk
        refine row (am_f_get hkk) ?_
        split at hs
        · rename_i hf
          rw [if_pos hf]
          split at hs
          · rename_i q hq
            cases hs
            have := k H locs lsA hH hS hl hg hn hsl
            rw [hq]
            exact this
          · rename_i hq
            cases hs
            have := k H locs lsA hH hS hl hg hn hsl
            rw [hq]
            exact this
        · cases hs
        · rename_i hf1 hf2
          rw [if_neg hf1]
          cases hs
          exact k H locs lsA hH hS hl hg hn hsl
      split at ho
      · rename_i p1 he
        simp only [List.cons.injEq] at he
        obtain ⟨rfl, rfl, -, -⟩ := he
        obtain ⟨i, hi, rfl, e1, e2, e3⟩ := am_strAt hH hk
        simp only [fTy, e2] at hs
        cases hs
        have := k H locs lsA hH hS hl hg hn hsl
        have e4 : am_v base cs (.ref (1030 + i)) = .ref (cs (30 + i)) := by
          simp only [am_v, am_ad]
          rw [if_neg (by omega), show 1030 + i - 1000 = 30 + i by omega]
        have e5 : am_v base cs (.ref (1010 + i)) = .ref (cs (10 + i)) := by
          simp only [am_v]
          rw [e1]
        simp only [List.map_cons, e4] at this
        simp only [List.map_cons, e5]
        exact vk_getf hx hb ((hK.2.2.2.2.1.1 i hi).2.2.1) hS hown (hts _ (am_w_in ho) rfl) (fun _ h9 => h9) hd this
      · rename_i p1 he
        simp only [List.cons.injEq] at he
        obtain ⟨rfl, rfl, -, -⟩ := he
        obtain ⟨i, hi, rfl, e1, e2, e3⟩ := am_strAt hH hk
        simp only [fTy] at hs
        cases hs
        have := k H locs lsA hH hS hl hg hn hsl
        have e5 : am_v base cs (.ref (1010 + i)) = .ref (cs (10 + i)) := by
          simp only [am_v]
          rw [e1]
        simp only [List.map_cons, am_v, e3] at this
        simp only [List.map_cons, e5]
        exact vk_getf hx hb ((hK.2.2.2.2.1.1 i hi).2.1) hS hown (hts _ (am_w_in ho) rfl) (fun _ h9 => h9) hd this
      · rename_i he
        simp only [List.cons.injEq] at he
        obtain ⟨rfl, rfl, -, -⟩ := he
        simp only [Bool.and_eq_true] at ho
        obtain ⟨⟨o1, o2⟩, o3⟩ := ho
        have hci : ci < 10 := by simpa using o1
        have hkk : kk < fN ci := by simpa using o2
        exact obj hci hkk (fun hv kw => va_get hx hb (am_hts hts) (am_in_ok hci) hown hK.1 hH.1 a (am_objAt hH hk hci) (am_cls_at hci) kk hkk (hts _ (am_w_in o3) rfl) (fun z h9 => am_same hci hkk h9) hv hd kw)
      · rename_i he
        simp only [List.cons.injEq] at he
        obtain ⟨rfl, rfl, -, -⟩ := he
        simp only [Bool.and_eq_true] at ho
        obtain ⟨⟨o1, o2⟩, o3⟩ := ho
        have hci : ci < 10 := by simpa using o1
        have hkk : kk < fN ci := by simpa using o2
        exact obj hci hkk (fun hv kw => va_getN hx hb (am_hts hts) (am_in_ok hci) hown hK.1 hH.1 a (am_objAt hH hk hci) (am_cls_at hci) kk hkk (va_Nw.use rfl (hK.2.2.2.2.2.2.1 _ (am_w_in o3) rfl)) (fun z h9 => am_same hci hkk h9) hv hd kw)
      · cases ho
  · cases hs
end AM4
