/-! writes, rows, statics -/
section AM5
variable {p : Program} {l : Launch} {e : Env} {R : Room} {s : State} {m : MethodId} {args : Array Value} {below : List Frame} {meth : Method} {c : Code} {Q : State → Prop}
variable {D : va_G} {cA : Nat → ClassId} {base : Nat} {cs : Nat → Nat} {L : Nat} {xs : Nat → Int32} {y n0 sl0 : Nat}
theorem am_ty0 {ci k : Nat} (hci : ci < 10) (hk : k < fN ci) (h : fTy ci k = 0) : parseFieldDescriptor (TXs ci k).2.2.1 = some .int := by
  rw [am_ty_ok hci k hk]
  have := am_tyc_ok ci hci k hk
  unfold am_tyc at this
  rw [h] at this
  split at this <;> simp_all
theorem am_ty2 {ci k : Nat} (hci : ci < 10) (hk : k < fN ci) (h : fTy ci k = 2) : parseFieldDescriptor (TXs ci k).2.2.1 = some .boolean := by
  rw [am_ty_ok hci k hk]
  have := am_tyc_ok ci hci k hk
  unfold am_tyc at this
  rw [h] at this
  split at this <;> simp_all
theorem am_ty1 {ci k : Nat} (hci : ci < 10) (hk : k < fN ci) (h : fTy ci k = 1) (q : Nat) : ∃ ty, parseFieldDescriptor (TXs ci k).2.2.1 = some ty ∧ narrow ty (.ref q) = .ref q ∧ fits ty (.ref q) = true := by
  refine ⟨_, am_ty_ok hci k hk, ?_⟩
  have := am_tyc_ok ci hci k hk
  unfold am_tyc at this
  rw [h] at this
  split at this
  · simp_all
  · simp_all
  · rename_i h2; rw [h2]; exact ⟨rfl, rfl⟩
  · rename_i h2; rw [h2]; exact ⟨rfl, rfl⟩
  · cases this
theorem am_s_putf {x : Nat} {pc nx : Nat} {v : Int32} {ops : List Nat} {rt : Nat} {ls ls' : ALS} {st st' : List Value} {h h' : AH} {pc' : Nat} (X : am_Cx D cA base cs L xs p R s m args meth c y n0) (hd : decode (mBy y) pc = .ok (.putfield x, nx - pc)) (ho : am_ops y pc nx (.putfield x) v ops = true)
    (hs : am_step (.putfield x, nx, v, ops) rt ls st h = some (.inl (pc', ls', st', h'))) (k : am_W D cA base cs L xs p l e R s m args below meth c y n0 sl0 Q pc' ls' st' h') : am_W D cA base cs L xs p l e R s m args below meth c y n0 sl0 Q pc ls st h := by
  obtain ⟨hx, hb, hml, hown, hnm, hts, hK, -⟩ := X
  obtain ⟨I, P, S, n, sl⟩ := h
  intro H locs lsA hH hS hl hg hn hsl
  simp only [am_ops, Bool.and_eq_true] at ho
  obtain ⟨ho1, ho⟩ := ho
  have hn1 := am_beq ho1
  replace hd := am_dec hd hn1
  subst hn1
  -- the row, for a value w that fits
  have row : ∀ (ci kk q1 q2 a : Nat) (r : List Value) (w : Value) (ty : FieldType), ops = [ci, kk, q1, q2] → (S a).1 = 10 + ci → (ci < 10 → kk < fN ci → parseFieldDescriptor (TXs ci kk).2.2.1 = some ty) → narrow ty w = w → fits ty w = true →
      (ci < 10 → ∀ (H1 : Heap) (locs1 : List Loc), va_P D am_cls ((am_ws cA base cs I P S n).set a (am_ad base cs a, .inr (ci, (am_f base cs I P ci (fN ci) a).set kk w))) H1 → va_S (am_A base) s.heap H1 locs1 → W p l e R s m args below meth c H1 locs1 (n - n0) (sl - sl0) Q (F0 m (pc + 3) lsA (r.map (am_v base cs)))) →
      W p l e R s m args below meth c H locs (n - n0) (sl - sl0) Q (F0 m pc lsA (w :: .ref (am_ad base cs a) :: r.map (am_v base cs))) := by
    intro ci kk q1 q2 a r w ty hop hk hty hnw hft kw
    subst hop
    split at ho
    · rename_i he
      simp only [List.cons.injEq] at he
      obtain ⟨rfl, rfl, -, -⟩ := he
      simp only [Bool.and_eq_true, Bool.not_eq_true'] at ho
      obtain ⟨⟨⟨o1, o2⟩, o4⟩, o3⟩ := ho
      have hci : ci < 10 := by simpa using o1
      have hkk : kk < fN ci := by simpa using o2
      exact va_put hx hb (am_hts hts) (am_in_ok hci) (tyXs ci) (am_ty_ok hci) (am_nm_ok hci) hown hK.1 hH.1 am_D hS a (am_objAt hH hk hci) (am_cls_at hci) kk hkk (hts _ (am_w_in o3) rfl) (fun z h9 => am_same hci hkk h9) o4 (hty hci hkk) hnw hft (by rw [am_f_len]; exact hkk) hd (fun H1 locs1 g1 _ g3 => kw hci H1 locs1 g1 g3)
    · rename_i he
      simp only [List.cons.injEq] at he
      obtain ⟨rfl, rfl, -, -⟩ := he
      simp only [Bool.and_eq_true, Bool.not_eq_true'] at ho
      obtain ⟨⟨⟨o1, o2⟩, o4⟩, o3⟩ := ho
      have hci : ci < 10 := by simpa using o1
      have hkk : kk < fN ci := by simpa using o2
      exact va_putN hx hb (am_hts hts) (am_in_ok hci) (tyXs ci) (am_ty_ok hci) (am_nm_ok hci) hown hK.1 hH.1 am_D hS a (am_objAt hH hk hci) (am_cls_at hci) kk hkk (va_Nw.use rfl (hK.2.2.2.2.2.2.1 _ (am_w_in o3) rfl)) (fun z h9 => am_same hci hkk h9) o4 (hty hci hkk) hnw hft (by rw [am_f_len]; exact hkk) hd (fun H1 locs1 g1 _ g3 => kw hci H1 locs1 g1 g3)
    · rename_i he
      simp only [List.cons.injEq] at he
      obtain ⟨rfl, rfl, -, -⟩ := he
      simp only [Bool.and_eq_true, decide_eq_true_eq] at ho
      obtain ⟨⟨⟨⟨⟨o1, o2⟩, o4⟩, o5⟩, o6⟩, o3⟩ := ho
      have hci : ci < 10 := by simpa using o1
      have hkk : kk < fN ci := by simpa using o2
      exact va_putF hx hb (am_hts hts) (am_in_ok hci) (tyXs ci) (am_ty_ok hci) (am_nm_ok hci) hown hK.1 hH.1 am_D hS a (am_objAt hH hk hci) (am_cls_at hci) kk hkk (hts _ (am_w_in o3) rfl) (fun z h9 => am_same hci hkk h9) o4 (hnm o5) (by rw [am_decl ci hci kk hkk]; exact o6.symm) (hty hci hkk) hnw hft (by rw [am_f_len]; exact hkk) hd (fun H1 locs1 g1 _ g3 => kw hci H1 locs1 g1 g3)
    · cases ho
  simp only [am_step] at hs
  split at hs
  · rename_i ci kk q1 q2 w a r
    cases hb1 : Nat.beq (S a).1 (10 + ci) with
    | false => rw [hb1] at hs; cases hs
    | true =>
      rw [hb1, cond_true] at hs
      have hk := am_beq hb1
      split at hs
      · rename_i hf
        cases hs
        refine row ci kk q1 q2 a _ (.int w) .int rfl hk (fun h1 h2 => am_ty0 h1 h2 hf) rfl rfl (fun hci H1 locs1 g1 g3 => k H1 locs1 lsA (am_HpI hH (by omega) ?_ g1) g3 hl hg hn hsl)
        rw [am_el_obj hk (am_objLen hH hk hci), am_f_setI (by rw [hf]; decide)]
      · rename_i hf
        by_cases hw : w = 0 ∨ w = 1
        · have hbo : (decide (w = 0) || decide (w = 1)) = true := by simpa using hw
          rw [hbo, cond_true] at hs
          cases hs
          refine row ci kk q1 q2 a _ (.int w) .boolean rfl hk (fun h1 h2 => am_ty2 h1 h2 hf) (by rcases hw with rfl | rfl <;> decide) (by rcases hw with rfl | rfl <;> decide) (fun hci H1 locs1 g1 g3 => k H1 locs1 lsA (am_HpI hH (by omega) ?_ g1) g3 hl hg hn hsl)
          rw [am_el_obj hk (am_objLen hH hk hci), am_f_setI (by rw [hf]; decide)]
        · have hbo : (decide (w = 0) || decide (w = 1)) = false := by simpa using hw
          rw [hbo, cond_false] at hs
          cases hs
      · cases hs
  · rename_i ci kk q1 q2 w a r
    cases hb1 : Nat.beq (S a).1 (10 + ci) with
    | false => rw [hb1] at hs; cases hs
    | true =>
      rw [hb1, cond_true] at hs
      have hk := am_beq hb1
      split at hs
      · rename_i hf
        cases hs
        by_cases hci : ci < 10 ∧ kk < fN ci
        · obtain ⟨ty, t1, t2, t3⟩ := am_ty1 hci.1 hci.2 hf (am_ad base cs w)
          refine row ci kk q1 q2 a _ (.ref (am_ad base cs w)) ty rfl hk (fun _ _ => t1) t2 t3 (fun hci H1 locs1 g1 g3 => k H1 locs1 lsA (am_HpP hH (by omega) ?_ g1) g3 hl hg hn hsl)
          rw [am_el_obj hk (am_objLen hH hk hci), am_f_setP hf]
        · exfalso
          apply hci
          split at ho <;> simp_all
      · cases hs
  · cases hs
theorem am_in_vp {i : Int32} {n : Nat} (h : am_in i n = true) : vp_in i n := by
  simp only [am_in, Bool.and_eq_true, Bool.not_eq_true', decide_eq_false_iff_not] at h
  rintro (q | q)
  · exact h.1 q
  · have : i.toNatClampNeg < n := by simpa using h.2
    omega
theorem am_upd (f : Nat → Int32) (k : Nat) (x : Int32) : upd f k x = va_up f k x := rfl
theorem am_constAt {I : AI} {P : AP} {S : AS} {n sl a : Nat} {H : Heap} (hH : am_Hp D cA base cs L xs (I, P, S, n, sl) H) (hk : (S a).1 = 50) : ∃ i, i < 4 ∧ am_ad base cs a = cs i ∧ S a = am_cS L i ∧ ∀ j, I a j = am_cI xs i j := by
  obtain ⟨-, ⟨h1, h2, h3⟩, hc⟩ := hH
  have ha : ¬ a < 1000 := by
    intro h6
    by_cases h5 : a < n
    · rcases h3 a h5 with q | ⟨-, q, -⟩ <;> omega
    · rw [h2 a (by omega) h6] at hk; omega
  obtain ⟨c0, hc0⟩ : ∃ c0, a = 1000 + c0 := ⟨a - 1000, by omega⟩
  obtain ⟨g1, g2, g3⟩ := hc c0
  rw [← hc0] at g1 g2 g3
  have hr : c0 < 4 := by
    rw [g1] at hk
    unfold am_cS at hk
    repeat' split at hk
    all_goals first | omega | (simp at hk)
  refine ⟨c0, hr, ?_, g1, g3⟩
  unfold am_ad
  rw [if_neg ha, show a - 1000 = c0 by omega]
theorem am_byteAt {I : AI} {P : AP} {S : AS} {n sl a : Nat} {H : Heap} (hH : am_Hp D cA base cs L xs (I, P, S, n, sl) H) (hk : (S a).1 = 51) : ∃ i, i < 8 ∧ am_ad base cs a = cs (30 + i) ∧ (S a).2 = am_len.getD i 0 ∧ ∀ j, I a j = (am_byt.getD i []).getD j 0 := by
  obtain ⟨-, ⟨h1, h2, h3⟩, hc⟩ := hH
  have ha : ¬ a < 1000 := by
    intro h6
    by_cases h5 : a < n
    · rcases h3 a h5 with q | ⟨-, q, -⟩ <;> omega
    · rw [h2 a (by omega) h6] at hk; omega
  obtain ⟨c0, hc0⟩ : ∃ c0, a = 1000 + c0 := ⟨a - 1000, by omega⟩
  obtain ⟨g1, g2, g3⟩ := hc c0
  rw [← hc0] at g1 g2 g3
  have hr : 30 ≤ c0 ∧ c0 < 38 := by
    rw [g1] at hk
    unfold am_cS at hk
    repeat' split at hk
    all_goals first | assumption | (simp at hk)
  refine ⟨c0 - 30, by omega, ?_, ?_, fun j => ?_⟩
  · unfold am_ad
    rw [if_neg ha, show a - 1000 = 30 + (c0 - 30) by omega]
  · rw [g1]
    unfold am_cS
    repeat rw [if_neg (by omega)]
    rw [if_pos hr]
  · rw [g3]
    unfold am_cI
    repeat rw [if_neg (by omega)]
    rw [if_pos hr]
theorem am_s_arr {i : Instr} {pc nx : Nat} {v : Int32} {ops : List Nat} {rt : Nat} {ls ls' : ALS} {st st' : List Value} {h h' : AH} {pc' : Nat} (X : am_Cx D cA base cs L xs p R s m args meth c y n0) (hd : decode (mBy y) pc = .ok (i, nx - pc)) (ho : am_ops y pc nx i v ops = true)
    (hi : i = .arraylength ∨ i = .iaload ∨ i = .baload ∨ i = .iastore)
    (hs : am_step (i, nx, v, ops) rt ls st h = some (.inl (pc', ls', st', h'))) (k : am_W D cA base cs L xs p l e R s m args below meth c y n0 sl0 Q pc' ls' st' h') : am_W D cA base cs L xs p l e R s m args below meth c y n0 sl0 Q pc ls st h := by
  obtain ⟨hx, hb, hml, hown, hnm, hts, hK, -⟩ := X
  obtain ⟨I, P, S, n, sl⟩ := h
  intro H locs lsA hH hS hl hg hn hsl
  rcases hi with rfl | rfl | rfl | rfl
  all_goals have hn1 : nx = pc + 1 := am_beq ho
  all_goals replace hd := am_dec hd hn1
  all_goals subst hn1
  all_goals simp only [am_step] at hs
  · split at hs
    · rename_i a r
      cases hb1 : (Nat.ble (S a).1 3 || Nat.beq (S a).1 50 || Nat.beq (S a).1 51) with
      | false => rw [hb1] at hs; cases hs
      | true =>
        rw [hb1, cond_true] at hs
        cases hs
        simp only [Bool.or_eq_true] at hb1
        have kw := k H locs lsA hH hS hl hg hn hsl
        rcases hb1 with (h1 | h1) | h1
        · have h1 : (S a).1 ≤ 3 := Nat.le_of_ble_eq_true h1
          by_cases h0 : (S a).1 = 0
          · exact va_alen hx hb hK.1 hH.1 a 0 (am_arrAt hH h0) rfl rfl hd kw
          · have h3 := am_refAt hH h0 h1
            rcases (show (S a).1 = 1 ∨ (S a).1 = 2 ∨ (S a).1 = 3 by omega) with q | q | q
            · rw [q] at h3; exact va_alen hx hb hK.1 hH.1 a 1 h3 rfl rfl hd kw
            · rw [q] at h3; exact va_alen hx hb hK.1 hH.1 a 2 h3 rfl rfl hd kw
            · rw [q] at h3; exact va_alen hx hb hK.1 hH.1 a 3 h3 rfl rfl hd kw
        · obtain ⟨i, g1, g2, g3, g4⟩ := am_constAt hH (am_beq h1)
          show W p l e R s m args below meth c H locs (n - n0) (sl - sl0) Q (F0 m pc lsA (.ref (am_ad base cs a) :: r.map (am_v base cs)))
          rw [g2]
          exact va_tlen hx hb (hK.2.2.1 i g1) hS (by rw [g3]; rfl) hd kw
        · obtain ⟨i, g1, g2, g3, g4⟩ := am_byteAt hH (am_beq h1)
          show W p l e R s m args below meth c H locs (n - n0) (sl - sl0) Q (F0 m pc lsA (.ref (am_ad base cs a) :: r.map (am_v base cs)))
          rw [g2]
          exact va_tlen hx hb (hK.2.2.2.2.1.1 i g1).2.2.2 hS (by rw [g3]; rfl) hd kw
    · cases hs
  · split at hs
    · rename_i j a r
      cases hb1 : ((Nat.beq (S a).1 0 || Nat.beq (S a).1 50) && am_in j (S a).2) with
      | false => rw [hb1] at hs; cases hs
      | true =>
        rw [hb1, cond_true] at hs
        cases hs
        simp only [Bool.and_eq_true, Bool.or_eq_true] at hb1
        have kw := k H locs lsA hH hS hl hg hn hsl
        have hin := am_in_vp hb1.2
        rcases hb1.1 with h1 | h1
        · exact va_iald hx hb hK.1 hH.1 a 0 (am_arrAt hH (am_beq h1)) rfl hin hd kw
        · obtain ⟨i, g1, g2, g3, g4⟩ := am_constAt hH (am_beq h1)
          show W p l e R s m args below meth c H locs (n - n0) (sl - sl0) Q (F0 m pc lsA (.int j :: .ref (am_ad base cs a) :: r.map (am_v base cs)))
          rw [g2]
          rw [g3] at hin
          exact va_ti hx hb (hK.2.2.1 i g1) hS hin (by rw [g4]; rfl) hd kw
    · cases hs
  · split at hs
    · rename_i j a r
      cases hb1 : (Nat.beq (S a).1 51 && am_in j (S a).2) with
      | false => rw [hb1] at hs; cases hs
      | true =>
        rw [hb1, cond_true] at hs
        cases hs
        simp only [Bool.and_eq_true] at hb1
        have kw := k H locs lsA hH hS hl hg hn hsl
        have hin := am_in_vp hb1.2
        obtain ⟨i, g1, g2, g3, g4⟩ := am_byteAt hH (am_beq hb1.1)
        show W p l e R s m args below meth c H locs (n - n0) (sl - sl0) Q (F0 m pc lsA (.int j :: .ref (am_ad base cs a) :: r.map (am_v base cs)))
        rw [g2]
        rw [g3] at hin
        exact va_tb hx hb (hK.2.2.2.2.1.1 i g1).2.2.2 hS hin (by rw [g4]; rfl) hd kw
    · cases hs
  · split at hs
    · rename_i w j a r
      cases hb1 : (Nat.beq (S a).1 0 && am_in j (S a).2) with
      | false => rw [hb1] at hs; cases hs
      | true =>
        rw [hb1, cond_true] at hs
        cases hs
        simp only [Bool.and_eq_true] at hb1
        have h0 := am_beq hb1.1
        refine va_iast hx hb hK.1 hH.1 am_D hS a 0 (am_arrAt hH h0) rfl (am_in_vp hb1.2) hd (fun H1 locs1 g1 _ g3 => k H1 locs1 lsA (am_HpI hH (by omega) ?_ g1) g3 hl hg hn hsl)
        unfold am_el
        rw [if_pos h0]
        simp [va_up, am_upd]
    · cases hs
theorem am_upP (P : AP) (a i : Nat) (o : Option Nat) : va_up (fun j => (P a j).map (am_ad base cs)) i (o.map (am_ad base cs)) = fun j => (va_up P a (va_up (P a) i o) a j).map (am_ad base cs) := by
  funext q
  simp only [va_up, if_true]
  split <;> rfl
theorem am_tys_at {kd : Nat} (h1 : 1 ≤ kd) (h2 : kd ≤ 3) : (am_tys cA)[kd]? = some (cA kd, .object (am_comp kd)) := by
  rcases (show kd = 1 ∨ kd = 2 ∨ kd = 3 by omega) with rfl | rfl | rfl <;> rfl
theorem am_s_ref {i : Instr} {pc nx : Nat} {v : Int32} {ops : List Nat} {rt : Nat} {ls ls' : ALS} {st st' : List Value} {h h' : AH} {pc' : Nat} (X : am_Cx D cA base cs L xs p R s m args meth c y n0) (hd : decode (mBy y) pc = .ok (i, nx - pc)) (ho : am_ops y pc nx i v ops = true)
    (hi : i = .aaload ∨ i = .aastore)
    (hs : am_step (i, nx, v, ops) rt ls st h = some (.inl (pc', ls', st', h'))) (k : am_W D cA base cs L xs p l e R s m args below meth c y n0 sl0 Q pc' ls' st' h') : am_W D cA base cs L xs p l e R s m args below meth c y n0 sl0 Q pc ls st h := by
  obtain ⟨hx, hb, hml, hown, hnm, hts, hK, -⟩ := X
  obtain ⟨I, P, S, n, sl⟩ := h
  intro H locs lsA hH hS hl hg hn hsl
  rcases hi with rfl | rfl
  all_goals have hn1 : nx = pc + 1 := am_beq ho
  all_goals replace hd := am_dec hd hn1
  all_goals subst hn1
  all_goals simp only [am_step] at hs
  · split at hs
    · rename_i j a r
      cases hb1 : ((Nat.ble 1 (S a).1 && Nat.ble (S a).1 3) && am_in j (S a).2) with
      | false => rw [hb1] at hs; cases hs
      | true =>
        rw [hb1, cond_true] at hs
        simp only [Bool.and_eq_true] at hb1
        have h1 := Nat.le_of_ble_eq_true hb1.1.1
        have h3 := Nat.le_of_ble_eq_true hb1.1.2
        refine va_aldq hx hb hK.1 hH.1 a (S a).1 (am_refAt hH (by omega) h3) (am_tys_at h1 h3) (am_in_vp hb1.2) hd ?_
        split at hs
        · rename_i q hq; cases hs; rw [hq]; exact k H locs lsA hH hS hl hg hn hsl
        · rename_i hq; cases hs; rw [hq]; exact k H locs lsA hH hS hl hg hn hsl
    · cases hs
  · split at hs
    · rename_i w j a r
      cases hb1 : ((Nat.ble 1 (S a).1 && Nat.ble (S a).1 3) && am_in j (S a).2 && Nat.beq (S w).1 (am_ec (S a).1)) with
      | false => rw [hb1] at hs; cases hs
      | true =>
        rw [hb1, cond_true] at hs
        cases hs
        simp only [Bool.and_eq_true] at hb1
        have h1 := Nat.le_of_ble_eq_true hb1.1.1.1
        have h3 := Nat.le_of_ble_eq_true hb1.1.1.2
        have hw := am_beq hb1.2
        have fin : ∀ (ci : Nat), ci < 10 → (S w).1 = 10 + ci → RXs ci = am_comp (S a).1 → W p l e R s m args below meth c H locs (n - n0) (sl - sl0) Q (F0 m pc lsA ((Value.ref w :: Value.int j :: Value.ref a :: st').map (am_v base cs))) := by
          intro ci hci hwk hrx
          refine va_astq hx hb hK.1 hH.1 am_D hS a (S a).1 w ci (am_refAt hH (by omega) h3) (by rw [am_tys_at h1 h3, ← hrx]) (am_objAt hH hwk hci) (am_cls_at hci) (am_in_vp hb1.1.2) hd (fun H1 locs1 g1 _ g3 => k H1 locs1 lsA (am_HpP hH (by omega) ?_ g1) g3 hl hg hn hsl)
          unfold am_el
          rw [if_neg (by omega), if_pos h3]
          rw [← am_upP P a j.toNatClampNeg (some w)]
          rfl
        rcases (show (S a).1 = 1 ∨ (S a).1 = 2 ∨ (S a).1 = 3 by omega) with q | q | q
        · rw [q] at hw; exact fin 0 (by omega) hw (by rw [q]; rfl)
        · rw [q] at hw; exact fin 5 (by omega) hw (by rw [q]; rfl)
        · rw [q] at hw; exact fin 4 (by omega) hw (by rw [q]; rfl)
    · rename_i j a r
      cases hb1 : ((Nat.ble 1 (S a).1 && Nat.ble (S a).1 3) && am_in j (S a).2) with
      | false => rw [hb1] at hs; cases hs
      | true =>
        rw [hb1, cond_true] at hs
        cases hs
        simp only [Bool.and_eq_true] at hb1
        have h1 := Nat.le_of_ble_eq_true hb1.1.1
        have h3 := Nat.le_of_ble_eq_true hb1.1.2
        refine va_astqN hx hb hK.1 hH.1 am_D hS a (S a).1 (am_refAt hH (by omega) h3) (am_tys_at h1 h3) (am_in_vp hb1.2) hd (fun H1 locs1 g1 _ g3 => k H1 locs1 lsA (am_HpP hH (by omega) ?_ g1) g3 hl hg hn hsl)
        unfold am_el
        rw [if_neg (by omega), if_pos h3]
        rw [← am_upP P a j.toNatClampNeg none]
        rfl
    · cases hs
theorem am_s_gets {x : Nat} {pc nx : Nat} {v : Int32} {ops : List Nat} {rt : Nat} {ls ls' : ALS} {st st' : List Value} {h h' : AH} {pc' : Nat} (X : am_Cx D cA base cs L xs p R s m args meth c y n0) (hd : decode (mBy y) pc = .ok (.getstatic x, nx - pc)) (ho : am_ops y pc nx (.getstatic x) v ops = true)
    (hs : am_step (.getstatic x, nx, v, ops) rt ls st h = some (.inl (pc', ls', st', h'))) (k : am_W D cA base cs L xs p l e R s m args below meth c y n0 sl0 Q pc' ls' st' h') : am_W D cA base cs L xs p l e R s m args below meth c y n0 sl0 Q pc ls st h := by
  obtain ⟨hx, hb, hml, hown, hnm, hts, hK, -⟩ := X
  obtain ⟨I, P, S, n, sl⟩ := h
  intro H locs lsA hH hS hl hg hn hsl
  simp only [am_ops, Bool.and_eq_true] at ho
  obtain ⟨ho1, ho⟩ := ho
  have hn1 := am_beq ho1
  replace hd := am_dec hd hn1
  subst hn1
  have e4 : ∀ z : Nat, z < 3 → am_v base cs (.ref (1000 + z)) = .ref (cs z) := by
    intro z hz
    show Value.ref (if 1000 + z < 1000 then base + (1000 + z) else cs (1000 + z - 1000)) = _
    rw [if_neg (Nat.not_lt.mpr (Nat.le_add_right _ _)), Nat.add_sub_cancel_left]
  simp only [am_step] at hs
  split at ho
  · simp only at hs
    cases hs
    exact va_gets hx hb hK.2.2.2.1 hS hown (hts _ (am_w_in ho) rfl) (fun _ h9 => h9) hd (k H locs lsA hH hS hl hg hn hsl)
  · rename_i c1 p1 hne
    simp only [Bool.and_eq_true] at ho
    have hc : c1 < 3 := by simpa using ho.1
    have hs2 : (some (Sum.inl (pc + 3, ls, Value.ref (1000 + c1) :: st, (I, P, S, n, sl))) : Option NX) = some (Sum.inl (pc', ls', st', h')) := by
      rcases (show c1 = 0 ∨ c1 = 1 ∨ c1 = 2 by omega) with rfl | rfl | rfl <;> exact hs
    cases hs2
    have kw := k H locs lsA hH hS hl hg hn hsl
    simp only [List.map_cons, e4 c1 hc] at kw
    exact va_gets hx hb (hK.2.1 c1 hc) hS hown (hts _ (am_w_in ho.2) rfl) (fun _ h9 => h9) hd kw
  · rename_i c1 p1
    simp only [Bool.and_eq_true] at ho
    have hc : c1 < 3 := by simpa using ho.1
    have hs2 : (some (Sum.inl (pc + 3, ls, Value.ref (1000 + c1) :: st, (I, P, S, n, sl))) : Option NX) = some (Sum.inl (pc', ls', st', h')) := by
      rcases (show c1 = 0 ∨ c1 = 1 ∨ c1 = 2 by omega) with rfl | rfl | rfl <;> exact hs
    cases hs2
    have kw := k H locs lsA hH hS hl hg hn hsl
    simp only [List.map_cons, e4 c1 hc] at kw
    exact va_getsN hx hb (hK.2.1 c1 hc) hS hown (va_Nw.use rfl (hK.2.2.2.2.2.2.1 _ (am_w_in ho.2) rfl)) (fun _ h9 => h9) hd kw
  · cases ho
end AM5
