/-! AN HOUR: the class; a boat's pieces, and what an hour's row may hold -/
theorem x_cellBeside (h : AH) (c w : Nat) (hc : c < 24) (hw : w < 4) : Ct 0 y_X_cellBeside [.int (nI c), .int (nI w)] h (fun r h' => h' = h ∧ r = some (.int (bes c w))) := by
  obtain ⟨I, P, S, n, sl⟩ := h
  have e1 : nI c / 6 = nI (c / 6) := nI_div (b := 6) (by omega) (by decide)
  have e2 : irm (nI c) 6 = nI (c % 6) := irm_nI (b := 6) (by omega) (by decide)
  iterate 3 refine Go.step rfl ?_
  rw [e1]
  iterate 4 refine Go.step rfl ?_
  rw [e2]
  rcases (show w = 0 ∨ w = 1 ∨ w = 2 ∨ w = 3 by omega) with rfl | rfl | rfl | rfl
  · iterate 5 refine Go.step rfl ?_
    by_cases q : 0 < c / 6
    · refine Go.ifn (nI_nle q (by omega)) ?_
      repeat refine Go.step rfl ?_
      refine Go.ret rfl ⟨rfl, ?_⟩
      show some (Value.int (nI c - nI 6)) = _
      rw [nI_sub (by omega), bes, if_pos rfl, if_pos q]
    · refine Go.ifp (by rw [show c / 6 = 0 by omega]; decide) ?_
      repeat refine Go.step rfl ?_
      refine Go.ret rfl ⟨rfl, ?_⟩
      rw [bes, if_pos rfl, if_neg q]
  · iterate 6 refine Go.step rfl ?_
    by_cases q : c % 6 < 5
    · refine Go.ifn (nI_ge (a := c % 6) (b := 5) q (by decide)) ?_
      repeat refine Go.step rfl ?_
      refine Go.ret rfl ⟨rfl, ?_⟩
      rw [nI_1, bes, if_neg (by decide), if_pos rfl, if_pos q]
    · refine Go.ifp (nI_le (a := 5) (b := c % 6) (by omega) (by omega)) ?_
      repeat refine Go.step rfl ?_
      refine Go.ret rfl ⟨rfl, ?_⟩
      rw [bes, if_neg (by decide), if_pos rfl, if_neg q]
  · iterate 6 refine Go.step rfl ?_
    by_cases q : c / 6 < 3
    · refine Go.ifn (nI_ge (a := c / 6) (b := 3) q (by decide)) ?_
      repeat refine Go.step rfl ?_
      refine Go.ret rfl ⟨rfl, ?_⟩
      show some (Value.int (nI c + nI 6)) = _
      rw [nI_add, bes, if_neg (by decide), if_neg (by decide), if_pos rfl, if_pos q]
    · refine Go.ifp (nI_le (a := 3) (b := c / 6) (by omega) (by omega)) ?_
      repeat refine Go.step rfl ?_
      refine Go.ret rfl ⟨rfl, ?_⟩
      rw [bes, if_neg (by decide), if_neg (by decide), if_pos rfl, if_neg q]
  · iterate 5 refine Go.step rfl ?_
    by_cases q : 0 < c % 6
    · refine Go.ifn (nI_nle q (by omega)) ?_
      repeat refine Go.step rfl ?_
      refine Go.ret rfl ⟨rfl, ?_⟩
      show some (Value.int (nI c - nI 1)) = _
      rw [nI_sub (by omega), bes, if_neg (by decide), if_neg (by decide), if_neg (by decide), if_pos q]
    · refine Go.ifp (by rw [show c % 6 = 0 by omega]; decide) ?_
      repeat refine Go.step rfl ?_
      refine Go.ret rfl ⟨rfl, ?_⟩
      rw [bes, if_neg (by decide), if_neg (by decide), if_neg (by decide), if_neg q]
def gon (f : Nat → Int32) (c hd : Nat) : Nat → Int32 := if bes c hd = -1 then va_up f 3 (irm (nI hd + 2) 4) else va_up f 2 (bes c hd)
theorem x_goOn (I : AI) (T : AT) (a N c hd : Nat) (hS : sS T.2.2.2.2.2.2 T.2.2.2.1 a = (10, N)) (hc : c < 24) (hh : hd < 4) (ec : I a 2 = nI c) (ed : I a 3 = nI hd) : Ct 1 y_Boat_goOn [.ref a] (hp I T) (fun r h' => h' = hp (va_up I a (gon (I a) c hd)) T ∧ r = none) := by
  have hb := bes_rg (c := c) (h := hd) hc
  refine Go.step rfl ?_
  refine Go.geti rfl hS (Or.inl rfl) ?_
  rw [ec]
  refine Go.step rfl ?_
  refine Go.geti rfl hS (Or.inl rfl) ?_
  rw [ed]
  refine Go.cal (x_cellBeside _ c hd hc hh) (by decide) rfl ?_
  rintro _ _ ⟨rfl, rfl⟩
  iterate 3 refine Go.step rfl ?_
  refine Go.ite (fun c1 => ?_) (fun c1 => ?_)
  · have c2 : ¬ bes c hd = -1 := fun q => by rw [q] at c1; exact absurd c1 (by decide)
    iterate 2 refine Go.step rfl ?_
    refine Go.puti rfl hS rfl ?_
    refine Go.ret rfl ⟨?_, rfl⟩
    unfold gon
    rw [if_neg c2]
    rfl
  · have c2 : bes c hd = -1 := by
      rcases hb with hb | ⟨⟨k, hk, ek⟩, -⟩
      · exact hb
      · rw [ek] at c1; exact absurd (nI_pos' (by omega)) c1
    iterate 2 refine Go.step rfl ?_
    refine Go.geti rfl hS (Or.inl rfl) ?_
    rw [ed]
    iterate 4 refine Go.step rfl ?_
    refine Go.puti rfl hS rfl ?_
    refine Go.step rfl ?_
    refine Go.ret rfl ⟨?_, rfl⟩
    unfold gon
    rw [if_pos c2]
    rfl
theorem x_useUp (I : AI) (T : AT) (a N : Nat) (hS : sS T.2.2.2.2.2.2 T.2.2.2.1 a = (10, N)) : Ct 1 y_Boat_useUp [.ref a] (hp I T) (fun r h' => h' = hp (va_up I a (va_up (I a) 6 (if 999999 < I a 6 + I a 8 then 999999 else I a 6 + I a 8))) T ∧ r = none) := by
  iterate 2 refine Go.step rfl ?_
  refine Go.geti rfl hS (Or.inl rfl) ?_
  refine Go.step rfl ?_
  refine Go.geti rfl hS (Or.inl rfl) ?_
  iterate 2 refine Go.step rfl ?_
  refine Go.cal (j_min _ _ _) (by decide) rfl ?_
  rintro _ _ ⟨rfl, rfl⟩
  refine Go.puti rfl hS rfl ?_
  exact Go.ret rfl ⟨rfl, rfl⟩
/-- what a boat's drive makes of its fields -/
def drv (f : Nat → Int32) (w : Int32) (br : Bool) : Nat → Int32 :=
  if goesB (f 0) (f 8) (f 3) w = true then gon (if und (f 0) 2 = true ∧ br = true then va_up f 5 (owd (f 5) 1) else f) (cl (f 2)) (cl (f 3)) else f
theorem drv_no {f : Nat → Int32} {w : Int32} {br : Bool} (h : goesB (f 0) (f 8) (f 3) w = false) : drv f w br = f := by
  unfold drv; rw [if_neg (by rw [h]; decide)]
theorem gon_other {f : Nat → Int32} {c hd k : Nat} (h2 : k ≠ 2) (h3 : k ≠ 3) : gon f c hd k = f k := by
  unfold gon; split
  · exact va_up_ne _ _ h3
  · exact va_up_ne _ _ h2
theorem drv_other {f : Nat → Int32} {w : Int32} {br : Bool} {k : Nat} (h5 : k ≠ 5) (h2 : k ≠ 2) (h3 : k ≠ 3) : drv f w br k = f k := by
  unfold drv
  split
  · rw [gon_other h2 h3]
    split
    · exact va_up_ne _ _ h5
    · rfl
  · rfl
theorem drv_5 {f : Nat → Int32} {w : Int32} {br : Bool} : drv f w br 5 = if und (f 0) 2 = true ∧ br = true then owd (f 5) 1 else f 5 := by
  unfold drv
  by_cases hg : goesB (f 0) (f 8) (f 3) w = true
  · rw [if_pos hg, gon_other (by decide) (by decide)]
    split
    · exact vu_same _ _ _
    · rfl
  · rw [if_neg hg]
    have : ¬ und (f 0) 2 = true := by
      intro q
      apply hg
      unfold goesB
      rw [q, Bool.or_true]
    rw [if_neg (fun q => this q.1)]
theorem drv_2 {f : Nat → Int32} {w : Int32} {br : Bool} : drv f w br 2 = if goesB (f 0) (f 8) (f 3) w = true ∧ ¬ bes (cl (f 2)) (cl (f 3)) = -1 then bes (cl (f 2)) (cl (f 3)) else f 2 := by
  have e2 : (if und (f 0) 2 = true ∧ br = true then va_up f 5 (owd (f 5) 1) else f) 2 = f 2 := by
    split
    · exact va_up_ne _ _ (by decide)
    · rfl
  unfold drv
  generalize (if und (f 0) 2 = true ∧ br = true then va_up f 5 (owd (f 5) 1) else f) = g at e2 ⊢
  by_cases hg : goesB (f 0) (f 8) (f 3) w = true
  · rw [if_pos hg]
    unfold gon
    by_cases hb : bes (cl (f 2)) (cl (f 3)) = -1
    · rw [if_pos hb, if_neg (fun q => q.2 hb), va_up_ne g _ (show 2 ≠ 3 by decide)]
      exact e2
    · rw [if_neg hb, if_pos ⟨hg, hb⟩, vu_same]
  · rw [if_neg hg, if_neg (fun q => hg q.1)]
theorem drv_3 {f : Nat → Int32} {w : Int32} {br : Bool} {hd : Nat} (hh : hd < 4) (e : f 3 = nI hd) : drv f w br 3 = if goesB (f 0) (f 8) (f 3) w = true ∧ bes (cl (f 2)) (cl (f 3)) = -1 then irm (f 3 + 2) 4 else f 3 := by
  have ec : nI (cl (f 3)) = f 3 := by rw [e]; show nI (nI hd).toNatClampNeg = _; rw [nI_clamp (by omega)]
  have e3 : (if und (f 0) 2 = true ∧ br = true then va_up f 5 (owd (f 5) 1) else f) 3 = f 3 := by
    split
    · exact va_up_ne _ _ (by decide)
    · rfl
  unfold drv
  generalize (if und (f 0) 2 = true ∧ br = true then va_up f 5 (owd (f 5) 1) else f) = g at e3 ⊢
  by_cases hg : goesB (f 0) (f 8) (f 3) w = true
  · rw [if_pos hg]
    unfold gon
    by_cases hb : bes (cl (f 2)) (cl (f 3)) = -1
    · rw [if_pos hb, if_pos ⟨hg, hb⟩, vu_same, ec]
    · rw [if_neg hb, if_neg (fun q => hb q.2), va_up_ne g _ (show 3 ≠ 2 by decide)]
      exact e3
  · rw [if_neg hg, if_neg (fun q => hg q.1)]
theorem x_drive (xs : Nat → Int32) (I : AI) (T : AT) (hC : XCon xs I) (B a N o c hd : Nat) (ha : a < 1000) (hS : sS T.2.2.2.2.2.2 T.2.2.2.1 a = (10, N)) (ho : o ≤ 6) (hc : c < 24) (hh : hd < 4) (eo : I a 0 = nI o) (ec : I a 2 = nI c) (ed : I a 3 = nI hd) (w : Int32) (br : Bool) : Ct 3 y_Sea_drive [.ref B, .ref a, .int w, .int (bo br)] (hp I T) (fun q h' => h' = hp (va_up I a (drv (I a) w br)) T ∧ q = none) := by
  have ecl : cl (I a 2) = c := by rw [ec]; exact nI_clamp (by omega)
  have edl : cl (I a 3) = hd := by rw [ed]; exact nI_clamp (by omega)
  have stay : goesB (I a 0) (I a 8) (I a 3) w = false → Go 3 y_Sea_drive 58 [some (.ref B), some (.ref a), some (.int w), some (.int (bo br))] [] (hp I T) (fun q h' => h' = hp (va_up I a (drv (I a) w br)) T ∧ q = none) := by
    intro q
    refine Go.ret rfl ⟨?_, rfl⟩
    rw [drv_no q, vu_self]
  refine Go.step rfl ?_
  refine Go.geti rfl hS (Or.inl rfl) ?_
  rw [eo]
  refine Go.step rfl ?_
  refine Go.cal (x_isUnder xs I T hC o ho 2 ⟨2, by decide, rfl⟩) (by decide) rfl ?_
  rintro _ _ ⟨rfl, rfl⟩
  rw [← eo]
  refine Go.step rfl ?_
  refine Go.ifz (fun c1 => ?_) (fun c1 => ?_)
  · refine Go.step rfl ?_
    refine Go.geti rfl hS (Or.inl rfl) ?_
    rw [eo]
    refine Go.step rfl ?_
    refine Go.cal (x_isUnder xs I T hC o ho 1 ⟨1, by decide, rfl⟩) (by decide) rfl ?_
    rintro _ _ ⟨rfl, rfl⟩
    rw [← eo]
    refine Go.step rfl ?_
    refine Go.ifz (fun c2 => ?_) (fun c2 => ?_)
    · exact stay (by unfold goesB; rw [c1, c2]; rfl)
    · refine Go.step rfl ?_
      refine Go.geti rfl hS (Or.inl rfl) ?_
      iterate 2 refine Go.step rfl ?_
      refine Go.ite (fun c3 => ?_) (fun c3 => ?_)
      · exact stay (by unfold goesB; rw [c1, decide_eq_false (Int32.not_le.mpr c3), Bool.and_false]; rfl)
      · refine Go.step rfl ?_
        refine Go.geti rfl hS (Or.inl rfl) ?_
        iterate 2 refine Go.step rfl ?_
        refine Go.ite (fun c4 => ?_) (fun c4 => ?_)
        · exact stay (by unfold goesB; rw [c1, decide_eq_true c4, Bool.not_true, Bool.and_false]; rfl)
        · refine Go.step rfl ?_
          refine Go.calv (x_goOn I T a N c hd hS hc hh ec ed) (by decide) rfl rfl hS rfl ?_
          rintro _ _ ⟨rfl, rfl⟩
          refine Go.ret rfl ⟨?_, rfl⟩
          have : goesB (I a 0) (I a 8) (I a 3) w = true := by unfold goesB; rw [c2, decide_eq_true (Int32.not_lt.mp c3), decide_eq_false c4]; rfl
          unfold drv
          rw [if_pos this, if_neg (fun q => by rw [c1] at q; exact absurd q.1 (by decide)), ecl, edl]
  · have hg : goesB (I a 0) (I a 8) (I a 3) w = true := by unfold goesB; rw [c1, Bool.or_true]
    iterate 2 refine Go.step rfl ?_
    refine Go.ifz (fun c2 => ?_) (fun c2 => ?_)
    · refine Go.step rfl ?_
      refine Go.calv (x_goOn I T a N c hd hS hc hh ec ed) (by decide) rfl rfl hS rfl ?_
      rintro _ _ ⟨rfl, rfl⟩
      refine Go.step rfl ?_
      refine Go.ret rfl ⟨?_, rfl⟩
      unfold drv
      rw [if_pos hg, if_neg (fun q => by rw [c2] at q; exact absurd q.2 (by decide)), ecl, edl]
    · iterate 2 refine Go.step rfl ?_
      refine Go.calv (x_owe I T a N 1 hS) (by decide) rfl rfl hS rfl ?_
      rintro _ _ ⟨rfl, rfl⟩
      refine Go.step rfl ?_
      refine Go.calv (x_goOn _ T a N c hd hS hc hh (by rw [vu_same, va_up_ne _ _ (by decide)]; exact ec) (by rw [vu_same, va_up_ne _ _ (by decide)]; exact ed)) (by decide) rfl rfl hS rfl ?_
      rintro _ _ ⟨rfl, rfl⟩
      refine Go.step rfl ?_
      refine Go.ret rfl ⟨?_, rfl⟩
      unfold drv
      rw [if_pos hg, if_pos ⟨c1, c2⟩, ecl, edl, vu_idem, vu_same]
/-! numbers of an hour -/
theorem hel_id {v a b : Int32} (h1 : a ≤ v) (h2 : v ≤ b) : hel v a b = v := by
  unfold hel; rw [if_neg (Int32.not_lt.mpr h1), if_neg (Int32.not_lt.mpr h2)]
theorem rg_of_le {x : Int32} {N : Nat} (hN : N < 2 ^ 31) (h1 : 0 ≤ x) (h2 : x ≤ nI N) : rg x N :=
  rg_of_win hN (by simp only [win, Bool.and_eq_true, decide_eq_true_eq]; exact ⟨h1, h2⟩)
theorem tk_in {s : Nat → Int32} (hs : sOK s) (set : Int32) (b : Nat) : rg (tk s set b) 40 := by
  unfold tk
  split
  · have h1 := lf_in hs set (lno (wyn s) (cel s b)) (key s b)
    have h2 := wan_in (s := s) (b := b) h1.1
    exact rg_of_le (by decide) h2.1 (Int32.le_trans h2.2 h1.2)
  · exact ⟨0, by decide, rfl⟩
theorem bl_small {s : Nat → Int32} {t p : Int32} (k : Int32) (h : s 247 = 0) (ht : rg t 40) (hp : rg p 99) : hel (bl0 s t p k) (-9999) 9999 = bl0 s t p k := by
  obtain ⟨a, ha, rfl⟩ := ht
  obtain ⟨b, hb, rfl⟩ := hp
  have hab : a * b ≤ 40 * 99 := Nat.mul_le_mul ha hb
  have e0 : (-9999 : Int32).toInt = -9999 := by decide
  have e9 : (9999 : Int32).toInt = 9999 := by decide
  unfold bl0
  rw [if_pos h, nI_mul]
  split
  · rw [show (2 : Int32) = nI 2 from rfl, nI_mul]
    have : (nI (a * b) - nI (2 * a)).toInt = (a * b : Nat) - (2 * a : Nat) := by
      rw [Int32.toInt_sub, nI_toInt (by omega), nI_toInt (by omega), Int.bmod_eq_of_le (by omega) (by omega)]
    apply hel_id
    · rw [Int32.le_iff_toInt_le, this, e0]; omega
    · rw [Int32.le_iff_toInt_le, this, e9]; omega
  · rw [Int32.sub_zero]
    apply hel_id
    · rw [Int32.le_iff_toInt_le, nI_toInt (by omega), e0]; omega
    · rw [Int32.le_iff_toInt_le, nI_toInt (by omega), e9]; omega
theorem use_eq {u t : Int32} (hu : rg u 999999) (ht : rg t 40) : (if 999999 < u + t then 999999 else u + t) = hel (u + t) 0 999999 := by
  obtain ⟨a, ha, rfl⟩ := hu
  obtain ⟨b, hb, rfl⟩ := ht
  rw [nI_add]
  unfold hel
  rw [if_neg (nI_pos (by omega))]
theorem owd_in (o x : Int32) : (-999999 : Int32) ≤ owd o x ∧ owd o x ≤ 999999 := by
  unfold owd; exact hel_in (by decide)
theorem ow1_in {s : Nat → Int32} {b : Nat} (h : (-999999 : Int32) ≤ s (58 + 8 * b + 5) ∧ s (58 + 8 * b + 5) ≤ 999999) : (-999999 : Int32) ≤ ow1 s b ∧ ow1 s b ≤ 999999 := by
  unfold ow1; split
  · exact owd_in _ _
  · exact h
theorem ow2_in {s : Nat → Int32} {b : Nat} (h : (-999999 : Int32) ≤ s (58 + 8 * b + 5) ∧ s (58 + 8 * b + 5) ≤ 999999) : (-999999 : Int32) ≤ ow2 s b ∧ ow2 s b ≤ 999999 := by
  unfold ow2; split
  · exact owd_in _ _
  · exact ow1_in h
theorem ow3_in {s : Nat → Int32} {b : Nat} (br : Int32) (h : (-999999 : Int32) ≤ s (58 + 8 * b + 5) ∧ s (58 + 8 * b + 5) ≤ 999999) : (-999999 : Int32) ≤ ow3 s br b ∧ ow3 s br b ≤ 999999 := by
  unfold ow3; split
  · exact owd_in _ _
  · exact ow2_in h
theorem hr_off (s : Nat → Int32) (bread : Int32) {j : Nat} (h : j < 58 ∨ 122 ≤ j) (h1 : j ≠ 1) : hr s bread j = s j := by
  unfold hr; rw [va_up_ne _ _ h1, hr3_off _ _ _ h]
theorem hr_1 (s : Nat → Int32) (bread : Int32) : hr s bread 1 = s 1 + 1 := by
  unfold hr; exact vu_same _ _ _
theorem hr_at (s : Nat → Int32) (bread : Int32) {b f : Nat} (hb : b < 8) (hf : f < 8) (hbn : b < cl (s 0)) : hr s bread (58 + 8 * b + f) = if f = 5 then ow3 s bread b else if f = 2 then cl3 s b else if f = 3 then hd3 s b else if f = 6 then usd s b else s (58 + 8 * b + f) := by
  unfold hr
  rw [va_up_ne _ _ (by omega), hr3_at _ _ _ hb hf]
  simp only [hbn, and_true]
  unfold F3
  by_cases f5 : f = 5
  · subst f5; simp
  · by_cases f2 : f = 2
    · subst f2; simp
    · by_cases f3 : f = 3
      · subst f3; simp
      · simp [f5, f2, f3]
theorem hr_ok {s : Nat → Int32} (hs : sOK s) (bread : Int32) (h : cl (s 1) < 11000) : sOK (hr s bread) ∧ hr s bread 1 = nI (cl (s 1) + 1) := by
  obtain ⟨s1, s2, s3, s4, s5, s6, s7, s8⟩ := id hs
  obtain ⟨e1, -⟩ := s2.eq (by decide)
  have e2 : hr s bread 1 = nI (cl (s 1) + 1) := by rw [hr_1, e1, nI_1, ← e1]
  refine ⟨⟨by rw [hr_off _ _ (by omega) (by omega)]; exact s1, ⟨_, by omega, e2⟩, by rw [hr_off _ _ (by omega) (by omega)]; exact s3, by rw [hr_off _ _ (by omega) (by omega)]; exact s4, fun q hq => by rw [hr_off _ _ (by omega) (by omega)]; exact s5 q hq, fun q hq => by rw [hr_off _ _ (by omega) (by omega)]; exact s6 q hq, fun q hq => by rw [hr_off _ _ (by omega) (by omega)]; exact s7 q hq, fun b hb => ?_⟩, e2⟩
  rw [hr_off _ _ (by omega) (by omega)] at hb
  have hb8 : b < 8 := Nat.lt_of_lt_of_le hb (cl_le s1)
  obtain ⟨b0, b1, b2, b3, b4, b5, b6, b7⟩ := s8 b hb
  have at' : ∀ f, f < 8 → hr s bread (58 + 8 * b + f) = if f = 5 then ow3 s bread b else if f = 2 then cl3 s b else if f = 3 then hd3 s b else if f = 6 then usd s b else s (58 + 8 * b + f) := fun f hf => hr_at s bread hb8 hf hb
  refine ⟨?_, ?_, ?_, ?_, ?_, ?_, ?_, ?_⟩
  · rw [show 58 + 8 * b = 58 + 8 * b + 0 from rfl, at' 0 (by decide), if_neg (by decide), if_neg (by decide), if_neg (by decide), if_neg (by decide)]; exact b0
  · rw [at' 1 (by decide), if_neg (by decide), if_neg (by decide), if_neg (by decide), if_neg (by decide)]; exact b1
  · rw [at' 2 (by decide), if_neg (by decide), if_pos rfl]
    unfold cl3
    split
    · rename_i q
      rcases bes_rg (c := cel s b) (h := cl (s (58 + 8 * b + 3))) (cel_lt hs hb).1 with z | z
      · exact absurd z q.2
      · exact z.1
    · exact b2
  · rw [at' 3 (by decide), if_neg (by decide), if_neg (by decide), if_pos rfl]
    unfold hd3
    split
    · obtain ⟨k, hk, ek⟩ := b3
      rw [ek, show (2 : Int32) = nI 2 from rfl, nI_add, show (4 : Int32) = nI 4 from rfl, irm_nI (by omega) (by decide)]
      exact rg_nI (by omega)
    · exact b3
  · rw [at' 4 (by decide), if_neg (by decide), if_neg (by decide), if_neg (by decide), if_neg (by decide)]; exact b4
  · rw [at' 5 (by decide), if_pos rfl]; exact ow3_in _ b5
  · rw [at' 6 (by decide), if_neg (by decide), if_neg (by decide), if_neg (by decide), if_pos rfl]
    unfold usd
    have := hel_in (v := s (58 + 8 * b + 6) + tk s 255 b) (a := 0) (b := 999999) (by decide)
    exact rg_of_le (by decide) this.1 this.2
  · rw [at' 7 (by decide), if_neg (by decide), if_neg (by decide), if_neg (by decide), if_neg (by decide)]; exact b7
def hrs (s : Nat → Int32) (bread : Int32) : Nat → Nat → Int32
  | 0 => s
  | k + 1 => hr (hrs s bread k) bread
theorem hrs_ok {s : Nat → Int32} (hs : sOK s) (bread : Int32) : ∀ k, cl (s 1) + k ≤ 11000 → sOK (hrs s bread k) ∧ hrs s bread k 1 = nI (cl (s 1) + k) := by
  intro k
  induction k with
  | zero => intro _; exact ⟨hs, (hs.2.1.eq (by decide)).1⟩
  | succ k ih =>
    intro h
    obtain ⟨h1, h2⟩ := ih (by omega)
    have e : cl (hrs s bread k 1) = cl (s 1) + k := by rw [h2]; exact nI_clamp (by omega)
    have := hr_ok h1 bread (by omega)
    rw [e] at this
    exact this
theorem hrs_off (s : Nat → Int32) (bread : Int32) {j : Nat} (h : j < 58 ∨ 122 ≤ j) (h1 : j ≠ 1) : ∀ k, hrs s bread k j = s j := by
  intro k
  induction k with
  | zero => rfl
  | succ k ih => rw [hrs, hr_off _ _ h h1]; exact ih
theorem XTxt.tok {I : AI} {T : AT} {o : Option Nat} {u : Nat} {s : Nat → Int32} (h : XTxt I T o u s) : tOK s u := by
  cases o with
  | none => exact Or.inl h
  | some a =>
    obtain ⟨h1, h2, h3, w, len, h4, h5, h6, h7, h8, h9, h10⟩ := h
    exact Or.inr ⟨I w, len, h8, h9, h10⟩
theorem XSea.tok {I : AI} {T : AT} {B i u : Nat} {s : Nat → Int32} (h : XSea I T B i s) (hu : u < 2) : tOK s u := (h.2.2.2.2.2 u hu).tok
/-- all of a boat's fields -/
theorem XSea.boatF {I : AI} {T : AT} {B i b : Nat} {s s' : Nat → Int32} {F : Nat → Int32} (h : XSea I T B i s) (hb : b < 8) (hB : B + 16 ≤ 91) (h1 : ∀ j, j < 58 + 8 * b ∨ 58 + 8 * b + 8 ≤ j → s' j = s j) (h2 : ∀ f, f < 8 → F f = s' (58 + 8 * b + f)) : XSea (va_up I (B + 8 + b) F) T B i s' := by
  obtain ⟨x1, x2, x3, x4, x5, x6⟩ := h
  refine ⟨by rw [va_up_ne _ _ (by omega), h1 _ (by omega)]; exact x1, by rw [va_up_ne _ _ (by omega), h1 _ (by omega)]; exact x2, fun j hj => by rw [va_up_ne _ _ (by omega), h1 _ (by omega), h1 _ (by omega)]; exact x3 j hj, fun q hq => by rw [va_up_ne _ _ (by omega), h1 _ (by omega)]; exact x4 q hq, fun b' f' g1 g2 g3 => ?_, fun u hu => (x6 u hu).kept (fun a ha => va_up_ne _ _ (by omega)) (fun j g1 g2 => h1 _ (by omega)) hu⟩
  rw [h1 0 (by omega)] at g1
  by_cases q : b' = b
  · subst q; rw [vu_same]; exact h2 f' g3
  · rw [va_up_ne _ _ (by omega), h1 _ (by omega)]; exact x5 b' f' g1 g2 g3
