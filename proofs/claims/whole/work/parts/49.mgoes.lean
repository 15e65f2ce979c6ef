/-! AN HOUR, as the reference has it: bills, ways, rows -/
theorem row_ext {r r' : Nat → Int32} (h1 : ∀ j, j < 58 ∨ 122 ≤ j → r j = r' j) (h2 : ∀ b f, b < 8 → f < 8 → r (58 + 8 * b + f) = r' (58 + 8 * b + f)) : r = r' := by
  funext j
  by_cases q : j < 58 ∨ 122 ≤ j
  · exact h1 j q
  · have := h2 ((j - 58) / 8) ((j - 58) % 8) (by omega) (by omega)
    rw [show 58 + 8 * ((j - 58) / 8) + (j - 58) % 8 = j by omega] at this
    exact this
def ft (s : Nat → Int32) (F : Nat → Nat → Int32) (M : Nat → Nat → Bool) (j : Nat) : Int32 := if 58 ≤ j ∧ j < 122 ∧ M ((j - 58) / 8) ((j - 58) % 8) = true then F ((j - 58) / 8) ((j - 58) % 8) else s j
theorem ft_at (s : Nat → Int32) (F : Nat → Nat → Int32) (M : Nat → Nat → Bool) {b f : Nat} (hb : b < 8) (hf : f < 8) : ft s F M (58 + 8 * b + f) = if M b f = true then F b f else s (58 + 8 * b + f) := by
  unfold ft
  rw [show (58 + 8 * b + f - 58) / 8 = b by omega, show (58 + 8 * b + f - 58) % 8 = f by omega]
  by_cases q : M b f = true
  · rw [if_pos q, if_pos ⟨by omega, by omega, q⟩]
  · rw [if_neg q, if_neg (fun z => q z.2.2)]
theorem ft_off (s : Nat → Int32) (F : Nat → Nat → Int32) (M : Nat → Nat → Bool) {j : Nat} (h : j < 58 ∨ 122 ≤ j) : ft s F M j = s j := by
  unfold ft; rw [if_neg (by omega)]
theorem rva_at (r : Nat → Int32) {b f b' f' : Nat} (v : Int32) (hf : f < 8) (hf' : f' < 8) : va_up r (58 + 8 * b + f) v (58 + 8 * b' + f') = if b' = b ∧ f' = f then v else r (58 + 8 * b' + f') := by
  by_cases q : b' = b ∧ f' = f
  · obtain ⟨rfl, rfl⟩ := q; rw [vu_same, if_pos ⟨rfl, rfl⟩]
  · rw [if_neg q, va_up_ne _ _ (by omega)]
def bes (c h : Nat) : Int32 := if h = 0 then (if 0 < c / 6 then nI (c - 6) else -1) else if h = 1 then (if c % 6 < 5 then nI (c + 1) else -1) else if h = 2 then (if c / 6 < 3 then nI (c + 6) else -1) else (if 0 < c % 6 then nI (c - 1) else -1)
theorem bes_rg {c h : Nat} (hc : c < 24) : bes c h = -1 ∨ (rg (bes c h) 23 ∧ ¬ bes c h = -1) := by
  have key : ∀ k, k ≤ 23 → rg (nI k) 23 ∧ ¬ nI k = -1 := fun k hk => ⟨rg_nI hk, fun q => nI_pos (n := k) (by omega) (by rw [q]; decide)⟩
  unfold bes
  split
  · split
    · exact Or.inr (key _ (by omega))
    · exact Or.inl rfl
  · split
    · split
      · exact Or.inr (key _ (by omega))
      · exact Or.inl rfl
    · split
      · split
        · exact Or.inr (key _ (by omega))
        · exact Or.inl rfl
      · split
        · exact Or.inr (key _ (by omega))
        · exact Or.inl rfl
theorem m_beside (h : AH) (c w : Nat) (hc : c < 24) (hw : w < 4) : Ct 0 y_M_beside [.int (nI c), .int (nI w)] h (fun r h' => h' = h ∧ r = some (.int (bes c w))) := by
  obtain ⟨I, P, S, n, sl⟩ := h
  have e1 : nI c / 6 = nI (c / 6) := nI_div (b := 6) (by omega) (by decide)
  have e2 : irm (nI c) 6 = nI (c % 6) := irm_nI (b := 6) (by omega) (by decide)
  iterate 3 refine Go.step rfl ?_
  rw [e1]
  iterate 4 refine Go.step rfl ?_
  rw [e2]
  rcases (show w = 0 ∨ w = 1 ∨ w = 2 ∨ w = 3 by omega) with rfl | rfl | rfl | rfl
  · iterate 5 refine Go.step rfl ?_
    by_cases q : 0 < c / 6
    · refine Go.ifn (nI_nle q (by omega)) ?_
      repeat refine Go.step rfl ?_
      refine Go.ret rfl ⟨rfl, ?_⟩
      show some (Value.int (nI c - nI 6)) = _
      rw [nI_sub (by omega), bes, if_pos rfl, if_pos q]
    · refine Go.ifp (by rw [show c / 6 = 0 by omega]; decide) ?_
      repeat refine Go.step rfl ?_
      refine Go.ret rfl ⟨rfl, ?_⟩
      rw [bes, if_pos rfl, if_neg q]
  · iterate 9 refine Go.step rfl ?_
    by_cases q : c % 6 < 5
    · refine Go.ifn (nI_ge (a := c % 6) (b := 5) q (by decide)) ?_
      repeat refine Go.step rfl ?_
      refine Go.ret rfl ⟨rfl, ?_⟩
      rw [nI_1, bes, if_neg (by decide), if_pos rfl, if_pos q]
    · refine Go.ifp (nI_le (a := 5) (b := c % 6) (by omega) (by omega)) ?_
      repeat refine Go.step rfl ?_
      refine Go.ret rfl ⟨rfl, ?_⟩
      rw [bes, if_neg (by decide), if_pos rfl, if_neg q]
  · iterate 12 refine Go.step rfl ?_
    by_cases q : c / 6 < 3
    · refine Go.ifn (nI_ge (a := c / 6) (b := 3) q (by decide)) ?_
      repeat refine Go.step rfl ?_
      refine Go.ret rfl ⟨rfl, ?_⟩
      show some (Value.int (nI c + nI 6)) = _
      rw [nI_add, bes, if_neg (by decide), if_neg (by decide), if_pos rfl, if_pos q]
    · refine Go.ifp (nI_le (a := 3) (b := c / 6) (by omega) (by omega)) ?_
      repeat refine Go.step rfl ?_
      refine Go.ret rfl ⟨rfl, ?_⟩
      rw [bes, if_neg (by decide), if_neg (by decide), if_pos rfl, if_neg q]
  · iterate 11 refine Go.step rfl ?_
    by_cases q : 0 < c % 6
    · refine Go.ifn (nI_nle q (by omega)) ?_
      repeat refine Go.step rfl ?_
      refine Go.ret rfl ⟨rfl, ?_⟩
      show some (Value.int (nI c - nI 1)) = _
      rw [nI_sub (by omega), bes, if_neg (by decide), if_neg (by decide), if_neg (by decide), if_pos q]
    · refine Go.ifp (by rw [show c % 6 = 0 by omega]; decide) ?_
      repeat refine Go.step rfl ?_
      refine Go.ret rfl ⟨rfl, ?_⟩
      rw [bes, if_neg (by decide), if_neg (by decide), if_neg (by decide), if_neg q]
/-- a bill before it is held -/
def bl0 (s : Nat → Int32) (t p k : Int32) : Int32 := if s 247 = 0 then t * p - (if 30 < k then 2 * t else 0) else tev s 1 t p k
theorem m_bill (I : AI) (T : AT) (b c h : Nat) (hb8 : b < 8) (hc : c < 24) (ec : I 74 (58 + 8 * b + 2) = nI c) (eh : I 74 1 = nI h) (hh : h < 100000) (ht : tOK (I 74) 1) : Ct 2 y_M_bill [.ref 73, .int (nI b)] (hp I T) (fun r h' => ∃ g g', h' = hp (va_up (va_up I 79 g) 80 g') T ∧ r = some (.int (hel (bl0 (I 74) (I 83 b) (I 74 (5 + c / 6)) (I 74 (10 + h % 24))) (-9999) 9999))) := by
  iterate 3 refine Go.step rfl ?_
  refine Go.iald rfl rfl (am_in_nI hb8 (by decide)) ?_
  rw [nI_clamp (by omega)]
  iterate 2 refine Go.step rfl ?_
  refine Go.cal (m_knots I T h eh hh) (by decide) rfl ?_
  rintro _ _ ⟨rfl, rfl⟩
  iterate 5 refine Go.step rfl ?_
  refine Go.cal (m_its I T b 2 hb8 (by decide)) (by decide) rfl ?_
  rintro _ _ ⟨rfl, rfl⟩
  rw [ec]
  refine Go.cal (m_priceAt I T c hc) (by decide) rfl ?_
  rintro _ _ ⟨rfl, rfl⟩
  iterate 3 refine Go.step rfl ?_
  refine Go.cal (m_hasText' I T 1 (by decide)) (by decide) rfl ?_
  rintro _ _ ⟨rfl, rfl⟩
  have hp0 := tOK_pos ht
  refine Go.step rfl ?_
  refine Go.ifz (fun c1 => ?_) (fun c1 => ?_)
  · have c2 : I 74 247 = 0 := Decidable.byContradiction (fun q => of_decide_eq_false c1 (hp0.mpr q))
    have e9 : bl0 (I 74) (I 83 b) (I 74 (5 + c / 6)) (I 74 (10 + h % 24)) = I 83 b * I 74 (5 + c / 6) - (if 30 < I 74 (10 + h % 24) then 2 * I 83 b else 0) := by
      unfold bl0; rw [if_pos c2]
    rw [e9]
    iterate 6 refine Go.step rfl ?_
    refine Go.ite (fun c3 => ?_) (fun c3 => ?_)
    · iterate 4 refine Go.step rfl ?_
      refine Go.cal (m_held _ _ _ _) (by decide) rfl ?_
      rintro _ _ ⟨rfl, rfl⟩
      refine Go.ret rfl ⟨I 79, I 80, by rw [vu_self, vu_self], ?_⟩
      rw [if_neg (Int32.not_lt.mpr c3)]
    · iterate 7 refine Go.step rfl ?_
      refine Go.cal (m_held _ _ _ _) (by decide) rfl ?_
      rintro _ _ ⟨rfl, rfl⟩
      refine Go.ret rfl ⟨I 79, I 80, by rw [vu_self, vu_self], ?_⟩
      rw [if_pos (Int32.not_le.mp c3)]
  · have c2 : ¬ I 74 247 = 0 := hp0.mp (of_decide_eq_true c1)
    rcases ht with ht | ⟨f, len, h1, h2, h3⟩
    · exact absurd ht c2
    have e9 : bl0 (I 74) (I 83 b) (I 74 (5 + c / 6)) (I 74 (10 + h % 24)) = evT f len (I 83 b) (I 74 (5 + c / 6)) (I 74 (10 + h % 24)) := by
      unfold bl0; rw [if_neg c2, tev_eq (by decide) h1 h2 h3]
    rw [e9]
    iterate 17 refine Go.step rfl ?_
    simp only [vu_idem, vu_same]
    refine Go.cal (m_worked _ T 1 (by decide) f len h1 (by rw [va_up_ne _ _ (by decide)]; exact h2) (fun k hk => by rw [va_up_ne _ _ (by decide)]; exact h3 k hk) (I 83 b) (I 74 (5 + c / 6)) (I 74 (10 + h % 24)) ?_ ?_ ?_) (by decide) rfl ?_
    · rw [vu_same]; rfl
    · rw [vu_same]; rfl
    · rw [vu_same]; rfl
    · rintro _ _ ⟨g, rfl, rfl⟩
      iterate 2 refine Go.step rfl ?_
      refine Go.cal (m_held _ _ _ _) (by decide) rfl ?_
      rintro _ _ ⟨rfl, rfl⟩
      exact Go.ret rfl ⟨_, g, rfl, rfl⟩
/-- a boat's way in an hour: whether it rows, whether it goes on -/
def rowsB (k : Int32) : Bool := und k 2
def goesB (k t hd w : Int32) : Bool := (und k 1 && decide (3 ≤ t) && !decide (hd = w)) || und k 2
def gs (r : Nat → Int32) (t w bread : Int32) (b : Nat) : Nat → Int32 :=
  if goesB (r (58 + 8 * b)) t (r (58 + 8 * b + 3)) w = true then
    (if bes (cl (r (58 + 8 * b + 2))) (cl (r (58 + 8 * b + 3))) = -1 then va_up (if rowsB (r (58 + 8 * b)) = true then va_up r (58 + 8 * b + 5) (owd (r (58 + 8 * b + 5)) bread) else r) (58 + 8 * b + 3) (irm (r (58 + 8 * b + 3) + 2) 4) else va_up (if rowsB (r (58 + 8 * b)) = true then va_up r (58 + 8 * b + 5) (owd (r (58 + 8 * b + 5)) bread) else r) (58 + 8 * b + 2) (bes (cl (r (58 + 8 * b + 2))) (cl (r (58 + 8 * b + 3)))))
  else r
theorem m_goes (I : AI) (T : AT) (b c hd h : Nat) (bread : Int32) (hb8 : b < 8) (hc : c < 24) (hhd : hd < 4) (ec : I 74 (58 + 8 * b + 2) = nI c) (ed : I 74 (58 + 8 * b + 3) = nI hd) (eh : I 74 1 = nI h) (hh : h < 100000) : Ct 2 y_M_goes [.ref 73, .int (nI b), .int bread] (hp I T) (fun r h' => h' = hp (va_up I 74 (gs (I 74) (I 83 b) (I 74 (34 + h % 24)) bread b)) T ∧ r = none) := by
  have last : ∀ (r1 : Nat → Int32) (t3 t4 t5 : Value), (r1 = if rowsB (I 74 (58 + 8 * b)) = true then va_up (I 74) (58 + 8 * b + 5) (owd (I 74 (58 + 8 * b + 5)) bread) else I 74) → goesB (I 74 (58 + 8 * b)) (I 83 b) (I 74 (58 + 8 * b + 3)) (I 74 (34 + h % 24)) = true → Go 2 y_M_goes 73 [some (.ref 73), some (.int (nI b)), some (.int bread), some t3, some t4, some t5, none] [] (hp (va_up I 74 r1) T) (fun r h' => h' = hp (va_up I 74 (gs (I 74) (I 83 b) (I 74 (34 + h % 24)) bread b)) T ∧ r = none) := by
    intro r1 t3 t4 t5 hr1 hg
    have q2 : r1 (58 + 8 * b + 2) = nI c := by
      rw [hr1]; split
      · rw [va_up_ne _ _ (by omega)]; exact ec
      · exact ec
    have q3 : r1 (58 + 8 * b + 3) = nI hd := by
      rw [hr1]; split
      · rw [va_up_ne _ _ (by omega)]; exact ed
      · exact ed
    have e9 : gs (I 74) (I 83 b) (I 74 (34 + h % 24)) bread b = if bes c hd = -1 then va_up r1 (58 + 8 * b + 3) (irm (nI hd + 2) 4) else va_up r1 (58 + 8 * b + 2) (bes c hd) := by
      unfold gs
      rw [hg, if_pos rfl, ← hr1, ec, ed, show cl (nI c) = c from nI_clamp (by omega), show cl (nI hd) = hd from nI_clamp (by omega)]
    rw [e9]
    iterate 3 refine Go.step rfl ?_
    refine Go.cal (m_its _ T b 2 hb8 (by decide)) (by decide) rfl ?_
    rintro _ _ ⟨rfl, rfl⟩
    rw [vu_same, q2]
    iterate 3 refine Go.step rfl ?_
    refine Go.cal (m_its _ T b 3 hb8 (by decide)) (by decide) rfl ?_
    rintro _ _ ⟨rfl, rfl⟩
    rw [vu_same, q3]
    refine Go.cal (m_beside _ c hd hc hhd) (by decide) rfl ?_
    rintro _ _ ⟨rfl, rfl⟩
    iterate 4 refine Go.step rfl ?_
    refine Go.ite (fun c1 => ?_) (fun c1 => ?_)
    · iterate 6 refine Go.step rfl ?_
      refine Go.cal (m_its _ T b 3 hb8 (by decide)) (by decide) rfl ?_
      rintro _ _ ⟨rfl, rfl⟩
      rw [vu_same, q3]
      iterate 4 refine Go.step rfl ?_
      refine Go.cal (m_lays1 _ T b 3 _ hb8 (by decide)) (by decide) rfl ?_
      rintro _ _ ⟨rfl, rfl⟩
      refine Go.step rfl ?_
      refine Go.ret rfl ⟨?_, rfl⟩
      rw [vu_idem, vu_same, if_pos c1]
    · iterate 4 refine Go.step rfl ?_
      refine Go.cal (m_lays1 _ T b 2 _ hb8 (by decide)) (by decide) rfl ?_
      rintro _ _ ⟨rfl, rfl⟩
      refine Go.ret rfl ⟨?_, rfl⟩
      rw [vu_idem, vu_same, if_neg c1]
  have mid : ∀ (sl : Bool), sl = (und (I 74 (58 + 8 * b)) 1 && decide (3 ≤ I 83 b) && !decide (I 74 (58 + 8 * b + 3) = I 74 (34 + h % 24))) → Go 2 y_M_goes 43 [some (.ref 73), some (.int (nI b)), some (.int bread), some (.int (I 74 (58 + 8 * b))), none, none, none] [.int (bo sl)] (hp I T) (fun r h' => h' = hp (va_up I 74 (gs (I 74) (I 83 b) (I 74 (34 + h % 24)) bread b)) T ∧ r = none) := by
    intro sl hsl
    have hg : goesB (I 74 (58 + 8 * b)) (I 83 b) (I 74 (58 + 8 * b + 3)) (I 74 (34 + h % 24)) = (sl || und (I 74 (58 + 8 * b)) 2) := by
      unfold goesB; rw [← hsl]
    iterate 3 refine Go.step rfl ?_
    refine Go.cal (m_isUnder _ _ _) (by decide) rfl ?_
    rintro _ _ ⟨rfl, rfl⟩
    iterate 3 refine Go.step rfl ?_
    refine Go.ifz (fun c1 => ?_) (fun c1 => ?_)
    · iterate 2 refine Go.step rfl ?_
      refine Go.ifz (fun c2 => ?_) (fun c2 => ?_)
      · rw [c1]
        iterate 2 refine Go.step rfl ?_
        refine Go.ret rfl ⟨?_, rfl⟩
        have : gs (I 74) (I 83 b) (I 74 (34 + h % 24)) bread b = I 74 := by
          unfold gs; rw [hg, c1, c2, if_neg (by decide)]
        rw [this, vu_self]
      · have := last (I 74) (.int (I 74 (58 + 8 * b))) (.int (bo sl)) (.int (bo (und (I 74 (58 + 8 * b)) 2))) (by unfold rowsB; rw [c1, if_neg (by decide)]) (by rw [hg, c2]; rfl)
        rw [vu_self] at this
        exact this
    · iterate 3 refine Go.step rfl ?_
      refine Go.cal (m_owes I T b bread hb8) (by decide) rfl ?_
      rintro _ _ ⟨rfl, rfl⟩
      have la := last (va_up (I 74) (58 + 8 * b + 5) (owd (I 74 (58 + 8 * b + 5)) bread)) (.int (I 74 (58 + 8 * b))) (.int (bo sl)) (.int (bo (und (I 74 (58 + 8 * b)) 2))) (by unfold rowsB; rw [c1, if_pos rfl]) (by rw [hg, c1, Bool.or_true])
      iterate 2 refine Go.step rfl ?_
      refine Go.ifz (fun c2 => ?_) (fun c2 => ?_)
      · refine Go.step rfl ?_
        rw [c1] at la ⊢
        refine Go.step rfl ?_
        exact la
      · exact la
  iterate 3 refine Go.step rfl ?_
  refine Go.cal (m_its I T b 0 hb8 (by decide)) (by decide) rfl ?_
  rintro _ _ ⟨rfl, rfl⟩
  rw [Nat.add_zero]
  iterate 3 refine Go.step rfl ?_
  refine Go.cal (m_isUnder _ _ _) (by decide) rfl ?_
  rintro _ _ ⟨rfl, rfl⟩
  refine Go.step rfl ?_
  refine Go.ifz (fun c1 => ?_) (fun c1 => ?_)
  · refine Go.step rfl ?_
    exact mid false (by rw [c1]; rfl)
  · iterate 3 refine Go.step rfl ?_
    refine Go.iald rfl rfl (am_in_nI hb8 (by decide)) ?_
    rw [nI_clamp (by omega)]
    iterate 2 refine Go.step rfl ?_
    refine Go.ite (fun c2 => ?_) (fun c2 => ?_)
    · refine Go.step rfl ?_
      exact mid false (by rw [decide_eq_false (Int32.not_le.mpr c2), Bool.and_false]; rfl)
    · iterate 3 refine Go.step rfl ?_
      refine Go.cal (m_its I T b 3 hb8 (by decide)) (by decide) rfl ?_
      rintro _ _ ⟨rfl, rfl⟩
      refine Go.step rfl ?_
      refine Go.cal (m_way I T h eh hh) (by decide) rfl ?_
      rintro _ _ ⟨rfl, rfl⟩
      refine Go.step rfl ?_
      refine Go.ite (fun c3 => ?_) (fun c3 => ?_)
      · refine Go.step rfl ?_
        exact mid false (by rw [decide_eq_true c3, Bool.not_true, Bool.and_false])
      · iterate 2 refine Go.step rfl ?_
        exact mid true (by rw [c1, decide_eq_true (Int32.not_lt.mp c2), decide_eq_false c3]; rfl)
