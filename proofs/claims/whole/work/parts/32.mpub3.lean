/-! the reference: set, pay, boat, untell, image, restore -/
def mo (w : Int32) : Int32 := if w = 0 then 6 else if w = 1 then 9 else if w = 2 then 23 else if w = 3 then 3 else if w = 4 then 99 else 1
theorem m_most (h : AH) (w : Int32) : Ct 0 y_M_most [.int w] h (fun r h' => h' = h ∧ r = some (.int (mo w))) := by
  obtain ⟨I, P, S, n, sl⟩ := h
  repeat refine Go.step rfl ?_
  refine Go.ite (fun c0 => ?_) (fun c0 => ?_)
  · repeat refine Go.step rfl ?_
    exact Go.ret rfl ⟨rfl, by rw [mo, if_pos c0]⟩
  · repeat refine Go.step rfl ?_
    refine Go.ite (fun c1 => ?_) (fun c1 => ?_)
    · repeat refine Go.step rfl ?_
      exact Go.ret rfl ⟨rfl, by rw [mo, if_neg c0, if_pos c1]⟩
    · repeat refine Go.step rfl ?_
      refine Go.ite (fun c2 => ?_) (fun c2 => ?_)
      · repeat refine Go.step rfl ?_
        exact Go.ret rfl ⟨rfl, by rw [mo, if_neg c0, if_neg c1, if_pos c2]⟩
      · repeat refine Go.step rfl ?_
        refine Go.ite (fun c3 => ?_) (fun c3 => ?_)
        · repeat refine Go.step rfl ?_
          exact Go.ret rfl ⟨rfl, by rw [mo, if_neg c0, if_neg c1, if_neg c2, if_pos c3]⟩
        · repeat refine Go.step rfl ?_
          refine Go.ite (fun c4 => ?_) (fun c4 => ?_)
          · repeat refine Go.step rfl ?_
            exact Go.ret rfl ⟨rfl, by rw [mo, if_neg c0, if_neg c1, if_neg c2, if_neg c3, if_pos c4]⟩
          · repeat refine Go.step rfl ?_
            exact Go.ret rfl ⟨rfl, by rw [mo, if_neg c0, if_neg c1, if_neg c2, if_neg c3, if_neg c4]⟩
def wOK (w : Int32) : Bool := win w 0 4 || decide (w = 7)
theorem wOK_nI {w : Int32} (h : wOK w = true) : ∃ f, f < 8 ∧ w = nI f ∧ (f ≤ 4 ∨ f = 7) := by
  simp only [wOK, Bool.or_eq_true, decide_eq_true_eq] at h
  rcases h with h | h
  · obtain ⟨j, hj, e⟩ := nI_of_win (N := 4) (by decide) h
    exact ⟨j, by omega, e, Or.inl hj⟩
  · exact ⟨7, by omega, h, Or.inr rfl⟩
def sp_set (J : AI) (b w v : Int32) : AI × Int32 := bif (win b 0 (J 74 0 - 1) && wOK w) && win v 0 (mo w) then (sps J (va_up (J 74) (58 + 8 * cl b + cl w) v), J 74 (58 + 8 * cl b + cl w)) else (er J 1, LO 1)
theorem m_set (I : AI) (T : AT) (hs : sOK (I 74)) (b w v : Int32) : Ct 2 y_M_set [.ref 73, .int b, .int w, .int v] (hp I T) (MP I T (sp_set I b w v)) := by
  have bad : ∀ t4 : Value, ((win b 0 (I 74 0 - 1) && wOK w) && win v 0 (mo w)) = false → Go 2 y_M_set 47 [some (.ref 73), some (.int b), some (.int w), some (.int v), some t4, none] [] (hp I T) (MP I T (sp_set I b w v)) := by
    intro t4 hq
    iterate 2 refine Go.step rfl ?_
    exact m_err (k := 1) (by decide) (by rw [sp_set, hq]; rfl) rfl rfl rfl (by decide)
  have no : (win b 0 (I 74 0 - 1) && wOK w) = false → Go 2 y_M_set 27 [some (.ref 73), some (.int b), some (.int w), some (.int v), none, none] [] (hp I T) (MP I T (sp_set I b w v)) := by
    intro hq
    iterate 4 refine Go.step rfl ?_
    exact bad _ (by rw [hq]; rfl)
  have yes : win b 0 (I 74 0 - 1) = true → wOK w = true → Go 2 y_M_set 23 [some (.ref 73), some (.int b), some (.int w), some (.int v), none, none] [] (hp I T) (MP I T (sp_set I b w v)) := by
    intro c1 c2
    repeat refine Go.step rfl ?_
    refine Go.cal (m_most _ w) (by decide) rfl ?_
    rintro _ _ ⟨rfl, rfl⟩
    refine Go.cal (m_in _ v 0 (mo w)) (by decide) rfl ?_
    rintro _ _ ⟨rfl, rfl⟩
    refine Go.step rfl ?_
    refine Go.ifz (fun c3 => ?_) (fun c3 => ?_)
    · exact bad _ (by rw [c3, Bool.and_false])
    · obtain ⟨j, hj, hj8, rfl⟩ := boat_of_win hs.1 c1
      obtain ⟨f, hf, rfl, -⟩ := wOK_nI c2
      have h1 : cl (nI j) = j := nI_clamp (by omega)
      have h2 : cl (nI f) = f := nI_clamp (by omega)
      repeat refine Go.step rfl ?_
      refine Go.cal (m_its I T j f hj8 hf) (by decide) rfl ?_
      rintro _ _ ⟨rfl, rfl⟩
      repeat refine Go.step rfl ?_
      refine Go.cal (m_lays1 I T j f v hj8 hf) (by decide) rfl ?_
      rintro _ _ ⟨rfl, rfl⟩
      repeat refine Go.step rfl ?_
      refine Go.ret rfl ?_
      rw [sp_set, c1, c2, c3, h1, h2]
      exact ⟨rfl, rfl⟩
  repeat refine Go.step rfl ?_
  refine Go.cal (m_isBoat I T b) (by decide) rfl ?_
  rintro _ _ ⟨rfl, rfl⟩
  refine Go.step rfl ?_
  refine Go.ifz (fun c1 => ?_) (fun c1 => ?_)
  · exact no (by rw [c1]; rfl)
  · iterate 3 refine Go.step rfl ?_
    refine Go.cal (m_in _ w 0 4) (by decide) rfl ?_
    rintro _ _ ⟨rfl, rfl⟩
    refine Go.step rfl ?_
    refine Go.ifz (fun c2 => ?_) (fun c2 => ?_)
    · repeat refine Go.step rfl ?_
      refine Go.ite (fun c3 => ?_) (fun c3 => ?_)
      · exact yes c1 (by simp [wOK, c3])
      · exact no (by rw [wOK, c2]; simp [c3])
    · exact yes c1 (by simp [wOK, c2])
def sp_pay (J : AI) (b c : Int32) : AI × Int32 := bif win b 0 (J 74 0 - 1) && win c 1 9999 then (if 0 < J 74 (58 + 8 * cl b + 5) then (sps J (va_up (J 74) (58 + 8 * cl b + 5) (owd (J 74 (58 + 8 * cl b + 5)) (-(if J 74 (58 + 8 * cl b + 5) ≤ c then J 74 (58 + 8 * cl b + 5) else c)))), if J 74 (58 + 8 * cl b + 5) ≤ c then J 74 (58 + 8 * cl b + 5) else c) else (er J 3, LO 3)) else (er J 1, LO 1)
theorem m_pay (I : AI) (T : AT) (hs : sOK (I 74)) (b c : Int32) : Ct 2 y_M_pay [.ref 73, .int b, .int c] (hp I T) (MP I T (sp_pay I b c)) := by
  have bad : (win b 0 (I 74 0 - 1) && win c 1 9999) = false → Go 2 y_M_pay 19 [some (.ref 73), some (.int b), some (.int c), none] [] (hp I T) (MP I T (sp_pay I b c)) := by
    intro hq
    iterate 2 refine Go.step rfl ?_
    exact m_err (k := 1) (by decide) (by rw [sp_pay, hq]; rfl) rfl rfl rfl (by decide)
  repeat refine Go.step rfl ?_
  refine Go.cal (m_isBoat I T b) (by decide) rfl ?_
  rintro _ _ ⟨rfl, rfl⟩
  refine Go.step rfl ?_
  refine Go.ifz (fun c1 => ?_) (fun c1 => ?_)
  · exact bad (by rw [c1]; rfl)
  · iterate 3 refine Go.step rfl ?_
    refine Go.cal (m_in _ c 1 9999) (by decide) rfl ?_
    rintro _ _ ⟨rfl, rfl⟩
    refine Go.step rfl ?_
    refine Go.ifz (fun c2 => ?_) (fun c2 => ?_)
    · exact bad (by rw [c2, Bool.and_false])
    · obtain ⟨j, hj, hj8, rfl⟩ := boat_of_win hs.1 c1
      have h1 : cl (nI j) = j := nI_clamp (by omega)
      have fin : ∀ x : Int32, x = (if I 74 (58 + 8 * j + 5) ≤ c then I 74 (58 + 8 * j + 5) else c) → 0 < I 74 (58 + 8 * j + 5) → Go 2 y_M_pay 60 [some (.ref 73), some (.int (nI j)), some (.int c), none] [.int x] (hp I T) (MP I T (sp_pay I (nI j) c)) := by
        intro x hx c3
        repeat refine Go.step rfl ?_
        refine Go.cal (m_owes I T j (-x) hj8) (by decide) rfl ?_
        rintro _ _ ⟨rfl, rfl⟩
        repeat refine Go.step rfl ?_
        refine Go.ret rfl ?_
        rw [sp_pay, c1, c2, h1, if_pos c3, ← hx]
        exact ⟨rfl, rfl⟩
      repeat refine Go.step rfl ?_
      refine Go.cal (m_its I T j 5 hj8 (by omega)) (by decide) rfl ?_
      rintro _ _ ⟨rfl, rfl⟩
      refine Go.step rfl ?_
      refine Go.ite (fun c3 => ?_) (fun c3 => ?_)
      · repeat refine Go.step rfl ?_
        refine Go.cal (m_its I T j 5 hj8 (by omega)) (by decide) rfl ?_
        rintro _ _ ⟨rfl, rfl⟩
        refine Go.step rfl ?_
        refine Go.ite (fun c4 => ?_) (fun c4 => ?_)
        · repeat refine Go.step rfl ?_
          refine Go.cal (m_its I T j 5 hj8 (by omega)) (by decide) rfl ?_
          rintro _ _ ⟨rfl, rfl⟩
          exact fin _ (by rw [if_pos c4]) c3
        · iterate 2 refine Go.step rfl ?_
          exact fin _ (by rw [if_neg c4]) c3
      · iterate 2 refine Go.step rfl ?_
        exact m_err (k := 3) (by decide) (by rw [sp_pay, c1, c2, h1, if_neg c3]; rfl) rfl rfl rfl (by decide)
/-- a boat more in the row -/
def bt (s : Nat → Int32) (km c : Int32) : Nat → Int32 := va_up (va_up (va_up (va_up (va_up (va_up (va_up (va_up (va_up s (58 + 8 * cl (s 0) + 0) (km / 10)) (58 + 8 * cl (s 0) + 1) (irm km 10)) (58 + 8 * cl (s 0) + 2) c) (58 + 8 * cl (s 0) + 3) 1) (58 + 8 * cl (s 0) + 4) 99) (58 + 8 * cl (s 0) + 5) 0) (58 + 8 * cl (s 0) + 6) 0) (58 + 8 * cl (s 0) + 7) 0) 0 (s 0 + 1)
def sp_boat (J : AI) (km c : Int32) : AI × Int32 := bif win km 0 69 && win c 0 23 then (if J 74 0 = 8 then (er J 4, LO 4) else (sps J (bt (J 74) km c), J 74 0)) else (er J 1, LO 1)
theorem m_boat (I : AI) (T : AT) (hs : sOK (I 74)) (km c : Int32) : Ct 2 y_M_boat [.ref 73, .int km, .int c] (hp I T) (MP I T (sp_boat I km c)) := by
  obtain ⟨en, hn⟩ := hs.1.eq (by decide)
  have bad : (win km 0 69 && win c 0 23) = false → Go 2 y_M_boat 17 [some (.ref 73), some (.int km), some (.int c), none] [] (hp I T) (MP I T (sp_boat I km c)) := by
    intro hq
    iterate 2 refine Go.step rfl ?_
    exact m_err (k := 1) (by decide) (by rw [sp_boat, hq]; rfl) rfl rfl rfl (by decide)
  repeat refine Go.step rfl ?_
  refine Go.cal (m_in _ km 0 69) (by decide) rfl ?_
  rintro _ _ ⟨rfl, rfl⟩
  refine Go.step rfl ?_
  refine Go.ifz (fun c1 => ?_) (fun c1 => ?_)
  · exact bad (by rw [c1]; rfl)
  · refine Go.step rfl ?_
    refine Go.cal (m_isCell _ c) (by decide) rfl ?_
    rintro _ _ ⟨rfl, rfl⟩
    refine Go.step rfl ?_
    refine Go.ifz (fun c2 => ?_) (fun c2 => ?_)
    · exact bad (by rw [c2, Bool.and_false])
    · repeat refine Go.step rfl ?_
      refine Go.ite (fun c3 => ?_) (fun c3 => ?_)
      · replace c3 : I 74 0 = 8 := c3
        iterate 2 refine Go.step rfl ?_
        exact m_err (k := 4) (by decide) (by rw [sp_boat, c1, c2, if_pos c3]; rfl) rfl rfl rfl (by decide)
      · replace c3 : ¬ I 74 0 = 8 := c3
        have h8 : cl (I 74 0) < 8 := by
          rcases Nat.lt_or_ge (cl (I 74 0)) 8 with h | h
          · exact h
          · exact absurd (by rw [en, show cl (I 74 0) = 8 by omega]; rfl) c3
        generalize hb : cl (I 74 0) = b at en hn h8
        iterate 5 refine Go.step rfl ?_
        have en2 : I 74 (Int32.toNatClampNeg 0) = nI b := en
        rw [en2]
        repeat refine Go.step rfl ?_
        refine Go.cal (m_lays1 I T b 0 _ h8 (by omega)) (by decide) rfl ?_
        rintro _ _ ⟨rfl, rfl⟩
        repeat refine Go.step rfl ?_
        refine Go.cal (m_lays1 _ T b 1 _ h8 (by omega)) (by decide) rfl ?_
        rintro _ _ ⟨rfl, rfl⟩
        repeat refine Go.step rfl ?_
        refine Go.cal (m_lays1 _ T b 2 _ h8 (by omega)) (by decide) rfl ?_
        rintro _ _ ⟨rfl, rfl⟩
        repeat refine Go.step rfl ?_
        refine Go.cal (m_lays1 _ T b 3 _ h8 (by omega)) (by decide) rfl ?_
        rintro _ _ ⟨rfl, rfl⟩
        repeat refine Go.step rfl ?_
        refine Go.cal (m_lays1 _ T b 4 _ h8 (by omega)) (by decide) rfl ?_
        rintro _ _ ⟨rfl, rfl⟩
        repeat refine Go.step rfl ?_
        refine Go.cal (m_lays1 _ T b 5 _ h8 (by omega)) (by decide) rfl ?_
        rintro _ _ ⟨rfl, rfl⟩
        repeat refine Go.step rfl ?_
        refine Go.cal (m_lays1 _ T b 6 _ h8 (by omega)) (by decide) rfl ?_
        rintro _ _ ⟨rfl, rfl⟩
        repeat refine Go.step rfl ?_
        refine Go.cal (m_lays1 _ T b 7 _ h8 (by omega)) (by decide) rfl ?_
        rintro _ _ ⟨rfl, rfl⟩
        repeat refine Go.step rfl ?_
        refine Go.ret rfl ?_
        rw [sp_boat, c1, c2, if_neg c3]
        simp only [vu_idem, vu_same]
        refine ⟨?_, by rw [en]; rfl⟩
        show hp (va_up I 74 (va_up _ 0 (va_up _ _ _ 0 + 1))) T = hp (va_up I 74 (bt (I 74) km c)) T
        unfold bt
        rw [hb]
        repeat rw [va_up_ne _ _ (show (0 : Nat) ≠ 58 + 8 * b + _ by omega)]
theorem m_hasText (I : AI) (T : AT) (u : Nat) (hu : u < 2) : Ct 0 y_M_hasText [.ref 73, .int (nI u)] (hp I T) (fun r h' => h' = hp I T ∧ r = some (.int (bo (decide (0 < I 74 (122 + 125 * u)))))) := by
  repeat refine Go.step rfl ?_
  have e1 : (122 : Int32) + 125 * nI u = nI (122 + 125 * u) := by
    show nI 122 + nI 125 * nI u = _
    rw [nI_mul, nI_add]
  rw [e1]
  refine Go.iald rfl rfl (am_in_nI (by omega) (by decide)) ?_
  rw [nI_clamp (by omega)]
  refine Go.step rfl ?_
  refine Go.ite (fun c1 => ?_) (fun c1 => ?_)
  · repeat refine Go.step rfl ?_
    exact Go.ret rfl ⟨rfl, by simp [bo, Int32.not_lt.mpr c1]⟩
  · repeat refine Go.step rfl ?_
    exact Go.ret rfl ⟨rfl, by simp [bo, Int32.not_le.mp c1]⟩
def sp_untell (J : AI) (u : Int32) : AI × Int32 := bif win u 0 1 then (sps J (va_up (J 74) (122 + 125 * cl u) 0), bo (decide (0 < J 74 (122 + 125 * cl u)))) else (er J 1, LO 1)
theorem m_untell (I : AI) (T : AT) (u : Int32) : Ct 2 y_M_untell [.ref 73, .int u] (hp I T) (MP I T (sp_untell I u)) := by
  repeat refine Go.step rfl ?_
  refine Go.cal (m_in _ u 0 1) (by decide) rfl ?_
  rintro _ _ ⟨rfl, rfl⟩
  refine Go.step rfl ?_
  refine Go.ifz (fun c1 => ?_) (fun c1 => ?_)
  · iterate 2 refine Go.step rfl ?_
    exact m_err (k := 1) (by decide) (by rw [sp_untell, c1]; rfl) rfl rfl rfl (by decide)
  · obtain ⟨j, hj, rfl⟩ := nI_of_win (N := 1) (by decide) c1
    have h1 : cl (nI j) = j := nI_clamp (by omega)
    have e1 : (122 : Int32) + 125 * nI j = nI (122 + 125 * j) := by
      show nI 122 + nI 125 * nI j = _
      rw [nI_mul, nI_add]
    have fin : ∀ x : Int32, x = bo (decide (0 < I 74 (122 + 125 * j))) → Go 2 y_M_untell 28 [some (.ref 73), some (.int (nI j)), none] [.int x] (hp I T) (MP I T (sp_untell I (nI j))) := by
      intro x hx
      repeat refine Go.step rfl ?_
      rw [e1]
      refine Go.iast rfl rfl (am_in_nI (by omega) (by decide)) ?_
      rw [nI_clamp (by omega)]
      repeat refine Go.step rfl ?_
      refine Go.ret rfl ?_
      rw [sp_untell, c1, h1, ← hx]
      exact ⟨rfl, rfl⟩
    iterate 2 refine Go.step rfl ?_
    refine Go.cal (m_hasText I T j (by omega)) (by decide) rfl ?_
    rintro _ _ ⟨rfl, rfl⟩
    refine Go.step rfl ?_
    refine Go.ifz (fun c2 => ?_) (fun c2 => ?_)
    · refine Go.step rfl ?_
      exact fin 0 (by rw [c2]; rfl)
    · iterate 2 refine Go.step rfl ?_
      exact fin 1 (by rw [c2]; rfl)
def sp_image (J : AI) : AI × Int32 := (va_up (va_up J 75 (cpy (J 74) (J 75) 456)) 73 (va_up (J 73) 3 (J 73 3 + 1)), J 73 3 + 1)
theorem m_image (I : AI) (T : AT) : Ct 1 y_M_image [.ref 73] (hp I T) (MP I T (sp_image I)) := by
  repeat refine Go.step rfl ?_
  refine Go.cal (m_carry I T 74 75 (by decide) rfl rfl) (by decide) rfl ?_
  rintro _ _ ⟨rfl, rfl⟩
  repeat refine Go.step rfl ?_
  exact Go.ret rfl ⟨rfl, rfl⟩
def sp_restore (J : AI) : AI × Int32 := if J 73 3 = 0 then (er J 2, LO 2) else (va_up J 74 (cpy (J 75) (J 74) 456), J 75 1)
theorem m_restore (I : AI) (T : AT) : Ct 1 y_M_restore [.ref 73] (hp I T) (MP I T (sp_restore I)) := by
  repeat refine Go.step rfl ?_
  refine Go.ite (fun c1 => ?_) (fun c1 => ?_)
  · iterate 2 refine Go.step rfl ?_
    exact m_err (k := 2) (by decide) (by rw [sp_restore, if_pos c1]) rfl rfl rfl (by decide)
  · repeat refine Go.step rfl ?_
    refine Go.cal (m_carry I T 75 74 (by decide) rfl rfl) (by decide) rfl ?_
    rintro _ _ ⟨rfl, rfl⟩
    repeat refine Go.step rfl ?_
    refine Go.ret rfl ?_
    rw [sp_restore, if_neg c1]
    exact ⟨rfl, rfl⟩
