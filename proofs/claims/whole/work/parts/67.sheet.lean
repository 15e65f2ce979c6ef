/-! PAIRS: sheets; sheet, put -/
theorem sS_sheet (L : Nat) (Sd : AS) {j : Nat} (hj : j < 4) : sS L Sd (65 + 2 * j) = (14, 3) ∧ sS L Sd (66 + 2 * j) = (0, 24) := by
  rcases (show j = 0 ∨ j = 1 ∨ j = 2 ∨ j = 3 by omega) with rfl | rfl | rfl | rfl <;> exact ⟨rfl, rfl⟩
theorem sP_sheet (T : AT) {j : Nat} (hj : j < 4) : sP T.1 T.2.1 T.2.2.1 63 j = some (65 + 2 * j) ∧ sP T.1 T.2.1 T.2.2.1 (65 + 2 * j) 0 = some (66 + 2 * j) := by
  rcases (show j = 0 ∨ j = 1 ∨ j = 2 ∨ j = 3 by omega) with rfl | rfl | rfl | rfl <;> exact ⟨rfl, rfl⟩
theorem x_findSheet (I : AI) (T : AT) (k : Int32) : Ct 1 y_X_findSheet [.ref 0, .int k] (hp I T) (fun r h' => h' = hp I T ∧ ((∃ j, j < 4 ∧ k = nI j ∧ win k 0 3 = true ∧ r = some (.ref (65 + 2 * j))) ∨ (win k 0 3 = false ∧ r = some .null))) := by
  iterate 3 refine Go.step rfl ?_
  refine Go.cal (x_within _ k 0 3) (by decide) rfl ?_
  rintro _ _ ⟨rfl, rfl⟩
  refine Go.step rfl ?_
  refine Go.ifz (fun c1 => ?_) (fun c1 => ?_)
  · refine Go.step rfl ?_
    exact Go.ret rfl ⟨rfl, Or.inr ⟨c1, rfl⟩⟩
  · obtain ⟨j, hj, rfl⟩ := nI_of_win (N := 3) (by decide) c1
    iterate 3 refine Go.step rfl ?_
    refine Go.aald rfl rfl rfl (am_in_nI (by omega) (by decide)) (by rw [nI_clamp (by omega)]; exact (sP_sheet T (by omega)).1) ?_
    refine Go.step rfl ?_
    exact Go.ret rfl ⟨rfl, Or.inl ⟨j, by omega, rfl, c1, rfl⟩⟩
theorem x_isMissing (I : AI) (T : AT) (a N : Nat) (hS : sS T.2.2.2.2.2.2 T.2.2.2.1 a = (14, N)) : Ct 0 y_Sheet_isMissing [.ref a] (hp I T) (fun r h' => h' = hp I T ∧ r = some (.int (bo (decide (I a 1 = 0))))) := by
  refine Go.step rfl ?_
  refine Go.geti rfl hS (Or.inl rfl) ?_
  refine Go.step rfl ?_
  refine Go.ite (fun c1 => ?_) (fun c1 => ?_)
  · iterate 2 refine Go.step rfl ?_
    exact Go.ret rfl ⟨rfl, by rw [decide_eq_true c1]; rfl⟩
  · refine Go.step rfl ?_
    exact Go.ret rfl ⟨rfl, by rw [decide_eq_false c1]; rfl⟩
def mh (b : Int32) : Bool := decide (b = 0) || decide (b = 8) || decide (b = 16) || decide (b = 32)
theorem x_mayHave (h : AH) (b : Int32) : Ct 0 y_Sheet_mayHave [.int b] h (fun r h' => h' = h ∧ r = some (.int (bo (mh b)))) := by
  obtain ⟨I, P, S, n, sl⟩ := h
  have yes : mh b = true → Go 0 y_Sheet_mayHave 22 [some (.int b)] [] (I, P, S, n, sl) (fun r h' => h' = (I, P, S, n, sl) ∧ r = some (.int (bo (mh b)))) := by
    intro q
    iterate 2 refine Go.step rfl ?_
    exact Go.ret rfl ⟨rfl, by rw [q]; rfl⟩
  iterate 2 refine Go.step rfl ?_
  refine Go.ite (fun c1 => ?_) (fun c1 => ?_)
  · exact yes (by simp [mh, c1])
  · iterate 3 refine Go.step rfl ?_
    refine Go.ite (fun c2 => ?_) (fun c2 => ?_)
    · exact yes (by simp [mh, c2])
    · iterate 3 refine Go.step rfl ?_
      refine Go.ite (fun c3 => ?_) (fun c3 => ?_)
      · exact yes (by simp [mh, c3])
      · iterate 3 refine Go.step rfl ?_
        refine Go.ite (fun c4 => ?_) (fun c4 => ?_)
        · exact yes (by simp [mh, c4])
        · refine Go.step rfl ?_
          exact Go.ret rfl ⟨rfl, by simp [mh, c1, c2, c3, c4, bo]⟩
theorem x_shBegin (I : AI) (T : AT) (j : Nat) (hj : j < 4) (b n : Int32) : Ct 2 y_Sheet_begin [.ref (65 + 2 * j), .int b, .int n] (hp I T) (fun r h' => h' = hp (va_up (va_up I (66 + 2 * j) (cpy (fun _ => 0) (I (66 + 2 * j)) 24)) (65 + 2 * j) (va_up (va_up (I (65 + 2 * j)) 1 b) 2 (hel n 0 24))) T ∧ r = none) := by
  have hS := (sS_sheet T.2.2.2.2.2.2 T.2.2.2.1 hj)
  refine Go.step rfl ?_
  refine Go.getr rfl hS.1 rfl (sP_sheet T hj).2 ?_
  refine Go.step rfl ?_
  refine Go.cal (j_fill _ _ _ _ _ (66 + 2 * j) 24 0 hS.2 (by decide)) (by decide) rfl ?_
  rintro _ _ ⟨rfl, rfl⟩
  iterate 2 refine Go.step rfl ?_
  refine Go.puti rfl hS.1 rfl ?_
  iterate 4 refine Go.step rfl ?_
  refine Go.cal (x_held _ _ _ _ (by decide)) (by decide) rfl ?_
  rintro _ _ ⟨rfl, rfl⟩
  refine Go.puti rfl hS.1 rfl ?_
  refine Go.ret rfl ⟨?_, rfl⟩
  rw [vu_idem, vu_same, va_up_ne _ _ (show 65 + 2 * j ≠ 66 + 2 * j by omega)]
  rfl
/-- only sheets have changed -/
theorem XG.sheet {xs : Nat → Int32} {I I' : AI} {T : AT} {J J' : AI} (h : XG xs I T J) (hI : ∀ a, a < 65 ∨ 72 < a → I' a = I a) (hJ : ∀ a, a ≠ 87 → a ≠ 88 → a ≠ 89 → J' a = J a) (hX : XSht I' J') : XG xs I' T J' := by
  obtain ⟨h1, h2, h3, h4, h5, h6, h7, h8, h9⟩ := h
  have e74 := hJ 74 (by decide) (by decide) (by decide)
  have e73 := hJ 73 (by decide) (by decide) (by decide)
  refine ⟨by rw [e74]; exact h1, by rw [e74]; exact h2.kept (fun a ha => hI a (by omega)), by rw [e74]; exact h3.kept (fun a g1 g2 => hI a (by omega)), ?_, by rw [e73, hI 0 (by omega)]; exact h5, fun k g1 g2 => by rw [hI 64 (by omega), hJ 77 (by decide) (by decide) (by decide)]; exact h6 k g1 g2, hX, h8.kept (fun a g1 g2 => hI a (by omega)) (by rw [e73]) (hJ 86 (by decide) (by decide) (by decide)), fun c j => by rw [hI _ (by omega)]; exact h9 c j⟩
  rw [e73, hJ 75 (by decide) (by decide) (by decide)]
  intro q
  obtain ⟨k1, k2, k3⟩ := h4 q
  exact ⟨k1, k2.kept (fun a ha => hI a (by omega)), k3.kept (fun a g1 g2 => hI a (by omega))⟩
def z24 (f : Nat → Int32) (k m : Nat) : Nat → Int32 := fun j => if 24 * k ≤ j ∧ j < 24 * k + m then 0 else f j
def shJ (J : AI) (k : Nat) (b n : Int32) : AI := va_up (va_up (va_up J 87 (va_up (J 87) k b)) 88 (va_up (J 88) k n)) 89 (z24 (J 89) k 24)
theorem shJ_ne (J : AI) (k : Nat) (b n : Int32) {a : Nat} (h1 : a ≠ 87) (h2 : a ≠ 88) (h3 : a ≠ 89) : shJ J k b n a = J a := by
  unfold shJ; rw [va_up_ne _ _ h3, va_up_ne _ _ h2, va_up_ne _ _ h1]
theorem shJ_87 (J : AI) (k : Nat) (b n : Int32) : shJ J k b n 87 = va_up (J 87) k b := by
  unfold shJ; rw [va_up_ne _ _ (by decide), va_up_ne _ _ (by decide), vu_same]
theorem shJ_88 (J : AI) (k : Nat) (b n : Int32) : shJ J k b n 88 = va_up (J 88) k n := by
  unfold shJ; rw [va_up_ne _ _ (by decide), vu_same]
theorem shJ_89 (J : AI) (k : Nat) (b n : Int32) : shJ J k b n 89 = z24 (J 89) k 24 := by
  unfold shJ; rw [vu_same]
/-- cells 87 to 89 alone -/
theorem JE.sht {J J' K K' : AI} (h : JE J J') (hK : ∀ a, a ≠ 87 → a ≠ 88 → a ≠ 89 → K a = J a) (hK' : ∀ a, a ≠ 87 → a ≠ 88 → a ≠ 89 → K' a = J' a) (h7 : K 87 = K' 87) (h8 : K 88 = K' 88) (h9 : K 89 = K' 89) : JE K K' := by
  obtain ⟨e1, e2, e3, e4, e5, e6, e7, e8, e9⟩ := h
  have q := fun a (h1 : a ≠ 87) (h2 : a ≠ 88) (h3 : a ≠ 89) => hK a h1 h2 h3
  have q' := fun a (h1 : a ≠ 87) (h2 : a ≠ 88) (h3 : a ≠ 89) => hK' a h1 h2 h3
  exact ⟨by rw [q 73 (by decide) (by decide) (by decide), q' 73 (by decide) (by decide) (by decide)]; exact e1, by rw [q 73 (by decide) (by decide) (by decide), q' 73 (by decide) (by decide) (by decide)]; exact e2, by rw [q 74 (by decide) (by decide) (by decide), q' 74 (by decide) (by decide) (by decide)]; exact e3, by rw [q 75 (by decide) (by decide) (by decide), q' 75 (by decide) (by decide) (by decide)]; exact e4, by rw [q 77 (by decide) (by decide) (by decide), q' 77 (by decide) (by decide) (by decide)]; exact e5, by rw [q 86 (by decide) (by decide) (by decide), q' 86 (by decide) (by decide) (by decide)]; exact e6, h7, h8, h9⟩
theorem HB.sht {J K : AI} (h : HB J) (hK : ∀ a, a ≠ 87 → a ≠ 88 → a ≠ 89 → K a = J a) : HB K := by
  unfold HB
  rw [hK 73 (by decide) (by decide) (by decide), hK 74 (by decide) (by decide) (by decide), hK 75 (by decide) (by decide) (by decide)]
  exact h
def sp_sheet (J : AI) (k b n : Int32) : AI × Int32 := bif win k 0 3 && mh b then (if b = 0 then (shJ J (cl k) 0 0, 1) else if n < 0 then (er J 3, LO 3) else if 24 < n then (er J 1, LO 1) else (shJ J (cl k) b n, 1)) else (er J 1, LO 1)
theorem XSht.new {I J : AI} (h : XSht I J) {j : Nat} (hj : j < 4) {b n : Int32} (hb : b = 0 ∨ b = 8 ∨ b = 16 ∨ b = 32) (hn : rg n 24) {v : Int32} (hv : v = n) : XSht (va_up (va_up I (66 + 2 * j) (cpy (fun _ => 0) (I (66 + 2 * j)) 24)) (65 + 2 * j) (va_up (va_up (I (65 + 2 * j)) 1 b) 2 v)) (shJ J j b n) := by
  subst hv
  intro k hk
  obtain ⟨h1, h2, h3, h4, h5⟩ := h k hk
  rw [shJ_87, shJ_88, shJ_89]
  by_cases q : k = j
  · subst q
    refine ⟨by rw [vu_same, va_up_ne _ _ (by decide), vu_same, vu_same], by rw [vu_same, vu_same, vu_same], fun i hi => ?_, by rw [vu_same]; exact hb, by rw [vu_same]; exact hn⟩
    rw [va_up_ne _ _ (by omega), vu_same, cpy_at hi]
    unfold z24
    rw [if_pos ⟨by omega, by omega⟩]
  · refine ⟨by rw [va_up_ne _ _ (by omega), va_up_ne _ _ (by omega), va_up_ne _ _ q]; exact h1, by rw [va_up_ne _ _ (by omega), va_up_ne _ _ (by omega), va_up_ne _ _ q]; exact h2, fun i hi => ?_, by rw [va_up_ne _ _ q]; exact h4, by rw [va_up_ne _ _ q]; exact h5⟩
    rw [va_up_ne _ _ (by omega), va_up_ne _ _ (by omega)]
    unfold z24
    rw [if_neg (by omega)]
    exact h3 i hi
theorem mh_or {b : Int32} (h : mh b = true) : b = 0 ∨ b = 8 ∨ b = 16 ∨ b = 32 := by
  simp only [mh, Bool.or_eq_true, decide_eq_true_eq] at h
  rcases h with ((h | h) | h) | h
  · exact Or.inl h
  · exact Or.inr (Or.inl h)
  · exact Or.inr (Or.inr (Or.inl h))
  · exact Or.inr (Or.inr (Or.inr h))
theorem x_sheet (xs : Nat → Int32) (I : AI) (T : AT) (J : AI) (hG : XG xs I T J) (k b n : Int32) : Ct 3 y_X_sheet [.ref 0, .int k, .int b, .int n] (hp I T) (XP xs I T (sp_sheet J k b n)) := by
  have hsh := hG.2.2.2.2.2.2.1
  have bad : ∀ t4 : Value, (win k 0 3 && mh b) = false → Go 3 y_X_sheet 19 [some (.ref 0), some (.int k), some (.int b), some (.int n), some t4] [] (hp I T) (XP xs I T (sp_sheet J k b n)) := by
    intro t4 hq
    iterate 2 refine Go.step rfl ?_
    exact x_err (k := 1) hG (by decide) (by decide) (by rw [sp_sheet, hq]; rfl) rfl rfl rfl (by decide)
  iterate 2 refine Go.step rfl ?_
  refine Go.cal (x_findSheet I T k) (by decide) rfl ?_
  rintro _ _ ⟨rfl, ⟨j, hj, rfl, c1, rfl⟩ | ⟨c1, rfl⟩⟩
  · have hcl : cl (nI j) = j := nI_clamp (by omega)
    have hS := (sS_sheet T.2.2.2.2.2.2 T.2.2.2.1 hj).1
    iterate 4 refine Go.step rfl ?_
    refine Go.cal (x_mayHave _ b) (by decide) rfl ?_
    rintro _ _ ⟨rfl, rfl⟩
    refine Go.step rfl ?_
    refine Go.ifz (fun c2 => ?_) (fun c2 => ?_)
    · exact bad _ (by rw [c2, Bool.and_false])
    · have esp : sp_sheet J (nI j) b n = if b = 0 then (shJ J j 0 0, 1) else if n < 0 then (er J 3, LO 3) else if 24 < n then (er J 1, LO 1) else (shJ J j b n, 1) := by rw [sp_sheet, c1, c2, hcl]; rfl
      rw [esp]
      iterate 2 refine Go.step rfl ?_
      refine Go.ite (fun c3 => ?_) (fun c3 => ?_)
      · rw [if_pos c3]
        iterate 3 refine Go.step rfl ?_
        refine Go.calv (x_shBegin I T j hj b 0) (by decide) rfl rfl hS rfl ?_
        rintro _ _ ⟨rfl, rfl⟩
        refine Go.step rfl ?_
        subst c3
        exact Go.ret rfl ⟨_, rfl, fun a g1 g2 => by rw [va_up_ne _ _ (by omega), va_up_ne _ _ (by omega)], hG.sheet (fun a ha => by rw [va_up_ne _ _ (by omega), va_up_ne _ _ (by omega)]) (fun a g1 g2 g3 => shJ_ne J j 0 0 g1 g2 g3) (hsh.new hj (Or.inl rfl) ⟨0, by decide, rfl⟩ rfl), rfl⟩
      · rw [if_neg c3]
        iterate 2 refine Go.step rfl ?_
        refine Go.ite (fun c4 => ?_) (fun c4 => ?_)
        · rw [if_neg (Int32.not_lt.mpr c4)]
          iterate 3 refine Go.step rfl ?_
          refine Go.ite (fun c5 => ?_) (fun c5 => ?_)
          · rw [if_neg (Int32.not_lt.mpr c5)]
            iterate 3 refine Go.step rfl ?_
            refine Go.calv (x_shBegin I T j hj b n) (by decide) rfl rfl hS rfl ?_
            rintro _ _ ⟨rfl, rfl⟩
            refine Go.step rfl ?_
            exact Go.ret rfl ⟨_, rfl, fun a g1 g2 => by rw [va_up_ne _ _ (by omega), va_up_ne _ _ (by omega)], hG.sheet (fun a ha => by rw [va_up_ne _ _ (by omega), va_up_ne _ _ (by omega)]) (fun a g1 g2 g3 => shJ_ne J j b n g1 g2 g3) (hsh.new hj (mh_or c2) (rg_of_le (by decide) c4 c5) (hel_id c4 c5)), rfl⟩
          · rw [if_pos (Int32.not_le.mp c5)]
            iterate 2 refine Go.step rfl ?_
            exact x_err (k := 1) hG (by decide) (by decide) rfl rfl rfl rfl (by decide)
        · rw [if_pos (Int32.not_le.mp c4)]
          iterate 2 refine Go.step rfl ?_
          exact x_err (k := 3) hG (by decide) (by decide) rfl rfl rfl rfl (by decide)
  · iterate 3 refine Go.step rfl ?_
    exact bad _ (by rw [c1]; rfl)
theorem m_isSheet (h : AH) (k : Int32) : Ct 1 y_M_isSheet [.int k] h (fun r h' => h' = h ∧ r = some (.int (bo (win k 0 3)))) := by
  obtain ⟨I, P, S, n', sl⟩ := h
  iterate 3 refine Go.step rfl ?_
  refine Go.cal (m_in _ k 0 3) (by decide) rfl ?_
  rintro _ _ ⟨rfl, rfl⟩
  exact Go.zret rfl rfl (bo_01 _) ⟨rfl, rfl⟩
theorem m_sheet_fin (I : AI) (T : AT) (j : Nat) (hj : j < 4) (b n : Int32) (v : Int32) (t3 : Value) (hv : v = (if b = 0 then 0 else n)) (hn : t3 = .int n) : Go 2 y_M_sheet 65 [some (.ref 73), some (.int (nI j)), some (.int b), some t3, none] [] (hp I T) (MQ2 I T (shJ I j b v, 1)) := by
  subst hn
  have loop : ∀ m k, k + m = 24 → ∀ t3 : Value, Go 2 y_M_sheet 90 [some (.ref 73), some (.int (nI j)), some (.int b), some t3, some (.int (nI k))] [] (hp (va_up (va_up (va_up I 87 (va_up (I 87) j b)) 88 (va_up (I 88) j v)) 89 (z24 (I 89) j k)) T) (MQ2 I T (shJ I j b v, 1)) := by
    intro m
    induction m with
    | zero =>
      intro k hk t3
      have : k = 24 := by omega
      subst this
      iterate 3 refine Go.step rfl ?_
      refine Go.ifp (Int32.le_refl _) ?_
      refine Go.step rfl ?_
      exact Go.ret rfl ⟨shJ I j b v, rfl, fun a ha => shJ_ne I j b v (by omega) (by omega) (by omega), JE.rf _, rfl⟩
    | succ m ih =>
      intro k hk t3
      iterate 3 refine Go.step rfl ?_
      refine Go.ifn (nI_ge (a := k) (b := 24) (by omega) (by decide)) ?_
      iterate 5 refine Go.step rfl ?_
      rw [show (24 : Int32) * nI j = nI (24 * j) from nI_mul 24 j]
      iterate 2 refine Go.step rfl ?_
      rw [nI_add]
      refine Go.step rfl ?_
      refine Go.iast rfl rfl (am_in_nI (by omega) (by decide)) ?_
      rw [nI_clamp (by omega), vu_same, vu_idem]
      iterate 2 refine Go.step rfl ?_
      rw [show nI k + 1 = nI (k + 1) from nI_1 k, show va_up (z24 (I 89) j k) (24 * j + k) 0 = z24 (I 89) j (k + 1) by
        funext y
        unfold z24
        by_cases q : y = 24 * j + k
        · subst q; rw [vu_same, if_pos ⟨by omega, by omega⟩]
        · rw [va_up_ne _ _ q]
          by_cases z : 24 * j ≤ y ∧ y < 24 * j + k
          · rw [if_pos z, if_pos ⟨z.1, by omega⟩]
          · rw [if_neg z, if_neg (by omega)]]
      exact ih (k + 1) (by omega) t3
  iterate 4 refine Go.step rfl ?_
  refine Go.iast rfl rfl (am_in_nI hj (by decide)) ?_
  rw [nI_clamp (by omega)]
  iterate 5 refine Go.step rfl ?_
  have st := loop 24 0 (by decide) (.int n)
  rw [show z24 (I 89) j 0 = I 89 by funext y; unfold z24; rw [if_neg (by omega)]] at st
  have e89 : va_up (va_up (va_up I 87 (va_up (I 87) j b)) 88 (va_up (I 88) j v)) 89 (I 89) = va_up (va_up I 87 (va_up (I 87) j b)) 88 (va_up (I 88) j v) := by
    have := vu_self (va_up (va_up I 87 (va_up (I 87) j b)) 88 (va_up (I 88) j v)) 89
    rw [va_up_ne _ _ (show 89 ≠ 88 by decide), va_up_ne _ _ (show 89 ≠ 87 by decide)] at this
    exact this
  rw [e89] at st
  refine Go.ite (fun c1 => ?_) (fun c1 => ?_)
  · rw [if_pos c1] at hv
    iterate 2 refine Go.step rfl ?_
    refine Go.iast rfl rfl (am_in_nI hj (by decide)) ?_
    rw [nI_clamp (by omega), va_up_ne _ _ (show 88 ≠ 87 by decide)]
    iterate 2 refine Go.step rfl ?_
    rw [hv] at st ⊢
    exact st
  · rw [if_neg c1] at hv
    refine Go.step rfl ?_
    refine Go.iast rfl rfl (am_in_nI hj (by decide)) ?_
    rw [nI_clamp (by omega), va_up_ne _ _ (show 88 ≠ 87 by decide)]
    iterate 2 refine Go.step rfl ?_
    rw [hv] at st ⊢
    exact st
theorem m_sheet (I : AI) (T : AT) (k b n : Int32) : Ct 2 y_M_sheet [.ref 73, .int k, .int b, .int n] (hp I T) (MQ2 I T (sp_sheet I k b n)) := by
  have bad : (win k 0 3 && mh b) = false → Go 2 y_M_sheet 29 [some (.ref 73), some (.int k), some (.int b), some (.int n), none] [] (hp I T) (MQ2 I T (sp_sheet I k b n)) := by
    intro hq
    iterate 2 refine Go.step rfl ?_
    exact m_errq (k := 1) (by decide) (by rw [sp_sheet, hq]; rfl) rfl rfl rfl (by decide)
  refine Go.step rfl ?_
  refine Go.cal (m_isSheet _ k) (by decide) rfl ?_
  rintro _ _ ⟨rfl, rfl⟩
  refine Go.step rfl ?_
  refine Go.ifz (fun c1 => ?_) (fun c1 => ?_)
  · exact bad (by rw [c1]; rfl)
  · obtain ⟨j, hj, rfl⟩ := nI_of_win (N := 3) (by decide) c1
    have hcl : cl (nI j) = j := nI_clamp (by omega)
    have go : mh b = true → Go 2 y_M_sheet 35 [some (.ref 73), some (.int (nI j)), some (.int b), some (.int n), none] [] (hp I T) (MQ2 I T (sp_sheet I (nI j) b n)) := by
      intro c2
      have esp : sp_sheet I (nI j) b n = if b = 0 then (shJ I j 0 0, 1) else if n < 0 then (er I 3, LO 3) else if 24 < n then (er I 1, LO 1) else (shJ I j b n, 1) := by rw [sp_sheet, c1, c2, hcl]; rfl
      rw [esp]
      iterate 2 refine Go.step rfl ?_
      refine Go.ite (fun c3 => ?_) (fun c3 => ?_)
      · rw [if_pos c3]
        iterate 2 refine Go.step rfl ?_
        refine Go.ifp c3 ?_
        have := m_sheet_fin I T j (by omega) b n 0 (.int n) (by rw [if_pos c3]) rfl
        rw [c3] at this ⊢
        exact this
      · rw [if_neg c3]
        iterate 2 refine Go.step rfl ?_
        refine Go.ite (fun c4 => ?_) (fun c4 => ?_)
        · rw [if_neg (Int32.not_lt.mpr c4)]
          iterate 2 refine Go.step rfl ?_
          refine Go.ifn c3 ?_
          iterate 3 refine Go.step rfl ?_
          refine Go.ite (fun c5 => ?_) (fun c5 => ?_)
          · rw [if_neg (Int32.not_lt.mpr c5)]
            exact m_sheet_fin I T j (by omega) b n n (.int n) (by rw [if_neg c3]) rfl
          · rw [if_pos (Int32.not_le.mp c5)]
            iterate 2 refine Go.step rfl ?_
            exact m_errq (k := 1) (by decide) rfl rfl rfl rfl (by decide)
        · rw [if_pos (Int32.not_le.mp c4)]
          iterate 2 refine Go.step rfl ?_
          exact m_errq (k := 3) (by decide) rfl rfl rfl rfl (by decide)
    iterate 2 refine Go.step rfl ?_
    refine Go.ite (fun c2 => ?_) (fun c2 => ?_)
    · exact go (by simp [mh, c2])
    · iterate 3 refine Go.step rfl ?_
      refine Go.ite (fun c3 => ?_) (fun c3 => ?_)
      · exact go (by simp [mh, c3])
      · iterate 3 refine Go.step rfl ?_
        refine Go.ite (fun c4 => ?_) (fun c4 => ?_)
        · exact go (by simp [mh, c4])
        · iterate 3 refine Go.step rfl ?_
          refine Go.ite (fun c5 => ?_) (fun c5 => ?_)
          · exact go (by simp [mh, c5])
          · exact bad (by simp [mh, c2, c3, c4, c5])
theorem SpC.sht (k : Nat) (b n v : Int32) : SpC (fun J => (shJ J k b n, v)) := fun J J' e => ⟨e.sht (fun a g1 g2 g3 => shJ_ne J k b n g1 g2 g3) (fun a g1 g2 g3 => shJ_ne J' k b n g1 g2 g3) (by simp only [shJ_87]; rw [e.2.2.2.2.2.2.1]) (by simp only [shJ_88]; rw [e.2.2.2.2.2.2.2.1]) (by simp only [shJ_89]; rw [e.2.2.2.2.2.2.2.2]), rfl⟩
theorem SpH.sht (k : Nat) (b n v : Int32) : SpH (fun J => (shJ J k b n, v)) := fun xs I T J h => h.2.sht (fun a g1 g2 g3 => shJ_ne J k b n g1 g2 g3)
theorem op_sheet (a b c : Int32) : OpOK y_X_sheet y_M_sheet [.int a, .int b, .int c] := by
  refine op_new (sp := fun J => sp_sheet J a b c) (fun xs I T J h => x_sheet xs I T J h a b c) (fun xs I0 T0 I T h => m_sheet I T a b c) (by decide) (by decide) ?_ ?_
  · unfold sp_sheet; exact SpC.bif2 (fun J J' e => rfl) (SpC.ite2 (fun J J' e => Iff.rfl) (SpC.sht _ _ _ _) (SpC.ite2 (fun J J' e => Iff.rfl) (SpC.err 3) (SpC.ite2 (fun J J' e => Iff.rfl) (SpC.err 1) (SpC.sht _ _ _ _)))) (SpC.err 1)
  · unfold sp_sheet; exact SpH.bif2 (SpH.ite2 (SpH.sht _ _ _ _) (SpH.ite2 (SpH.err 3) (SpH.ite2 (SpH.err 1) (SpH.sht _ _ _ _)))) (SpH.err 1)
