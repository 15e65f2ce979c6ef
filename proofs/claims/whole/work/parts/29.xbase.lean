/-! the class: its small methods, wind and price -/
theorem x_isWind (h : AH) (kw : Int32) : Ct 1 y_X_isWind [.int kw] h (fun r h' => h' = h ∧ r = some (.int (bo (isW kw)))) := by
  obtain ⟨I, P, S, n, sl⟩ := h
  repeat refine Go.step rfl ?_
  refine Go.cal (x_within _ kw 0 403) (by decide) rfl ?_
  rintro _ _ ⟨rfl, rfl⟩
  refine Go.step rfl ?_
  refine Go.ifz (fun c1 => ?_) (fun c1 => ?_)
  · repeat refine Go.step rfl ?_
    refine Go.ret rfl ⟨rfl, ?_⟩
    simp [isW, c1, bo]
  · repeat refine Go.step rfl ?_
    refine Go.ite (fun c3 => ?_) (fun c3 => ?_)
    · repeat refine Go.step rfl ?_
      refine Go.ret rfl ⟨rfl, ?_⟩
      simp [isW, c1, bo, Int32.not_le.mpr c3]
    · repeat refine Go.step rfl ?_
      refine Go.ret rfl ⟨rfl, ?_⟩
      simp [isW, c1, bo, Int32.not_lt.mp c3]
theorem win_of_le {k N : Nat} (h : k ≤ N) (hN : N < 2 ^ 31) : win (nI k) 0 (nI N) = true := by
  rcases win_nI (j := k) hN with h1 | h1
  · rw [h1]; simpa using h
  · omega
theorem x_refuse (I : AI) (T : AT) (k : Nat) (h1 : 1 ≤ k) (h6 : k ≤ 6) : Ct 1 y_X_refuse [.ref 0, .int (nI k)] (hp I T) (fun r h' => h' = hp (va_up I 64 (va_up (I 64) k (I 64 k + 1))) T ∧ r = some (.int (LO k))) := by
  repeat refine Go.step rfl ?_
  refine Go.cal (x_within _ (nI k) 1 6) (by decide) rfl ?_
  rintro _ _ ⟨rfl, rfl⟩
  refine Go.step rfl ?_
  have hw : win (nI k) 1 6 = true := by
    simp only [win, Bool.and_eq_true, decide_eq_true_eq]
    exact ⟨nI_le (a := 1) (b := k) h1 (by omega), nI_le (a := k) (b := 6) h6 (by decide)⟩
  refine Go.ifz (fun c1 => ?_) (fun c1 => ?_)
  · rw [hw] at c1; cases c1
  · repeat refine Go.step rfl ?_
    refine Go.iald rfl rfl (am_in_nI (by omega) (by decide)) ?_
    repeat refine Go.step rfl ?_
    refine Go.iast rfl rfl (am_in_nI (by omega) (by decide)) ?_
    repeat refine Go.step rfl ?_
    rw [nI_clamp (by omega)]
    exact Go.ret rfl ⟨rfl, rfl⟩
/-- what a public method of the class owes: the answer and the new relation, the reference's cells left alone -/
def XP (xs : Nat → Int32) (I : AI) (T : AT) (o : AI × Int32) : Option Value → AH → Prop := fun r h' => ∃ I', h' = hp I' T ∧ (∀ a, 73 ≤ a → a ≤ 90 → I' a = I a) ∧ XG xs I' T o.1 ∧ r = some (.int o.2)
theorem XP.err {xs : Nat → Int32} {I : AI} {T : AT} {J : AI} {k : Nat} (h : XG xs I T J) (h1 : 1 ≤ k) (h6 : k ≤ 6) : XP xs I T (er J k, LO k) (some (.int (LO k))) (hp (va_up I 64 (va_up (I 64) k (I 64 k + 1))) T) :=
  ⟨_, rfl, fun a g1 g2 => va_up_ne _ _ (by omega), h.err h1 h6, rfl⟩
theorem ten_irm (kw : Int32) : 10 * (kw / 10) + irm kw 10 = kw := by
  unfold irm
  rw [Int32.mul_comm (kw / 10) 10]
  generalize 10 * (kw / 10) = q
  rw [Int32.add_comm, Int32.sub_add_cancel]
theorem x_wind (xs : Nat → Int32) (I : AI) (T : AT) (J : AI) (hG : XG xs I T J) (hh kw : Int32) : Ct 2 y_X_wind [.ref 0, .int hh, .int kw] (hp I T) (XP xs I T (sp_wind J hh kw)) := by
  have bad : (win hh 0 23 && isW kw) = false → Go 2 y_X_wind 17 [some (.ref 0), some (.int hh), some (.int kw), none] [] (hp I T) (XP xs I T (sp_wind J hh kw)) := by
    intro hq
    iterate 2 refine Go.step rfl ?_
    refine Go.cal (x_refuse I T 1 (by decide) (by decide)) (by decide) rfl ?_
    rintro _ _ ⟨rfl, rfl⟩
    refine Go.ret rfl ?_
    rw [sp_wind, hq]
    exact XP.err hG (by decide) (by decide)
  repeat refine Go.step rfl ?_
  refine Go.cal (x_within _ hh 0 23) (by decide) rfl ?_
  rintro _ _ ⟨rfl, rfl⟩
  refine Go.step rfl ?_
  refine Go.ifz (fun c1 => ?_) (fun c1 => ?_)
  · exact bad (by rw [c1]; rfl)
  · refine Go.step rfl ?_
    refine Go.cal (x_isWind _ kw) (by decide) rfl ?_
    rintro _ _ ⟨rfl, rfl⟩
    refine Go.step rfl ?_
    refine Go.ifz (fun c2 => ?_) (fun c2 => ?_)
    · exact bad (by rw [c2, Bool.and_false])
    · obtain ⟨j, hj, rfl⟩ := nI_of_win (N := 23) (by decide) c1
      repeat refine Go.step rfl ?_
      refine Go.iald rfl rfl (am_in_nI (by omega) (by decide)) ?_
      repeat refine Go.step rfl ?_
      refine Go.iast rfl rfl (am_in_nI (by omega) (by decide)) ?_
      refine Go.step rfl ?_
      refine Go.ret rfl ?_
      rw [nI_clamp (by omega)]
      obtain ⟨x1, x2, x3, x4, x5, x6⟩ := id hG.2.1
      obtain ⟨s1, s2, s3, s4, s5, s6, s7, s8⟩ := id hG.1
      have e1 : sp_wind J (nI j) kw = (sps J (va_up (va_up (J 74) (10 + j) (kw / 10)) (34 + j) (irm kw 10)), 10 * J 74 (10 + j) + J 74 (34 + j)) := by
        rw [sp_wind, c1, c2, nI_clamp (by omega)]; rfl
      rw [e1]
      have e2 : ∀ i, i ≠ 10 + j → i ≠ 34 + j → va_up (va_up (J 74) (10 + j) (kw / 10)) (34 + j) (irm kw 10) i = J 74 i := fun i h1 h2 => by rw [va_up_ne _ _ h2, va_up_ne _ _ h1]
      have e3 : va_up (va_up (J 74) (10 + j) (kw / 10)) (34 + j) (irm kw 10) (10 + j) = kw / 10 := by rw [va_up_ne _ _ (by omega), vu_same]
      have e4 : va_up (va_up (J 74) (10 + j) (kw / 10)) (34 + j) (irm kw 10) (34 + j) = irm kw 10 := vu_same _ _ _
      have hkw : ∃ k, k ≤ 403 ∧ kw = nI k ∧ k % 10 ≤ 3 := by
        simp only [isW, Bool.and_eq_true, decide_eq_true_eq] at c2
        obtain ⟨k, hk, rfl⟩ := nI_of_win (N := 403) (by decide) c2.1
        refine ⟨k, hk, rfl, ?_⟩
        have := c2.2
        rw [show (10 : Int32) = nI 10 from rfl, irm_nI (by omega) (by decide), show (3 : Int32) = nI 3 from rfl, nI_leI (by omega) (by decide)] at this
        exact this
      obtain ⟨k, hk, rfl, hk3⟩ := hkw
      have e5 : nI k / 10 = nI (k / 10) := nI_div (b := 10) (by omega) (by decide)
      have e6 : irm (nI k) 10 = nI (k % 10) := irm_nI (b := 10) (by omega) (by decide)
      refine ⟨_, rfl, fun a g1 g2 => va_up_ne _ _ (by omega), hG.sea (fun a ha => va_up_ne _ _ (by omega)) ?_ ?_ (fun i hi => e2 i (by omega) (by omega)), ?_⟩
      · refine ⟨by rw [e2 _ (by omega) (by omega)]; exact s1, by rw [e2 _ (by omega) (by omega)]; exact s2, by rw [e2 _ (by omega) (by omega)]; exact s3, by rw [e2 _ (by omega) (by omega)]; exact s4, fun q hq => by rw [e2 _ (by omega) (by omega)]; exact s5 q hq, fun i hi => ?_, fun i hi => ?_, fun b hb => ?_⟩
        · by_cases h1 : i = j
          · subst h1; rw [e3, e5]; exact rg_nI (by omega)
          · rw [e2 _ (by omega) (by omega)]; exact s6 i hi
        · by_cases h1 : i = j
          · subst h1; rw [e4, e6]; exact rg_nI (by omega)
          · rw [e2 _ (by omega) (by omega)]; exact s7 i hi
        · rw [e2 _ (by omega) (by omega)] at hb
          have := s8 b hb
          unfold bOK at this ⊢
          rw [e2 _ (by omega) (by omega), e2 _ (by omega) (by omega), e2 _ (by omega) (by omega), e2 _ (by omega) (by omega), e2 _ (by omega) (by omega), e2 _ (by omega) (by omega), e2 _ (by omega) (by omega), e2 _ (by omega) (by omega)]
          exact this
      · refine ⟨by rw [va_up_ne _ _ (by omega), e2 _ (by omega) (by omega)]; exact x1, by rw [va_up_ne _ _ (by omega), e2 _ (by omega) (by omega)]; exact x2, fun i hi => ?_, fun q hq => by rw [va_up_ne _ _ (by omega), e2 _ (by omega) (by omega)]; exact x4 q hq, fun b f g1 g2 g3 => ?_, fun u hu => (x6 u hu).kept (fun a ha => va_up_ne _ _ (by omega)) (fun i g1 g2 => e2 i (by omega) (by omega)) hu⟩
        · rw [vu_same]
          by_cases h1 : i = j
          · subst h1; rw [vu_same, e3, e4, ten_irm]
          · rw [va_up_ne _ _ h1, e2 _ (by omega) (by omega), e2 _ (by omega) (by omega)]; exact x3 i hi
        · rw [e2 _ (by omega) (by omega)] at g1
          rw [va_up_ne _ _ (by omega), e2 _ (by omega) (by omega)]
          exact x5 b f g1 g2 g3
      · show some (Value.int (I 2 j)) = _
        rw [show I 2 j = 10 * J 74 (10 + j) + J 74 (34 + j) from x3 j (by omega)]
