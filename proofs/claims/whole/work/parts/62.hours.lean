/-! PAIRS: hours, then, income -/
theorem hrs_0 (s : Nat → Int32) (br : Int32) (k : Nat) : hrs s br k 0 = s 0 := hrs_off s br (by omega) (by omega) k
theorem hrs_tok {s : Nat → Int32} {u : Nat} (h : tOK s u) (hu : u < 2) (br : Int32) (k : Nat) : tOK (hrs s br k) u := h.congr hu (fun j h1 h2 => hrs_off s br (by omega) (by omega) k)
/-- the reference's cells but for the row and scratch -/
def MK (I I' : AI) : Prop := ∀ a, a ≠ 74 → a < 79 ∨ 83 < a → I' a = I a
theorem m_go (I : AI) (T : AT) (hs : sOK (I 74)) (ht0 : tOK (I 74) 0) (ht1 : tOK (I 74) 1) (bread : Int32) (n : Nat) (hn : cl (I 74 1) + n ≤ 11000) : Ct 6 y_M_go [.ref 73, .int (nI n), .int bread] (hp I T) (fun r h' => ∃ I', h' = hp I' T ∧ MK I I' ∧ I' 74 = hrs (I 74) bread n ∧ r = none) := by
  have loop : ∀ m k, k + m = n → ∀ I', MK I I' → I' 74 = hrs (I 74) bread k → Go 6 y_M_go 2 [some (.ref 73), some (.int (nI n)), some (.int bread), some (.int (nI k))] [] (hp I' T) (fun r h' => ∃ I', h' = hp I' T ∧ MK I I' ∧ I' 74 = hrs (I 74) bread n ∧ r = none) := by
    intro m
    induction m with
    | zero =>
      intro k hk I' h1 h2
      have : k = n := by omega
      subst this
      iterate 3 refine Go.step rfl ?_
      refine Go.ifp (Int32.le_refl _) ?_
      exact Go.ret rfl ⟨I', rfl, h1, h2, rfl⟩
    | succ m ih =>
      intro k hk I' h1 h2
      iterate 3 refine Go.step rfl ?_
      refine Go.ifn (nI_ge (a := k) (b := n) (by omega) (by omega)) ?_
      iterate 2 refine Go.step rfl ?_
      refine Go.cal (m_hour I' T (by rw [h2]; exact (hrs_ok hs bread k (by omega)).1) (by rw [h2]; exact hrs_tok ht0 (by decide) _ _) (by rw [h2]; exact hrs_tok ht1 (by decide) _ _) bread) (by decide) rfl ?_
      rintro _ _ ⟨I2, rfl, q1, q2, rfl⟩
      iterate 2 refine Go.step rfl ?_
      rw [show nI k + 1 = nI (k + 1) from nI_1 k]
      exact ih (k + 1) (by omega) I2 (fun a g1 g2 => by rw [q1 a g1 g2]; exact h1 a g1 g2) (by rw [q2, h2]; rfl)
  iterate 2 refine Go.step rfl ?_
  exact loop n 0 (by omega) I (fun _ _ _ => rfl) rfl
def sp_hours (J : AI) (n : Int32) : AI × Int32 := bif win n 1 240 then (if J 74 1 + n ≤ 9999 then (sps J (hrs (J 74) 1 (cl n)), sm (hrs (J 74) 1 (cl n)) 5 (cl (J 74 0))) else (er J 3, LO 3)) else (er J 1, LO 1)
theorem x_errorOfHours (I : AI) (T : AT) (n : Int32) : Ct 1 y_X_errorOfHours [.ref 0, .int n] (hp I T) (fun r h' => h' = hp I T ∧ r = some (.int (bif win n 1 240 then (if I 1 0 + n ≤ 9999 then 0 else 3) else 1))) := by
  iterate 3 refine Go.step rfl ?_
  refine Go.cal (x_within _ n 1 240) (by decide) rfl ?_
  rintro _ _ ⟨rfl, rfl⟩
  refine Go.step rfl ?_
  refine Go.ifz (fun c1 => ?_) (fun c1 => ?_)
  · refine Go.step rfl ?_
    exact Go.ret rfl ⟨rfl, by rw [c1]; rfl⟩
  · rw [c1]
    iterate 7 refine Go.step rfl ?_
    refine Go.ite (fun c2 => ?_) (fun c2 => ?_)
    · refine Go.step rfl ?_
      refine Go.ret rfl ⟨rfl, ?_⟩
      simp only [cond_true]
      rw [if_pos c2]
    · iterate 2 refine Go.step rfl ?_
      refine Go.ret rfl ⟨rfl, ?_⟩
      simp only [cond_true]
      rw [if_neg c2]
theorem hours_le {s1 n : Int32} {h k : Nat} (hs : s1 = nI h) (hh : h ≤ 11000) (hn : n = nI k) (hk : k ≤ 240) (q : s1 + n ≤ 9999) : h + k ≤ 9999 := by
  subst hs; subst hn
  rw [nI_add] at q
  exact (nI_leI (a := h + k) (b := 9999) (by omega) (by decide)).mp q
theorem x_hours (xs : Nat → Int32) (I : AI) (T : AT) (J : AI) (hG : XG xs I T J) (n : Int32) : Ct 6 y_X_hours [.ref 0, .int n] (hp I T) (XP xs I T (sp_hours J n)) := by
  have hs := id hG.1
  have x1 : I 1 0 = J 74 1 := hG.2.1.1
  obtain ⟨eh, hh⟩ := hs.2.1.eq (by decide)
  iterate 2 refine Go.step rfl ?_
  refine Go.cal (x_errorOfHours I T n) (by decide) rfl ?_
  rintro _ _ ⟨rfl, rfl⟩
  rw [x1]
  cases c1 : win n 1 240 with
  | false =>
    iterate 5 refine Go.step rfl ?_
    exact x_err (k := 1) hG (by decide) (by decide) (by rw [sp_hours, c1]; rfl) rfl rfl rfl (by decide)
  | true =>
    simp only [cond_true]
    by_cases c2 : J 74 1 + n ≤ 9999
    · rw [if_pos c2]
      obtain ⟨k, hk1, hk2, rfl⟩ := win_lo (a := 1) (b := 240) (by decide) (by decide) c1
      have hcl : cl (nI k) = k := nI_clamp (by omega)
      have hle := hours_le eh hh rfl hk2 c2
      have hok := hrs_ok hs 1 k (by omega)
      iterate 7 refine Go.step rfl ?_
      refine Go.cal (x_goBy_1 xs I T _ hs hG.2.1 hG.2.2.2.2.2.2.2.2 true k (by omega)) (by decide) rfl ?_
      rintro _ _ ⟨I', rfl, k1, k2, rfl⟩
      iterate 2 refine Go.step rfl ?_
      refine Go.cal (x_owed_1 I' T _ hok.1 k2) (by decide) rfl ?_
      rintro _ _ ⟨rfl, rfl⟩
      refine Go.ret rfl ?_
      rw [sp_hours, c1]
      simp only [cond_true]
      rw [if_pos c2, hcl]
      refine ⟨I', rfl, fun a g1 g2 => k1 a (by omega), hG.sea (fun a ha => k1 a (by omega)) hok.1 k2 (fun j hj => hrs_off _ _ (by omega) (by omega) _), ?_⟩
      rw [hrs_0]
    · rw [if_neg c2]
      iterate 5 refine Go.step rfl ?_
      exact x_err (k := 3) hG (by decide) (by decide) (by rw [sp_hours, c1]; simp only [cond_true]; rw [if_neg c2]) rfl rfl rfl (by decide)
theorem JE.row {I I' : AI} {s : Nat → Int32} (h : MK I I') (hs : I' 74 = s) : JE (sps I s) I' := by
  have q : ∀ a, a ≠ 74 → sps I s a = I a := fun a ha => va_up_ne _ _ ha
  refine ⟨by rw [q 73 (by decide), h 73 (by decide) (by decide)], by rw [q 73 (by decide), h 73 (by decide) (by decide)], ?_, by rw [q _ (by decide), h _ (by decide) (by decide)], by rw [q _ (by decide), h _ (by decide) (by decide)], by rw [q _ (by decide), h _ (by decide) (by decide)], by rw [q _ (by decide), h _ (by decide) (by decide)], by rw [q _ (by decide), h _ (by decide) (by decide)], by rw [q _ (by decide), h _ (by decide) (by decide)]⟩
  rw [hs]; exact vu_same _ _ _
theorem m_hours (I : AI) (T : AT) (hs : sOK (I 74)) (ht0 : tOK (I 74) 0) (ht1 : tOK (I 74) 1) (n : Int32) : Ct 7 y_M_hours [.ref 73, .int n] (hp I T) (MQ2 I T (sp_hours I n)) := by
  obtain ⟨eh, hh⟩ := hs.2.1.eq (by decide)
  iterate 3 refine Go.step rfl ?_
  refine Go.cal (m_in _ n 1 240) (by decide) rfl ?_
  rintro _ _ ⟨rfl, rfl⟩
  refine Go.step rfl ?_
  refine Go.ifz (fun c1 => ?_) (fun c1 => ?_)
  · iterate 2 refine Go.step rfl ?_
    exact m_errq (k := 1) (by decide) (by rw [sp_hours, c1]; rfl) rfl rfl rfl (by decide)
  · iterate 8 refine Go.step rfl ?_
    refine Go.ite (fun c2 => ?_) (fun c2 => ?_)
    · replace c2 : I 74 1 + n ≤ 9999 := c2
      obtain ⟨k, hk1, hk2, rfl⟩ := win_lo (a := 1) (b := 240) (by decide) (by decide) c1
      have hcl : cl (nI k) = k := nI_clamp (by omega)
      have hle := hours_le eh hh rfl hk2 c2
      have hok := hrs_ok hs 1 k (by omega)
      iterate 3 refine Go.step rfl ?_
      refine Go.cal (m_go I T hs ht0 ht1 1 k (by omega)) (by decide) rfl ?_
      rintro _ _ ⟨I', rfl, k1, k2, rfl⟩
      iterate 2 refine Go.step rfl ?_
      refine Go.cal (m_allOf I' T (by rw [k2]; exact hok.1) 5 (by decide)) (by decide) rfl ?_
      rintro _ _ ⟨rfl, rfl⟩
      refine Go.ret rfl ?_
      rw [sp_hours, c1]
      simp only [cond_true]
      rw [if_pos c2, hcl]
      exact ⟨I', rfl, fun a ha => k1 a (by omega) (by omega), JE.row k1 k2, by rw [k2, hrs_0]⟩
    · replace c2 : ¬ I 74 1 + n ≤ 9999 := c2
      iterate 2 refine Go.step rfl ?_
      exact m_errq (k := 3) (by decide) (by rw [sp_hours, c1]; simp only [cond_true]; rw [if_neg c2]) rfl rfl rfl (by decide)
theorem op_hours (a : Int32) : OpOK y_X_hours y_M_hours [.int a] := by
  refine op_new (sp := fun J => sp_hours J a) (fun xs I T J h => x_hours xs I T J h a) (fun xs I0 T0 I T h => m_hours I T h.1 (h.tok (by decide)) (h.tok (by decide)) a) (by decide) (by decide) ?_ ?_
  · unfold sp_hours; exact SpC.bif2 (fun J J' e => rfl) (SpC.ite2 (fun J J' e => by rw [e.2.2.1]) (SpC.row (fun J J' e => by rw [e.2.2.1] <;> exact ⟨rfl, rfl⟩)) (SpC.err 3)) (SpC.err 1)
  · intro xs I T J hG
    show HB (sp_hours J a).1
    unfold sp_hours
    cases c1 : win a 1 240 with
    | false => exact hG.2.er1 1
    | true =>
      simp only [cond_true]
      split
      · rename_i c2
        obtain ⟨eh, hh⟩ := hG.1.1.2.1.eq (by decide)
        obtain ⟨k, hk1, hk2, rfl⟩ := win_lo (a := 1) (b := 240) (by decide) (by decide) c1
        have hcl : cl (nI k) = k := nI_clamp (by omega)
        have hle := hours_le eh hh rfl hk2 c2
        have hok := hrs_ok hG.1.1 1 k (by omega)
        exact hG.2.spsB (by rw [hcl, hok.2]; exact rg_nI hle) (hG.2.2.2.congr (fun j hj => hrs_off _ _ (by omega) (by omega) _))
      · exact hG.2.er1 3
/-! then -/
def sp_then (J : AI) (n b w : Int32) : AI × Int32 := bif win n 0 240 && win b 0 (J 74 0 - 1) && win w 0 9 then (J, prt (hrs (J 74) 1 (cl n)) (cl b) (cl w)) else (er J 1, LO 1)
theorem hrs_bound {J : AI} (h : HB J) (hs : sOK (J 74)) : cl (J 74 1) ≤ 9999 := (h.1.eq (by decide)).2
theorem x_then (xs : Nat → Int32) (I : AI) (T : AT) (J : AI) (L c : Nat) (hG2 : XG2 xs I T J) (hT : TTc T L c) (n b w : Int32) : Ct 6 y_X_then [.ref 0, .int n, .int b, .int w] (hp I T) (XQ xs I T L c (sp_then J n b w)) := by
  obtain ⟨hG, hHB⟩ := hG2
  have hs := id hG.1
  have hbd := hrs_bound hHB hs
  have x2 := hG.2.1.2.1
  have hr : rg (I 1 1) 8 := by rw [x2]; exact hs.1
  have bad : (win n 0 240 && win b 0 (J 74 0 - 1) && win w 0 9) = false → Go 6 y_X_then 32 [some (.ref 0), some (.int n), some (.int b), some (.int w)] [] (hp I T) (XQ xs I T L c (sp_then J n b w)) := by
    intro hq
    iterate 2 refine Go.step rfl ?_
    exact Go.mono (x_err (k := 1) (o := sp_then J n b w) hG (by decide) (by decide) (by rw [sp_then, hq]; rfl) rfl rfl rfl (by decide)) (fun r h' h => h.q hT)
  iterate 3 refine Go.step rfl ?_
  refine Go.cal (x_within _ n 0 240) (by decide) rfl ?_
  rintro _ _ ⟨rfl, rfl⟩
  refine Go.step rfl ?_
  refine Go.ifz (fun c1 => ?_) (fun c1 => ?_)
  · exact bad (by rw [c1]; rfl)
  · iterate 3 refine Go.step rfl ?_
    refine Go.cal (x_find I T 1 (Or.inl rfl) b hr) (by decide) rfl ?_
    rintro _ _ ⟨rfl, ⟨c2, rfl⟩ | ⟨c2, rfl⟩⟩
    · rw [x2] at c2
      iterate 4 refine Go.step rfl ?_
      refine Go.cal (x_within _ w 0 9) (by decide) rfl ?_
      rintro _ _ ⟨rfl, rfl⟩
      refine Go.step rfl ?_
      refine Go.ifz (fun c3 => ?_) (fun c3 => ?_)
      · exact bad (by rw [c3, Bool.and_false])
      · obtain ⟨k, hk, rfl⟩ := nI_of_win (N := 240) (by decide) c1
        obtain ⟨j, hj, hj8, rfl⟩ := boat_of_win hs.1 c2
        obtain ⟨f, hf, rfl⟩ := nI_of_win (N := 9) (by decide) c3
        have hok := hrs_ok hs 1 k (by omega)
        iterate 4 refine Go.step rfl ?_
        refine Go.cal (x_seaCopy_17_1 I T (J 74) hs hG.2.1) (by decide) rfl ?_
        rintro _ _ ⟨I1, rfl, k1, k2, rfl⟩
        iterate 4 refine Go.step rfl ?_
        refine Go.cal (x_goBy_17 xs I1 (cT T 1 0) _ hs k2 (fun z y => by rw [k1 _ (by omega)]; exact hG.2.2.2.2.2.2.2.2 z y) true k (by omega)) (by decide) rfl ?_
        rintro _ _ ⟨I2, rfl, q1, q2, rfl⟩
        iterate 4 refine Go.step rfl ?_
        refine Go.cal (x_partOf_17 I2 (cT T 1 0) _ hok.1 q2 j f (by rw [hrs_0]; exact hj) hf) (by decide) rfl ?_
        rintro _ _ ⟨I3, rfl, r1, r2, rfl⟩
        refine Go.ret rfl ?_
        rw [sp_then, c1, c2, c3, show cl (nI j) = j from nI_clamp (by omega), show cl (nI f) = f from nI_clamp (by omega), show cl (nI k) = k from nI_clamp (by omega)]
        have e3 : ∀ a, a < 17 ∨ 32 < a → I3 a = I a := fun a ha => by rw [r1 a (by omega), q1 a (by omega)]; exact k1 a (by omega)
        exact ⟨I3, cT T 1 0, rfl, fun a g1 g2 => e3 a (by omega), hG.ahead e3 (fun z h2 h3 => cT_ne T (by omega) (by omega)), hT.up.tx, rfl⟩
    · rw [x2] at c2
      refine Go.step rfl ?_
      exact bad (by rw [c2, Bool.and_false]; rfl)
/-- the row, laid aside and laid back -/
theorem cpy_back {s p q : Nat → Int32} (h : ∀ j, 456 ≤ j → q j = s j) : cpy (cpy s p 456) q 456 = s := by
  funext j
  by_cases hj : j < 456
  · rw [cpy_at hj, cpy_at hj]
  · show (if j < 456 then _ else q j) = s j
    rw [if_neg hj]; exact h j (by omega)
theorem JE.back {I I4 : AI} (h : ∀ a, a ≠ 74 → a ≠ 76 → a < 79 ∨ 83 < a → I4 a = I a) (h74 : I4 74 = I 74) : JE I I4 :=
  ⟨by rw [h 73 (by decide) (by decide) (by decide)], by rw [h 73 (by decide) (by decide) (by decide)], h74.symm, (h _ (by decide) (by decide) (by decide)).symm, (h _ (by decide) (by decide) (by decide)).symm, (h _ (by decide) (by decide) (by decide)).symm, (h _ (by decide) (by decide) (by decide)).symm, (h _ (by decide) (by decide) (by decide)).symm, (h _ (by decide) (by decide) (by decide)).symm⟩
theorem m_isAhead (h : AH) (n : Int32) : Ct 1 y_M_isAhead [.int n] h (fun r h' => h' = h ∧ r = some (.int (bo (win n 0 240)))) := by
  obtain ⟨I, P, S, n', sl⟩ := h
  iterate 3 refine Go.step rfl ?_
  refine Go.cal (m_in _ n 0 240) (by decide) rfl ?_
  rintro _ _ ⟨rfl, rfl⟩
  exact Go.zret rfl rfl (bo_01 _) ⟨rfl, rfl⟩
theorem m_then (I : AI) (T : AT) (hs : sOK (I 74)) (hbd : cl (I 74 1) ≤ 9999) (ht0 : tOK (I 74) 0) (ht1 : tOK (I 74) 1) (n b w : Int32) : Ct 7 y_M_then [.ref 73, .int n, .int b, .int w] (hp I T) (MQ2 I T (sp_then I n b w)) := by
  have bad : (win n 0 240 && win b 0 (I 74 0 - 1) && win w 0 9) = false → Go 7 y_M_then 25 [some (.ref 73), some (.int n), some (.int b), some (.int w), none] [] (hp I T) (MQ2 I T (sp_then I n b w)) := by
    intro hq
    iterate 2 refine Go.step rfl ?_
    exact m_errq (k := 1) (by decide) (by rw [sp_then, hq]; rfl) rfl rfl rfl (by decide)
  refine Go.step rfl ?_
  refine Go.cal (m_isAhead _ n) (by decide) rfl ?_
  rintro _ _ ⟨rfl, rfl⟩
  refine Go.step rfl ?_
  refine Go.ifz (fun c1 => ?_) (fun c1 => ?_)
  · exact bad (by rw [c1]; rfl)
  · iterate 2 refine Go.step rfl ?_
    refine Go.cal (m_isBoat I T b) (by decide) rfl ?_
    rintro _ _ ⟨rfl, rfl⟩
    refine Go.step rfl ?_
    refine Go.ifz (fun c2 => ?_) (fun c2 => ?_)
    · exact bad (by rw [c2, Bool.and_false]; rfl)
    · iterate 3 refine Go.step rfl ?_
      refine Go.cal (m_in _ w 0 9) (by decide) rfl ?_
      rintro _ _ ⟨rfl, rfl⟩
      refine Go.step rfl ?_
      refine Go.ifz (fun c3 => ?_) (fun c3 => ?_)
      · exact bad (by rw [c3, Bool.and_false])
      · obtain ⟨k, hk, rfl⟩ := nI_of_win (N := 240) (by decide) c1
        obtain ⟨j, hj, hj8, rfl⟩ := boat_of_win hs.1 c2
        obtain ⟨f, hf, rfl⟩ := nI_of_win (N := 9) (by decide) c3
        have hok := hrs_ok hs 1 k (by omega)
        iterate 4 refine Go.step rfl ?_
        refine Go.cal (m_carry I T 74 76 (by decide) rfl rfl) (by decide) rfl ?_
        rintro _ _ ⟨rfl, rfl⟩
        have e74 : va_up I 76 (cpy (I 74) (I 76) 456) 74 = I 74 := va_up_ne _ _ (by decide)
        iterate 3 refine Go.step rfl ?_
        refine Go.cal (m_go _ T (by rw [e74]; exact hs) (by rw [e74]; exact ht0) (by rw [e74]; exact ht1) 1 k (by rw [e74]; omega)) (by decide) rfl ?_
        rintro _ _ ⟨I2, rfl, q1, q2, rfl⟩
        rw [e74] at q2
        iterate 3 refine Go.step rfl ?_
        refine Go.cal (m_toldBoat I2 T (by rw [q2]; exact hok.1) (by rw [q2]; exact hrs_tok ht0 (by decide) _ _) j f (by rw [q2, hrs_0]; exact hj) hf) (by decide) rfl ?_
        rintro _ _ ⟨I3, rfl, r1, rfl⟩
        iterate 5 refine Go.step rfl ?_
        refine Go.cal (m_carry I3 T 76 74 (by decide) rfl rfl) (by decide) rfl ?_
        rintro _ _ ⟨rfl, rfl⟩
        refine Go.step rfl ?_
        refine Go.ret rfl ?_
        rw [sp_then, c1, c2, c3, show cl (nI j) = j from nI_clamp (by omega), show cl (nI f) = f from nI_clamp (by omega), show cl (nI k) = k from nI_clamp (by omega)]
        have e3 : ∀ a, a ≠ 74 → a ≠ 76 → a < 79 ∨ 83 < a → I3 a = I a := fun a g1 g2 g3 => by rw [r1 a g3, q1 a g1 g3, va_up_ne _ _ g2]
        have e4 : cpy (I3 76) (I3 74) 456 = I 74 := by
          rw [show I3 76 = cpy (I 74) (I 76) 456 by rw [r1 76 (by decide), q1 76 (by decide) (by decide), vu_same]]
          exact cpy_back (fun y hy => by rw [r1 74 (by decide), q2]; exact hrs_off _ _ (by omega) (by omega) _)
        refine ⟨_, rfl, fun a ha => by rw [va_up_ne _ _ (by omega)]; exact e3 a (by omega) (by omega) (by omega), JE.back (fun a g1 g2 g3 => by rw [va_up_ne _ _ g1]; exact e3 a g1 g2 g3) (by rw [vu_same]; exact e4), ?_⟩
        rw [q2]; rfl
theorem op_then (a b c : Int32) : OpOK y_X_then y_M_then [.int a, .int b, .int c] := by
  refine op_of (sp := fun J => sp_then J a b c) (fun xs I T J L cc hG hT _ => Go.up (by decide) (x_then xs I T J L cc hG hT a b c)) (fun xs I0 T0 I T hG => Go.up (by decide) (m_then I T hG.1.1 (hrs_bound hG.2 hG.1.1) (hG.1.tok (by decide)) (hG.1.tok (by decide)) a b c)) ?_ ?_
  · unfold sp_then; exact SpC.bif2 (fun J J' e => by rw [e.2.2.1]) (SpC.ans (fun J J' e => by rw [e.2.2.1])) (SpC.err 1)
  · unfold sp_then; exact SpH.bif2 SpH.ans (SpH.err 1)
