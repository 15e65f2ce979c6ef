/-! PAIRS: winds, judge -/
def led (p : Nat → Bool) : Nat → Nat → Nat
  | 0, c => c
  | m + 1, c => bif p c then led p m (c + 1) else c
theorem led_le (p : Nat → Bool) : ∀ m c, led p m c ≤ c + m := by
  intro m
  induction m with
  | zero => intro c; exact Nat.le_refl _
  | succ m ih =>
    intro c
    rw [led]
    cases p c with
    | true => have := ih (c + 1); simp only [cond_true]; omega
    | false => simp only [cond_false]; omega
def wdS (s g : Nat → Int32) : Nat → Nat → Int32
  | 0 => s
  | c + 1 => va_up (va_up (wdS s g c) (10 + c) (g c / 10)) (34 + c) (irm (g c) 10)
theorem wdS_off (s g : Nat → Int32) {j : Nat} (h : j < 10 ∨ 58 ≤ j) : ∀ c, c ≤ 24 → wdS s g c j = s j := by
  intro c
  induction c with
  | zero => intro _; rfl
  | succ c ih => intro hc; rw [wdS, va_up_ne _ _ (by omega), va_up_ne _ _ (by omega)]; exact ih (by omega)
theorem okv_way {j : Nat} {v : Int32} (hj : j < 24) (h : rg v 3) : okv (34 + j) v := by
  refine ⟨fun q => by omega, fun q => by omega, fun q => by omega, fun q h1 h2 => by omega, fun q h1 h2 => by omega, fun _ _ _ => h, fun b hb => ⟨fun q => by omega, fun q => by omega, fun q => by omega, fun q => by omega, fun q => by omega, fun q => by omega, fun q => by omega, fun q => by omega⟩⟩
theorem isW_rg {kw : Int32} (h : isW kw = true) : rg (kw / 10) 40 ∧ rg (irm kw 10) 3 := by
  simp only [isW, Bool.and_eq_true, decide_eq_true_eq] at h
  obtain ⟨k, hk, rfl⟩ := nI_of_win (N := 403) (by decide) h.1
  have h2 := h.2
  rw [show (10 : Int32) = nI 10 from rfl, irm_nI (by omega) (by decide), show (3 : Int32) = nI 3 from rfl, nI_leI (by omega) (by decide)] at h2
  rw [show (10 : Int32) = nI 10 from rfl, irm_nI (by omega) (by decide), nI_div (by omega) (by decide)]
  exact ⟨rg_nI (by omega), rg_nI h2⟩
theorem XSea.wind2 {I : AI} {T : AT} {B i j : Nat} {s : Nat → Int32} {kw : Int32} (h : XSea I T B i s) (hj : j < 24) (hB : B + 16 ≤ 91) : XSea (va_up I (B + 1) (va_up (I (B + 1)) j kw)) T B i (va_up (va_up s (10 + j) (kw / 10)) (34 + j) (irm kw 10)) := by
  obtain ⟨h1, h2, h3, h4, h5, h6⟩ := h
  have e2 : ∀ y, y ≠ 10 + j → y ≠ 34 + j → va_up (va_up s (10 + j) (kw / 10)) (34 + j) (irm kw 10) y = s y := fun y h1 h2 => by rw [va_up_ne _ _ h2, va_up_ne _ _ h1]
  refine ⟨by rw [va_up_ne _ _ (by omega), e2 _ (by omega) (by omega)]; exact h1, by rw [va_up_ne _ _ (by omega), e2 _ (by omega) (by omega)]; exact h2, fun k hk => ?_, fun q hq => by rw [va_up_ne _ _ (by omega), e2 _ (by omega) (by omega)]; exact h4 q hq, fun b' f' g1 g2 g3 => by rw [e2 _ (by omega) (by omega)] at g1; rw [va_up_ne _ _ (by omega), e2 _ (by omega) (by omega)]; exact h5 b' f' g1 g2 g3, fun u hu => (h6 u hu).kept (fun a ha => va_up_ne _ _ (by omega)) (fun y g1 g2 => e2 y (by omega) (by omega)) hu⟩
  rw [vu_same]
  by_cases q : k = j
  · subst q; rw [vu_same, vu_same, va_up_ne _ _ (show 10 + k ≠ 34 + k by omega), vu_same, ten_irm]
  · rw [va_up_ne _ _ q, e2 _ (by omega) (by omega), e2 _ (by omega) (by omega)]; exact h3 k hk
def wdC (J : AI) (k : Nat) : Nat := led (fun y => isW (J 89 (24 * k + y))) (cl (J 88 k)) 0
def sp_winds (J : AI) (k : Int32) : AI × Int32 := bif win k 0 3 then (if J 87 (cl k) = 0 then (er J 2, LO 2) else (sps J (wdS (J 74) (fun y => J 89 (24 * cl k + y)) (wdC J (cl k))), nI (wdC J (cl k)))) else (er J 1, LO 1)
theorem x_winds (xs : Nat → Int32) (I : AI) (T : AT) (J : AI) (hG : XG xs I T J) (k : Int32) : Ct 2 y_X_winds [.ref 0, .int k] (hp I T) (XP xs I T (sp_winds J k)) := by
  have hsh := hG.2.2.2.2.2.2.1
  have hs := id hG.1
  iterate 2 refine Go.step rfl ?_
  refine Go.cal (x_findSheet I T k) (by decide) rfl ?_
  rintro _ _ ⟨rfl, ⟨j, hj, rfl, c1, rfl⟩ | ⟨c1, rfl⟩⟩
  · have hcl : cl (nI j) = j := nI_clamp (by omega)
    have hS := (sS_sheet T.2.2.2.2.2.2 T.2.2.2.1 hj)
    obtain ⟨h1, h2, h3, h4, h5⟩ := hsh j hj
    obtain ⟨ez, hz⟩ := h5.eq (by decide)
    have esp : sp_winds J (nI j) = if J 87 j = 0 then (er J 2, LO 2) else (sps J (wdS (J 74) (fun y => J 89 (24 * j + y)) (wdC J j)), nI (wdC J j)) := by rw [sp_winds, c1, hcl]; rfl
    rw [esp]
    iterate 4 refine Go.step rfl ?_
    refine Go.calv (x_isMissing I T (65 + 2 * j) 3 hS.1) (by decide) rfl rfl hS.1 rfl ?_
    rintro _ _ ⟨rfl, rfl⟩
    rw [h1]
    refine Go.step rfl ?_
    refine Go.ifz (fun c2 => ?_) (fun c2 => ?_)
    · rw [if_neg (of_decide_eq_false c2)]
      have loop : ∀ m c, c + m = cl (J 88 j) → led (fun y => isW (J 89 (24 * j + y))) m c = wdC J j → ∀ I' : AI, (∀ a, a ≠ 2 → I' a = I a) → XSea I' T 1 0 (wdS (J 74) (fun y => J 89 (24 * j + y)) c) → sOK (wdS (J 74) (fun y => J 89 (24 * j + y)) c) → Go 2 y_X_winds 33 [some (.ref 0), some (.int (nI j)), some (.ref (65 + 2 * j)), some (.int (nI c))] [] (hp I' T) (XP xs I T (sps J (wdS (J 74) (fun y => J 89 (24 * j + y)) (wdC J j)), nI (wdC J j))) := by
        intro m
        induction m with
        | zero =>
          intro c hc hl I' q1 q2 q3
          have hle : c = wdC J j := hl
          iterate 2 refine Go.step rfl ?_
          refine Go.geti rfl hS.1 (Or.inl rfl) ?_
          rw [q1 _ (by omega), h2, ez]
          refine Go.step rfl ?_
          refine Go.ifp (nI_le (a := cl (J 88 j)) (b := c) (by omega) (by omega)) ?_
          refine Go.step rfl ?_
          rw [← hle]
          exact Go.ret rfl ⟨I', rfl, fun a g1 g2 => q1 a (by omega), hG.sea (fun a ha => q1 a (by omega)) q3 q2 (fun y hy => wdS_off _ _ (by omega) c (by omega)), rfl⟩
        | succ m ih =>
          intro c hc hl I' q1 q2 q3
          rw [led] at hl
          iterate 2 refine Go.step rfl ?_
          refine Go.geti rfl hS.1 (Or.inl rfl) ?_
          rw [q1 _ (by omega), h2, ez]
          refine Go.step rfl ?_
          refine Go.ifn (nI_ge (a := c) (b := cl (J 88 j)) (by omega) (by omega)) ?_
          iterate 3 refine Go.step rfl ?_
          refine Go.ifn (nI_ge (a := c) (b := 24) (by omega) (by decide)) ?_
          refine Go.step rfl ?_
          refine Go.getr rfl hS.1 rfl (sP_sheet T hj).2 ?_
          refine Go.step rfl ?_
          refine Go.iald rfl hS.2 (am_in_nI (by omega) (by decide)) ?_
          rw [nI_clamp (by omega), q1 _ (by omega), h3 c (by omega)]
          refine Go.cal (x_isWind _ _) (by decide) rfl ?_
          rintro _ _ ⟨rfl, rfl⟩
          refine Go.step rfl ?_
          refine Go.ifz (fun c3 => ?_) (fun c3 => ?_)
          · rw [c3] at hl
            have hle : c = wdC J j := hl
            refine Go.step rfl ?_
            rw [← hle]
            exact Go.ret rfl ⟨I', rfl, fun a g1 g2 => q1 a (by omega), hG.sea (fun a ha => q1 a (by omega)) q3 q2 (fun y hy => wdS_off _ _ (by omega) c (by omega)), rfl⟩
          · rw [c3] at hl
            iterate 5 refine Go.step rfl ?_
            refine Go.getr rfl hS.1 rfl (sP_sheet T hj).2 ?_
            refine Go.step rfl ?_
            refine Go.iald rfl hS.2 (am_in_nI (by omega) (by decide)) ?_
            rw [nI_clamp (by omega), q1 _ (by omega), h3 c (by omega)]
            refine Go.iast rfl rfl (am_in_nI (show c < 24 by omega) (by decide)) ?_
            rw [nI_clamp (by omega)]
            iterate 2 refine Go.step rfl ?_
            rw [show nI c + 1 = nI (c + 1) from nI_1 c]
            have hr := isW_rg c3
            exact ih (c + 1) (by omega) hl _ (fun a ha => by rw [va_up_ne _ _ ha]; exact q1 a ha) (q2.wind2 (B := 1) (by omega) (by decide)) ((q3.up (by omega) (okv_wind (by omega) hr.1)).up (by omega) (okv_way (by omega) hr.2))
      iterate 2 refine Go.step rfl ?_
      exact loop (cl (J 88 j)) 0 (by omega) rfl I (fun _ _ => rfl) hG.2.1 hs
    · rw [if_pos (of_decide_eq_true c2)]
      iterate 3 refine Go.step rfl ?_
      refine Go.step rfl ?_
      exact x_err (k := 2) hG (by decide) (by decide) rfl rfl rfl rfl (by decide)
  · iterate 3 refine Go.step rfl ?_
    iterate 5 refine Go.step rfl ?_
    exact x_err (k := 1) hG (by decide) (by decide) (by rw [sp_winds, c1]; rfl) rfl rfl rfl (by decide)
theorem m_lacks (I : AI) (T : AT) (k : Int32) : Ct 2 y_M_lacks [.ref 73, .int k] (hp I T) (fun r h' => h' = hp I T ∧ r = some (.int (bif win k 0 3 then (if I 87 (cl k) = 0 then 2 else 0) else 1))) := by
  refine Go.step rfl ?_
  refine Go.cal (m_isSheet _ k) (by decide) rfl ?_
  rintro _ _ ⟨rfl, rfl⟩
  refine Go.step rfl ?_
  refine Go.ifz (fun c1 => ?_) (fun c1 => ?_)
  · iterate 2 refine Go.step rfl ?_
    exact Go.ret rfl ⟨rfl, by rw [c1]; rfl⟩
  · obtain ⟨j, hj, rfl⟩ := nI_of_win (N := 3) (by decide) c1
    rw [c1, show cl (nI j) = j from nI_clamp (by omega)]
    iterate 3 refine Go.step rfl ?_
    refine Go.iald rfl rfl (am_in_nI (by omega) (by decide)) ?_
    rw [nI_clamp (by omega)]
    refine Go.step rfl ?_
    refine Go.ite (fun c2 => ?_) (fun c2 => ?_)
    · iterate 2 refine Go.step rfl ?_
      refine Go.ret rfl ⟨rfl, ?_⟩
      simp only [cond_true]
      rw [if_pos c2]
    · refine Go.step rfl ?_
      refine Go.ret rfl ⟨rfl, ?_⟩
      simp only [cond_true]
      rw [if_neg c2]
theorem m_winds (I : AI) (T : AT) (hr : ∀ j, j < 4 → rg (I 88 j) 24) (k : Int32) : Ct 3 y_M_winds [.ref 73, .int k] (hp I T) (MQ2 I T (sp_winds I k)) := by
  iterate 2 refine Go.step rfl ?_
  refine Go.cal (m_lacks I T k) (by decide) rfl ?_
  rintro _ _ ⟨rfl, rfl⟩
  cases c1 : win k 0 3 with
  | false =>
    iterate 5 refine Go.step rfl ?_
    exact m_errq (k := 1) (by decide) (by rw [sp_winds, c1]; rfl) rfl rfl rfl (by decide)
  | true =>
    simp only [cond_true]
    obtain ⟨j, hj, rfl⟩ := nI_of_win (N := 3) (by decide) c1
    have hcl : cl (nI j) = j := nI_clamp (by omega)
    have hj4 : j < 4 := by omega
    obtain ⟨ez, hz⟩ := (hr j hj4).eq (by decide)
    have esp : sp_winds I (nI j) = if I 87 j = 0 then (er I 2, LO 2) else (sps I (wdS (I 74) (fun y => I 89 (24 * j + y)) (wdC I j)), nI (wdC I j)) := by rw [sp_winds, c1, hcl]; rfl
    rw [esp, hcl]
    by_cases c2 : I 87 j = 0
    · rw [if_pos c2, if_pos c2]
      iterate 5 refine Go.step rfl ?_
      exact m_errq (k := 2) (by decide) rfl rfl rfl rfl (by decide)
    · rw [if_neg c2, if_neg c2]
      have loop : ∀ m c, c + m = cl (I 88 j) → led (fun y => isW (I 89 (24 * j + y))) m c = wdC I j → ∀ t2 : Value, Go 3 y_M_winds 18 [some (.ref 73), some (.int (nI j)), some t2, some (.int (nI c))] [] (hp (va_up I 74 (wdS (I 74) (fun y => I 89 (24 * j + y)) c)) T) (MQ2 I T (sps I (wdS (I 74) (fun y => I 89 (24 * j + y)) (wdC I j)), nI (wdC I j))) := by
        intro m
        induction m with
        | zero =>
          intro c hc hl t2
          have hle : c = wdC I j := hl
          iterate 4 refine Go.step rfl ?_
          refine Go.iald rfl rfl (am_in_nI hj4 (by decide)) ?_
          rw [nI_clamp (by omega), va_up_ne _ _ (show 88 ≠ 74 by decide), ez]
          refine Go.step rfl ?_
          refine Go.ifp (nI_le (a := cl (I 88 j)) (b := c) (by omega) (by omega)) ?_
          refine Go.step rfl ?_
          rw [← hle]
          exact Go.ret rfl ⟨_, rfl, fun a ha => va_up_ne _ _ (by omega), JE.rf _, rfl⟩
        | succ m ih =>
          intro c hc hl t2
          rw [led] at hl
          iterate 4 refine Go.step rfl ?_
          refine Go.iald rfl rfl (am_in_nI hj4 (by decide)) ?_
          rw [nI_clamp (by omega), va_up_ne _ _ (show 88 ≠ 74 by decide), ez]
          refine Go.step rfl ?_
          refine Go.ifn (nI_ge (a := c) (b := cl (I 88 j)) (by omega) (by omega)) ?_
          iterate 3 refine Go.step rfl ?_
          refine Go.ifn (nI_ge (a := c) (b := 24) (by omega) (by decide)) ?_
          iterate 5 refine Go.step rfl ?_
          rw [show (24 : Int32) * nI j = nI (24 * j) from nI_mul 24 j]
          iterate 2 refine Go.step rfl ?_
          rw [nI_add]
          refine Go.iald rfl rfl (am_in_nI (by omega) (by decide)) ?_
          rw [nI_clamp (by omega), va_up_ne _ _ (show 89 ≠ 74 by decide)]
          refine Go.cal (m_isWind _ _) (by decide) rfl ?_
          rintro _ _ ⟨rfl, rfl⟩
          refine Go.step rfl ?_
          refine Go.ifz (fun c3 => ?_) (fun c3 => ?_)
          · rw [c3] at hl
            have hle : c = wdC I j := hl
            refine Go.step rfl ?_
            rw [← hle]
            exact Go.ret rfl ⟨_, rfl, fun a ha => va_up_ne _ _ (by omega), JE.rf _, rfl⟩
          · rw [c3] at hl
            iterate 7 refine Go.step rfl ?_
            rw [show (24 : Int32) * nI j = nI (24 * j) from nI_mul 24 j]
            iterate 2 refine Go.step rfl ?_
            rw [nI_add]
            refine Go.iald rfl rfl (am_in_nI (by omega) (by decide)) ?_
            rw [nI_clamp (by omega), va_up_ne _ _ (show 89 ≠ 74 by decide)]
            refine Go.cal (m_blowsAt _ T c _ (by omega)) (by decide) rfl ?_
            rintro _ _ ⟨rfl, rfl⟩
            rw [vu_idem, vu_same]
            iterate 2 refine Go.step rfl ?_
            rw [show nI c + 1 = nI (c + 1) from nI_1 c]
            exact ih (c + 1) (by omega) hl t2
      iterate 3 refine Go.step rfl ?_
      iterate 2 refine Go.step rfl ?_
      have := loop (cl (I 88 j)) 0 (by omega) rfl (.int 0)
      rw [show wdS (I 74) (fun y => I 89 (24 * j + y)) 0 = I 74 from rfl, vu_self] at this
      exact this
theorem wdC_le {J : AI} {k : Nat} (h : rg (J 88 k) 24) : wdC J k ≤ 24 := by
  have := led_le (fun y => isW (J 89 (24 * k + y))) (cl (J 88 k)) 0
  have := (h.eq (by decide)).2
  unfold wdC
  omega
theorem op_winds (a : Int32) : OpOK y_X_winds y_M_winds [.int a] := by
  refine op_new (sp := fun J => sp_winds J a) (fun xs I T J h => x_winds xs I T J h a) (fun xs I0 T0 I T h => m_winds I T h.bits.2 a) (by decide) (by decide) ?_ ?_
  · unfold sp_winds wdC; exact SpC.bif2 (fun J J' e => rfl) (SpC.ite2 (fun J J' e => by rw [e.2.2.2.2.2.2.1]) (SpC.err 2) (SpC.row (fun J J' e => by rw [e.2.2.1, e.2.2.2.2.2.2.2.1, e.2.2.2.2.2.2.2.2] <;> exact ⟨rfl, rfl⟩))) (SpC.err 1)
  · intro xs I T J hG
    show HB (sp_winds J a).1
    unfold sp_winds
    cases c1 : win a 0 3 with
    | false => exact hG.2.er1 1
    | true =>
      simp only [cond_true]
      obtain ⟨j, hj, rfl⟩ := nI_of_win (N := 3) (by decide) c1
      have hcl : cl (nI j) = j := nI_clamp (by omega)
      rw [hcl]
      split
      · exact hG.2.er1 2
      · exact hG.2.sps1 (wdS_off _ _ (by decide) _ (wdC_le (hG.1.bits.2 j (by omega)))) (fun y hy => wdS_off _ _ (by omega) _ (wdC_le (hG.1.bits.2 j (by omega))))
/-! judge -/
def jdC (J : AI) (k : Nat) : Nat := led (fun y => decide (tk (J 74) 255 y = J 89 (24 * k + y))) (min (cl (J 74 0)) (cl (J 88 k))) 0
def sp_judge (J : AI) (k : Int32) : AI × Int32 := bif win k 0 3 then (if J 87 (cl k) = 0 then (er J 2, LO 2) else (J, nI (jdC J (cl k)))) else (er J 1, LO 1)
theorem x_judge (xs : Nat → Int32) (I : AI) (T : AT) (J : AI) (hG : XG xs I T J) (k : Int32) : Ct 5 y_X_judge [.ref 0, .int k] (hp I T) (XP xs I T (sp_judge J k)) := by
  have hsh := hG.2.2.2.2.2.2.1
  have hs := id hG.1
  obtain ⟨en, hn⟩ := hs.1.eq (by decide)
  iterate 2 refine Go.step rfl ?_
  refine Go.cal (x_findSheet I T k) (by decide) rfl ?_
  rintro _ _ ⟨rfl, ⟨j, hj, rfl, c1, rfl⟩ | ⟨c1, rfl⟩⟩
  · have hcl : cl (nI j) = j := nI_clamp (by omega)
    have hS := (sS_sheet T.2.2.2.2.2.2 T.2.2.2.1 hj)
    obtain ⟨h1, h2, h3, h4, h5⟩ := hsh j hj
    obtain ⟨ez, hz⟩ := h5.eq (by decide)
    have esp : sp_judge J (nI j) = if J 87 j = 0 then (er J 2, LO 2) else (J, nI (jdC J j)) := by rw [sp_judge, c1, hcl]; rfl
    rw [esp]
    iterate 4 refine Go.step rfl ?_
    refine Go.calv (x_isMissing I T (65 + 2 * j) 3 hS.1) (by decide) rfl rfl hS.1 rfl ?_
    rintro _ _ ⟨rfl, rfl⟩
    rw [h1]
    refine Go.step rfl ?_
    refine Go.ifz (fun c2 => ?_) (fun c2 => ?_)
    · rw [if_neg (of_decide_eq_false c2)]
      iterate 3 refine Go.step rfl ?_
      refine Go.cal (x_take_1 I T _ hs hG.2.1 255) (by decide) rfl ?_
      rintro _ _ ⟨I', rfl, ⟨k1, k2, k3, k4⟩, rfl⟩
      have hX' : XSea I' T 1 0 (J 74) := hG.2.1.scr (by decide) k1 k2
      have fin : ∀ c, c = jdC J j → Go 5 y_X_judge 89 [some (.ref 0), some (.int (nI j)), some (.ref (65 + 2 * j)), some (.int (nI c))] [] (hp I' T) (XP xs I T (J, nI (jdC J j))) := by
        intro c hc
        refine Go.step rfl ?_
        rw [hc]
        exact Go.ret rfl ⟨I', rfl, fun a g1 g2 => k1 a (by omega), hG.scr k1 k2, rfl⟩
      have loop : ∀ m c, c + m = min (cl (J 74 0)) (cl (J 88 j)) → led (fun y => decide (tk (J 74) 255 y = J 89 (24 * j + y))) m c = jdC J j → Go 5 y_X_judge 43 [some (.ref 0), some (.int (nI j)), some (.ref (65 + 2 * j)), some (.int (nI c))] [] (hp I' T) (XP xs I T (J, nI (jdC J j))) := by
        intro m
        induction m with
        | zero =>
          intro c hc hl
          have hle : c = jdC J j := hl
          iterate 4 refine Go.step rfl ?_
          rw [show I' 1 1 = nI (cl (J 74 0)) from hX'.2.1.trans en]
          refine Go.step rfl ?_
          by_cases q : cl (J 74 0) ≤ c
          · refine Go.ifp (nI_le q (by omega)) ?_
            exact fin c hle
          · refine Go.ifn (nI_ge (by omega) (by omega)) ?_
            iterate 2 refine Go.step rfl ?_
            refine Go.geti rfl hS.1 (Or.inl rfl) ?_
            rw [k1 _ (by omega), h2, ez]
            refine Go.step rfl ?_
            refine Go.ifp (nI_le (by omega) (by omega)) ?_
            exact fin c hle
        | succ m ih =>
          intro c hc hl
          rw [led] at hl
          have hc8 : c < 8 := by omega
          iterate 4 refine Go.step rfl ?_
          rw [show I' 1 1 = nI (cl (J 74 0)) from hX'.2.1.trans en]
          refine Go.step rfl ?_
          refine Go.ifn (nI_ge (a := c) (b := cl (J 74 0)) (by omega) (by omega)) ?_
          iterate 2 refine Go.step rfl ?_
          refine Go.geti rfl hS.1 (Or.inl rfl) ?_
          rw [k1 _ (by omega), h2, ez]
          refine Go.step rfl ?_
          refine Go.ifn (nI_ge (a := c) (b := cl (J 88 j)) (by omega) (by omega)) ?_
          iterate 4 refine Go.step rfl ?_
          refine Go.aald rfl rfl rfl (am_in_nI hc8 (by decide)) (by rw [nI_clamp (by omega)]; exact sP_boats T (B := 1) (Or.inl rfl) hc8) ?_
          refine Go.geti rfl (sS_boat _ _ (B := 1) (Or.inl rfl) hc8) (Or.inl rfl) ?_
          rw [k3 c (by omega)]
          refine Go.step rfl ?_
          refine Go.getr rfl hS.1 rfl (sP_sheet T hj).2 ?_
          refine Go.step rfl ?_
          refine Go.iald rfl hS.2 (am_in_nI (by omega) (by decide)) ?_
          rw [nI_clamp (by omega), k1 _ (by omega), h3 c (by omega)]
          refine Go.step rfl ?_
          refine Go.ite (fun c3 => ?_) (fun c3 => ?_)
          · rw [decide_eq_true c3] at hl
            iterate 2 refine Go.step rfl ?_
            rw [show nI c + 1 = nI (c + 1) from nI_1 c]
            exact ih (c + 1) (by omega) hl
          · rw [decide_eq_false c3] at hl
            exact fin c hl
      iterate 2 refine Go.step rfl ?_
      exact loop _ 0 (by omega) rfl
    · rw [if_pos (of_decide_eq_true c2)]
      iterate 3 refine Go.step rfl ?_
      refine Go.step rfl ?_
      exact x_err (k := 2) hG (by decide) (by decide) rfl rfl rfl rfl (by decide)
  · iterate 3 refine Go.step rfl ?_
    iterate 5 refine Go.step rfl ?_
    exact x_err (k := 1) hG (by decide) (by decide) (by rw [sp_judge, c1]; rfl) rfl rfl rfl (by decide)
theorem m_judge (I : AI) (T : AT) (hs : sOK (I 74)) (ht : tOK (I 74) 0) (hr : ∀ j, j < 4 → rg (I 88 j) 24) (k : Int32) : Ct 5 y_M_judge [.ref 73, .int k] (hp I T) (MQ2 I T (sp_judge I k)) := by
  obtain ⟨en, hn⟩ := hs.1.eq (by decide)
  iterate 2 refine Go.step rfl ?_
  refine Go.cal (m_lacks I T k) (by decide) rfl ?_
  rintro _ _ ⟨rfl, rfl⟩
  cases c1 : win k 0 3 with
  | false =>
    iterate 5 refine Go.step rfl ?_
    exact m_errq (k := 1) (by decide) (by rw [sp_judge, c1]; rfl) rfl rfl rfl (by decide)
  | true =>
    simp only [cond_true]
    obtain ⟨j, hj, rfl⟩ := nI_of_win (N := 3) (by decide) c1
    have hcl : cl (nI j) = j := nI_clamp (by omega)
    have hj4 : j < 4 := by omega
    obtain ⟨ez, hz⟩ := (hr j hj4).eq (by decide)
    have esp : sp_judge I (nI j) = if I 87 j = 0 then (er I 2, LO 2) else (I, nI (jdC I j)) := by rw [sp_judge, c1, hcl]; rfl
    rw [esp, hcl]
    by_cases c2 : I 87 j = 0
    · rw [if_pos c2, if_pos c2]
      iterate 5 refine Go.step rfl ?_
      exact m_errq (k := 2) (by decide) rfl rfl rfl rfl (by decide)
    · rw [if_neg c2, if_neg c2]
      iterate 3 refine Go.step rfl ?_
      iterate 2 refine Go.step rfl ?_
      refine Go.cal (m_all I T) (by decide) rfl ?_
      rintro _ _ ⟨rfl, rfl⟩
      refine Go.cal (m_blow I T hs ht (alm (I 74))) (by decide) rfl ?_
      rintro _ _ ⟨I', rfl, hB, rfl⟩
      have e74 : I' 74 = I 74 := hB.1 74 (by decide)
      have fin : ∀ c (t2 : Value), c = jdC I j → Go 5 y_M_judge 72 [some (.ref 73), some (.int (nI j)), some t2, some (.int (nI c))] [] (hp I' T) (MQ2 I T (I, nI (jdC I j))) := by
        intro c t2 hc
        refine Go.step rfl ?_
        rw [hc]
        exact Go.ret rfl ⟨I', rfl, fun a ha => hB.1 a (by omega), JE.scr hB.1, rfl⟩
      have loop : ∀ m c, c + m = min (cl (I 74 0)) (cl (I 88 j)) → led (fun y => decide (tk (I 74) 255 y = I 89 (24 * j + y))) m c = jdC I j → ∀ t2 : Value, Go 5 y_M_judge 26 [some (.ref 73), some (.int (nI j)), some t2, some (.int (nI c))] [] (hp I' T) (MQ2 I T (I, nI (jdC I j))) := by
        intro m
        induction m with
        | zero =>
          intro c hc hl t2
          have hle : c = jdC I j := hl
          iterate 5 refine Go.step rfl ?_
          rw [e74, show I 74 (Int32.toNatClampNeg 0) = nI (cl (I 74 0)) from en]
          refine Go.step rfl ?_
          by_cases q : cl (I 74 0) ≤ c
          · refine Go.ifp (nI_le q (by omega)) ?_
            exact fin c t2 hle
          · refine Go.ifn (nI_ge (by omega) (by omega)) ?_
            iterate 4 refine Go.step rfl ?_
            refine Go.iald rfl rfl (am_in_nI hj4 (by decide)) ?_
            rw [nI_clamp (by omega), hB.1 88 (by decide), ez]
            refine Go.step rfl ?_
            refine Go.ifp (nI_le (by omega) (by omega)) ?_
            exact fin c t2 hle
        | succ m ih =>
          intro c hc hl t2
          rw [led] at hl
          iterate 5 refine Go.step rfl ?_
          rw [e74, show I 74 (Int32.toNatClampNeg 0) = nI (cl (I 74 0)) from en]
          refine Go.step rfl ?_
          refine Go.ifn (nI_ge (a := c) (b := cl (I 74 0)) (by omega) (by omega)) ?_
          iterate 4 refine Go.step rfl ?_
          refine Go.iald rfl rfl (am_in_nI hj4 (by decide)) ?_
          rw [nI_clamp (by omega), hB.1 88 (by decide), ez]
          refine Go.step rfl ?_
          refine Go.ifn (nI_ge (a := c) (b := cl (I 88 j)) (by omega) (by omega)) ?_
          iterate 5 refine Go.step rfl ?_
          rw [show (24 : Int32) * nI j = nI (24 * j) from nI_mul 24 j]
          iterate 2 refine Go.step rfl ?_
          rw [nI_add]
          refine Go.iald rfl rfl (am_in_nI (by omega) (by decide)) ?_
          rw [nI_clamp (by omega), hB.1 89 (by decide)]
          iterate 3 refine Go.step rfl ?_
          refine Go.iald rfl rfl (am_in_nI (by omega) (by decide)) ?_
          rw [nI_clamp (by omega), hB.2.1 c (by omega), tk_congr (alm_bit hs) (show c < cl (I 74 0) by omega)]
          refine Go.step rfl ?_
          refine Go.ite (fun c3 => ?_) (fun c3 => ?_)
          · rw [decide_eq_true c3.symm] at hl
            iterate 2 refine Go.step rfl ?_
            rw [show nI c + 1 = nI (c + 1) from nI_1 c]
            exact ih (c + 1) (by omega) hl t2
          · rw [decide_eq_false (fun z => c3 z.symm)] at hl
            exact fin c t2 hl
      iterate 2 refine Go.step rfl ?_
      exact loop _ 0 (by omega) rfl _
theorem op_judge (a : Int32) : OpOK y_X_judge y_M_judge [.int a] := by
  refine op_new (sp := fun J => sp_judge J a) (fun xs I T J h => x_judge xs I T J h a) (fun xs I0 T0 I T h => m_judge I T h.1 (h.tok (by decide)) h.bits.2 a) (by decide) (by decide) ?_ ?_
  · unfold sp_judge jdC; exact SpC.bif2 (fun J J' e => rfl) (SpC.ite2 (fun J J' e => by rw [e.2.2.2.2.2.2.1]) (SpC.err 2) (SpC.ans (fun J J' e => by rw [e.2.2.1, e.2.2.2.2.2.2.2.1, e.2.2.2.2.2.2.2.2]))) (SpC.err 1)
  · unfold sp_judge; exact SpH.bif2 (SpH.ite2 (SpH.err 2) SpH.ans) (SpH.err 1)
