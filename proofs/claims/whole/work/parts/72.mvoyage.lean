/-! PAIRS: voyage, the reference -/
theorem m_stepBy (I : AI) (T : AT) (hs : sOK (I 74)) (h c w : Nat) (hh : h < 1000) (hc : c < 24) (hw4 : w < 4) : Ct 1 y_M_stepBy [.ref 73, .int (nI (cl (I 74 1) + h)), .int (nI c), .int (nI w)] (hp I T) (fun r h' => h' = hp I T ∧ r = some (.int (nI (cst (I 74) h c w)))) := by
  obtain ⟨-, hb⟩ := hs.2.1.eq (by decide)
  obtain ⟨eP, hP⟩ := (hs.2.2.2.2.1 (c / 6) (by omega)).eq (by decide)
  obtain ⟨eK, hK⟩ := (hs.2.2.2.2.2.1 _ (hw_lt (I 74) h)).eq (by decide)
  obtain ⟨eW, hW⟩ := (hs.2.2.2.2.2.2.1 _ (hw_lt (I 74) h)).eq (by decide)
  have hwl := hw_lt (I 74) h
  have ehw : irm (nI (cl (I 74 1) + h)) 24 = nI (hw (I 74) h) := irm_nI (b := 24) (by omega) (by decide)
  have fin : ∀ (g : Bool), g = decide (6 ≤ cl (I 74 (10 + hw (I 74) h)) ∧ ¬ cl (I 74 (34 + hw (I 74) h)) = w) → Go 1 y_M_stepBy 40 [some (.ref 73), some (.int (nI (cl (I 74 1) + h))), some (.int (nI c)), some (.int (nI w)), some (.int (nI (hw (I 74) h))), none, none] [.int (bo g)] (hp I T) (fun r h' => h' = hp I T ∧ r = some (.int (nI (cst (I 74) h c w)))) := by
    intro g hg
    iterate 4 refine Go.step rfl ?_
    refine Go.cal (m_priceAt I T c hc) (by decide) rfl ?_
    rintro _ _ ⟨rfl, rfl⟩
    refine Go.step rfl ?_
    rw [eP, show (3 : Int32) * nI (cl (I 74 (5 + c / 6))) = nI (3 * cl (I 74 (5 + c / 6))) from nI_mul 3 _]
    iterate 3 refine Go.step rfl ?_
    refine Go.ifz (fun c1 => ?_) (fun c1 => ?_)
    · refine Go.step rfl ?_
      refine Go.ret rfl ⟨rfl, ?_⟩
      rw [hg] at c1
      have := of_decide_eq_false c1
      unfold cst
      rw [if_neg this]; rfl
    · rw [hg] at c1
      have := of_decide_eq_true c1
      iterate 3 refine Go.step rfl ?_
      by_cases q : 3 * cl (I 74 (5 + c / 6)) < 2
      · refine Go.ifn (nI_ge (a := 3 * cl (I 74 (5 + c / 6))) (b := 2) q (by decide)) ?_
        iterate 2 refine Go.step rfl ?_
        refine Go.ret rfl ⟨rfl, ?_⟩
        unfold cst
        rw [if_pos this, show min 2 (3 * cl (I 74 (5 + c / 6))) = 3 * cl (I 74 (5 + c / 6)) by omega]
      · refine Go.ifp (nI_le (a := 2) (b := 3 * cl (I 74 (5 + c / 6))) (by omega) (by omega)) ?_
        refine Go.step rfl ?_
        refine Go.ret rfl ⟨rfl, ?_⟩
        unfold cst
        rw [if_pos this, show min 2 (3 * cl (I 74 (5 + c / 6))) = 2 by omega]; rfl
  iterate 3 refine Go.step rfl ?_
  rw [ehw]
  iterate 6 refine Go.step rfl ?_
  rw [show (10 : Int32) + nI (hw (I 74) h) = nI (10 + hw (I 74) h) from nI_add 10 _]
  refine Go.iald rfl rfl (am_in_nI (by omega) (by decide)) ?_
  rw [nI_clamp (by omega), eK]
  iterate 2 refine Go.step rfl ?_
  by_cases g6 : 6 ≤ cl (I 74 (10 + hw (I 74) h))
  · refine Go.ifn (nI_nlt (a := cl (I 74 (10 + hw (I 74) h))) (b := 6) g6 (by omega)) ?_
    iterate 5 refine Go.step rfl ?_
    rw [show (34 : Int32) + nI (hw (I 74) h) = nI (34 + hw (I 74) h) from nI_add 34 _]
    refine Go.iald rfl rfl (am_in_nI (by omega) (by decide)) ?_
    rw [nI_clamp (by omega), eW]
    iterate 2 refine Go.step rfl ?_
    by_cases gw : cl (I 74 (34 + hw (I 74) h)) = w
    · refine Go.ifp (by rw [gw]) ?_
      refine Go.step rfl ?_
      exact fin false (by rw [decide_eq_false (fun q => q.2 gw)])
    · refine Go.ifn (fun q => gw ((nI_eq (by omega) (by omega)).mp q)) ?_
      iterate 2 refine Go.step rfl ?_
      exact fin true (by rw [decide_eq_true ⟨g6, gw⟩])
  · refine Go.ifp (nI_lt (a := cl (I 74 (10 + hw (I 74) h))) (b := 6) (by omega) (by decide)) ?_
    refine Go.step rfl ?_
    exact fin false (by rw [decide_eq_false (fun q => g6 q.1)])
/-- the reference's cells but for its voyage's rows -/
def MV (I I' : AI) : Prop := ∀ a, a ≠ 84 → a ≠ 85 → I' a = I a
theorem m_voy_edges (I : AI) (T : AT) (hs : sOK (I 74)) (f t n : Value) (h : Nat) (hh : h < 24) (D : Nat → Nat) (hD : cOK D (2 * h)) (Q : Option Value → AH → Prop) (K : ∀ (I' : AI) (t5 t6 t7 t8 : Option Value), MV I I' → (∀ y, y < 24 → I' 85 y = fz 99999999 (stE (I 74) h D 96 y)) → Go 2 y_M_voyage 215 [some (.ref 73), some f, some t, some n, some (.int (nI h)), t5, t6, t7, t8] [] (hp I' T) Q) : ∀ m i, i + m = 96 → ∀ (I' : AI) (t6 t7 t8 : Option Value), MV I I' → (∀ y, y < 24 → I' 84 y = fz 99999999 (D y)) → (∀ y, y < 24 → I' 85 y = fz 99999999 (stE (I 74) h D i y)) → Go 2 y_M_voyage 107 [some (.ref 73), some f, some t, some n, some (.int (nI h)), some (.int (nI i)), t6, t7, t8] [] (hp I' T) Q := by
  obtain ⟨eh, hhb⟩ := hs.2.1.eq (by decide)
  intro m
  induction m with
  | zero =>
    intro i hi I' t6 t7 t8 q1 q2 q3
    have : i = 96 := by omega
    subst this
    iterate 3 refine Go.step rfl ?_
    refine Go.ifp (Int32.le_refl _) ?_
    exact K I' _ _ _ _ q1 q3
  | succ m ih =>
    intro i hi I' t6 t7 t8 q1 q2 q3
    have e74 : I' 74 = I 74 := q1 74 (by decide) (by decide)
    have next : ∀ (I2 : AI) (t6 t7 t8 : Option Value), MV I I2 → (∀ y, y < 24 → I2 84 y = fz 99999999 (D y)) → (∀ y, y < 24 → I2 85 y = fz 99999999 (stE (I 74) h D (i + 1) y)) → Go 2 y_M_voyage 209 [some (.ref 73), some f, some t, some n, some (.int (nI h)), some (.int (nI i)), t6, t7, t8] [] (hp I2 T) Q := by
      intro I2 t6 t7 t8 g1 g2 g3
      iterate 2 refine Go.step rfl ?_
      rw [show nI i + 1 = nI (i + 1) from nI_1 i]
      exact ih (i + 1) (by omega) I2 _ _ _ g1 g2 g3
    have hc : i / 4 < 24 := by omega
    have hDc := hD (i / 4)
    iterate 3 refine Go.step rfl ?_
    refine Go.ifn (nI_ge (a := i) (b := 96) (by omega) (by decide)) ?_
    iterate 3 refine Go.step rfl ?_
    rw [show nI i / 4 = nI (i / 4) from nI_div (b := 4) (by omega) (by decide)]
    iterate 5 refine Go.step rfl ?_
    rw [show irm (nI i) 4 = nI (i % 4) from irm_nI (b := 4) (by omega) (by decide)]
    refine Go.cal (m_beside _ (i / 4) (i % 4) hc (by omega)) (by decide) rfl ?_
    rintro _ _ ⟨rfl, rfl⟩
    iterate 4 refine Go.step rfl ?_
    refine Go.ite (fun c1 => ?_) (fun c1 => ?_)
    · exact next I' _ _ _ q1 q2 (by rw [stE, if_neg (fun q => q.1 c1)]; exact q3)
    · obtain ⟨eB, hB⟩ := bes_nI hc c1
      iterate 3 refine Go.step rfl ?_
      refine Go.iald rfl rfl (am_in_nI hc (by decide)) ?_
      rw [nI_clamp (by omega), q2 _ hc]
      iterate 2 refine Go.step rfl ?_
      by_cases q : D (i / 4) = 1000
      · refine Go.ifp (by rw [fz_far q]; exact Int32.le_refl _) ?_
        exact next I' _ _ _ q1 q2 (by rw [stE, if_neg (fun z => by omega)]; exact q3)
      · rw [fz_near q]
        refine Go.ifn (nI_ge (a := D (i / 4)) (b := 99999999) (by omega) (by decide)) ?_
        have eS : stE (I 74) h D (i + 1) = va_up (stE (I 74) h D i) (cl (bes (i / 4) (i % 4))) (min (stE (I 74) h D i (cl (bes (i / 4) (i % 4)))) (D (i / 4) + cst (I 74) h (i / 4) (i % 4))) := by rw [stE, if_pos ⟨c1, by omega⟩]
        have hcs := cst_le (I 74) h (i / 4) (i % 4)
        have hx := stE_ok (s := I 74) (h := h) hD i (cl (bes (i / 4) (i % 4)))
        have hm := fz_min (F := 99999999) (N := 99999999) (x := stE (I 74) h D i (cl (bes (i / 4) (i % 4)))) (v := D (i / 4) + cst (I 74) h (i / 4) (i % 4)) rfl (by decide) (by decide) (by omega) (by omega)
        iterate 3 refine Go.step rfl ?_
        refine Go.iald rfl rfl (am_in_nI hc (by decide)) ?_
        rw [nI_clamp (by omega), q2 _ hc, fz_near q]
        iterate 5 refine Go.step rfl ?_
        rw [e74, show I 74 (Int32.toNatClampNeg 1) = nI (cl (I 74 1)) from eh]
        iterate 2 refine Go.step rfl ?_
        rw [nI_add]
        iterate 4 refine Go.step rfl ?_
        rw [show irm (nI i) 4 = nI (i % 4) from irm_nI (b := 4) (by omega) (by decide)]
        have st := m_stepBy I' T (by rw [e74]; exact hs) h (i / 4) (i % 4) (by omega) hc (by omega)
        rw [e74] at st
        refine Go.cal (st) (by decide) rfl ?_
        rintro _ _ ⟨rfl, rfl⟩
        refine Go.step rfl ?_
        rw [nI_add]
        rw [eB]
        iterate 8 refine Go.step rfl ?_
        refine Go.iald rfl rfl (am_in_nI hB (by decide)) ?_
        rw [nI_clamp (by omega), q3 _ hB]
        refine Go.step rfl ?_
        by_cases zz : D (i / 4) + cst (I 74) h (i / 4) (i % 4) < stE (I 74) h D i (cl (bes (i / 4) (i % 4)))
        · refine Go.ifn (Int32.not_le.mpr (hm.1.mpr zz)) ?_
          iterate 2 refine Go.step rfl ?_
          refine Go.iast rfl rfl (am_in_nI hB (by decide)) ?_
          rw [nI_clamp (by omega)]
          refine next _ _ _ _ (fun a g1 g2 => by rw [va_up_ne _ _ g2]; exact q1 a g1 g2) (fun y hy => by rw [va_up_ne _ _ (by decide)]; exact q2 y hy) (fun y hy => ?_)
          rw [vu_same, eS]
          by_cases z : y = cl (bes (i / 4) (i % 4))
          · rw [z, vu_same, vu_same, hm.2, if_pos zz]
          · rw [va_up_ne _ _ z, va_up_ne _ _ z]; exact q3 y hy
        · refine Go.ifp (Int32.not_lt.mp (fun x => zz (hm.1.mp x))) ?_
          iterate 3 refine Go.step rfl ?_
          refine Go.iald rfl rfl (am_in_nI hB (by decide)) ?_
          rw [nI_clamp (by omega), q3 _ hB]
          refine Go.iast rfl rfl (am_in_nI hB (by decide)) ?_
          rw [nI_clamp (by omega)]
          refine next _ _ _ _ (fun a g1 g2 => by rw [va_up_ne _ _ g2]; exact q1 a g1 g2) (fun y hy => by rw [va_up_ne _ _ (by decide)]; exact q2 y hy) (fun y hy => ?_)
          rw [vu_same, eS]
          by_cases z : y = cl (bes (i / 4) (i % 4))
          · rw [z, vu_same, vu_same, hm.2, if_neg zz]
          · rw [va_up_ne _ _ z, va_up_ne _ _ z]; exact q3 y hy
/-- a row of 24 laid over another: pc 77, 218 -/
theorem m_voy_copy1 (I : AI) (T : AT) (f t n h : Value) (Q : Option Value → AH → Prop) (K : ∀ (I' : AI) (t5 t6 t7 t8 : Option Value), (∀ a, a ≠ 85 → I' a = I a) → (∀ y, y < 24 → I' 85 y = I 84 y) → Go 2 y_M_voyage 104 [some (.ref 73), some f, some t, some n, some h, t5, t6, t7, t8] [] (hp I' T) Q) : ∀ m c, c + m = 24 → ∀ (I' : AI) (t6 t7 t8 : Option Value), (∀ a, a ≠ 85 → I' a = I a) → (∀ y, y < c → I' 85 y = I 84 y) → Go 2 y_M_voyage 77 [some (.ref 73), some f, some t, some n, some h, some (.int (nI c)), t6, t7, t8] [] (hp I' T) Q := by
  intro m
  induction m with
  | zero =>
    intro c hc I' t6 t7 t8 q1 q2
    have : c = 24 := by omega
    subst this
    iterate 3 refine Go.step rfl ?_
    refine Go.ifp (Int32.le_refl _) ?_
    exact K I' _ _ _ _ q1 q2
  | succ m ih =>
    intro c hc I' t6 t7 t8 q1 q2
    iterate 3 refine Go.step rfl ?_
    refine Go.ifn (nI_ge (a := c) (b := 24) (by omega) (by decide)) ?_
    iterate 6 refine Go.step rfl ?_
    refine Go.iald rfl rfl (am_in_nI (show c < 24 by omega) (by decide)) ?_
    rw [nI_clamp (by omega), q1 84 (by decide)]
    refine Go.iast rfl rfl (am_in_nI (show c < 24 by omega) (by decide)) ?_
    rw [nI_clamp (by omega)]
    iterate 2 refine Go.step rfl ?_
    rw [show nI c + 1 = nI (c + 1) from nI_1 c]
    refine ih (c + 1) (by omega) _ _ _ _ (fun a ha => by rw [va_up_ne _ _ ha]; exact q1 a ha) (fun y hy => ?_)
    rw [vu_same]
    by_cases z : y = c
    · subst z; rw [vu_same]
    · rw [va_up_ne _ _ z]; exact q2 y (by omega)
theorem m_voy_copy2 (I : AI) (T : AT) (f t n h : Value) (Q : Option Value → AH → Prop) (K : ∀ (I' : AI) (t5 t6 t7 t8 : Option Value), (∀ a, a ≠ 84 → I' a = I a) → (∀ y, y < 24 → I' 84 y = I 85 y) → Go 2 y_M_voyage 245 [some (.ref 73), some f, some t, some n, some h, t5, t6, t7, t8] [] (hp I' T) Q) : ∀ m c, c + m = 24 → ∀ (I' : AI) (t6 t7 t8 : Option Value), (∀ a, a ≠ 84 → I' a = I a) → (∀ y, y < c → I' 84 y = I 85 y) → Go 2 y_M_voyage 218 [some (.ref 73), some f, some t, some n, some h, some (.int (nI c)), t6, t7, t8] [] (hp I' T) Q := by
  intro m
  induction m with
  | zero =>
    intro c hc I' t6 t7 t8 q1 q2
    have : c = 24 := by omega
    subst this
    iterate 3 refine Go.step rfl ?_
    refine Go.ifp (Int32.le_refl _) ?_
    exact K I' _ _ _ _ q1 q2
  | succ m ih =>
    intro c hc I' t6 t7 t8 q1 q2
    iterate 3 refine Go.step rfl ?_
    refine Go.ifn (nI_ge (a := c) (b := 24) (by omega) (by decide)) ?_
    iterate 6 refine Go.step rfl ?_
    refine Go.iald rfl rfl (am_in_nI (show c < 24 by omega) (by decide)) ?_
    rw [nI_clamp (by omega), q1 85 (by decide)]
    refine Go.iast rfl rfl (am_in_nI (show c < 24 by omega) (by decide)) ?_
    rw [nI_clamp (by omega)]
    iterate 2 refine Go.step rfl ?_
    rw [show nI c + 1 = nI (c + 1) from nI_1 c]
    refine ih (c + 1) (by omega) _ _ _ _ (fun a ha => by rw [va_up_ne _ _ ha]; exact q1 a ha) (fun y hy => ?_)
    rw [vu_same]
    by_cases z : y = c
    · subst z; rw [vu_same]
    · rw [va_up_ne _ _ z]; exact q2 y (by omega)
theorem m_voyage (I : AI) (T : AT) (hs : sOK (I 74)) (f t n : Int32) : Ct 2 y_M_voyage [.ref 73, .int f, .int t, .int n] (hp I T) (MQ2 I T (sp_voyage I f t n)) := by
  have bad : (win f 0 23 && win t 0 23 && win n 0 24) = false → Go 2 y_M_voyage 24 [some (.ref 73), some (.int f), some (.int t), some (.int n), none, none, none, none, none] [] (hp I T) (MQ2 I T (sp_voyage I f t n)) := by
    intro hq
    iterate 2 refine Go.step rfl ?_
    exact m_errq (k := 1) (by decide) (by rw [sp_voyage, hq]; rfl) rfl rfl rfl (by decide)
  refine Go.step rfl ?_
  refine Go.cal (m_isCell _ f) (by decide) rfl ?_
  rintro _ _ ⟨rfl, rfl⟩
  refine Go.step rfl ?_
  refine Go.ifz (fun c1 => ?_) (fun c1 => ?_)
  · exact bad (by rw [c1]; rfl)
  · refine Go.step rfl ?_
    refine Go.cal (m_isCell _ t) (by decide) rfl ?_
    rintro _ _ ⟨rfl, rfl⟩
    refine Go.step rfl ?_
    refine Go.ifz (fun c2 => ?_) (fun c2 => ?_)
    · exact bad (by rw [c2, Bool.and_false]; rfl)
    · iterate 3 refine Go.step rfl ?_
      refine Go.cal (m_in _ n 0 24) (by decide) rfl ?_
      rintro _ _ ⟨rfl, rfl⟩
      refine Go.step rfl ?_
      refine Go.ifz (fun c3 => ?_) (fun c3 => ?_)
      · exact bad (by rw [c3, Bool.and_false])
      · obtain ⟨a, ha, rfl⟩ := nI_of_win (N := 23) (by decide) c1
        obtain ⟨b, hb, rfl⟩ := nI_of_win (N := 23) (by decide) c2
        obtain ⟨k, hk, rfl⟩ := nI_of_win (N := 24) (by decide) c3
        have esp : sp_voyage I (nI a) (nI b) (nI k) = if vD (I 74) a k b = 1000 then (er I 2, LO 2) else (I, nI (vD (I 74) a k b)) := by rw [sp_voyage, c1, c2, c3, show cl (nI a) = a from nI_clamp (by omega), show cl (nI b) = b from nI_clamp (by omega), show cl (nI k) = k from nI_clamp (by omega)]; rfl
        rw [esp]
        have hours : ∀ m h, h + m = k → ∀ (I' : AI) (t5 t6 t7 t8 : Option Value), MV I I' → (∀ y, y < 24 → I' 84 y = fz 99999999 (vD (I 74) a h y)) → Go 2 y_M_voyage 68 [some (.ref 73), some (.int (nI a)), some (.int (nI b)), some (.int (nI k)), some (.int (nI h)), t5, t6, t7, t8] [] (hp I' T) (MQ2 I T (if vD (I 74) a k b = 1000 then (er I 2, LO 2) else (I, nI (vD (I 74) a k b)))) := by
          intro m
          induction m with
          | zero =>
            intro h hh I' t5 t6 t7 t8 q1 q2
            have : h = k := by omega
            subst this
            have hok := vD_ok (I 74) a h b
            have kj : JE I I' := ⟨by rw [q1 73 (by decide) (by decide)], by rw [q1 73 (by decide) (by decide)], (q1 _ (by decide) (by decide)).symm, (q1 _ (by decide) (by decide)).symm, (q1 _ (by decide) (by decide)).symm, (q1 _ (by decide) (by decide)).symm, (q1 _ (by decide) (by decide)).symm, (q1 _ (by decide) (by decide)).symm, (q1 _ (by decide) (by decide)).symm⟩
            iterate 3 refine Go.step rfl ?_
            refine Go.ifp (Int32.le_refl _) ?_
            iterate 3 refine Go.step rfl ?_
            refine Go.iald rfl rfl (am_in_nI (show b < 24 by omega) (by decide)) ?_
            rw [nI_clamp (by omega), q2 b (by omega)]
            iterate 2 refine Go.step rfl ?_
            by_cases q : vD (I 74) a h b = 1000
            · rw [if_pos q]
              refine Go.ifp (by rw [fz_far q]; exact Int32.le_refl _) ?_
              iterate 2 refine Go.step rfl ?_
              refine Go.cal (m_error I' T 2 (by decide)) (by decide) rfl ?_
              rintro _ _ ⟨rfl, rfl⟩
              exact Go.ret rfl ⟨er I' 2, rfl, fun z hz => by rw [er_out _ _ hz]; exact q1 z (by omega) (by omega), kj.er1 2, rfl⟩
            · rw [if_neg q, fz_near q]
              refine Go.ifn (nI_ge (a := vD (I 74) a h b) (b := 99999999) (by omega) (by decide)) ?_
              iterate 3 refine Go.step rfl ?_
              refine Go.iald rfl rfl (am_in_nI (show b < 24 by omega) (by decide)) ?_
              rw [nI_clamp (by omega), q2 b (by omega), fz_near q]
              refine Go.step rfl ?_
              exact Go.ret rfl ⟨I', rfl, fun z hz => q1 z (by omega) (by omega), kj, rfl⟩
          | succ m ih =>
            intro h hh I' t5 t6 t7 t8 q1 q2
            iterate 3 refine Go.step rfl ?_
            refine Go.ifn (nI_ge (a := h) (b := k) (by omega) (by omega)) ?_
            iterate 2 refine Go.step rfl ?_
            refine m_voy_copy1 I' T _ _ _ _ _ ?_ 24 0 (by decide) I' _ _ _ (fun _ _ => rfl) (fun y hy => by omega)
            intro I2 t5 t6 t7 t8 r1 r2
            have m2 : MV I I2 := fun z g1 g2 => by rw [r1 z g2]; exact q1 z g1 g2
            iterate 2 refine Go.step rfl ?_
            refine m_voy_edges I T hs _ _ _ h (by omega) (vD (I 74) a h) (vD_ok (I 74) a h) _ ?_ 96 0 (by decide) I2 _ _ _ m2 (fun y hy => by rw [r1 84 (by decide)]; exact q2 y hy) (fun y hy => by rw [r2 y hy]; exact q2 y hy)
            intro I3 t5 t6 t7 t8 m3 r3
            iterate 2 refine Go.step rfl ?_
            refine m_voy_copy2 I3 T _ _ _ _ _ ?_ 24 0 (by decide) I3 _ _ _ (fun _ _ => rfl) (fun y hy => by omega)
            intro I4 t5 t6 t7 t8 r4 r5
            iterate 2 refine Go.step rfl ?_
            rw [show nI h + 1 = nI (h + 1) from nI_1 h]
            exact ih (h + 1) (by omega) I4 _ _ _ _ (fun z g1 g2 => by rw [r4 z g1]; exact m3 z g1 g2) (fun y hy => by rw [r5 y hy]; exact r3 y hy)
        have init : ∀ m c, c + m = 24 → ∀ I' : AI, MV I I' → (∀ y, y < c → I' 84 y = fz 99999999 (vD (I 74) a 0 y)) → Go 2 y_M_voyage 33 [some (.ref 73), some (.int (nI a)), some (.int (nI b)), some (.int (nI k)), some (.int (nI c)), none, none, none, none] [] (hp I' T) (MQ2 I T (if vD (I 74) a k b = 1000 then (er I 2, LO 2) else (I, nI (vD (I 74) a k b)))) := by
          intro m
          induction m with
          | zero =>
            intro c hc I' q1 q2
            have : c = 24 := by omega
            subst this
            iterate 3 refine Go.step rfl ?_
            refine Go.ifp (Int32.le_refl _) ?_
            iterate 2 refine Go.step rfl ?_
            exact hours k 0 (by omega) I' _ _ _ _ q1 q2
          | succ m ih =>
            intro c hc I' q1 q2
            have fin : ∀ v : Int32, v = fz 99999999 (vD (I 74) a 0 c) → Go 2 y_M_voyage 58 [some (.ref 73), some (.int (nI a)), some (.int (nI b)), some (.int (nI k)), some (.int (nI c)), none, none, none, none] [.int v, .int (nI c), .ref 84] (hp I' T) (MQ2 I T (if vD (I 74) a k b = 1000 then (er I 2, LO 2) else (I, nI (vD (I 74) a k b)))) := by
              intro v hv
              refine Go.iast rfl rfl (am_in_nI (show c < 24 by omega) (by decide)) ?_
              rw [nI_clamp (by omega)]
              iterate 2 refine Go.step rfl ?_
              rw [show nI c + 1 = nI (c + 1) from nI_1 c]
              refine ih (c + 1) (by omega) _ (fun z g1 g2 => by rw [va_up_ne _ _ g1]; exact q1 z g1 g2) (fun y hy => ?_)
              rw [vu_same]
              by_cases z : y = c
              · subst z; rw [vu_same]; exact hv
              · rw [va_up_ne _ _ z]; exact q2 y (by omega)
            iterate 3 refine Go.step rfl ?_
            refine Go.ifn (nI_ge (a := c) (b := 24) (by omega) (by decide)) ?_
            iterate 6 refine Go.step rfl ?_
            refine Go.ite (fun d1 => ?_) (fun d1 => ?_)
            · have e : c = a := (nI_eq (by omega) (by omega)).mp d1
              iterate 2 refine Go.step rfl ?_
              refine fin _ ?_
              show 0 = fz 99999999 (if c = a then 0 else 1000)
              rw [if_pos e, fz_near (by decide)]; rfl
            · have e : ¬ c = a := fun q => d1 (by rw [q])
              refine Go.step rfl ?_
              refine fin _ ?_
              show 99999999 = fz 99999999 (if c = a then 0 else 1000)
              rw [if_neg e, fz_far rfl]
        iterate 2 refine Go.step rfl ?_
        exact init 24 0 (by decide) I (fun _ _ _ => rfl) (fun y hy => by omega)
theorem op_voyage (a b c : Int32) : OpOK y_X_voyage y_M_voyage [.int a, .int b, .int c] := by
  refine op_new (sp := fun J => sp_voyage J a b c) (fun xs I T J h => x_voyage xs I T J h a b c) (fun xs I0 T0 I T h => m_voyage I T h.1 a b c) (by decide) (by decide) ?_ ?_
  · unfold sp_voyage; exact SpC.bif2 (fun J J' e => rfl) (SpC.ite2 (fun J J' e => by rw [e.2.2.1]) (SpC.err 2) (SpC.ans (fun J J' e => by rw [e.2.2.1]))) (SpC.err 1)
  · unfold sp_voyage; exact SpH.bif2 (SpH.ite2 (SpH.err 2) SpH.ans) (SpH.err 1)
