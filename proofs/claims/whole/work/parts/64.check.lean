/-! PAIRS: check, loose -/
def ckR (s : Nat → Int32) (b : Nat) : Nat → Nat → Int32
  | 0, _ => 0
  | m + 1, i => if hrs s 1 (i + 1) (58 + 8 * b + 2) = s (432 + i) then ckR s b m (i + 1) else 1 + nI i
def sp_check (J : AI) (b : Int32) : AI × Int32 := bif win b 0 (J 74 0 - 1) then (sps J (va_up (J 74) 3 0), ckR (va_up (J 74) 3 0) (cl b) (cl (J 74 3)) 0) else (er (sps J (va_up (J 74) 3 0)) 1, LO 1)
theorem x_check (xs : Nat → Int32) (I : AI) (T : AT) (J : AI) (L c : Nat) (hG2 : XG2 xs I T J) (hT : TTc T L c) (b : Int32) : Ct 6 y_X_check [.ref 0, .int b] (hp I T) (XQ xs I T L c (sp_check J b)) := by
  obtain ⟨hG, hHB⟩ := hG2
  have hs0 := id hG.1
  have hbd := hrs_bound hHB hs0
  obtain ⟨d1, d2, d3, d4, d5⟩ := hG.2.2.1
  obtain ⟨ew, hw⟩ := hs0.2.2.2.1.eq (by decide)
  iterate 3 refine Go.step rfl ?_
  rw [show I 49 3 = nI (cl (J 74 3)) from d2.trans ew]
  iterate 5 refine Go.step rfl ?_
  have hs : sOK (va_up (J 74) 3 0) := hs0.up (by decide) (okv_low (fun q => by omega) (fun q => by omega) (fun _ => ⟨0, by decide, rfl⟩) (by decide))
  have hG1 : XG xs (va_up I 49 (va_up (I 49) 3 0)) T (sps J (va_up (J 74) 3 0)) := by
    refine hG.desk (fun a ha => va_up_ne _ _ (by omega)) hs ⟨?_, ?_, ?_, fun j hj => ?_, fun j hj => ?_⟩ (fun j hj => va_up_ne _ _ (by omega))
    · rw [vu_same, va_up_ne _ _ (by decide), va_up_ne _ _ (by decide)]; exact d1
    · rw [vu_same, vu_same, vu_same]
    · rw [vu_same, va_up_ne _ _ (by decide), va_up_ne _ _ (by decide)]; exact d3
    · rw [va_up_ne _ _ (by decide)] at hj
      rw [va_up_ne _ _ (by decide), va_up_ne _ _ (by omega)]; exact d4 j hj
    · rw [vu_same] at hj
      exact absurd hj (Nat.not_lt_zero j)
  have e74 : sps J (va_up (J 74) 3 0) 74 = va_up (J 74) 3 0 := vu_same _ _ _
  have hX1 : XSea (va_up I 49 (va_up (I 49) 3 0)) T 1 0 (va_up (J 74) 3 0) := by have := hG1.2.1; rw [e74] at this; exact this
  have hC1 : XCon xs (va_up I 49 (va_up (I 49) 3 0)) := hG1.2.2.2.2.2.2.2.2
  have eI1 : ∀ a, a ≠ 49 → va_up I 49 (va_up (I 49) 3 0) a = I a := fun a ha => va_up_ne _ _ ha
  have es0 : va_up (J 74) 3 0 0 = J 74 0 := va_up_ne _ _ (by decide)
  have es1 : va_up (J 74) 3 0 1 = J 74 1 := va_up_ne _ _ (by decide)
  have eW : ∀ i, i < cl (J 74 3) → va_up I 49 (va_up (I 49) 3 0) 51 i = va_up (J 74) 3 0 (432 + i) := fun i hi => by rw [eI1 _ (by decide), va_up_ne _ _ (by omega)]; exact d5 i hi
  generalize hI1 : va_up I 49 (va_up (I 49) 3 0) = I1 at hG1 hX1 hC1 eI1 eW
  iterate 4 refine Go.step rfl ?_
  refine Go.cal (x_seaCopy_17_1 I1 T _ hs hX1) (by decide) rfl ?_
  rintro _ _ ⟨I2, rfl, k1, k2, rfl⟩
  iterate 3 refine Go.step rfl ?_
  refine Go.cal (x_find I2 (cT T 1 0) 17 (Or.inr (Or.inl rfl)) b (by rw [k2.2.1]; exact hs.1)) (by decide) rfl ?_
  rintro _ _ ⟨rfl, ⟨c1, rfl⟩ | ⟨c1, rfl⟩⟩
  · rw [k2.2.1, es0] at c1
    obtain ⟨j, hj, hj8, rfl⟩ := boat_of_win hs0.1 c1
    have hcl : cl (nI j) = j := nI_clamp (by omega)
    have hSb : sS T.2.2.2.2.2.2 T.2.2.2.1 (17 + 8 + j) = (10, 9) := sS_boat _ _ (B := 17) (Or.inr (Or.inl rfl)) hj8
    have esp : sp_check J (nI j) = (sps J (va_up (J 74) 3 0), ckR (va_up (J 74) 3 0) j (cl (J 74 3)) 0) := by rw [sp_check, c1, hcl]; rfl
    rw [hcl, esp]
    generalize hs' : va_up (J 74) 3 0 = s at hs hG1 hX1 es0 es1 eW k2
    generalize hv : ckR s j (cl (J 74 3)) 0 = v
    have fin : ∀ I', (∀ a, a < 17 ∨ 17 + 15 < a → I' a = I1 a) → XQ xs I T L c (sps J s, v) (some (.int v)) (hp I' (cT T 1 0)) := by
      intro I' q1
      refine ⟨I', cT T 1 0, rfl, fun a g1 g2 => by rw [q1 a (by omega)]; exact eI1 a (by omega), hG1.ahead (fun a ha => q1 a (by omega)) (fun z h2 h3 => cT_ne T (by omega) (by omega)), hT.up.tx, rfl⟩
    have loop : ∀ m i, i + m = cl (J 74 3) → ∀ I', (∀ a, a < 17 ∨ 17 + 15 < a → I' a = I1 a) → XSea I' (cT T 1 0) 17 1 (hrs s 1 i) → v = ckR s j m i → Go 6 y_X_check 49 [some (.ref 0), some (.int (nI j)), some (.int (nI (cl (J 74 3)))), some (.ref (17 + 8 + j)), some (.int (nI i))] [] (hp I' (cT T 1 0)) (XQ xs I T L c (sps J s, v)) := by
      intro m
      induction m with
      | zero =>
        intro i hi I' q1 q2 q3
        have : i = cl (J 74 3) := by omega
        subst this
        iterate 3 refine Go.step rfl ?_
        refine Go.ifp (Int32.le_refl _) ?_
        refine Go.step rfl ?_
        refine Go.ret rfl ?_
        have := fin I' q1
        rw [q3] at this ⊢
        exact this
      | succ m ih =>
        intro i hi I' q1 q2 q3
        have hok := hrs_ok hs 1 i (by rw [es1]; omega)
        have hok2 := hrs_ok hs 1 (i + 1) (by rw [es1]; omega)
        iterate 3 refine Go.step rfl ?_
        refine Go.ifn (nI_ge (a := i) (b := cl (J 74 3)) (by omega) (by omega)) ?_
        iterate 4 refine Go.step rfl ?_
        refine Go.cal (x_goBy_17 xs I' (cT T 1 0) _ hok.1 q2 (fun z y => by rw [q1 _ (by omega)]; exact hC1 z y) true 1 (by rw [hok.2, show cl (nI (cl (s 1) + i)) = cl (s 1) + i from nI_clamp (by rw [es1]; omega), es1]; omega)) (by decide) rfl ?_
        rintro _ _ ⟨I3, rfl, r1, r2, rfl⟩
        have q1' : ∀ a, a < 17 ∨ 17 + 15 < a → I3 a = I1 a := fun a ha => by rw [r1 a ha]; exact q1 a ha
        have r2' : XSea I3 (cT T 1 0) 17 1 (hrs s 1 (i + 1)) := r2
        refine Go.step rfl ?_
        refine Go.geti rfl hSb (Or.inl rfl) ?_
        rw [show I3 (17 + 8 + j) 2 = hrs s 1 (i + 1) (58 + 8 * j + 2) from r2'.2.2.2.2.1 j 2 (by rw [hrs_0, es0]; exact hj) hj8 (by decide)]
        iterate 4 refine Go.step rfl ?_
        refine Go.iald rfl rfl (am_in_nI (by omega) (by decide)) ?_
        rw [nI_clamp (by omega), q1' 51 (by omega), eW i (by omega)]
        refine Go.step rfl ?_
        refine Go.ite (fun c2 => ?_) (fun c2 => ?_)
        · iterate 2 refine Go.step rfl ?_
          rw [show nI i + 1 = nI (i + 1) from nI_1 i]
          exact ih (i + 1) (by omega) I3 q1' r2' (by rw [q3, ckR, if_pos c2])
        · iterate 3 refine Go.step rfl ?_
          refine Go.ret rfl ?_
          have := fin I3 q1'
          have e : v = 1 + nI i := by rw [q3, ckR, if_neg c2]
          rw [e] at this ⊢
          exact this
    iterate 3 refine Go.step rfl ?_
    iterate 2 refine Go.step rfl ?_
    exact loop (cl (J 74 3)) 0 (by omega) I2 (fun a ha => k1 a ha) k2 hv.symm
  · rw [k2.2.1, es0] at c1
    iterate 3 refine Go.step rfl ?_
    iterate 2 refine Go.step rfl ?_
    have hG2 : XG xs I2 (cT T 1 0) (sps J (va_up (J 74) 3 0)) := hG1.ahead (fun a ha => k1 a (by omega)) (fun z h2 h3 => cT_ne T (by omega) (by omega))
    refine Go.cal (x_refuse I2 (cT T 1 0) 1 (by decide) (by decide)) (by decide) rfl ?_
    rintro _ _ ⟨rfl, rfl⟩
    refine Go.ret rfl ?_
    rw [sp_check, c1]
    exact ⟨_, cT T 1 0, rfl, fun a g1 g2 => by rw [va_up_ne _ _ (by omega), k1 a (by omega)]; exact eI1 a (by omega), hG2.err (by decide) (by decide), hT.up.tx, rfl⟩
theorem JE.row2 {I I' : AI} {s : Nat → Int32} (h : ∀ a, a ≠ 74 → a ≠ 76 → a < 79 ∨ 83 < a → I' a = I a) (hs : I' 74 = s) : JE (sps I s) I' := by
  have q : ∀ a, a ≠ 74 → sps I s a = I a := fun a ha => va_up_ne _ _ ha
  refine ⟨by rw [q 73 (by decide), h 73 (by decide) (by decide) (by decide)], by rw [q 73 (by decide), h 73 (by decide) (by decide) (by decide)], ?_, by rw [q _ (by decide), h _ (by decide) (by decide) (by decide)], by rw [q _ (by decide), h _ (by decide) (by decide) (by decide)], by rw [q _ (by decide), h _ (by decide) (by decide) (by decide)], by rw [q _ (by decide), h _ (by decide) (by decide) (by decide)], by rw [q _ (by decide), h _ (by decide) (by decide) (by decide)], by rw [q _ (by decide), h _ (by decide) (by decide) (by decide)]⟩
  rw [hs]; exact vu_same _ _ _
theorem m_check (I : AI) (T : AT) (hs0 : sOK (I 74)) (hbd : cl (I 74 1) ≤ 9999) (ht0 : tOK (I 74) 0) (ht1 : tOK (I 74) 1) (b : Int32) : Ct 7 y_M_check [.ref 73, .int b] (hp I T) (MQ2 I T (sp_check I b)) := by
  obtain ⟨ew, hw⟩ := hs0.2.2.2.1.eq (by decide)
  iterate 4 refine Go.step rfl ?_
  rw [show I 74 (Int32.toNatClampNeg 3) = nI (cl (I 74 3)) from ew]
  iterate 6 refine Go.step rfl ?_
  show Go _ _ _ _ _ (hp (va_up I 74 (va_up (I 74) 3 0)) T) _
  have hs : sOK (va_up (I 74) 3 0) := hs0.up (by decide) (okv_low (fun q => by omega) (fun q => by omega) (fun _ => ⟨0, by decide, rfl⟩) (by decide))
  have es0 : va_up (I 74) 3 0 0 = I 74 0 := va_up_ne _ _ (by decide)
  have es1 : va_up (I 74) 3 0 1 = I 74 1 := va_up_ne _ _ (by decide)
  have tt0 : tOK (va_up (I 74) 3 0) 0 := ht0.congr (by decide) (fun j h1 h2 => va_up_ne _ _ (by omega))
  have tt1 : tOK (va_up (I 74) 3 0) 1 := ht1.congr (by decide) (fun j h1 h2 => va_up_ne _ _ (by omega))
  have hsp : ∀ (v : Int32) (w : AI), sp_check I b = (w, v) → True := fun _ _ _ => trivial
  generalize hs' : va_up (I 74) 3 0 = s at hs es0 es1 tt0 tt1
  have e74 : va_up I 74 s 74 = s := vu_same _ _ _
  iterate 2 refine Go.step rfl ?_
  refine Go.cal (m_isBoat (va_up I 74 s) T b) (by decide) rfl ?_
  rintro _ _ ⟨rfl, rfl⟩
  rw [e74, es0]
  refine Go.step rfl ?_
  refine Go.ifz (fun c1 => ?_) (fun c1 => ?_)
  · iterate 2 refine Go.step rfl ?_
    refine Go.cal (m_error (va_up I 74 s) T 1 (by decide)) (by decide) rfl ?_
    rintro _ _ ⟨rfl, rfl⟩
    refine Go.ret rfl ?_
    rw [sp_check, c1, hs']
    exact ⟨er (sps I s) 1, rfl, fun a ha => by rw [er_out _ _ ha, sps_out _ _ ha], JE.rf _, rfl⟩
  · obtain ⟨j, hj, hj8, rfl⟩ := boat_of_win hs0.1 c1
    have hcl : cl (nI j) = j := nI_clamp (by omega)
    have esp : sp_check I (nI j) = (sps I s, ckR s j (cl (I 74 3)) 0) := by rw [sp_check, c1, hcl, hs']; rfl
    rw [esp]
    generalize hv : ckR s j (cl (I 74 3)) 0 = v
    iterate 4 refine Go.step rfl ?_
    refine Go.cal (m_carry (va_up I 74 s) T 74 76 (by decide) rfl rfl) (by decide) rfl ?_
    rintro _ _ ⟨rfl, rfl⟩
    rw [e74]
    generalize hp76 : cpy s (va_up I 74 s 76) 456 = p
    have fin : ∀ (I' : AI) (i : Int32) (g : Bool), (∀ a, a ≠ 74 → a ≠ 76 → a < 79 ∨ 83 < a → I' a = I a) → I' 76 = p → (∀ y, 456 ≤ y → I' 74 y = s y) → v = (if g = true then 0 else 1 + i) → Go 7 y_M_check 101 [some (.ref 73), some (.int (nI j)), some (.int (nI (cl (I 74 3)))), some (.int i), some (.int (bo g))] [] (hp I' T) (MQ2 I T (sps I s, v)) := by
      intro I' i g q1 q2 q3 q4
      iterate 4 refine Go.step rfl ?_
      refine Go.cal (m_carry I' T 76 74 (by decide) rfl rfl) (by decide) rfl ?_
      rintro _ _ ⟨rfl, rfl⟩
      have e4 : cpy (I' 76) (I' 74) 456 = s := by rw [q2, ← hp76]; exact cpy_back q3
      rw [e4]
      have hend : MQ2 I T (sps I s, v) (some (.int v)) (hp (va_up I' 74 s) T) := by
        refine ⟨_, rfl, fun a ha => by rw [va_up_ne _ _ (by omega)]; exact q1 a (by omega) (by omega) (by omega), ?_, rfl⟩
        exact JE.row2 (fun a g1 g2 g3 => by rw [va_up_ne _ _ g1]; exact q1 a g1 g2 g3) (vu_same _ _ _)
      cases g with
      | true =>
        rw [if_pos rfl] at q4
        iterate 4 refine Go.step rfl ?_
        refine Go.ret rfl ?_
        rw [q4] at hend ⊢; exact hend
      | false =>
        rw [if_neg (by decide)] at q4
        iterate 5 refine Go.step rfl ?_
        refine Go.ret rfl ?_
        rw [q4] at hend ⊢; exact hend
    have loop : ∀ m i, i + m = cl (I 74 3) → ∀ I', (∀ a, a ≠ 74 → a ≠ 76 → a < 79 ∨ 83 < a → I' a = I a) → I' 76 = p → I' 74 = hrs s 1 i → v = ckR s j m i → Go 7 y_M_check 44 [some (.ref 73), some (.int (nI j)), some (.int (nI (cl (I 74 3)))), some (.int (nI i)), some (.int 1)] [] (hp I' T) (MQ2 I T (sps I s, v)) := by
      intro m
      induction m with
      | zero =>
        intro i hi I' q1 q2 q3 q4
        have : i = cl (I 74 3) := by omega
        subst this
        iterate 3 refine Go.step rfl ?_
        refine Go.ifp (Int32.le_refl _) ?_
        exact fin I' _ true q1 q2 (fun y hy => by rw [q3]; exact hrs_off _ _ (by omega) (by omega) _) q4
      | succ m ih =>
        intro i hi I' q1 q2 q3 q4
        have hok := hrs_ok hs 1 i (by rw [es1]; omega)
        iterate 3 refine Go.step rfl ?_
        refine Go.ifn (nI_ge (a := i) (b := cl (I 74 3)) (by omega) (by omega)) ?_
        iterate 4 refine Go.step rfl ?_
        refine Go.cal (m_hour I' T (by rw [q3]; exact hok.1) (by rw [q3]; exact hrs_tok tt0 (by decide) _ _) (by rw [q3]; exact hrs_tok tt1 (by decide) _ _) 1) (by decide) rfl ?_
        rintro _ _ ⟨I2, rfl, r1, r2, rfl⟩
        have r2' : I2 74 = hrs s 1 (i + 1) := by rw [r2, q3]; rfl
        have r1' : ∀ a, a ≠ 74 → a ≠ 76 → a < 79 ∨ 83 < a → I2 a = I a := fun a g1 g2 g3 => by rw [r1 a g1 g3]; exact q1 a g1 g2 g3
        have r76 : I2 76 = p := by rw [r1 76 (by decide) (by decide)]; exact q2
        iterate 5 refine Go.step rfl ?_
        rw [show (432 : Int32) + nI i = nI (432 + i) from nI_add 432 i]
        refine Go.iald rfl rfl (am_in_nI (by omega) (by decide)) ?_
        rw [nI_clamp (by omega)]
        iterate 3 refine Go.step rfl ?_
        refine Go.cal (m_its I2 T j 2 hj8 (by decide)) (by decide) rfl ?_
        rintro _ _ ⟨rfl, rfl⟩
        rw [r2', hrs_off _ _ (show 432 + i < 58 ∨ 122 ≤ 432 + i by omega) (by omega)]
        refine Go.step rfl ?_
        refine Go.ite (fun c2 => ?_) (fun c2 => ?_)
        · iterate 11 refine Go.step rfl ?_
          rw [show nI i + 1 = nI (i + 1) from nI_1 i]
          exact ih (i + 1) (by omega) I2 r1' r76 r2' (by rw [q4, ckR, if_pos c2.symm])
        · iterate 9 refine Go.step rfl ?_
          rw [Int32.add_zero]
          iterate 3 refine Go.step rfl ?_
          refine Go.ifn (nI_ge (a := i) (b := cl (I 74 3)) (by omega) (by omega)) ?_
          iterate 2 refine Go.step rfl ?_
          exact fin I2 _ false r1' r76 (fun y hy => by rw [r2']; exact hrs_off _ _ (by omega) (by omega) _) (by rw [q4, ckR, if_neg (fun z => c2 z.symm), if_neg (by decide)])
    iterate 4 refine Go.step rfl ?_
    exact loop (cl (I 74 3)) 0 (by omega) _ (fun a g1 g2 g3 => by rw [va_up_ne _ _ g2, va_up_ne _ _ g1]) (vu_same _ _ _) (by rw [va_up_ne _ _ (by decide), e74]; rfl) hv.symm
theorem op_check (a : Int32) : OpOK y_X_check y_M_check [.int a] := by
  refine op_of (sp := fun J => sp_check J a) (fun xs I T J L cc hG hT _ => Go.up (by decide) (x_check xs I T J L cc hG hT a)) (fun xs I0 T0 I T hG => Go.up (by decide) (m_check I T hG.1.1 (hrs_bound hG.2 hG.1.1) (hG.1.tok (by decide)) (hG.1.tok (by decide)) a)) ?_ ?_
  · unfold sp_check; exact SpC.bif2 (fun J J' e => by rw [e.2.2.1]) (SpC.row (fun J J' e => by rw [e.2.2.1] <;> exact ⟨rfl, rfl⟩)) (fun J J' e => ⟨by rw [e.2.2.1]; exact (e.sps1 _).er1 1, rfl⟩)
  · unfold sp_check; exact SpH.bif2 (SpH.row (fun J => by rw [va_up_ne _ _ (by omega)]) (fun J j hj => by rw [va_up_ne _ _ (by omega)])) (fun xs I T J h => (h.2.sps1 (va_up_ne _ _ (by decide)) (fun j hj => va_up_ne _ _ (by omega))).er1 1)
