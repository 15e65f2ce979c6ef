/-! the desk: seed, tell -/
theorem XSea.congr {I I' : AI} {T : AT} {B i : Nat} {s s' : Nat → Int32} (h : XSea I T B i s) (hI : ∀ a, (B ≤ a ∧ a < B + 16) ∨ 91 ≤ a → I' a = I a) (hs : ∀ j, j < 2 ∨ (5 ≤ j ∧ j < 372) → s' j = s j) : XSea I' T B i s' := by
  obtain ⟨h1, h2, h3, h4, h5, h6⟩ := h.kept hI
  exact ⟨by rw [hs _ (by omega)]; exact h1, by rw [hs _ (by omega)]; exact h2, fun j hj => by rw [hs _ (by omega), hs _ (by omega)]; exact h3 j hj, fun q hq => by rw [hs _ (by omega)]; exact h4 q hq, fun b f g1 g2 g3 => by rw [hs 0 (by omega)] at g1; rw [hs _ (by omega)]; exact h5 b f g1 g2 g3, fun u hu => (h6 u hu).kept (fun a ha => rfl) (fun j g1 g2 => hs j (by omega)) hu⟩
/-- only the desk has changed, and its numbers of the row -/
theorem XG.desk {xs : Nat → Int32} {I I' : AI} {T : AT} {J : AI} {s' : Nat → Int32} (h : XG xs I T J) (hI : ∀ a, (a < 49 ∨ 52 ≤ a) → I' a = I a) (hs : sOK s') (hX : XDesk I' 49 s') (hD : ∀ j, j < 2 ∨ (5 ≤ j ∧ j < 372) → s' j = J 74 j) : XG xs I' T (sps J s') := by
  obtain ⟨h1, h2, h3, h4, h5, h6, h7, h8, h9⟩ := h
  have e74 : sps J s' 74 = s' := vu_same _ _ _
  have eJ : ∀ a, a ≠ 74 → sps J s' a = J a := fun a ha => va_up_ne _ _ ha
  refine ⟨by rw [e74]; exact hs, by rw [e74]; exact h2.congr (fun a ha => hI a (by omega)) hD, by rw [e74]; exact hX, ?_, ?_, ?_, h7.kept (fun a g1 g2 => hI a (Or.inr (by omega))) (fun a g1 g2 => eJ a (by omega)), h8.kept (fun a g1 g2 => hI a (Or.inr (by omega))) (by rw [eJ 73 (by omega)]) (eJ 86 (by omega)), fun c j => by rw [hI _ (Or.inr (by omega))]; exact h9 c j⟩
  · rw [eJ 73 (by omega), eJ 75 (by omega)]
    intro q
    obtain ⟨k1, k2, k3⟩ := h4 q
    exact ⟨k1, k2.kept (fun a ha => hI a (by omega)), k3.kept (fun a g1 g2 => hI a (Or.inr (by omega)))⟩
  · rw [eJ 73 (by omega), hI 0 (Or.inl (by omega))]; exact h5
  · intro k g1 g2
    rw [eJ 77 (by omega), hI 64 (Or.inr (by omega))]; exact h6 k g1 g2
theorem x_seed (xs : Nat → Int32) (I : AI) (T : AT) (J : AI) (hG : XG xs I T J) (v : Int32) : Ct 0 y_X_seed [.ref 0, .int v] (hp I T) (XP xs I T (sp_seed J v)) := by
  obtain ⟨d1, d2, d3, d4, d5⟩ := id hG.2.2.1
  repeat refine Go.step rfl ?_
  refine Go.ret rfl ?_
  refine ⟨_, rfl, fun a g1 g2 => va_up_ne _ _ (by omega), hG.desk (fun a ha => va_up_ne _ _ (by omega)) (hG.1.up (by decide) (okv_free v (by omega))) ?_ (fun j hj => va_up_ne _ _ (by omega)), ?_⟩
  · refine ⟨by rw [vu_same, va_up_ne _ _ (by omega), va_up_ne _ _ (by omega)]; exact d1, by rw [vu_same, va_up_ne _ _ (by omega), va_up_ne _ _ (by omega)]; exact d2, by rw [vu_same, vu_same, vu_same], fun j hj => ?_, fun j hj => ?_⟩
    · rw [va_up_ne _ _ (by omega)] at hj
      rw [va_up_ne _ _ (by omega), va_up_ne _ _ (by omega)]; exact d4 j hj
    · rw [va_up_ne _ _ (by omega)] at hj
      rw [va_up_ne _ _ (by omega), va_up_ne _ _ (by omega)]; exact d5 j hj
  · show some (Value.int (I 49 4)) = some (Value.int (J 74 4))
    rw [d3]
theorem x_addNumber (I : AI) (T : AT) (w : Nat) (hw : I 49 3 = nI w) (h24 : w < 24) (v : Int32) : Ct 0 y_Desk_addNumber [.ref 49, .int v] (hp I T) (fun r h' => h' = hp (va_up (va_up I 51 (va_up (I 51) w v)) 49 (va_up (I 49) 3 (nI (w + 1)))) T ∧ r = none) := by
  iterate 3 refine Go.step rfl ?_
  rw [hw]
  refine Go.step rfl ?_
  refine Go.ite (fun c1 => ?_) (fun c1 => ?_)
  · exact absurd c1 (nI_ge (a := w) (b := 24) h24 (by decide))
  · iterate 5 refine Go.step rfl ?_
    rw [hw]
    refine Go.iast rfl rfl (am_in_nI h24 (by decide)) ?_
    rw [nI_clamp (by omega)]
    iterate 6 refine Go.step rfl ?_
    refine Go.ret rfl ⟨?_, rfl⟩
    have e1 : va_up I 51 (va_up (I 51) w v) 49 = I 49 := va_up_ne _ _ (by omega)
    show hp (va_up (va_up I 51 (va_up (I 51) w v)) 49 (va_up (va_up I 51 (va_up (I 51) w v) 49) 3 (va_up I 51 (va_up (I 51) w v) 49 3 + 1))) T = _
    rw [e1, hw, nI_1]
theorem x_tell (xs : Nat → Int32) (I : AI) (T : AT) (J : AI) (hG : XG xs I T J) (v : Int32) : Ct 2 y_X_tell [.ref 0, .int v] (hp I T) (XP xs I T (sp_tell J v)) := by
  obtain ⟨d1, d2, d3, d4, d5⟩ := id hG.2.2.1
  have hs := id hG.1
  obtain ⟨ew, hw⟩ := hs.2.2.2.1.eq (by decide)
  iterate 4 refine Go.step rfl ?_
  rw [d2]
  refine Go.step rfl ?_
  refine Go.ite (fun c1 => ?_) (fun c1 => ?_)
  · have h24 : cl (J 74 3) < 24 := by
      rw [ew, show (24 : Int32) = nI 24 from rfl, nI_ltI (by omega) (by decide)] at c1; exact c1
    have hne : ¬ J 74 3 = 24 := fun q => by rw [q] at c1; exact absurd c1 (by decide)
    have hw2 : I 49 3 = nI (cl (J 74 3)) := by rw [d2]; exact ew
    iterate 3 refine Go.step rfl ?_
    refine Go.cal (x_addNumber I T (cl (J 74 3)) hw2 h24 v) (by decide) rfl ?_
    rintro _ _ ⟨rfl, rfl⟩
    iterate 3 refine Go.step rfl ?_
    refine Go.ret rfl ?_
    rw [sp_tell, if_neg hne]
    have e1 : J 74 3 + 1 = nI (cl (J 74 3) + 1) := by
      generalize cl (J 74 3) = w at ew; rw [ew]; exact nI_1 w
    generalize cl (J 74 3) = w at ew hw h24 hw2 d5 e1
    rw [e1]
    refine ⟨_, rfl, fun a g1 g2 => by rw [va_up_ne _ _ (by omega), va_up_ne _ _ (by omega)], hG.desk (fun a ha => by rw [va_up_ne _ _ (by omega), va_up_ne _ _ (by omega)]) ((hs.up (by omega) (okv_free v (by omega))).up (by decide) (okv_low (fun q => by omega) (fun q => by omega) (fun _ => rg_nI (by omega)) (by omega))) ?_ (fun j hj => by rw [va_up_ne _ _ (by omega), va_up_ne _ _ (by omega)]), ?_⟩
    · refine ⟨?_, ?_, ?_, fun j hj => ?_, fun j hj => ?_⟩
      · rw [vu_same, va_up_ne _ _ (by omega), va_up_ne _ _ (by omega), va_up_ne _ _ (by omega)]; exact d1
      · rw [vu_same, vu_same, vu_same]
      · rw [vu_same, va_up_ne _ _ (by omega), va_up_ne _ _ (by omega), va_up_ne _ _ (by omega)]; exact d3
      · rw [va_up_ne _ _ (by omega), va_up_ne _ _ (by omega)] at hj
        have h60 := (hs.2.2.1.eq (by decide)).2
        rw [va_up_ne _ _ (by omega), va_up_ne _ _ (by omega), va_up_ne _ _ (by omega), va_up_ne _ _ (by omega)]; exact d4 j hj
      · rw [vu_same, show cl (nI (w + 1)) = w + 1 from nI_clamp (by omega)] at hj
        rw [va_up_ne _ _ (show 49 + 2 ≠ 49 by omega), va_up_ne _ _ (show 432 + j ≠ 3 by omega)]
        show va_up I 51 (va_up (I 51) w v) 51 j = _
        rw [vu_same]
        by_cases hq : j = w
        · subst hq; rw [vu_same, vu_same]
        · rw [va_up_ne _ _ hq, va_up_ne _ _ (by omega)]; exact d5 j (by omega)
    · show some (Value.int (va_up (va_up I 51 (va_up (I 51) w v)) 49 (va_up (I 49) 3 (nI (w + 1))) 49 3)) = _
      rw [vu_same, vu_same]
  · have he : J 74 3 = 24 := by
      have h8 : ¬ cl (J 74 3) < 24 := fun q => c1 (by
        rw [ew, show (24 : Int32) = nI 24 from rfl, nI_ltI (by omega) (by decide)]; exact q)
      rw [ew, show cl (J 74 3) = 24 by omega]; rfl
    iterate 2 refine Go.step rfl ?_
    exact x_err (k := 4) hG (by decide) (by decide) (by rw [sp_tell, if_pos he]) rfl rfl rfl (by decide)
def sp_body (J : AI) (i : Int32) : AI × Int32 := bif win i 0 (J 73 18 - 1) then (J, J 86 (cl i)) else (er J 2, LO 2)
theorem small_of_win {s0 b : Int32} {N : Nat} (hN : N < 1000) (hs : rg s0 N) (h : win b 0 (s0 - 1) = true) : ∃ j, j < cl s0 ∧ j < N ∧ b = nI j := by
  obtain ⟨n, hn, rfl⟩ := hs
  have hc : cl (nI n) = n := nI_clamp (by omega)
  rw [hc]
  cases n with
  | zero =>
    exfalso
    simp only [win, Bool.and_eq_true, decide_eq_true_eq] at h
    have h1 : (0 : Int32) ≤ nI 0 - 1 := Int32.le_trans h.1 h.2
    exact absurd h1 (by decide)
  | succ n =>
    rw [nI_pred] at h
    obtain ⟨j, hj, e⟩ := nI_of_win (by omega) h
    exact ⟨j, by omega, by omega, e⟩
theorem m_body (I : AI) (T : AT) (ht : rg (I 73 18) 30) (i : Int32) : Ct 2 y_M_body [.ref 73, .int i] (hp I T) (MP I T (sp_body I i)) := by
  repeat refine Go.step rfl ?_
  refine Go.cal (m_in _ i 0 _) (by decide) rfl ?_
  rintro _ _ ⟨rfl, rfl⟩
  refine Go.step rfl ?_
  refine Go.ifz (fun c1 => ?_) (fun c1 => ?_)
  · iterate 2 refine Go.step rfl ?_
    exact m_err (k := 2) (by decide) (by rw [sp_body, c1]; rfl) rfl rfl rfl (by decide)
  · obtain ⟨j, hj, hj30, rfl⟩ := small_of_win (by decide) ht c1
    have hcl : cl (nI j) = j := nI_clamp (by omega)
    repeat refine Go.step rfl ?_
    refine Go.iald rfl rfl (am_in_nI (by omega) (by decide)) ?_
    repeat refine Go.step rfl ?_
    refine Go.ret rfl ?_
    rw [sp_body, c1]
    exact ⟨rfl, rfl⟩
theorem x_body (xs : Nat → Int32) (I : AI) (T : AT) (J : AI) (hG : XG xs I T J) (i : Int32) : Ct 2 y_X_body [.ref 0, .int i] (hp I T) (XP xs I T (sp_body J i)) := by
  obtain ⟨v1, v2, v3⟩ := id hG.2.2.2.2.2.2.2.1
  iterate 5 refine Go.step rfl ?_
  rw [v1]
  iterate 2 refine Go.step rfl ?_
  refine Go.cal (x_within _ i 0 _) (by decide) rfl ?_
  rintro _ _ ⟨rfl, rfl⟩
  refine Go.step rfl ?_
  refine Go.ifz (fun c1 => ?_) (fun c1 => ?_)
  · iterate 2 refine Go.step rfl ?_
    exact x_err (k := 2) hG (by decide) (by decide) (by rw [sp_body, c1]; rfl) rfl rfl rfl (by decide)
  · obtain ⟨j, hj, hj30, rfl⟩ := small_of_win (by decide) v2 c1
    have hcl : cl (nI j) = j := nI_clamp (by omega)
    repeat refine Go.step rfl ?_
    refine Go.iald rfl rfl (am_in_nI (by omega) (by decide)) ?_
    repeat refine Go.step rfl ?_
    refine Go.ret rfl ?_
    rw [sp_body, c1, hcl]
    refine ⟨I, rfl, fun _ _ _ => rfl, hG, ?_⟩
    show some (Value.int (I 62 (cl (nI j)))) = some (Value.int (J 86 j))
    rw [hcl, v3 j hj]
