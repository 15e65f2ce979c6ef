/-! PAIRS: untell, image, restore -/
theorem XTxt.tx {I : AI} {T : AT} {tx' : Nat → Option Nat} {o : Option Nat} {u : Nat} {s : Nat → Int32} (h : XTxt I T o u s) : XTxt I (tx', T.2) o u s := by
  cases o with
  | none => exact h
  | some a => exact h
theorem XSea.tx {I : AI} {T : AT} {tx' : Nat → Option Nat} {B i : Nat} {s : Nat → Int32} (h : XSea I T B i s) (ht : ∀ u, u < 2 → tx' (2 * i + u) = T.1 (2 * i + u)) : XSea I (tx', T.2) B i s := by
  obtain ⟨h1, h2, h3, h4, h5, h6⟩ := h
  refine ⟨h1, h2, h3, h4, h5, fun u hu => ?_⟩
  show XTxt I (tx', T.2) (tx' (2 * i + u)) u s
  rw [ht u hu]
  exact (h6 u hu).tx
theorem XTxt.kept2 {I I' : AI} {T : AT} {o : Option Nat} {u : Nat} {s s' : Nat → Int32} (h : XTxt I T o u s) (hI : ∀ a, 91 ≤ a → I' a = I a) (hs : ∀ j, 122 + 125 * u ≤ j → j < 247 + 125 * u → s' j = s j) : XTxt I' T o u s' := by
  cases o with
  | none => show s' _ = 0; rw [hs _ (by omega) (by omega)]; exact h
  | some a =>
    obtain ⟨h1, h2, h3, w, len, h4, h5, h6, h7, h8, h9, h10⟩ := h
    refine ⟨h1, h2, h3, w, len, h4, h5, h6, h7, ?_, ?_, ?_⟩
    · rw [hI w h4]; exact h8
    · rw [hs _ (by omega) (by omega)]; exact h9
    · intro k hk
      have hl := h8.2.1
      rw [hs _ (by omega) (by omega), hs _ (by omega) (by omega), hI w h4]
      exact h10 k hk
/-- the seas of now and ahead have changed, and the row s -/
theorem XG.mk2 {xs : Nat → Int32} {I I' : AI} {T : AT} {tx' : Nat → Option Nat} {J : AI} {s' : Nat → Int32} (h : XG xs I T J) (hI : ∀ a, a < 1 ∨ 32 < a → I' a = I a) (ht : ∀ u, u < 2 → tx' (2 * 2 + u) = T.1 (2 * 2 + u)) (hs : sOK s') (hX : XSea I' (tx', T.2) 1 0 s') (hD : ∀ j, (2 ≤ j ∧ j ≤ 4) ∨ 372 ≤ j → s' j = J 74 j) : XG xs I' (tx', T.2) (sps J s') := by
  obtain ⟨h1, h2, h3, h4, h5, h6, h7, h8, h9⟩ := h
  have e74 : sps J s' 74 = s' := vu_same _ _ _
  have eJ : ∀ a, a ≠ 74 → sps J s' a = J a := fun a ha => va_up_ne _ _ ha
  refine ⟨by rw [e74]; exact hs, by rw [e74]; exact hX, ?_, ?_, ?_, ?_, h7.kept (fun a g1 g2 => hI a (Or.inr (by omega))) (fun a g1 g2 => eJ a (by omega)), h8.kept (fun a g1 g2 => hI a (Or.inr (by omega))) (by rw [eJ 73 (by omega)]) (eJ 86 (by omega)), fun c j => by rw [hI _ (Or.inr (by omega))]; exact h9 c j⟩
  · rw [e74]
    obtain ⟨d1, d2, d3, d4, d5⟩ := h3.kept (I' := I') (fun a g1 g2 => hI a (Or.inr (by omega)))
    refine ⟨by rw [hD 2 (Or.inl (by omega))]; exact d1, by rw [hD 3 (Or.inl (by omega))]; exact d2, by rw [hD 4 (Or.inl (by omega))]; exact d3, fun j hj => ?_, fun j hj => ?_⟩
    · rw [hD 2 (Or.inl (by omega))] at hj; rw [hD _ (Or.inr (by omega))]; exact d4 j hj
    · rw [hD 3 (Or.inl (by omega))] at hj; rw [hD _ (Or.inr (by omega))]; exact d5 j hj
  · rw [eJ 73 (by omega), eJ 75 (by omega)]
    intro q
    obtain ⟨k1, k2, k3⟩ := h4 q
    exact ⟨k1, (k2.kept (fun a ha => hI a (Or.inr (by omega)))).tx ht, k3.kept (fun a g1 g2 => hI a (Or.inr (by omega)))⟩
  · rw [eJ 73 (by omega), hI 0 (Or.inl (by omega))]; exact h5
  · intro k g1 g2
    rw [eJ 77 (by omega), hI 64 (Or.inr (by omega))]; exact h6 k g1 g2
/-- only the sea ahead has changed -/
theorem XG.ahead {xs : Nat → Int32} {I I' : AI} {T : AT} {tx' : Nat → Option Nat} {J : AI} (h : XG xs I T J) (hI : ∀ a, a < 17 ∨ 32 < a → I' a = I a) (ht : ∀ k, k ≠ 2 → k ≠ 3 → tx' k = T.1 k) : XG xs I' (tx', T.2) J := by
  have := h.mk2 (I' := I') (tx' := tx') (s' := J 74) (fun a ha => hI a (by omega)) (fun u hu => ht _ (by omega) (by omega)) h.1 ((h.2.1.kept (fun a ha => hI a (by omega))).tx (fun u hu => ht _ (by omega) (by omega))) (fun _ _ => rfl)
  rw [show sps J (J 74) = J from vu_self _ _] at this
  exact this
theorem cT_ne (T : AT) {iD iS k : Nat} (h0 : k ≠ 2 * iD + 0) (h1 : k ≠ 2 * iD + 1) : (cT T iD iS).1 k = T.1 k := by
  show va_up (va_up T.1 (2 * iD + 0) (T.1 (2 * iS + 0))) (2 * iD + 1) (T.1 (2 * iS + 1)) k = _
  rw [va_up_ne _ _ h1, va_up_ne _ _ h0]
theorem TTc.tx {T : AT} {tx' : Nat → Option Nat} {L c : Nat} (h : TTc T L c) : TTc (tx', T.2) L c := h
theorem sOK.congr {s s' : Nat → Int32} (h : sOK s) (e : ∀ j, j < 456 → s' j = s j) : sOK s' := by
  obtain ⟨s1, s2, s3, s4, s5, s6, s7, s8⟩ := h
  refine ⟨by rw [e _ (by decide)]; exact s1, by rw [e _ (by decide)]; exact s2, by rw [e _ (by decide)]; exact s3, by rw [e _ (by decide)]; exact s4, fun q hq => by rw [e _ (by omega)]; exact s5 q hq, fun q hq => by rw [e _ (by omega)]; exact s6 q hq, fun q hq => by rw [e _ (by omega)]; exact s7 q hq, fun b hb => ?_⟩
  rw [e 0 (by decide)] at hb
  have := cl_le s1
  have h8 := s8 b hb
  unfold bOK at h8 ⊢
  rw [e _ (by omega), e _ (by omega), e _ (by omega), e _ (by omega), e _ (by omega), e _ (by omega), e _ (by omega), e _ (by omega)]
  exact h8
theorem XSea.congr2 {I : AI} {T : AT} {B i : Nat} {s s' : Nat → Int32} (h : XSea I T B i s) (e : ∀ j, j < 456 → s' j = s j) : XSea I T B i s' := h.congr (fun _ _ => rfl) (fun j hj => e j (by omega))
theorem XDesk.congr2 {I : AI} {D : Nat} {s s' : Nat → Int32} (h : XDesk I D s) (hs : sOK s) (e : ∀ j, j < 456 → s' j = s j) : XDesk I D s' := by
  obtain ⟨d1, d2, d3, d4, d5⟩ := h
  have a2 := (hs.2.2.1.eq (by decide)).2
  have a3 := (hs.2.2.2.1.eq (by decide)).2
  refine ⟨by rw [e 2 (by decide)]; exact d1, by rw [e 3 (by decide)]; exact d2, by rw [e 4 (by decide)]; exact d3, fun j hj => ?_, fun j hj => ?_⟩
  · rw [e 2 (by decide)] at hj; rw [e _ (by omega)]; exact d4 j hj
  · rw [e 3 (by decide)] at hj; rw [e _ (by omega)]; exact d5 j hj
theorem cpy_at {f g : Nat → Int32} {k j : Nat} (h : j < k) : cpy f g k j = f j := if_pos h
theorem x_untell (xs : Nat → Int32) (I : AI) (T : AT) (J : AI) (L c : Nat) (hG : XG xs I T J) (hT : TTc T L c) (u : Int32) : Ct 2 y_X_untell [.ref 0, .int u] (hp I T) (XQ xs I T L c (sp_untell J u)) := by
  obtain ⟨x1, x2, x3, x4, x5, x6⟩ := id hG.2.1
  iterate 3 refine Go.step rfl ?_
  refine Go.cal (x_within _ u 0 1) (by decide) rfl ?_
  rintro _ _ ⟨rfl, rfl⟩
  refine Go.step rfl ?_
  refine Go.ifz (fun c1 => ?_) (fun c1 => ?_)
  · iterate 2 refine Go.step rfl ?_
    exact Go.mono (x_err (k := 1) (o := sp_untell J u) hG (by decide) (by decide) (by rw [sp_untell, c1]; rfl) rfl rfl rfl (by decide)) (fun r h' h => h.q hT)
  · obtain ⟨k, hk, rfl⟩ := nI_of_win (N := 1) (by decide) c1
    have hcl : cl (nI k) = k := nI_clamp (by omega)
    have hk2 : k < 2 := by omega
    have hP : sP T.1 T.2.1 T.2.2.1 5 k = T.1 (2 * 0 + k) := by
      rcases (show k = 0 ∨ k = 1 by omega) with rfl | rfl <;> rfl
    have esp : sp_untell J (nI k) = (sps J (va_up (J 74) (122 + 125 * k) 0), bo (decide (0 < J 74 (122 + 125 * k)))) := by rw [sp_untell, c1, hcl]; rfl
    have fin : ∀ v : Int32, v = bo (decide (0 < J 74 (122 + 125 * k))) → Go 2 y_X_untell 33 [some (.ref 0), some (.int (nI k)), some (.int v)] [] (hp I T) (XQ xs I T L c (sp_untell J (nI k))) := by
      intro v hv
      iterate 5 refine Go.step rfl ?_
      refine Go.aastN rfl rfl rfl (am_in_nI hk2 (by decide)) ?_
      rw [nI_clamp (by omega), ← sP_tx _ _ _ 0 k (by decide) hk2]
      refine Go.step rfl ?_
      refine Go.ret rfl ?_
      rw [esp]
      refine ⟨I, (va_up T.1 (2 * 0 + k) none, T.2), rfl, fun _ _ _ => rfl, ?_, hT.up.tx, by rw [hv]⟩
      refine hG.mk2 (fun _ _ => rfl) (fun z hz => va_up_ne _ _ (by omega)) (hG.1.up (by omega) (okv_free _ (by omega))) ?_ (fun j hj => va_up_ne _ _ (by omega))
      refine ⟨by rw [va_up_ne _ _ (by omega)]; exact x1, by rw [va_up_ne _ _ (by omega)]; exact x2, fun j hj => by rw [va_up_ne _ _ (by omega), va_up_ne _ _ (by omega)]; exact x3 j hj, fun q hq => by rw [va_up_ne _ _ (by omega)]; exact x4 q hq, fun b f g1 g2 g3 => ?_, fun z hz => ?_⟩
      · rw [va_up_ne _ _ (by omega)] at g1
        rw [va_up_ne _ _ (by omega)]; exact x5 b f g1 g2 g3
      · show XTxt I (va_up T.1 (2 * 0 + k) none, T.2) (va_up T.1 (2 * 0 + k) none (2 * 0 + z)) z _
        by_cases q : z = k
        · subst q
          rw [vu_same]
          exact vu_same _ _ _
        · rw [va_up_ne _ _ (by omega)]
          exact ((x6 z hz).kept2 (fun _ _ => rfl) (fun j g1 g2 => va_up_ne _ _ (by omega))).tx
    have hx := x6 k hk2
    iterate 4 refine Go.step rfl ?_
    cases ho : T.1 (2 * 0 + k) with
    | none =>
      rw [ho] at hx
      refine Go.aaldN rfl rfl rfl (am_in_nI hk2 (by decide)) (by rw [nI_clamp (by omega)]; exact hP.trans ho) ?_
      refine Go.step rfl ?_
      iterate 3 refine Go.step rfl ?_
      exact fin _ (by rw [show J 74 (122 + 125 * k) = 0 from hx]; rfl)
    | some a =>
      rw [ho] at hx
      obtain ⟨h1, h2, h3, w, len, h4, h5, h6, h7, h8, h9, h10⟩ := hx
      have hl := h8.1
      have hl2 := h8.2.1
      refine Go.aald rfl rfl rfl (am_in_nI hk2 (by decide)) (by rw [nI_clamp (by omega)]; exact hP.trans ho) ?_
      refine Go.step rfl ?_
      iterate 2 refine Go.step rfl ?_
      exact fin _ (by rw [h9, decide_eq_true (show (0 : Int32) < nI len from nI_lt (a := 0) (b := len) (by omega) (by omega))]; rfl)
theorem op_untell (a : Int32) : OpOK y_X_untell y_M_untell [.int a] := by
  refine op_of (sp := fun J => sp_untell J a) (fun xs I T J L c hG hT _ => Go.up (by decide) (x_untell xs I T J L c hG.1 hT a)) (fun xs I0 T0 I T hG => Go.up (by decide) (Go.mono (m_untell I T a) (fun r h' h => h.q ?_))) ?_ ?_
  · intro z hz
    have : SpO (fun J => sp_untell J a) := by unfold sp_untell; exact SpO.bif2 SpO.row (SpO.err 1)
    exact this I z hz
  · unfold sp_untell; exact SpC.bif2 (fun J J' e => rfl) (SpC.row (fun J J' e => by rw [e.2.2.1] <;> exact ⟨rfl, rfl⟩)) (SpC.err 1)
  · unfold sp_untell; exact SpH.bifc (fun xs I T J h c1 => by
      have : cl _ ≤ 1 := cl_win (N := 1) (by decide) c1
      exact h.2.sps1 (by rw [va_up_ne _ _ (by omega)]) (fun j hj => by rw [va_up_ne _ _ (by omega)])) (SpH.err 1)
theorem x_deskCopy_52_49 (I : AI) (T : AT) (s : Nat → Int32) (hs : sOK s) (hX : XDesk I 49 s) : Ct 0 y_Desk_copy [.ref 52, .ref 49] (hp I T) (fun r h' => ∃ I', h' = hp I' T ∧ (∀ a, a < 52 ∨ 52 + 2 < a → I' a = I a) ∧ XDesk I' 52 s ∧ r = none) := by
  obtain ⟨d1, d2, d3, d4, d5⟩ := hX
  have a2 := (hs.2.2.1.eq (by decide)).2
  have a3 := (hs.2.2.2.1.eq (by decide)).2
  iterate 28 refine Go.step rfl ?_
  refine Go.ret rfl ⟨_, rfl, fun a ha => ?_, ⟨?_, ?_, ?_, fun j hj => ?_, fun j hj => ?_⟩, rfl⟩
  · rw [va_up_ne _ _ (by omega), va_up_ne _ _ (by omega), va_up_ne _ _ (by omega), va_up_ne _ _ (by omega), va_up_ne _ _ (by omega)]
  · simpa [va_up] using d1
  · simpa [va_up] using d2
  · simpa [va_up] using d3
  · have := d4 j hj
    have e : va_cpy (I 50) (I 53) 0 0 60 j = I 50 j := by unfold va_cpy; rw [if_pos ⟨by omega, by omega⟩, show 0 + (j - 0) = j by omega]
    simp only [va_up]
    simp
    rw [e]
    exact this
  · have := d5 j hj
    have e : va_cpy (I 51) (I 54) 0 0 24 j = I 51 j := by unfold va_cpy; rw [if_pos ⟨by omega, by omega⟩, show 0 + (j - 0) = j by omega]
    simp only [va_up]
    simp
    rw [e]
    exact this
theorem x_deskCopy_49_52 (I : AI) (T : AT) (s : Nat → Int32) (hs : sOK s) (hX : XDesk I 52 s) : Ct 0 y_Desk_copy [.ref 49, .ref 52] (hp I T) (fun r h' => ∃ I', h' = hp I' T ∧ (∀ a, a < 49 ∨ 49 + 2 < a → I' a = I a) ∧ XDesk I' 49 s ∧ r = none) := by
  obtain ⟨d1, d2, d3, d4, d5⟩ := hX
  have a2 := (hs.2.2.1.eq (by decide)).2
  have a3 := (hs.2.2.2.1.eq (by decide)).2
  iterate 28 refine Go.step rfl ?_
  refine Go.ret rfl ⟨_, rfl, fun a ha => ?_, ⟨?_, ?_, ?_, fun j hj => ?_, fun j hj => ?_⟩, rfl⟩
  · rw [va_up_ne _ _ (by omega), va_up_ne _ _ (by omega), va_up_ne _ _ (by omega), va_up_ne _ _ (by omega), va_up_ne _ _ (by omega)]
  · simpa [va_up] using d1
  · simpa [va_up] using d2
  · simpa [va_up] using d3
  · have := d4 j hj
    have e : va_cpy (I 53) (I 50) 0 0 60 j = I 53 j := by unfold va_cpy; rw [if_pos ⟨by omega, by omega⟩, show 0 + (j - 0) = j by omega]
    simp only [va_up]
    simp
    rw [e]
    exact this
  · have := d5 j hj
    have e : va_cpy (I 54) (I 51) 0 0 24 j = I 54 j := by unfold va_cpy; rw [if_pos ⟨by omega, by omega⟩, show 0 + (j - 0) = j by omega]
    simp only [va_up]
    simp
    rw [e]
    exact this
theorem x_image (xs : Nat → Int32) (I : AI) (T : AT) (J : AI) (L c : Nat) (hG : XG xs I T J) (hT : TTc T L c) : Ct 2 y_X_image [.ref 0] (hp I T) (XQ xs I T L c (sp_image J)) := by
  obtain ⟨h1, h2, h3, h4, h5, h6, h7, h8, h9⟩ := id hG
  have ec : ∀ j, j < 456 → cpy (J 74) (J 75) 456 j = J 74 j := fun j hj => cpy_at hj
  iterate 4 refine Go.step rfl ?_
  refine Go.cal (x_seaCopy_33_1 I T (J 74) h1 h2) (by decide) rfl ?_
  rintro _ _ ⟨I1, rfl, k1, k2, rfl⟩
  iterate 4 refine Go.step rfl ?_
  refine Go.cal (x_deskCopy_52_49 I1 _ (J 74) h1 (h3.kept (fun a g1 g2 => k1 a (by omega)))) (by decide) rfl ?_
  rintro _ _ ⟨I2, rfl, q1, q2, rfl⟩
  have e2 : ∀ a, a < 33 ∨ (49 ≤ a ∧ a < 52) ∨ 54 < a → I2 a = I a := fun a ha => by rw [q1 a (by omega)]; exact k1 a (by omega)
  iterate 8 refine Go.step rfl ?_
  have eJ : ∀ a, a ≠ 73 → a ≠ 75 → (sp_image J).1 a = J a := fun a g1 g2 => by show va_up (va_up J 75 (cpy (J 74) (J 75) 456)) 73 (va_up (J 73) 3 (J 73 3 + 1)) a = J a; rw [va_up_ne _ _ g1, va_up_ne _ _ g2]
  have eJ75 : (sp_image J).1 75 = cpy (J 74) (J 75) 456 := by show va_up (va_up J 75 (cpy (J 74) (J 75) 456)) 73 (va_up (J 73) 3 (J 73 3 + 1)) 75 = _; rw [va_up_ne _ _ (show 75 ≠ 73 by decide), vu_same]
  have eJ73 : (sp_image J).1 73 = va_up (J 73) 3 (J 73 3 + 1) := by show va_up (va_up J 75 (cpy (J 74) (J 75) 456)) 73 (va_up (J 73) 3 (J 73 3 + 1)) 73 = _; rw [vu_same]
  have e0 : I2 0 10 = J 73 3 := by rw [e2 0 (by omega)]; exact h5
  have eI : ∀ a, a ≠ 0 → va_up I2 0 (va_up (I2 0) 10 (I2 0 10 + 1)) a = I2 a := fun a ha => va_up_ne _ _ ha
  refine Go.ret rfl ⟨va_up I2 0 (va_up (I2 0) 10 (I2 0 10 + 1)), cT T 2 0, rfl, fun a g1 g2 => by rw [eI _ (by omega)]; exact e2 a (by omega), ⟨by rw [eJ 74 (by decide) (by decide)]; exact h1, ?_, ?_, fun _ => ⟨by rw [eJ75]; exact h1.congr ec, ?_, ?_⟩, ?_, fun k g1 g2 => ?_, h7.kept (fun a g1 g2 => by rw [eI _ (by omega)]; exact e2 a (by omega)) (fun a g1 g2 => eJ a (by omega) (by omega)), h8.kept (fun a g1 g2 => by rw [eI _ (by omega)]; exact e2 a (by omega)) (by rw [eJ73, va_up_ne _ _ (by decide)]) (eJ 86 (by decide) (by decide)), fun z j => by rw [eI _ (by omega), e2 _ (by omega)]; exact h9 z j⟩, hT.up.tx, ?_⟩
  · rw [eJ 74 (by decide) (by decide)]
    exact (h2.kept (fun a ha => by rw [eI _ (by omega)]; exact e2 a (by omega))).tx (fun u hu => cT_ne T (by omega) (by omega))
  · rw [eJ 74 (by decide) (by decide)]
    exact h3.kept (fun a g1 g2 => by rw [eI _ (by omega)]; exact e2 a (by omega))
  · rw [eJ75]
    exact (k2.kept (fun a ha => by rw [eI _ (by omega)]; exact q1 a (by omega))).congr2 ec
  · rw [eJ75]
    exact (q2.kept (fun a g1 g2 => eI _ (by omega))).congr2 h1 ec
  · rw [vu_same, vu_same, eJ73, vu_same, e0]
  · rw [eI _ (by decide), e2 64 (by omega), eJ 77 (by decide) (by decide)]; exact h6 k g1 g2
  · show some (Value.int (va_up I2 0 (va_up (I2 0) 10 (I2 0 10 + 1)) 0 10)) = some (Value.int (J 73 3 + 1))
    rw [vu_same, vu_same, e0]
theorem op_image : OpOK y_X_image y_M_image [] := by
  refine op_of (sp := sp_image) (fun xs I T J L c hG hT _ => Go.up (by decide) (x_image xs I T J L c hG.1 hT)) (fun xs I0 T0 I T hG => Go.up (by decide) (Go.mono (m_image I T) (fun r h' h => h.q (fun z hz => ?_)))) (fun J J' e => ?_) (fun xs I T J h => ?_)
  · show va_up (va_up I 75 (cpy (I 74) (I 75) 456)) 73 (va_up (I 73) 3 (I 73 3 + 1)) z = I z
    rw [va_up_ne _ _ (by omega), va_up_ne _ _ (by omega)]
  · have eJ : ∀ (J : AI) a, a ≠ 73 → a ≠ 75 → (sp_image J).1 a = J a := fun J a g1 g2 => by show va_up (va_up J 75 (cpy (J 74) (J 75) 456)) 73 (va_up (J 73) 3 (J 73 3 + 1)) a = J a; rw [va_up_ne _ _ g1, va_up_ne _ _ g2]
    have eJ75 : ∀ J : AI, (sp_image J).1 75 = cpy (J 74) (J 75) 456 := fun J => by show va_up (va_up J 75 (cpy (J 74) (J 75) 456)) 73 (va_up (J 73) 3 (J 73 3 + 1)) 75 = _; rw [va_up_ne _ _ (show 75 ≠ 73 by decide), vu_same]
    have eJ73 : ∀ J : AI, (sp_image J).1 73 = va_up (J 73) 3 (J 73 3 + 1) := fun J => by show va_up (va_up J 75 (cpy (J 74) (J 75) 456)) 73 (va_up (J 73) 3 (J 73 3 + 1)) 73 = _; rw [vu_same]
    obtain ⟨e1, e2, e3, e4, e5, e6, e7, e8, e9⟩ := e
    refine ⟨⟨by rw [eJ73, eJ73, vu_same, vu_same, e1], by rw [eJ73, eJ73, va_up_ne _ _ (by decide), va_up_ne _ _ (by decide)]; exact e2, by rw [eJ _ _ (by decide) (by decide), eJ _ _ (by decide) (by decide)]; exact e3, by rw [eJ75, eJ75, e3, e4], by rw [eJ _ _ (by decide) (by decide), eJ _ _ (by decide) (by decide)]; exact e5, by rw [eJ _ _ (by decide) (by decide), eJ _ _ (by decide) (by decide)]; exact e6, by rw [eJ _ _ (by decide) (by decide), eJ _ _ (by decide) (by decide)]; exact e7, by rw [eJ _ _ (by decide) (by decide), eJ _ _ (by decide) (by decide)]; exact e8, by rw [eJ _ _ (by decide) (by decide), eJ _ _ (by decide) (by decide)]; exact e9⟩, ?_⟩
    show J 73 3 + 1 = J' 73 3 + 1
    rw [e1]
  · show rg ((va_up (va_up J 75 (cpy (J 74) (J 75) 456)) 73 (va_up (J 73) 3 (J 73 3 + 1))) 74 1) 9999 ∧ ((va_up (va_up J 75 (cpy (J 74) (J 75) 456)) 73 (va_up (J 73) 3 (J 73 3 + 1))) 73 3 ≠ 0 → rg ((va_up (va_up J 75 (cpy (J 74) (J 75) 456)) 73 (va_up (J 73) 3 (J 73 3 + 1))) 75 1) 9999 ∧ TB ((va_up (va_up J 75 (cpy (J 74) (J 75) 456)) 73 (va_up (J 73) 3 (J 73 3 + 1))) 75)) ∧ TB ((va_up (va_up J 75 (cpy (J 74) (J 75) 456)) 73 (va_up (J 73) 3 (J 73 3 + 1))) 74)
    rw [va_up_ne _ _ (show 74 ≠ 73 by decide), va_up_ne _ _ (show 74 ≠ 75 by decide), va_up_ne _ _ (show 75 ≠ 73 by decide), vu_same]
    refine ⟨h.2.1, fun _ => ?_, h.2.2.2⟩
    rw [vu_same, cpy_at (by decide)]; exact ⟨h.2.1, h.2.2.2.congr (fun j hj => cpy_at (by omega))⟩
theorem x_restore (xs : Nat → Int32) (I : AI) (T : AT) (J : AI) (L c : Nat) (hG : XG xs I T J) (hT : TTc T L c) : Ct 2 y_X_restore [.ref 0] (hp I T) (XQ xs I T L c (sp_restore J)) := by
  obtain ⟨h1, h2, h3, h4, h5, h6, h7, h8, h9⟩ := id hG
  have ec : ∀ j, j < 456 → cpy (J 75) (J 74) 456 j = J 75 j := fun j hj => cpy_at hj
  iterate 2 refine Go.step rfl ?_
  rw [show I 0 10 = J 73 3 from h5]
  refine Go.step rfl ?_
  refine Go.ite (fun c1 => ?_) (fun c1 => ?_)
  · iterate 2 refine Go.step rfl ?_
    exact Go.mono (x_err (k := 2) (o := sp_restore J) hG (by decide) (by decide) (by rw [sp_restore, if_pos c1]) rfl rfl rfl (by decide)) (fun r h' h => h.q hT)
  · obtain ⟨g1, g2, g3⟩ := h4 c1
    iterate 4 refine Go.step rfl ?_
    refine Go.cal (x_seaCopy_1_33 I T (J 75) g1 g2) (by decide) rfl ?_
    rintro _ _ ⟨I1, rfl, k1, k2, rfl⟩
    iterate 4 refine Go.step rfl ?_
    refine Go.cal (x_deskCopy_49_52 I1 _ (J 75) g1 (g3.kept (fun a z1 z2 => k1 a (by omega)))) (by decide) rfl ?_
    rintro _ _ ⟨I2, rfl, q1, q2, rfl⟩
    have e2 : ∀ a, a < 1 ∨ (17 ≤ a ∧ a < 49) ∨ 51 < a → I2 a = I a := fun a ha => by rw [q1 a (by omega)]; exact k1 a (by omega)
    have eJ : ∀ a, a ≠ 74 → ((va_up J 74 (cpy (J 75) (J 74) 456), J 75 1) : AI × Int32).1 a = J a := fun a ha => va_up_ne J (cpy (J 75) (J 74) 456) ha
    have eJ74 : ((va_up J 74 (cpy (J 75) (J 74) 456), J 75 1) : AI × Int32).1 74 = cpy (J 75) (J 74) 456 := vu_same J 74 _
    iterate 3 refine Go.step rfl ?_
    refine Go.ret rfl ?_
    rw [sp_restore, if_neg c1]
    refine ⟨I2, cT T 0 2, rfl, fun a z1 z2 => e2 a (by omega), ⟨by rw [eJ74]; exact g1.congr ec, ?_, ?_, fun _ => ⟨by rw [eJ 75 (by decide)]; exact g1, ?_, ?_⟩, ?_, fun k z1 z2 => ?_, h7.kept (fun a z1 z2 => e2 a (by omega)) (fun a z1 z2 => eJ a (by omega)), h8.kept (fun a z1 z2 => e2 a (by omega)) (by rw [eJ 73 (by decide)]) (eJ 86 (by decide)), fun z j => by rw [e2 _ (by omega)]; exact h9 z j⟩, hT.up.tx, ?_⟩
    · rw [eJ74]
      exact (k2.kept (fun a ha => q1 a (by omega))).congr2 ec
    · rw [eJ74]
      exact q2.congr2 g1 ec
    · rw [eJ 75 (by decide)]
      exact (g2.kept (fun a ha => e2 a (by omega))).tx (fun u hu => cT_ne T (by omega) (by omega))
    · rw [eJ 75 (by decide)]
      exact g3.kept (fun a z1 z2 => e2 a (by omega))
    · rw [eJ 73 (by decide), e2 0 (by omega)]; exact h5
    · rw [eJ 77 (by decide), e2 64 (by omega)]; exact h6 k z1 z2
    · show some (Value.int (I2 1 0)) = some (Value.int (J 75 1))
      rw [q1 1 (by omega), k2.1]
theorem op_restore : OpOK y_X_restore y_M_restore [] := by
  refine op_of (sp := sp_restore) (fun xs I T J L c hG hT _ => Go.up (by decide) (x_restore xs I T J L c hG.1 hT)) (fun xs I0 T0 I T hG => Go.up (by decide) (Go.mono (m_restore I T) (fun r h' h => h.q (fun z hz => ?_)))) (fun J J' e => ?_) (fun xs I T J h => ?_)
  · unfold sp_restore
    split
    · exact er_out _ _ hz
    · exact va_up_ne _ _ (by omega)
  · unfold sp_restore
    by_cases q : J 73 3 = 0
    · rw [if_pos q, if_pos (by rw [← e.1]; exact q)]; exact ⟨e.er1 2, rfl⟩
    · rw [if_neg q, if_neg (by rw [← e.1]; exact q), e.2.2.1, e.2.2.2.1]
      exact ⟨e.sps1 _, rfl⟩
  · unfold sp_restore
    split
    · exact h.2.er1 2
    · rename_i q
      exact h.2.spsB (by rw [cpy_at (by decide)]; exact (h.2.2.1 q).1) ((h.2.2.1 q).2.congr (fun j hj => cpy_at (by omega)))
