/-! PAIRS: income, dearest -/
/-- what n hours bring in -/
def inc (s : Nat → Int32) (n : Nat) : Int32 := sm (hrs s 0 n) 5 (cl (s 0)) - sm s 5 (cl (s 0))
def sp_income (J : AI) (n : Int32) : AI × Int32 := bif win n 0 240 then (J, inc (J 74) (cl n)) else (er J 1, LO 1)
theorem sm_congr {s r : Nat → Int32} {f : Nat} : ∀ {k : Nat}, (∀ b, b < k → r (58 + 8 * b + f) = s (58 + 8 * b + f)) → sm r f k = sm s f k := by
  intro k
  induction k with
  | zero => intro _; rfl
  | succ k ih => intro h; rw [sm, sm, ih (fun b hb => h b (by omega)), h k (by omega)]
theorem x_incomeAhead (xs : Nat → Int32) (I : AI) (T : AT) (s r : Nat → Int32) (hs : sOK s) (hr : sOK r) (hX : XSea I T 1 0 s) (hA : XSea I T 17 1 r) (hC : XCon xs I) (n : Nat) (hn : cl (r 1) + n ≤ 11000) : Ct 6 y_X_incomeAhead [.ref 0, .int (nI n)] (hp I T) (fun q h' => ∃ I', h' = hp I' T ∧ (∀ a, a < 17 ∨ 17 + 15 < a → I' a = I a) ∧ q = some (.int (sm (hrs r 0 n) 5 (cl (r 0)) - sm s 5 (cl (s 0))))) := by
  iterate 4 refine Go.step rfl ?_
  refine Go.cal (x_goBy_17 xs I T r hr hA hC false n hn) (by decide) rfl ?_
  rintro _ _ ⟨I', rfl, k1, k2, rfl⟩
  iterate 2 refine Go.step rfl ?_
  refine Go.cal (x_owed_17 I' T _ (hrs_ok hr 0 n hn).1 k2) (by decide) rfl ?_
  rintro _ _ ⟨rfl, rfl⟩
  iterate 2 refine Go.step rfl ?_
  refine Go.cal (x_owed_1 I' T s hs (hX.kept (fun a ha => k1 a (by omega)))) (by decide) rfl ?_
  rintro _ _ ⟨rfl, rfl⟩
  refine Go.step rfl ?_
  refine Go.ret rfl ⟨I', rfl, k1, ?_⟩
  show some (Value.int (sm (hrs r 0 n) 5 (cl (hrs r 0 n 0)) - sm s 5 (cl (s 0)))) = _
  rw [hrs_0]
theorem x_income (xs : Nat → Int32) (I : AI) (T : AT) (J : AI) (L c : Nat) (hG2 : XG2 xs I T J) (hT : TTc T L c) (n : Int32) : Ct 7 y_X_income [.ref 0, .int n] (hp I T) (XQ xs I T L c (sp_income J n)) := by
  obtain ⟨hG, hHB⟩ := hG2
  have hs := id hG.1
  have hbd := hrs_bound hHB hs
  iterate 3 refine Go.step rfl ?_
  refine Go.cal (x_within _ n 0 240) (by decide) rfl ?_
  rintro _ _ ⟨rfl, rfl⟩
  refine Go.step rfl ?_
  refine Go.ifz (fun c1 => ?_) (fun c1 => ?_)
  · iterate 2 refine Go.step rfl ?_
    exact Go.mono (x_err (k := 1) (o := sp_income J n) hG (by decide) (by decide) (by rw [sp_income, c1]; rfl) rfl rfl rfl (by decide)) (fun r h' h => h.q hT)
  · obtain ⟨k, hk, rfl⟩ := nI_of_win (N := 240) (by decide) c1
    iterate 4 refine Go.step rfl ?_
    refine Go.cal (x_seaCopy_17_1 I T (J 74) hs hG.2.1) (by decide) rfl ?_
    rintro _ _ ⟨I1, rfl, k1, k2, rfl⟩
    iterate 2 refine Go.step rfl ?_
    refine Go.cal (x_incomeAhead xs I1 (cT T 1 0) (J 74) (J 74) hs hs ((hG.2.1.kept (fun a ha => k1 a (by omega))).tx (fun u hu => cT_ne T (by omega) (by omega))) k2 (fun z y => by rw [k1 _ (by omega)]; exact hG.2.2.2.2.2.2.2.2 z y) k (by omega)) (by decide) rfl ?_
    rintro _ _ ⟨I2, rfl, q1, rfl⟩
    refine Go.ret rfl ?_
    rw [sp_income, c1, show cl (nI k) = k from nI_clamp (by omega)]
    have e3 : ∀ a, a < 17 ∨ 32 < a → I2 a = I a := fun a ha => by rw [q1 a (by omega)]; exact k1 a (by omega)
    exact ⟨I2, cT T 1 0, rfl, fun a g1 g2 => e3 a (by omega), hG.ahead e3 (fun z h2 h3 => cT_ne T (by omega) (by omega)), hT.up.tx, rfl⟩
theorem m_incomeBy (I : AI) (T : AT) (hs : sOK (I 74)) (ht0 : tOK (I 74) 0) (ht1 : tOK (I 74) 1) (k : Nat) (hk : cl (I 74 1) + k ≤ 11000) : Ct 7 y_M_incomeBy [.ref 73, .int (nI k)] (hp I T) (fun r h' => ∃ I', h' = hp I' T ∧ (∀ a, a ≠ 76 → a < 79 ∨ 83 < a → I' a = I a) ∧ r = some (.int (inc (I 74) k))) := by
  have hok := hrs_ok hs 0 k hk
  iterate 4 refine Go.step rfl ?_
  refine Go.cal (m_carry I T 74 76 (by decide) rfl rfl) (by decide) rfl ?_
  rintro _ _ ⟨rfl, rfl⟩
  have e74 : va_up I 76 (cpy (I 74) (I 76) 456) 74 = I 74 := va_up_ne _ _ (by decide)
  iterate 2 refine Go.step rfl ?_
  refine Go.cal (m_allOf _ T (by rw [e74]; exact hs) 5 (by decide)) (by decide) rfl ?_
  rintro _ _ ⟨rfl, rfl⟩
  rw [e74]
  iterate 4 refine Go.step rfl ?_
  refine Go.cal (m_go _ T (by rw [e74]; exact hs) (by rw [e74]; exact ht0) (by rw [e74]; exact ht1) 0 k (by rw [e74]; omega)) (by decide) rfl ?_
  rintro _ _ ⟨I2, rfl, q1, q2, rfl⟩
  rw [e74] at q2
  iterate 2 refine Go.step rfl ?_
  refine Go.cal (m_allOf I2 T (by rw [q2]; exact hok.1) 5 (by decide)) (by decide) rfl ?_
  rintro _ _ ⟨rfl, rfl⟩
  rw [q2]
  iterate 7 refine Go.step rfl ?_
  refine Go.cal (m_carry I2 T 76 74 (by decide) rfl rfl) (by decide) rfl ?_
  rintro _ _ ⟨rfl, rfl⟩
  refine Go.step rfl ?_
  have e4 : cpy (I2 76) (I2 74) 456 = I 74 := by
    rw [show I2 76 = cpy (I 74) (I 76) 456 by rw [q1 76 (by decide) (by decide), vu_same]]
    exact cpy_back (fun y hy => by rw [q2]; exact hrs_off _ _ (by omega) (by omega) _)
  refine Go.ret rfl ⟨_, rfl, fun a g1 g2 => ?_, ?_⟩
  · by_cases q : a = 74
    · subst q; rw [vu_same]; exact e4
    · rw [va_up_ne _ _ q, q1 a q g2, va_up_ne _ _ g1]
  · unfold inc
    rw [hrs_0]
theorem m_income (I : AI) (T : AT) (hs : sOK (I 74)) (hbd : cl (I 74 1) ≤ 9999) (ht0 : tOK (I 74) 0) (ht1 : tOK (I 74) 1) (n : Int32) : Ct 8 y_M_income [.ref 73, .int n] (hp I T) (MQ2 I T (sp_income I n)) := by
  refine Go.step rfl ?_
  refine Go.cal (m_isAhead _ n) (by decide) rfl ?_
  rintro _ _ ⟨rfl, rfl⟩
  refine Go.step rfl ?_
  refine Go.ifz (fun c1 => ?_) (fun c1 => ?_)
  · iterate 2 refine Go.step rfl ?_
    exact m_errq (k := 1) (by decide) (by rw [sp_income, c1]; rfl) rfl rfl rfl (by decide)
  · obtain ⟨k, hk, rfl⟩ := nI_of_win (N := 240) (by decide) c1
    iterate 2 refine Go.step rfl ?_
    refine Go.cal (m_incomeBy I T hs ht0 ht1 k (by omega)) (by decide) rfl ?_
    rintro _ _ ⟨I2, rfl, q1, rfl⟩
    refine Go.step rfl ?_
    refine Go.ret rfl ?_
    rw [sp_income, c1, show cl (nI k) = k from nI_clamp (by omega)]
    exact ⟨I2, rfl, fun a ha => q1 a (by omega) (by omega), JE.back (fun a g1 g2 g3 => q1 a g2 g3) (q1 74 (by decide) (by decide)), rfl⟩
theorem op_income (a : Int32) : OpOK y_X_income y_M_income [.int a] := by
  refine op_of (sp := fun J => sp_income J a) (fun xs I T J L cc hG hT _ => Go.up (by decide) (x_income xs I T J L cc hG hT a)) (fun xs I0 T0 I T hG => Go.up (by decide) (m_income I T hG.1.1 (hrs_bound hG.2 hG.1.1) (hG.1.tok (by decide)) (hG.1.tok (by decide)) a)) ?_ ?_
  · unfold sp_income; exact SpC.bif2 (fun J J' e => rfl) (SpC.ans (fun J J' e => by rw [e.2.2.1])) (SpC.err 1)
  · unfold sp_income; exact SpH.bif2 SpH.ans (SpH.err 1)
/-! dearest -/
def pinc (s : Nat → Int32) (q n p : Nat) : Int32 := inc (va_up s (5 + q) (nI p)) n
def bst (s : Nat → Int32) (q n : Nat) : Nat → Nat × Int32
  | 0 => (0, pinc s q n 0)
  | k + 1 => if (bst s q n k).2 < pinc s q n (k + 1) then (k + 1, pinc s q n (k + 1)) else bst s q n k
def sp_dearest (J : AI) (q n : Int32) : AI × Int32 := bif win q 0 3 && win n 1 48 then (J, nI (bst (J 74) (cl q) (cl n) 99).1) else (er J 1, LO 1)
theorem bst_le (s : Nat → Int32) (q n : Nat) : ∀ k, (bst s q n k).1 ≤ k := by
  intro k
  induction k with
  | zero => exact Nat.le_refl 0
  | succ k ih =>
    rw [bst]
    split
    · exact Nat.le_refl _
    · omega
theorem pinc_eq (s : Nat → Int32) (q n p : Nat) (hq : q < 4) : pinc s q n p = sm (hrs (va_up s (5 + q) (nI p)) 0 n) 5 (cl (s 0)) - sm s 5 (cl (s 0)) := by
  unfold pinc inc
  rw [va_up_ne s _ (show 0 ≠ 5 + q by omega), sm_congr (s := s) (fun b hb => va_up_ne _ _ (by omega))]
theorem x_dearest_loop (xs : Nat → Int32) (I : AI) (T : AT) (J : AI) (hG2 : XG2 xs I T J) (q n : Nat) (hq : q < 4) (hn : n ≤ 48) (Q : Option Value → AH → Prop) (K : ∀ I' T' t5 t6, (∀ a, a < 17 ∨ 32 < a → I' a = I a) → (∀ z, z ≠ 2 → z ≠ 3 → T'.1 z = T.1 z) → T'.2 = T.2 → Go 7 y_X_dearest 90 [some (.ref 0), some (.int (nI q)), some (.int (nI n)), some (.int (nI (bst (J 74) q n 99).1)), some (.int (bst (J 74) q n 99).2), t5, t6] [] (hp I' T') Q) : ∀ d p, p + d = 100 → ∀ (I' : AI) (T' : AT) (b m : Int32) (t6 : Option Value), (∀ a, a < 17 ∨ 32 < a → I' a = I a) → (∀ z, z ≠ 2 → z ≠ 3 → T'.1 z = T.1 z) → T'.2 = T.2 → ((p = 0 ∧ b = 0 ∧ m = -2147483648) ∨ (0 < p ∧ b = nI (bst (J 74) q n (p - 1)).1 ∧ m = (bst (J 74) q n (p - 1)).2)) → Go 7 y_X_dearest 34 [some (.ref 0), some (.int (nI q)), some (.int (nI n)), some (.int b), some (.int m), some (.int (nI p)), t6] [] (hp I' T') Q := by
  obtain ⟨hG, hHB⟩ := hG2
  have hs := id hG.1
  have hbd := hrs_bound hHB hs
  intro d
  induction d with
  | zero =>
    intro p hpd I' T' b m t6 k1 k2 k3 k4
    have : p = 100 := by omega
    subst this
    rcases k4 with ⟨h0, -⟩ | ⟨-, rfl, rfl⟩
    · omega
    · iterate 3 refine Go.step rfl ?_
      refine Go.ifp (nI_lt (a := 99) (b := 100) (by decide) (by decide)) ?_
      exact K I' T' _ _ k1 k2 k3
  | succ d ih =>
    intro p hpd I' T' b m t6 k1 k2 k3 k4
    obtain ⟨tx, T2⟩ := T'
    simp only at k2 k3
    subst k3
    have hG' : XG xs I' (tx, T.2) J := hG.ahead k1 k2
    have next : ∀ (I2 : AI) (T2 : AT) (b m : Int32) (t6 : Option Value), (∀ a, a < 17 ∨ 32 < a → I2 a = I a) → (∀ z, z ≠ 2 → z ≠ 3 → T2.1 z = T.1 z) → T2.2 = T.2 → b = nI (bst (J 74) q n p).1 → m = (bst (J 74) q n p).2 → Go 7 y_X_dearest 84 [some (.ref 0), some (.int (nI q)), some (.int (nI n)), some (.int b), some (.int m), some (.int (nI p)), t6] [] (hp I2 T2) Q := by
      intro I2 T2 b m t6 g1 g2 g3 g4 g5
      iterate 2 refine Go.step rfl ?_
      rw [show nI p + 1 = nI (p + 1) from nI_1 p]
      exact ih (p + 1) (by omega) I2 T2 b m t6 g1 g2 g3 (Or.inr ⟨by omega, g4, g5⟩)
    iterate 3 refine Go.step rfl ?_
    refine Go.ifn (nI_nlt (a := 99) (b := p) (by omega) (by decide)) ?_
    iterate 4 refine Go.step rfl ?_
    refine Go.cal (x_seaCopy_17_1 I' (tx, T.2) (J 74) hs hG'.2.1) (by decide) rfl ?_
    rintro _ _ ⟨I1, rfl, q1, q2, rfl⟩
    iterate 5 refine Go.step rfl ?_
    refine Go.iast rfl rfl (am_in_nI hq (by decide)) ?_
    rw [nI_clamp (by omega)]
    have hA : XSea (va_up I1 (17 + 2) (va_up (I1 (17 + 2)) q (nI p))) (cT (tx, T.2) 1 0) 17 1 (va_up (J 74) (5 + q) (nI p)) := q2.price hq (by decide)
    have hr : sOK (va_up (J 74) (5 + q) (nI p)) := hs.up (by omega) (okv_price hq (rg_nI (by omega)))
    have e1 : va_up (J 74) (5 + q) (nI p) 1 = J 74 1 := va_up_ne _ _ (by omega)
    have e0 : va_up (J 74) (5 + q) (nI p) 0 = J 74 0 := va_up_ne _ _ (by omega)
    have eI : ∀ a, a < 17 ∨ 32 < a → va_up I1 (17 + 2) (va_up (I1 (17 + 2)) q (nI p)) a = I a := fun a ha => by rw [va_up_ne _ _ (by omega), q1 a (by omega)]; exact k1 a ha
    have eT : ∀ z, z ≠ 2 → z ≠ 3 → (cT (tx, T.2) 1 0).1 z = T.1 z := fun z h2 h3 => by rw [cT_ne _ (by omega) (by omega)]; exact k2 z h2 h3
    iterate 2 refine Go.step rfl ?_
    refine Go.cal (x_incomeAhead xs (va_up I1 (17 + 2) (va_up (I1 (17 + 2)) q (nI p))) (cT (tx, T.2) 1 0) (J 74) (va_up (J 74) (5 + q) (nI p)) hs hr ((hG.2.1.kept (fun a ha => eI a (by omega))).tx (fun u hu => eT _ (by omega) (by omega))) hA (fun z y => by rw [eI _ (by omega)]; exact hG.2.2.2.2.2.2.2.2 z y) n (by rw [e1]; omega)) (by decide) rfl ?_
    rintro _ _ ⟨I2, rfl, r1, rfl⟩
    rw [e0, ← pinc_eq (J 74) q n p hq]
    have eI2 : ∀ a, a < 17 ∨ 32 < a → I2 a = I a := fun a ha => by rw [r1 a (by omega)]; exact eI a ha
    iterate 4 refine Go.step rfl ?_
    rcases k4 with ⟨rfl, rfl, rfl⟩ | ⟨h0, rfl, rfl⟩
    · refine Go.ite (fun c1 => ?_) (fun c1 => ?_)
      · exact next I2 _ _ _ _ eI2 eT rfl rfl (Int32.le_antisymm (Int32.minValue_le _) c1)
      · iterate 4 refine Go.step rfl ?_
        exact next I2 _ _ _ _ eI2 eT rfl rfl rfl
    · obtain ⟨p, rfl⟩ : ∃ p', p = p' + 1 := ⟨p - 1, by omega⟩
      rw [Nat.add_sub_cancel]
      refine Go.ite (fun c1 => ?_) (fun c1 => ?_)
      · have e : bst (J 74) q n (p + 1) = bst (J 74) q n p := by rw [bst, if_neg (Int32.not_lt.mpr c1)]
        exact next I2 _ _ _ _ eI2 eT rfl (by rw [e]) (by rw [e])
      · have e : bst (J 74) q n (p + 1) = (p + 1, pinc (J 74) q n (p + 1)) := by rw [bst, if_pos (Int32.not_le.mp c1)]
        iterate 4 refine Go.step rfl ?_
        exact next I2 _ _ _ _ eI2 eT rfl (by rw [e]) (by rw [e])
theorem x_dearest (xs : Nat → Int32) (I : AI) (T : AT) (J : AI) (L c : Nat) (hG2 : XG2 xs I T J) (hT : TTc T L c) (q n : Int32) : Ct 7 y_X_dearest [.ref 0, .int q, .int n] (hp I T) (XQ xs I T L c (sp_dearest J q n)) := by
  have hG := hG2.1
  have bad : (win q 0 3 && win n 1 48) = false → Go 7 y_X_dearest 19 [some (.ref 0), some (.int q), some (.int n), none, none, none, none] [] (hp I T) (XQ xs I T L c (sp_dearest J q n)) := by
    intro hq
    iterate 2 refine Go.step rfl ?_
    exact Go.mono (x_err (k := 1) (o := sp_dearest J q n) hG (by decide) (by decide) (by rw [sp_dearest, hq]; rfl) rfl rfl rfl (by decide)) (fun r h' h => h.q hT)
  iterate 3 refine Go.step rfl ?_
  refine Go.cal (x_within _ q 0 3) (by decide) rfl ?_
  rintro _ _ ⟨rfl, rfl⟩
  refine Go.step rfl ?_
  refine Go.ifz (fun c1 => ?_) (fun c1 => ?_)
  · exact bad (by rw [c1]; rfl)
  · iterate 3 refine Go.step rfl ?_
    refine Go.cal (x_within _ n 1 48) (by decide) rfl ?_
    rintro _ _ ⟨rfl, rfl⟩
    refine Go.step rfl ?_
    refine Go.ifz (fun c2 => ?_) (fun c2 => ?_)
    · exact bad (by rw [c2, Bool.and_false])
    · obtain ⟨k, hk, rfl⟩ := nI_of_win (N := 3) (by decide) c1
      obtain ⟨m, hm1, hm, rfl⟩ := win_lo (a := 1) (b := 48) (by decide) (by decide) c2
      iterate 6 refine Go.step rfl ?_
      refine x_dearest_loop xs I T J hG2 k m (by omega) hm _ ?_ 100 0 (by decide) I T 0 _ none (fun _ _ => rfl) (fun _ _ _ => rfl) rfl (Or.inl ⟨rfl, rfl, rfl⟩)
      intro I' T' t5 t6 k1 k2 k3
      obtain ⟨tx, T2⟩ := T'
      simp only at k2 k3
      subst k3
      refine Go.step rfl ?_
      refine Go.ret rfl ?_
      rw [sp_dearest, c1, c2, show cl (nI k) = k from nI_clamp (by omega), show cl (nI m) = m from nI_clamp (by omega)]
      exact ⟨I', (tx, T.2), rfl, fun a g1 g2 => k1 a (by omega), hG.ahead k1 k2, hT.up.tx, rfl⟩
theorem m_dearest_loop (I : AI) (T : AT) (hs : sOK (I 74)) (hbd : cl (I 74 1) ≤ 9999) (ht0 : tOK (I 74) 0) (ht1 : tOK (I 74) 1) (q n : Nat) (hq : q < 4) (hn : n ≤ 48) (w : Int32) (Q : Option Value → AH → Prop) (K : ∀ I' t6 t7, (∀ a, a ≠ 74 → a ≠ 76 → a < 79 ∨ 83 < a → I' a = I a) → (∃ v, I' 74 = va_up (I 74) (5 + q) v) → Go 8 y_M_dearest 93 [some (.ref 73), some (.int (nI q)), some (.int (nI n)), some (.int w), some (.int (nI (bst (I 74) q n 99).1)), some (.int (bst (I 74) q n 99).2), t6, t7] [] (hp I' T) Q) : ∀ d p, p + d = 100 → ∀ (I' : AI) (b m : Int32) (t7 : Option Value), (∀ a, a ≠ 74 → a ≠ 76 → a < 79 ∨ 83 < a → I' a = I a) → (∃ v, I' 74 = va_up (I 74) (5 + q) v) → (p = 0 ∨ (0 < p ∧ b = nI (bst (I 74) q n (p - 1)).1 ∧ m = (bst (I 74) q n (p - 1)).2)) → Go 8 y_M_dearest 43 [some (.ref 73), some (.int (nI q)), some (.int (nI n)), some (.int w), some (.int b), some (.int m), some (.int (nI p)), t7] [] (hp I' T) Q := by
  intro d
  induction d with
  | zero =>
    intro p hpd I' b m t7 k1 k2 k4
    have : p = 100 := by omega
    subst this
    rcases k4 with h0 | ⟨-, rfl, rfl⟩
    · omega
    · iterate 3 refine Go.step rfl ?_
      refine Go.ifp (Int32.le_refl _) ?_
      exact K I' _ _ k1 k2
  | succ d ih =>
    intro p hpd I' b m t7 k1 k2 k4
    have next : ∀ (I2 : AI) (b m : Int32) (t7 : Option Value), (∀ a, a ≠ 74 → a ≠ 76 → a < 79 ∨ 83 < a → I2 a = I a) → (∃ v, I2 74 = va_up (I 74) (5 + q) v) → b = nI (bst (I 74) q n p).1 → m = (bst (I 74) q n p).2 → Go 8 y_M_dearest 87 [some (.ref 73), some (.int (nI q)), some (.int (nI n)), some (.int w), some (.int b), some (.int m), some (.int (nI p)), t7] [] (hp I2 T) Q := by
      intro I2 b m t7 g1 g2 g4 g5
      iterate 2 refine Go.step rfl ?_
      rw [show nI p + 1 = nI (p + 1) from nI_1 p]
      exact ih (p + 1) (by omega) I2 b m t7 g1 g2 (Or.inr ⟨by omega, g4, g5⟩)
    obtain ⟨v, hv⟩ := k2
    iterate 3 refine Go.step rfl ?_
    refine Go.ifn (nI_ge (a := p) (b := 100) (by omega) (by decide)) ?_
    iterate 5 refine Go.step rfl ?_
    rw [show (5 : Int32) + nI q = nI (5 + q) from nI_add 5 q]
    refine Go.step rfl ?_
    refine Go.iast rfl rfl (am_in_nI (by omega) (by decide)) ?_
    rw [nI_clamp (by omega), hv, vu_idem]
    have e74 : va_up I' 74 (va_up (I 74) (5 + q) (nI p)) 74 = va_up (I 74) (5 + q) (nI p) := vu_same _ _ _
    have hr : sOK (va_up (I 74) (5 + q) (nI p)) := hs.up (by omega) (okv_price hq (rg_nI (by omega)))
    have e1 : va_up (I 74) (5 + q) (nI p) 1 = I 74 1 := va_up_ne _ _ (by omega)
    have tk : ∀ u, u < 2 → tOK (I 74) u → tOK (va_up (I 74) (5 + q) (nI p)) u := fun u hu h => h.congr hu (fun j h1 h2 => va_up_ne _ _ (by omega))
    iterate 2 refine Go.step rfl ?_
    refine Go.cal (m_incomeBy (va_up I' 74 (va_up (I 74) (5 + q) (nI p))) T (by rw [e74]; exact hr) (by rw [e74]; exact tk 0 (by decide) ht0) (by rw [e74]; exact tk 1 (by decide) ht1) n (by rw [e74, e1]; omega)) (by decide) rfl ?_
    rintro _ _ ⟨I2, rfl, q1, rfl⟩
    rw [e74, show inc (va_up (I 74) (5 + q) (nI p)) n = pinc (I 74) q n p from rfl]
    have eI2 : ∀ a, a ≠ 74 → a ≠ 76 → a < 79 ∨ 83 < a → I2 a = I a := fun a g1 g2 g3 => by rw [q1 a g2 g3, va_up_ne _ _ g1]; exact k1 a g1 g2 g3
    have eR : ∃ v, I2 74 = va_up (I 74) (5 + q) v := ⟨nI p, by rw [q1 74 (by decide) (by decide), vu_same]⟩
    iterate 3 refine Go.step rfl ?_
    rcases k4 with rfl | ⟨h0, rfl, rfl⟩
    · refine Go.ifp rfl ?_
      iterate 4 refine Go.step rfl ?_
      exact next I2 _ _ _ eI2 eR rfl rfl
    · refine Go.ifn (nI_ne0 (by omega) (by omega)) ?_
      obtain ⟨p, rfl⟩ : ∃ p', p = p' + 1 := ⟨p - 1, by omega⟩
      rw [Nat.add_sub_cancel]
      iterate 3 refine Go.step rfl ?_
      refine Go.ite (fun c1 => ?_) (fun c1 => ?_)
      · have e : bst (I 74) q n (p + 1) = bst (I 74) q n p := by rw [bst, if_neg (Int32.not_lt.mpr c1)]
        exact next I2 _ _ _ eI2 eR (by rw [e]) (by rw [e])
      · have e : bst (I 74) q n (p + 1) = (p + 1, pinc (I 74) q n (p + 1)) := by rw [bst, if_pos (Int32.not_le.mp c1)]
        iterate 4 refine Go.step rfl ?_
        exact next I2 _ _ _ eI2 eR (by rw [e]) (by rw [e])
theorem m_dearest (I : AI) (T : AT) (hs : sOK (I 74)) (hbd : cl (I 74 1) ≤ 9999) (ht0 : tOK (I 74) 0) (ht1 : tOK (I 74) 1) (q n : Int32) : Ct 8 y_M_dearest [.ref 73, .int q, .int n] (hp I T) (MQ2 I T (sp_dearest I q n)) := by
  have bad : (win q 0 3 && win n 1 48) = false → Go 8 y_M_dearest 19 [some (.ref 73), some (.int q), some (.int n), none, none, none, none, none] [] (hp I T) (MQ2 I T (sp_dearest I q n)) := by
    intro hq
    iterate 2 refine Go.step rfl ?_
    exact m_errq (k := 1) (by decide) (by rw [sp_dearest, hq]; rfl) rfl rfl rfl (by decide)
  iterate 3 refine Go.step rfl ?_
  refine Go.cal (m_in _ q 0 3) (by decide) rfl ?_
  rintro _ _ ⟨rfl, rfl⟩
  refine Go.step rfl ?_
  refine Go.ifz (fun c1 => ?_) (fun c1 => ?_)
  · exact bad (by rw [c1]; rfl)
  · iterate 3 refine Go.step rfl ?_
    refine Go.cal (m_in _ n 1 48) (by decide) rfl ?_
    rintro _ _ ⟨rfl, rfl⟩
    refine Go.step rfl ?_
    refine Go.ifz (fun c2 => ?_) (fun c2 => ?_)
    · exact bad (by rw [c2, Bool.and_false])
    · obtain ⟨k, hk, rfl⟩ := nI_of_win (N := 3) (by decide) c1
      obtain ⟨m, hm1, hm, rfl⟩ := win_lo (a := 1) (b := 48) (by decide) (by decide) c2
      iterate 5 refine Go.step rfl ?_
      rw [show (5 : Int32) + nI k = nI (5 + k) from nI_add 5 k]
      refine Go.iald rfl rfl (am_in_nI (by omega) (by decide)) ?_
      rw [nI_clamp (by omega)]
      iterate 7 refine Go.step rfl ?_
      refine m_dearest_loop I T hs hbd ht0 ht1 k m (by omega) hm _ _ ?_ 100 0 (by decide) I 0 0 none (fun _ _ _ _ => rfl) ⟨I 74 (5 + k), by rw [vu_self]⟩ (Or.inl rfl)
      rintro I' t6 t7 k1 ⟨v, hv⟩
      iterate 5 refine Go.step rfl ?_
      rw [show (5 : Int32) + nI k = nI (5 + k) from nI_add 5 k]
      refine Go.step rfl ?_
      refine Go.iast rfl rfl (am_in_nI (by omega) (by decide)) ?_
      rw [nI_clamp (by omega), hv, vu_idem, vu_self]
      refine Go.step rfl ?_
      refine Go.ret rfl ?_
      rw [sp_dearest, c1, c2, show cl (nI k) = k from nI_clamp (by omega), show cl (nI m) = m from nI_clamp (by omega)]
      exact ⟨_, rfl, fun a ha => by rw [va_up_ne _ _ (by omega)]; exact k1 a (by omega) (by omega) (by omega), JE.back (fun a g1 g2 g3 => by rw [va_up_ne _ _ g1]; exact k1 a g1 g2 g3) (vu_same _ _ _), rfl⟩
theorem op_dearest (a b : Int32) : OpOK y_X_dearest y_M_dearest [.int a, .int b] := by
  refine op_of (sp := fun J => sp_dearest J a b) (fun xs I T J L cc hG hT _ => Go.up (by decide) (x_dearest xs I T J L cc hG hT a b)) (fun xs I0 T0 I T hG => Go.up (by decide) (m_dearest I T hG.1.1 (hrs_bound hG.2 hG.1.1) (hG.1.tok (by decide)) (hG.1.tok (by decide)) a b)) ?_ ?_
  · unfold sp_dearest; exact SpC.bif2 (fun J J' e => rfl) (SpC.ans (fun J J' e => by rw [e.2.2.1])) (SpC.err 1)
  · unfold sp_dearest; exact SpH.bif2 SpH.ans (SpH.err 1)
