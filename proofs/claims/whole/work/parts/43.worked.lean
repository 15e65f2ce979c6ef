/-! a text's value: the reference -/
theorem Go.ifn {d y a b : Nat} {p : Prop} {hc : Decidable p} {ls : ALS} {st : List Value} {h : AH} {Q : Option Value → AH → Prop} (hp : ¬ p) (kb : Go d y b ls st h Q) : Go d y (@_root_.ite Nat p hc a b) ls st h Q := by
  rw [if_neg hp]; exact kb
theorem Go.ifp {d y a b : Nat} {p : Prop} {hc : Decidable p} {ls : ALS} {st : List Value} {h : AH} {Q : Option Value → AH → Prop} (hp : p) (ka : Go d y a ls st h Q) : Go d y (@_root_.ite Nat p hc a b) ls st h Q := by
  rw [if_pos hp]; exact ka
def nmc (u i : Nat) : Nat := if i = 0 then (if u = 0 then 98 else 116) else if i = 1 then (if u = 0 then 104 else 112) else (if u = 0 then 109 else 107)
theorem vu_self {α : Type} (I : Nat → α) (a : Nat) : va_up I a (I a) = I := by
  funext j
  by_cases hj : j = a
  · subst hj; rw [vu_same]
  · rw [va_up_ne _ _ hj]
theorem m_worked (I : AI) (T : AT) (u : Nat) (hu : u < 2) (f : Nat → Int32) (len : Nat) (hwf : wfT f len) (hl : I 74 (122 + 125 * u) = nI len) (ht : ∀ k, k < len → (I 74 (123 + 125 * u + 2 * k), I 74 (124 + 125 * u + 2 * k)) = tok u (f k)) (a1 a2 a3 : Int32) (n1 : I 79 (nmc u 0) = a1) (n2 : I 79 (nmc u 1) = a2) (n3 : I 79 (nmc u 2) = a3) : Ct 1 y_M_worked [.ref 73, .int (nI u)] (hp I T) (fun r h' => ∃ g, h' = hp (va_up I 80 g) T ∧ r = some (.int (evT f len a1 a2 a3))) := by
  have hlen := hwf.2.1
  have eB : (122 : Int32) + 125 * nI u = nI (122 + 125 * u) := by
    show nI 122 + nI 125 * nI u = _
    rw [nI_mul, nI_add]
  have loop : ∀ m k, k + m = len → ∀ (g : Nat → Int32) (t5 t6 : Option Value), (∀ j, j < dp f k → g j = evA f a1 a2 a3 k j) → Go 1 y_M_worked 13 [some (.ref 73), some (.int (nI u)), some (.int (nI (122 + 125 * u))), some (.int (nI (dp f k))), some (.int (nI k)), t5, t6] [] (hp (va_up I 80 g) T) (fun r h' => ∃ g, h' = hp (va_up I 80 g) T ∧ r = some (.int (evT f len a1 a2 a3))) := by
    intro m
    induction m with
    | zero =>
      intro k hk g t5 t6 hg
      have : k = len := by omega
      subst this
      have hd : dp f k = 1 := by unfold dp; rw [hwf.2.2.2.1]; rfl
      rw [hd] at hg ⊢
      iterate 4 refine Go.step rfl ?_
      refine Go.iald rfl rfl (am_in_nI (by omega) (by decide)) ?_
      rw [va_up_ne _ _ (by decide), nI_clamp (by omega), hl]
      refine Go.step rfl ?_
      refine Go.ifp (Int32.le_refl _) ?_
      repeat refine Go.step rfl ?_
      refine Go.ret rfl ⟨g, rfl, ?_⟩
      show some (Value.int (va_up I 80 g 80 0)) = _
      rw [vu_same, hg 0 (by omega)]
      rfl
    | succ m ih =>
      intro k hk g t5 t6 hg
      obtain ⟨hw1, hw2, hw3⟩ := wf_word hwf (k := k) (by omega)
      have htk := ht k (by omega)
      have next : ∀ (g' : Nat → Int32) (n' : Nat) (t t' : Option Value), dp f (k + 1) = n' → (∀ j, j < n' → g' j = evA f a1 a2 a3 (k + 1) j) → Go 1 y_M_worked 157 [some (.ref 73), some (.int (nI u)), some (.int (nI (122 + 125 * u))), some (.int (nI n')), some (.int (nI k)), t, t'] [] (hp (va_up I 80 g') T) (fun r h' => ∃ g, h' = hp (va_up I 80 g) T ∧ r = some (.int (evT f len a1 a2 a3))) := by
        intro g' n' t t' hn' hg'
        iterate 2 refine Go.step rfl ?_
        have := ih (k + 1) (by omega) g' t t' (by rw [hn']; exact hg')
        rw [hn'] at this
        rw [show nI k + 1 = nI (k + 1) from nI_1 k]
        exact this
      generalize hn : dp f k = n at hg hw2 hw3 ⊢
      have eA : nI (122 + 125 * u) + 1 + 2 * nI k = nI (123 + 125 * u + 2 * k) := by
        rw [show (2 : Int32) = nI 2 from rfl, nI_1, nI_mul, nI_add, show 122 + 125 * u + 1 + 2 * k = 123 + 125 * u + 2 * k by omega]
      have eC : nI (122 + 125 * u) + 2 + 2 * nI k = nI (124 + 125 * u + 2 * k) := by
        rw [show (2 : Int32) = nI 2 from rfl, nI_add, nI_mul, nI_add, show 122 + 125 * u + 2 + 2 * k = 124 + 125 * u + 2 * k by omega]
      iterate 4 refine Go.step rfl ?_
      refine Go.iald rfl rfl (am_in_nI (by omega) (by decide)) ?_
      rw [va_up_ne _ _ (by decide), nI_clamp (by omega), hl]
      refine Go.step rfl ?_
      refine Go.ifn (nI_ge (a := k) (b := len) (by omega) (by omega)) ?_
      iterate 9 refine Go.step rfl ?_
      rw [eA]
      refine Go.iald rfl rfl (am_in_nI (by omega) (by decide)) ?_
      rw [va_up_ne _ _ (by decide), nI_clamp (by omega), show I 74 (123 + 125 * u + 2 * k) = (tok u (f k)).1 by rw [← htk]]
      iterate 10 refine Go.step rfl ?_
      rw [eC]
      refine Go.iald rfl rfl (am_in_nI (by omega) (by decide)) ?_
      rw [va_up_ne _ _ (by decide), nI_clamp (by omega), show I 74 (124 + 125 * u + 2 * k) = (tok u (f k)).2 by rw [← htk]]
      rcases hw3 with ⟨q1, q2, q3, q4⟩ | ⟨q1, q2, q3, q4⟩ | ⟨q1, q2, q3, q4, q5⟩ | ⟨q1, q2, q3, q4, q5, q6⟩
      · rw [show tok u (f k) = (0, f k) by rw [tok, if_pos q1]]
        iterate 10 refine Go.step rfl ?_
        refine Go.iast rfl rfl (am_in_nI (by omega) (by decide)) ?_
        rw [vu_idem, vu_same, nI_clamp (by omega)]
        iterate 2 refine Go.step rfl ?_
        rw [nI_1]
        refine next _ _ _ _ q4 ?_
        rw [evA_num q1, hn]
        exact ag_push hg
      · have key : ∀ i : Nat, i < 3 → f k = nI (10000 + i) → ∀ ai, I 79 (nmc u i) = ai → nmd (f k - 10000) a1 a2 a3 = ai → Go 1 y_M_worked 52 [some (.ref 73), some (.int (nI u)), some (.int (nI (122 + 125 * u))), some (.int (nI n)), some (.int (nI k)), some (.int (tok u (f k)).1), t6] [.int (tok u (f k)).2] (hp (va_up I 80 g) T) (fun r h' => ∃ g, h' = hp (va_up I 80 g) T ∧ r = some (.int (evT f len a1 a2 a3))) := by
          intro i hi hf ai hai hnm
          have et : tok u (f k) = (1, nI (nmc u i)) := by
            rw [hf]
            rcases (show i = 0 ∨ i = 1 ∨ i = 2 by omega) with rfl | rfl | rfl <;> rcases (show u = 0 ∨ u = 1 by omega) with rfl | rfl <;> rfl
          have hb : nmc u i < 128 := by
            unfold nmc; split <;> (try split) <;> (try split) <;> omega
          rw [et]
          iterate 14 refine Go.step rfl ?_
          refine Go.iald rfl rfl (am_in_nI hb (by decide)) ?_
          rw [va_up_ne _ _ (by decide), nI_clamp (by omega), hai]
          refine Go.iast rfl rfl (am_in_nI (by omega) (by decide)) ?_
          rw [vu_idem, vu_same, nI_clamp (by omega)]
          iterate 2 refine Go.step rfl ?_
          rw [nI_1]
          refine next _ _ _ _ q4 ?_
          rw [evA_nam q1 q2, hn, hnm]
          exact ag_push hg
        rcases q3 with q3 | q3 | q3
        · exact key 0 (by omega) q3 a1 n1 (by rw [q3]; rfl)
        · exact key 1 (by omega) q3 a2 n2 (by rw [q3]; rfl)
        · exact key 2 (by omega) q3 a3 n3 (by rw [q3]; rfl)
      · rw [show tok u (f k) = (2, 0) by rw [tok, if_neg q1, if_neg q2, if_pos q3]]
        obtain ⟨n, rfl⟩ : ∃ n', n = n' + 1 := ⟨n - 1, by omega⟩
        iterate 19 refine Go.step rfl ?_
        rw [nI_pred]
        refine Go.iald rfl rfl (am_in_nI (by omega) (by decide)) ?_
        rw [vu_same, nI_clamp (by omega)]
        have e1 : evA f a1 a2 a3 (k + 1) = va_up (evA f a1 a2 a3 k) n (if g n = 0 then 1 else 0) := by
          rw [evA_not q1 q2 q3, hn, Nat.add_sub_cancel, hg n (by omega)]
        refine Go.step rfl ?_
        refine Go.ite (fun c1 => ?_) (fun c1 => ?_)
        · iterate 2 refine Go.step rfl ?_
          refine Go.iast rfl rfl (am_in_nI (by omega) (by decide)) ?_
          rw [vu_idem, vu_same, nI_clamp (by omega)]
          refine Go.step rfl ?_
          refine next _ _ _ _ q5 ?_
          rw [e1, if_pos c1]
          exact ag_at hg (Nat.le_refl _)
        · refine Go.step rfl ?_
          refine Go.iast rfl rfl (am_in_nI (by omega) (by decide)) ?_
          rw [vu_idem, vu_same, nI_clamp (by omega)]
          refine Go.step rfl ?_
          refine next _ _ _ _ q5 ?_
          rw [e1, if_neg c1]
          exact ag_at hg (Nat.le_refl _)
      · rw [show tok u (f k) = (3, f k - 20000) by rw [tok, if_neg q1, if_neg q2, if_neg q3]]
        obtain ⟨n, rfl⟩ : ∃ n', n = n' + 2 := ⟨n - 2, by omega⟩
        iterate 10 refine Go.step rfl ?_
        rw [nI_m1]
        iterate 11 refine Go.step rfl ?_
        rw [nI_pred]
        refine Go.iald rfl rfl (am_in_nI (by omega) (by decide)) ?_
        rw [vu_same, nI_clamp (by omega)]
        iterate 3 refine Go.step rfl ?_
        refine Go.iald rfl rfl (am_in_nI (by omega) (by decide)) ?_
        rw [vu_same, nI_clamp (by omega)]
        refine Go.cal (m_joined _ _ _ _ q4) (by decide) rfl ?_
        rintro _ _ ⟨rfl, rfl⟩
        refine Go.iast rfl rfl (am_in_nI (by omega) (by decide)) ?_
        rw [vu_idem, vu_same, nI_clamp (by omega)]
        refine next _ _ _ _ q6 ?_
        rw [evA_sig q1 q2 q3, hn, show n + 2 - 2 = n by omega, show n + 2 - 1 = n + 1 by omega, hg n (by omega), hg (n + 1) (by omega)]
        exact ag_at hg (by omega)
  iterate 5 refine Go.step rfl ?_
  rw [eB]
  iterate 5 refine Go.step rfl ?_
  have h1 := loop len 0 (by omega) (I 80) none none (fun j hj => absurd hj (by unfold dp; exact Nat.not_lt_zero j))
  rw [vu_self] at h1
  exact h1
