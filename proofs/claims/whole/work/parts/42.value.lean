/-! a text's value: the class -/
theorem nI_m1 (n : Nat) : nI (n + 1) + (-1) = nI n := by
  rw [← Int32.sub_eq_add_neg]; exact nI_pred n
theorem evA_num {f : Nat → Int32} {a1 a2 a3 : Int32} {k : Nat} (h : f k < 10000) : evA f a1 a2 a3 (k + 1) = va_up (evA f a1 a2 a3 k) (dp f k) (f k) := by
  rw [evA, if_pos h]
theorem evA_nam {f : Nat → Int32} {a1 a2 a3 : Int32} {k : Nat} (h : ¬ f k < 10000) (h2 : f k < 20000) : evA f a1 a2 a3 (k + 1) = va_up (evA f a1 a2 a3 k) (dp f k) (nmd (f k - 10000) a1 a2 a3) := by
  rw [evA, if_neg h, if_pos h2]
theorem evA_not {f : Nat → Int32} {a1 a2 a3 : Int32} {k : Nat} (h : ¬ f k < 10000) (h2 : ¬ f k < 20000) (h3 : f k = 20033) : evA f a1 a2 a3 (k + 1) = va_up (evA f a1 a2 a3 k) (dp f k - 1) (if evA f a1 a2 a3 k (dp f k - 1) = 0 then 1 else 0) := by
  rw [evA, if_neg h, if_neg h2, if_pos h3]
theorem evA_sig {f : Nat → Int32} {a1 a2 a3 : Int32} {k : Nat} (h : ¬ f k < 10000) (h2 : ¬ f k < 20000) (h3 : ¬ f k = 20033) : evA f a1 a2 a3 (k + 1) = va_up (evA f a1 a2 a3 k) (dp f k - 2) (jn (f k - 20000) (evA f a1 a2 a3 k (dp f k - 2)) (evA f a1 a2 a3 k (dp f k - 1))) := by
  rw [evA, if_neg h, if_neg h2, if_neg h3]
/-- a change of the pile on both sides keeps them alike below -/
theorem ag_push {g E : Nat → Int32} {n : Nat} {v : Int32} (h : ∀ j, j < n → g j = E j) : ∀ j, j < n + 1 → va_up g n v j = va_up E n v j := by
  intro j hj
  by_cases q : j = n
  · subst q; rw [vu_same, vu_same]
  · rw [va_up_ne _ _ q, va_up_ne _ _ q]; exact h j (by omega)
theorem ag_at {g E : Nat → Int32} {n m i : Nat} {v : Int32} (h : ∀ j, j < n → g j = E j) (hm : m ≤ n) : ∀ j, j < m → va_up g i v j = va_up E i v j := by
  intro j hj
  by_cases q : j = i
  · subst q; rw [vu_same, vu_same]
  · rw [va_up_ne _ _ q, va_up_ne _ _ q]; exact h j (by omega)
theorem x_value_loop (I : AI) (T : AT) (a w len stk : Nat) (a1 a2 a3 : Int32) (hSa : sS T.2.2.2.2.2.2 T.2.2.2.1 a = (15, 1)) (hPa : sP T.1 T.2.1 T.2.2.1 a 0 = some w) (hSw : sS T.2.2.2.2.2.2 T.2.2.2.1 w = (0, len)) (hSk : sS T.2.2.2.2.2.2 T.2.2.2.1 stk = (0, 60)) (hne : w ≠ stk) (hwf : wfT (I w) len) : ∀ m k, k + m = len → ∀ (g : Nat → Int32) (t7 : Option Value), (∀ j, j < dp (I w) k → g j = evA (I w) a1 a2 a3 k j) → Go 1 y_Text_value 6 [some (.ref a), some (.ref stk), some (.int a1), some (.int a2), some (.int a3), some (.int (nI (dp (I w) k))), some (.int (nI k)), t7] [] (hp (va_up I stk g) T) (fun r h' => ∃ g, h' = hp (va_up I stk g) T ∧ r = some (.int (evT (I w) len a1 a2 a3))) := by
  have hlen := hwf.2.1
  intro m
  induction m with
  | zero =>
    intro k hk g t7 hg
    have : k = len := by omega
    subst this
    have hd : dp (I w) k = 1 := by unfold dp; rw [hwf.2.2.2.1]; rfl
    rw [hd] at hg ⊢
    iterate 2 refine Go.step rfl ?_
    refine Go.getr rfl hSa rfl hPa ?_
    refine Go.alen rfl hSw rfl ?_
    refine Go.step rfl ?_
    refine Go.ite (fun c1 => ?_) (fun c1 => ?_)
    · iterate 4 refine Go.step rfl ?_
      refine Go.iald rfl hSk rfl ?_
      refine Go.step rfl ?_
      refine Go.ret rfl ⟨g, rfl, ?_⟩
      show some (Value.int (va_up I stk g stk 0)) = _
      rw [vu_same, hg 0 (by omega)]
      rfl
    · exact absurd (Int32.le_refl _) c1
  | succ m ih =>
    intro k hk g t7 hg
    have hw := wf_word hwf (k := k) (by omega)
    have eI : ∀ g' : Nat → Int32, va_up I stk g' w = I w := fun g' => va_up_ne _ _ hne
    have next : ∀ (g' : Nat → Int32) (n' : Nat) (t : Option Value), dp (I w) (k + 1) = n' → (∀ j, j < n' → g' j = evA (I w) a1 a2 a3 (k + 1) j) → Go 1 y_Text_value 146 [some (.ref a), some (.ref stk), some (.int a1), some (.int a2), some (.int a3), some (.int (nI n')), some (.int (nI k)), t] [] (hp (va_up I stk g') T) (fun r h' => ∃ g, h' = hp (va_up I stk g) T ∧ r = some (.int (evT (I w) len a1 a2 a3))) := by
      intro g' n' t hn' hg'
      iterate 2 refine Go.step rfl ?_
      have := ih (k + 1) (by omega) g' t (by rw [hn']; exact hg')
      rw [hn'] at this
      rw [show nI k + 1 = nI (k + 1) from nI_1 k]
      exact this
    obtain ⟨hw1, hw2, hw3⟩ := hw
    generalize hn : dp (I w) k = n at hg hw2 hw3 ⊢
    iterate 2 refine Go.step rfl ?_
    refine Go.getr rfl hSa rfl hPa ?_
    refine Go.alen rfl hSw rfl ?_
    refine Go.step rfl ?_
    refine Go.ite (fun c1 => absurd c1 (nI_ge (a := k) (b := len) (by omega) (by omega))) (fun _ => ?_)
    refine Go.step rfl ?_
    refine Go.getr rfl hSa rfl hPa ?_
    refine Go.step rfl ?_
    refine Go.iald rfl hSw (am_in_nI (by omega) (by omega)) ?_
    rw [eI, nI_clamp (by omega)]
    iterate 4 refine Go.step rfl ?_
    rcases hw3 with ⟨q1, q2, q3, q4⟩ | ⟨q1, q2, q3, q4⟩ | ⟨q1, q2, q3, q4, q5⟩ | ⟨q1, q2, q3, q4, q5, q6⟩
    · refine Go.ite (fun c1 => absurd q3 (Int32.not_lt.mpr c1)) (fun _ => ?_)
      iterate 2 refine Go.step rfl ?_
      refine Go.alen rfl hSk rfl ?_
      refine Go.step rfl ?_
      refine Go.ite (fun c1 => absurd c1 (nI_ge (a := n) (b := 60) (by omega) (by decide))) (fun _ => ?_)
      iterate 5 refine Go.step rfl ?_
      refine Go.ite (fun c1 => absurd q1 (Int32.not_lt.mpr c1)) (fun _ => ?_)
      iterate 2 refine Go.step rfl ?_
      refine Go.iast rfl hSk (am_in_nI (by omega) (by decide)) ?_
      rw [vu_idem, vu_same, nI_clamp (by omega)]
      iterate 2 refine Go.step rfl ?_
      rw [nI_1]
      refine next _ _ _ q4 ?_
      rw [evA_num q1, hn]
      exact ag_push hg
    · refine Go.ite (fun c1 => absurd q2 (Int32.not_lt.mpr c1)) (fun _ => ?_)
      iterate 2 refine Go.step rfl ?_
      refine Go.alen rfl hSk rfl ?_
      refine Go.step rfl ?_
      refine Go.ite (fun c1 => absurd c1 (nI_ge (a := n) (b := 60) (by omega) (by decide))) (fun _ => ?_)
      iterate 5 refine Go.step rfl ?_
      refine Go.ite (fun c1 => ?_) (fun c1 => absurd (Int32.not_lt.mp q1) c1)
      iterate 6 refine Go.step rfl ?_
      refine Go.cal (x_named _ _ _ _ _) (by decide) rfl ?_
      rintro _ _ ⟨rfl, rfl⟩
      refine Go.iast rfl hSk (am_in_nI (by omega) (by decide)) ?_
      rw [vu_idem, vu_same, nI_clamp (by omega)]
      iterate 2 refine Go.step rfl ?_
      rw [nI_1]
      refine next _ _ _ q4 ?_
      rw [evA_nam q1 q2, hn]
      exact ag_push hg
    · obtain ⟨n, rfl⟩ : ∃ n', n = n' + 1 := ⟨n - 1, by omega⟩
      refine Go.ite (fun c1 => ?_) (fun c1 => absurd (Int32.not_lt.mp q2) c1)
      iterate 3 refine Go.step rfl ?_
      refine Go.ite (fun c1 => ?_) (fun c1 => absurd q3 c1)
      iterate 2 refine Go.step rfl ?_
      refine Go.ite (fun c1 => absurd c1 (nI_nle (by omega) (by omega))) (fun _ => ?_)
      iterate 8 refine Go.step rfl ?_
      rw [nI_pred]
      refine Go.iald rfl hSk (am_in_nI (by omega) (by decide)) ?_
      rw [vu_same, nI_clamp (by omega)]
      have e1 : evA (I w) a1 a2 a3 (k + 1) = va_up (evA (I w) a1 a2 a3 k) n (if g n = 0 then 1 else 0) := by
        rw [evA_not q1 q2 q3, hn, Nat.add_sub_cancel, hg n (by omega)]
      refine Go.step rfl ?_
      refine Go.ite (fun c1 => ?_) (fun c1 => ?_)
      · iterate 2 refine Go.step rfl ?_
        refine Go.iast rfl hSk (am_in_nI (by omega) (by decide)) ?_
        rw [vu_idem, vu_same, nI_clamp (by omega)]
        refine Go.step rfl ?_
        refine next _ _ _ q5 ?_
        rw [e1, if_pos c1]
        exact ag_at hg (Nat.le_refl _)
      · refine Go.step rfl ?_
        refine Go.iast rfl hSk (am_in_nI (by omega) (by decide)) ?_
        rw [vu_idem, vu_same, nI_clamp (by omega)]
        refine Go.step rfl ?_
        refine next _ _ _ q5 ?_
        rw [e1, if_neg c1]
        exact ag_at hg (Nat.le_refl _)
    · obtain ⟨n, rfl⟩ : ∃ n', n = n' + 2 := ⟨n - 2, by omega⟩
      refine Go.ite (fun c1 => ?_) (fun c1 => absurd (Int32.not_lt.mp q2) c1)
      iterate 3 refine Go.step rfl ?_
      refine Go.ite (fun c1 => absurd c1 q3) (fun _ => ?_)
      iterate 3 refine Go.step rfl ?_
      refine Go.ite (fun c1 => absurd c1 (nI_ge (a := 1) (b := n + 2) (by omega) (by omega))) (fun _ => ?_)
      refine Go.step rfl ?_
      rw [nI_m1]
      iterate 11 refine Go.step rfl ?_
      rw [nI_pred]
      refine Go.iald rfl hSk (am_in_nI (by omega) (by decide)) ?_
      rw [vu_same, nI_clamp (by omega)]
      iterate 2 refine Go.step rfl ?_
      refine Go.iald rfl hSk (am_in_nI (by omega) (by decide)) ?_
      rw [vu_same, nI_clamp (by omega)]
      refine Go.cal (x_joined _ _ _ _ q4) (by decide) rfl ?_
      rintro _ _ ⟨rfl, rfl⟩
      refine Go.iast rfl hSk (am_in_nI (by omega) (by decide)) ?_
      rw [vu_idem, vu_same, nI_clamp (by omega)]
      refine next _ _ _ q6 ?_
      rw [evA_sig q1 q2 q3, hn, show n + 2 - 2 = n by omega, show n + 2 - 1 = n + 1 by omega, hg n (by omega), hg (n + 1) (by omega)]
      exact ag_at hg (by omega)
theorem x_value (I : AI) (T : AT) (a w len stk : Nat) (a1 a2 a3 : Int32) (hSa : sS T.2.2.2.2.2.2 T.2.2.2.1 a = (15, 1)) (hPa : sP T.1 T.2.1 T.2.2.1 a 0 = some w) (hSw : sS T.2.2.2.2.2.2 T.2.2.2.1 w = (0, len)) (hSk : sS T.2.2.2.2.2.2 T.2.2.2.1 stk = (0, 60)) (hne : w ≠ stk) (hwf : wfT (I w) len) : Ct 1 y_Text_value [.ref a, .ref stk, .int a1, .int a2, .int a3] (hp I T) (fun r h' => ∃ g, h' = hp (va_up I stk g) T ∧ r = some (.int (evT (I w) len a1 a2 a3))) := by
  iterate 4 refine Go.step rfl ?_
  have h1 := x_value_loop I T a w len stk a1 a2 a3 hSa hPa hSw hSk hne hwf len 0 (by omega) (I stk) none (fun j hj => absurd hj (by unfold dp; exact Nat.not_lt_zero j))
  have e1 : va_up I stk (I stk) = I := by
    funext j
    by_cases hj : j = stk
    · subst hj; rw [vu_same]
    · rw [va_up_ne _ _ hj]
  rw [e1] at h1
  exact h1
