/-! sums over boats; count -/
theorem win_lo {a b : Nat} {v : Int32} (ha : a < 2 ^ 31) (hb : b < 2 ^ 31) (h : win v (nI a) (nI b) = true) : ∃ j, a ≤ j ∧ j ≤ b ∧ v = nI j := by
  simp only [win, Bool.and_eq_true, decide_eq_true_eq] at h
  have h0 : ¬ v < 0 := fun q => absurd (Int32.lt_of_le_of_lt h.1 q) (nI_pos ha)
  obtain ⟨j, hj, rfl⟩ := nI_of2 (nI_toInt hb) h0 h.2
  exact ⟨j, (nI_leI ha (by omega)).mp h.1, hj, rfl⟩
def sm (s : Nat → Int32) (f : Nat) : Nat → Int32
  | 0 => 0
  | k + 1 => sm s f k + s (58 + 8 * k + f)
theorem m_allOf (I : AI) (T : AT) (hs : sOK (I 74)) (f : Nat) (hf : f < 8) : Ct 1 y_M_allOf [.ref 73, .int (nI f)] (hp I T) (fun r h' => h' = hp I T ∧ r = some (.int (sm (I 74) f (cl (I 74 0))))) := by
  obtain ⟨en, hn⟩ := hs.1.eq (by decide)
  have loop : ∀ m k, k + m = cl (I 74 0) → Go 1 y_M_allOf 4 [some (.ref 73), some (.int (nI f)), some (.int (sm (I 74) f k)), some (.int (nI k))] [] (hp I T) (fun r h' => h' = hp I T ∧ r = some (.int (sm (I 74) f (cl (I 74 0))))) := by
    intro m
    induction m with
    | zero =>
      intro k hk
      have : k = cl (I 74 0) := by omega
      subst this
      iterate 5 refine Go.step rfl ?_
      rw [show I 74 (Int32.toNatClampNeg 0) = nI (cl (I 74 0)) from en]
      refine Go.step rfl ?_
      refine Go.ifp (Int32.le_refl _) ?_
      refine Go.step rfl ?_
      exact Go.ret rfl ⟨rfl, rfl⟩
    | succ m ih =>
      intro k hk
      iterate 5 refine Go.step rfl ?_
      rw [show I 74 (Int32.toNatClampNeg 0) = nI (cl (I 74 0)) from en]
      refine Go.step rfl ?_
      refine Go.ifn (nI_ge (a := k) (b := cl (I 74 0)) (by omega) (by omega)) ?_
      iterate 4 refine Go.step rfl ?_
      refine Go.cal (m_its I T k f (by omega) hf) (by decide) rfl ?_
      rintro _ _ ⟨rfl, rfl⟩
      iterate 4 refine Go.step rfl ?_
      rw [show nI k + 1 = nI (k + 1) from nI_1 k]
      exact ih (k + 1) (by omega)
  iterate 4 refine Go.step rfl ?_
  exact loop (cl (I 74 0)) 0 (by omega)
theorem x_owed_1 (I : AI) (T : AT) (s : Nat → Int32) (hs : sOK s) (hX : XSea I T 1 0 s) : Ct 1 y_Sea_owed [.ref 1] (hp I T) (fun r h' => h' = hp I T ∧ r = some (.int (sm s 5 (cl (s 0))))) := by
  obtain ⟨en, hn⟩ := hs.1.eq (by decide)
  have loop : ∀ m k, k + m = cl (s 0) → Go 1 y_Sea_owed 4 [some (.ref 1), some (.int (sm s 5 k)), some (.int (nI k))] [] (hp I T) (fun r h' => h' = hp I T ∧ r = some (.int (sm s 5 (cl (s 0))))) := by
    intro m
    induction m with
    | zero =>
      intro k hk
      have : k = cl (s 0) := by omega
      subst this
      iterate 3 refine Go.step rfl ?_
      rw [show I 1 1 = nI (cl (s 0)) from hX.2.1.trans en]
      refine Go.step rfl ?_
      refine Go.ifp (Int32.le_refl _) ?_
      refine Go.step rfl ?_
      exact Go.ret rfl ⟨rfl, rfl⟩
    | succ m ih =>
      intro k hk
      have hk8 : k < 8 := by omega
      iterate 3 refine Go.step rfl ?_
      rw [show I 1 1 = nI (cl (s 0)) from hX.2.1.trans en]
      refine Go.step rfl ?_
      refine Go.ifn (nI_ge (a := k) (b := cl (s 0)) (by omega) (by omega)) ?_
      iterate 4 refine Go.step rfl ?_
      refine Go.aald rfl rfl rfl (am_in_nI hk8 (by decide)) (by rw [nI_clamp (by omega)]; exact sP_boats T (B := 1) (Or.inl rfl) hk8) ?_
      refine Go.geti rfl (sS_boat _ _ (B := 1) (Or.inl rfl) hk8) (Or.inl rfl) ?_
      rw [show I ((1 + 8) + k) 5 = s (58 + 8 * k + 5) from hX.2.2.2.2.1 k 5 (by omega) hk8 (by decide)]
      iterate 4 refine Go.step rfl ?_
      rw [show nI k + 1 = nI (k + 1) from nI_1 k]
      exact ih (k + 1) (by omega)
  iterate 4 refine Go.step rfl ?_
  exact loop (cl (s 0)) 0 (by omega)
theorem x_used_1 (I : AI) (T : AT) (s : Nat → Int32) (hs : sOK s) (hX : XSea I T 1 0 s) : Ct 1 y_Sea_used [.ref 1] (hp I T) (fun r h' => h' = hp I T ∧ r = some (.int (sm s 6 (cl (s 0))))) := by
  obtain ⟨en, hn⟩ := hs.1.eq (by decide)
  have loop : ∀ m k, k + m = cl (s 0) → Go 1 y_Sea_used 4 [some (.ref 1), some (.int (sm s 6 k)), some (.int (nI k))] [] (hp I T) (fun r h' => h' = hp I T ∧ r = some (.int (sm s 6 (cl (s 0))))) := by
    intro m
    induction m with
    | zero =>
      intro k hk
      have : k = cl (s 0) := by omega
      subst this
      iterate 3 refine Go.step rfl ?_
      rw [show I 1 1 = nI (cl (s 0)) from hX.2.1.trans en]
      refine Go.step rfl ?_
      refine Go.ifp (Int32.le_refl _) ?_
      refine Go.step rfl ?_
      exact Go.ret rfl ⟨rfl, rfl⟩
    | succ m ih =>
      intro k hk
      have hk8 : k < 8 := by omega
      iterate 3 refine Go.step rfl ?_
      rw [show I 1 1 = nI (cl (s 0)) from hX.2.1.trans en]
      refine Go.step rfl ?_
      refine Go.ifn (nI_ge (a := k) (b := cl (s 0)) (by omega) (by omega)) ?_
      iterate 4 refine Go.step rfl ?_
      refine Go.aald rfl rfl rfl (am_in_nI hk8 (by decide)) (by rw [nI_clamp (by omega)]; exact sP_boats T (B := 1) (Or.inl rfl) hk8) ?_
      refine Go.geti rfl (sS_boat _ _ (B := 1) (Or.inl rfl) hk8) (Or.inl rfl) ?_
      rw [show I ((1 + 8) + k) 6 = s (58 + 8 * k + 6) from hX.2.2.2.2.1 k 6 (by omega) hk8 (by decide)]
      iterate 4 refine Go.step rfl ?_
      rw [show nI k + 1 = nI (k + 1) from nI_1 k]
      exact ih (k + 1) (by omega)
  iterate 4 refine Go.step rfl ?_
  exact loop (cl (s 0)) 0 (by omega)
theorem x_owed_17 (I : AI) (T : AT) (s : Nat → Int32) (hs : sOK s) (hX : XSea I T 17 1 s) : Ct 1 y_Sea_owed [.ref 17] (hp I T) (fun r h' => h' = hp I T ∧ r = some (.int (sm s 5 (cl (s 0))))) := by
  obtain ⟨en, hn⟩ := hs.1.eq (by decide)
  have loop : ∀ m k, k + m = cl (s 0) → Go 1 y_Sea_owed 4 [some (.ref 17), some (.int (sm s 5 k)), some (.int (nI k))] [] (hp I T) (fun r h' => h' = hp I T ∧ r = some (.int (sm s 5 (cl (s 0))))) := by
    intro m
    induction m with
    | zero =>
      intro k hk
      have : k = cl (s 0) := by omega
      subst this
      iterate 3 refine Go.step rfl ?_
      rw [show I 17 1 = nI (cl (s 0)) from hX.2.1.trans en]
      refine Go.step rfl ?_
      refine Go.ifp (Int32.le_refl _) ?_
      refine Go.step rfl ?_
      exact Go.ret rfl ⟨rfl, rfl⟩
    | succ m ih =>
      intro k hk
      have hk8 : k < 8 := by omega
      iterate 3 refine Go.step rfl ?_
      rw [show I 17 1 = nI (cl (s 0)) from hX.2.1.trans en]
      refine Go.step rfl ?_
      refine Go.ifn (nI_ge (a := k) (b := cl (s 0)) (by omega) (by omega)) ?_
      iterate 4 refine Go.step rfl ?_
      refine Go.aald rfl rfl rfl (am_in_nI hk8 (by decide)) (by rw [nI_clamp (by omega)]; exact sP_boats T (B := 17) (Or.inr (Or.inl rfl)) hk8) ?_
      refine Go.geti rfl (sS_boat _ _ (B := 17) (Or.inr (Or.inl rfl)) hk8) (Or.inl rfl) ?_
      rw [show I ((17 + 8) + k) 5 = s (58 + 8 * k + 5) from hX.2.2.2.2.1 k 5 (by omega) hk8 (by decide)]
      iterate 4 refine Go.step rfl ?_
      rw [show nI k + 1 = nI (k + 1) from nI_1 k]
      exact ih (k + 1) (by omega)
  iterate 4 refine Go.step rfl ?_
  exact loop (cl (s 0)) 0 (by omega)
theorem x_used_17 (I : AI) (T : AT) (s : Nat → Int32) (hs : sOK s) (hX : XSea I T 17 1 s) : Ct 1 y_Sea_used [.ref 17] (hp I T) (fun r h' => h' = hp I T ∧ r = some (.int (sm s 6 (cl (s 0))))) := by
  obtain ⟨en, hn⟩ := hs.1.eq (by decide)
  have loop : ∀ m k, k + m = cl (s 0) → Go 1 y_Sea_used 4 [some (.ref 17), some (.int (sm s 6 k)), some (.int (nI k))] [] (hp I T) (fun r h' => h' = hp I T ∧ r = some (.int (sm s 6 (cl (s 0))))) := by
    intro m
    induction m with
    | zero =>
      intro k hk
      have : k = cl (s 0) := by omega
      subst this
      iterate 3 refine Go.step rfl ?_
      rw [show I 17 1 = nI (cl (s 0)) from hX.2.1.trans en]
      refine Go.step rfl ?_
      refine Go.ifp (Int32.le_refl _) ?_
      refine Go.step rfl ?_
      exact Go.ret rfl ⟨rfl, rfl⟩
    | succ m ih =>
      intro k hk
      have hk8 : k < 8 := by omega
      iterate 3 refine Go.step rfl ?_
      rw [show I 17 1 = nI (cl (s 0)) from hX.2.1.trans en]
      refine Go.step rfl ?_
      refine Go.ifn (nI_ge (a := k) (b := cl (s 0)) (by omega) (by omega)) ?_
      iterate 4 refine Go.step rfl ?_
      refine Go.aald rfl rfl rfl (am_in_nI hk8 (by decide)) (by rw [nI_clamp (by omega)]; exact sP_boats T (B := 17) (Or.inr (Or.inl rfl)) hk8) ?_
      refine Go.geti rfl (sS_boat _ _ (B := 17) (Or.inr (Or.inl rfl)) hk8) (Or.inl rfl) ?_
      rw [show I ((17 + 8) + k) 6 = s (58 + 8 * k + 6) from hX.2.2.2.2.1 k 6 (by omega) hk8 (by decide)]
      iterate 4 refine Go.step rfl ?_
      rw [show nI k + 1 = nI (k + 1) from nI_1 k]
      exact ih (k + 1) (by omega)
  iterate 4 refine Go.step rfl ?_
  exact loop (cl (s 0)) 0 (by omega)
def sp_count (J : AI) (w : Int32) : AI × Int32 := if w = 0 then (J, J 74 0) else if w = 1 then (J, J 74 1) else if w = 2 then (J, kn (J 74)) else if w = 3 then (J, wy (J 74)) else if w = 4 then (J, sm (J 74) 5 (cl (J 74 0))) else if w = 5 then (J, sm (J 74) 6 (cl (J 74 0))) else if w = 6 then (J, J 74 2) else if w = 7 then (J, J 74 3) else if w = 8 then (J, J 73 18) else if w = 9 then (J, J 74 4) else bif win w 10 13 then (J, J 74 (cl w - 5)) else (er J 1, LO 1)
theorem x_count (xs : Nat → Int32) (I : AI) (T : AT) (J : AI) (hG : XG xs I T J) (w : Int32) : Ct 3 y_X_count [.ref 0, .int w] (hp I T) (XP xs I T (sp_count J w)) := by
  obtain ⟨x1, x2, x3, x4, x5, x6⟩ := id hG.2.1
  have hs := id hG.1
  iterate 2 refine Go.step rfl ?_
  rcases am_ts_spec w 136 [56, 64, 72, 80, 88, 96, 104, 112, 120, 128] 0 with ⟨j, tt, h1, h2, h3⟩ | ⟨h1, h2⟩
  · rw [h3]
    have hj : j < 10 := (List.getElem?_eq_some_iff.mp h1).1
    rcases (show j = 0 ∨ j = 1 ∨ j = 2 ∨ j = 3 ∨ j = 4 ∨ j = 5 ∨ j = 6 ∨ j = 7 ∨ j = 8 ∨ j = 9 by omega) with rfl | rfl | rfl | rfl | rfl | rfl | rfl | rfl | rfl | rfl
    · cases h1
      have e : sp_count J w = (J, J 74 0) := by rw [h2]; unfold sp_count; rw [if_pos (by decide)]
      rw [e]
      iterate 3 refine Go.step rfl ?_
      exact Go.ret rfl ⟨I, rfl, fun _ _ _ => rfl, hG, congrArg (fun z => some (Value.int z)) x2⟩
    · cases h1
      have e : sp_count J w = (J, J 74 1) := by rw [h2]; unfold sp_count; rw [if_neg (by decide), if_pos (by decide)]
      rw [e]
      iterate 3 refine Go.step rfl ?_
      exact Go.ret rfl ⟨I, rfl, fun _ _ _ => rfl, hG, congrArg (fun z => some (Value.int z)) x1⟩
    · cases h1
      have e : sp_count J w = (J, kn (J 74)) := by rw [h2]; unfold sp_count; rw [if_neg (by decide), if_neg (by decide), if_pos (by decide)]
      rw [e]
      iterate 2 refine Go.step rfl ?_
      refine Go.cal (x_knots_1 I T _ hs hG.2.1) (by decide) rfl ?_
      rintro _ _ ⟨rfl, rfl⟩
      exact Go.ret rfl ⟨I, rfl, fun _ _ _ => rfl, hG, rfl⟩
    · cases h1
      have e : sp_count J w = (J, wy (J 74)) := by rw [h2]; unfold sp_count; rw [if_neg (by decide), if_neg (by decide), if_neg (by decide), if_pos (by decide)]
      rw [e]
      iterate 2 refine Go.step rfl ?_
      refine Go.cal (x_way_1 I T _ hs hG.2.1) (by decide) rfl ?_
      rintro _ _ ⟨rfl, rfl⟩
      exact Go.ret rfl ⟨I, rfl, fun _ _ _ => rfl, hG, rfl⟩
    · cases h1
      have e : sp_count J w = (J, sm (J 74) 5 (cl (J 74 0))) := by rw [h2]; unfold sp_count; rw [if_neg (by decide), if_neg (by decide), if_neg (by decide), if_neg (by decide), if_pos (by decide)]
      rw [e]
      iterate 2 refine Go.step rfl ?_
      refine Go.cal (x_owed_1 I T _ hs hG.2.1) (by decide) rfl ?_
      rintro _ _ ⟨rfl, rfl⟩
      exact Go.ret rfl ⟨I, rfl, fun _ _ _ => rfl, hG, rfl⟩
    · cases h1
      have e : sp_count J w = (J, sm (J 74) 6 (cl (J 74 0))) := by rw [h2]; unfold sp_count; rw [if_neg (by decide), if_neg (by decide), if_neg (by decide), if_neg (by decide), if_neg (by decide), if_pos (by decide)]
      rw [e]
      iterate 2 refine Go.step rfl ?_
      refine Go.cal (x_used_1 I T _ hs hG.2.1) (by decide) rfl ?_
      rintro _ _ ⟨rfl, rfl⟩
      exact Go.ret rfl ⟨I, rfl, fun _ _ _ => rfl, hG, rfl⟩
    · cases h1
      have e : sp_count J w = (J, J 74 2) := by rw [h2]; unfold sp_count; rw [if_neg (by decide), if_neg (by decide), if_neg (by decide), if_neg (by decide), if_neg (by decide), if_neg (by decide), if_pos (by decide)]
      rw [e]
      iterate 3 refine Go.step rfl ?_
      exact Go.ret rfl ⟨I, rfl, fun _ _ _ => rfl, hG, congrArg (fun z => some (Value.int z)) hG.2.2.1.1⟩
    · cases h1
      have e : sp_count J w = (J, J 74 3) := by rw [h2]; unfold sp_count; rw [if_neg (by decide), if_neg (by decide), if_neg (by decide), if_neg (by decide), if_neg (by decide), if_neg (by decide), if_neg (by decide), if_pos (by decide)]
      rw [e]
      iterate 3 refine Go.step rfl ?_
      exact Go.ret rfl ⟨I, rfl, fun _ _ _ => rfl, hG, congrArg (fun z => some (Value.int z)) hG.2.2.1.2.1⟩
    · cases h1
      have e : sp_count J w = (J, J 73 18) := by rw [h2]; unfold sp_count; rw [if_neg (by decide), if_neg (by decide), if_neg (by decide), if_neg (by decide), if_neg (by decide), if_neg (by decide), if_neg (by decide), if_neg (by decide), if_pos (by decide)]
      rw [e]
      iterate 3 refine Go.step rfl ?_
      exact Go.ret rfl ⟨I, rfl, fun _ _ _ => rfl, hG, congrArg (fun z => some (Value.int z)) hG.2.2.2.2.2.2.2.1.1⟩
    · cases h1
      have e : sp_count J w = (J, J 74 4) := by rw [h2]; unfold sp_count; rw [if_neg (by decide), if_neg (by decide), if_neg (by decide), if_neg (by decide), if_neg (by decide), if_neg (by decide), if_neg (by decide), if_neg (by decide), if_neg (by decide), if_pos (by decide)]
      rw [e]
      iterate 3 refine Go.step rfl ?_
      exact Go.ret rfl ⟨I, rfl, fun _ _ _ => rfl, hG, congrArg (fun z => some (Value.int z)) hG.2.2.1.2.2.1⟩
  · rw [h2]
    have e : sp_count J w = bif win w 10 13 then (J, J 74 (cl w - 5)) else (er J 1, LO 1) := by
      unfold sp_count
      rw [if_neg (show ¬ w = 0 from h1 0 (by decide)), if_neg (show ¬ w = 1 from h1 1 (by decide)), if_neg (show ¬ w = 2 from h1 2 (by decide)), if_neg (show ¬ w = 3 from h1 3 (by decide)), if_neg (show ¬ w = 4 from h1 4 (by decide)), if_neg (show ¬ w = 5 from h1 5 (by decide)), if_neg (show ¬ w = 6 from h1 6 (by decide)), if_neg (show ¬ w = 7 from h1 7 (by decide)), if_neg (show ¬ w = 8 from h1 8 (by decide)), if_neg (show ¬ w = 9 from h1 9 (by decide))]
    rw [e]
    iterate 3 refine Go.step rfl ?_
    refine Go.cal (x_within _ w 10 13) (by decide) rfl ?_
    rintro _ _ ⟨rfl, rfl⟩
    refine Go.step rfl ?_
    refine Go.ifz (fun c1 => ?_) (fun c1 => ?_)
    · iterate 2 refine Go.step rfl ?_
      exact x_err (k := 1) hG (by decide) (by decide) (by rw [c1]; rfl) rfl rfl rfl (by decide)
    · obtain ⟨k, hk1, hk2, rfl⟩ := win_lo (a := 10) (b := 13) (by decide) (by decide) c1
      have hcl : cl (nI k) = k := nI_clamp (by omega)
      iterate 6 refine Go.step rfl ?_
      rw [show nI k - 10 = nI (k - 10) from nI_sub (b := 10) hk1]
      refine Go.iald rfl rfl (am_in_nI (by omega) (by decide)) ?_
      refine Go.step rfl ?_
      refine Go.ret rfl ?_
      rw [c1, nI_clamp (by omega)]
      refine ⟨I, rfl, fun _ _ _ => rfl, hG, ?_⟩
      show some (Value.int (I 3 (k - 10))) = some (Value.int (J 74 (cl (nI k) - 5)))
      rw [hcl, show k - 5 = 5 + (k - 10) by omega, show I 3 (k - 10) = J 74 (5 + (k - 10)) from x4 _ (by omega)]
theorem m_count (I : AI) (T : AT) (hs : sOK (I 74)) (w : Int32) : Ct 2 y_M_count [.ref 73, .int w] (hp I T) (MP I T (sp_count I w)) := by
  obtain ⟨eh, hh⟩ := hs.2.1.eq (by decide)
  iterate 2 refine Go.step rfl ?_
  rcases am_ts_spec w 119 [56, 63, 70, 75, 80, 86, 93, 100, 107, 112] 0 with ⟨j, tt, h1, h2, h3⟩ | ⟨h1, h2⟩
  · rw [h3]
    have hj : j < 10 := (List.getElem?_eq_some_iff.mp h1).1
    rcases (show j = 0 ∨ j = 1 ∨ j = 2 ∨ j = 3 ∨ j = 4 ∨ j = 5 ∨ j = 6 ∨ j = 7 ∨ j = 8 ∨ j = 9 by omega) with rfl | rfl | rfl | rfl | rfl | rfl | rfl | rfl | rfl | rfl
    · cases h1
      have e : sp_count I w = (I, I 74 0) := by rw [h2]; unfold sp_count; rw [if_pos (by decide)]
      rw [e]
      iterate 4 refine Go.step rfl ?_
      exact Go.ret rfl ⟨rfl, rfl⟩
    · cases h1
      have e : sp_count I w = (I, I 74 1) := by rw [h2]; unfold sp_count; rw [if_neg (by decide), if_pos (by decide)]
      rw [e]
      iterate 4 refine Go.step rfl ?_
      exact Go.ret rfl ⟨rfl, rfl⟩
    · cases h1
      have e : sp_count I w = (I, kn (I 74)) := by rw [h2]; unfold sp_count; rw [if_neg (by decide), if_neg (by decide), if_pos (by decide)]
      rw [e]
      refine Go.step rfl ?_
      refine Go.cal (m_knots I T (cl (I 74 1)) eh (by omega)) (by decide) rfl ?_
      rintro _ _ ⟨rfl, rfl⟩
      exact Go.ret rfl ⟨rfl, rfl⟩
    · cases h1
      have e : sp_count I w = (I, wy (I 74)) := by rw [h2]; unfold sp_count; rw [if_neg (by decide), if_neg (by decide), if_neg (by decide), if_pos (by decide)]
      rw [e]
      refine Go.step rfl ?_
      refine Go.cal (m_way I T (cl (I 74 1)) eh (by omega)) (by decide) rfl ?_
      rintro _ _ ⟨rfl, rfl⟩
      exact Go.ret rfl ⟨rfl, rfl⟩
    · cases h1
      have e : sp_count I w = (I, sm (I 74) 5 (cl (I 74 0))) := by rw [h2]; unfold sp_count; rw [if_neg (by decide), if_neg (by decide), if_neg (by decide), if_neg (by decide), if_pos (by decide)]
      rw [e]
      iterate 2 refine Go.step rfl ?_
      refine Go.cal (m_allOf I T hs 5 (by decide)) (by decide) rfl ?_
      rintro _ _ ⟨rfl, rfl⟩
      exact Go.ret rfl ⟨rfl, rfl⟩
    · cases h1
      have e : sp_count I w = (I, sm (I 74) 6 (cl (I 74 0))) := by rw [h2]; unfold sp_count; rw [if_neg (by decide), if_neg (by decide), if_neg (by decide), if_neg (by decide), if_neg (by decide), if_pos (by decide)]
      rw [e]
      iterate 2 refine Go.step rfl ?_
      refine Go.cal (m_allOf I T hs 6 (by decide)) (by decide) rfl ?_
      rintro _ _ ⟨rfl, rfl⟩
      exact Go.ret rfl ⟨rfl, rfl⟩
    · cases h1
      have e : sp_count I w = (I, I 74 2) := by rw [h2]; unfold sp_count; rw [if_neg (by decide), if_neg (by decide), if_neg (by decide), if_neg (by decide), if_neg (by decide), if_neg (by decide), if_pos (by decide)]
      rw [e]
      iterate 4 refine Go.step rfl ?_
      exact Go.ret rfl ⟨rfl, rfl⟩
    · cases h1
      have e : sp_count I w = (I, I 74 3) := by rw [h2]; unfold sp_count; rw [if_neg (by decide), if_neg (by decide), if_neg (by decide), if_neg (by decide), if_neg (by decide), if_neg (by decide), if_neg (by decide), if_pos (by decide)]
      rw [e]
      iterate 4 refine Go.step rfl ?_
      exact Go.ret rfl ⟨rfl, rfl⟩
    · cases h1
      have e : sp_count I w = (I, I 73 18) := by rw [h2]; unfold sp_count; rw [if_neg (by decide), if_neg (by decide), if_neg (by decide), if_neg (by decide), if_neg (by decide), if_neg (by decide), if_neg (by decide), if_neg (by decide), if_pos (by decide)]
      rw [e]
      iterate 2 refine Go.step rfl ?_
      exact Go.ret rfl ⟨rfl, rfl⟩
    · cases h1
      have e : sp_count I w = (I, I 74 4) := by rw [h2]; unfold sp_count; rw [if_neg (by decide), if_neg (by decide), if_neg (by decide), if_neg (by decide), if_neg (by decide), if_neg (by decide), if_neg (by decide), if_neg (by decide), if_neg (by decide), if_pos (by decide)]
      rw [e]
      iterate 4 refine Go.step rfl ?_
      exact Go.ret rfl ⟨rfl, rfl⟩
  · rw [h2]
    have e : sp_count I w = bif win w 10 13 then (I, I 74 (cl w - 5)) else (er I 1, LO 1) := by
      unfold sp_count
      rw [if_neg (show ¬ w = 0 from h1 0 (by decide)), if_neg (show ¬ w = 1 from h1 1 (by decide)), if_neg (show ¬ w = 2 from h1 2 (by decide)), if_neg (show ¬ w = 3 from h1 3 (by decide)), if_neg (show ¬ w = 4 from h1 4 (by decide)), if_neg (show ¬ w = 5 from h1 5 (by decide)), if_neg (show ¬ w = 6 from h1 6 (by decide)), if_neg (show ¬ w = 7 from h1 7 (by decide)), if_neg (show ¬ w = 8 from h1 8 (by decide)), if_neg (show ¬ w = 9 from h1 9 (by decide))]
    rw [e]
    iterate 3 refine Go.step rfl ?_
    refine Go.cal (m_in _ w 10 13) (by decide) rfl ?_
    rintro _ _ ⟨rfl, rfl⟩
    refine Go.step rfl ?_
    refine Go.ifz (fun c1 => ?_) (fun c1 => ?_)
    · iterate 2 refine Go.step rfl ?_
      exact m_err (k := 1) (by decide) (by rw [c1]; rfl) rfl rfl rfl (by decide)
    · obtain ⟨k, hk1, hk2, rfl⟩ := win_lo (a := 10) (b := 13) (by decide) (by decide) c1
      have hcl : cl (nI k) = k := nI_clamp (by omega)
      iterate 7 refine Go.step rfl ?_
      rw [show (5 : Int32) + nI k - 10 = nI (k - 5) by
        rw [show (5 : Int32) = nI 5 from rfl, nI_add, show (10 : Int32) = nI 10 from rfl, nI_sub (by omega), show 5 + k - 10 = k - 5 by omega]]
      refine Go.iald rfl rfl (am_in_nI (by omega) (by decide)) ?_
      refine Go.step rfl ?_
      refine Go.ret rfl ?_
      rw [c1, nI_clamp (by omega), hcl]
      exact ⟨rfl, rfl⟩
theorem op_count (a : Int32) : OpOK y_X_count y_M_count [.int a] := by
  refine op_old (sp := fun J => sp_count J a) (fun xs I T J h => x_count xs I T J h a) (fun xs I0 T0 I T h => m_count I T h.1 a) (by decide) (by decide) ?_ ?_ ?_
  · unfold sp_count; exact SpO.ite2 SpO.ans (SpO.ite2 SpO.ans (SpO.ite2 SpO.ans (SpO.ite2 SpO.ans (SpO.ite2 SpO.ans (SpO.ite2 SpO.ans (SpO.ite2 SpO.ans (SpO.ite2 SpO.ans (SpO.ite2 SpO.ans (SpO.ite2 SpO.ans (SpO.bif2 SpO.ans (SpO.err 1)))))))))))
  · unfold sp_count; exact SpC.ite2 (fun _ _ _ => Iff.rfl) (SpC.ans (fun J J' e => by rw [e.2.2.1])) (SpC.ite2 (fun _ _ _ => Iff.rfl) (SpC.ans (fun J J' e => by rw [e.2.2.1])) (SpC.ite2 (fun _ _ _ => Iff.rfl) (SpC.ans (fun J J' e => by rw [e.2.2.1])) (SpC.ite2 (fun _ _ _ => Iff.rfl) (SpC.ans (fun J J' e => by rw [e.2.2.1])) (SpC.ite2 (fun _ _ _ => Iff.rfl) (SpC.ans (fun J J' e => by rw [e.2.2.1])) (SpC.ite2 (fun _ _ _ => Iff.rfl) (SpC.ans (fun J J' e => by rw [e.2.2.1])) (SpC.ite2 (fun _ _ _ => Iff.rfl) (SpC.ans (fun J J' e => by rw [e.2.2.1])) (SpC.ite2 (fun _ _ _ => Iff.rfl) (SpC.ans (fun J J' e => by rw [e.2.2.1])) (SpC.ite2 (fun _ _ _ => Iff.rfl) (SpC.ans (fun J J' e => by rw [e.2.1])) (SpC.ite2 (fun _ _ _ => Iff.rfl) (SpC.ans (fun J J' e => by rw [e.2.2.1])) (SpC.bif2 (fun _ _ _ => rfl) (SpC.ans (fun J J' e => by rw [e.2.2.1])) (SpC.err 1)))))))))))
  · unfold sp_count; exact SpH.ite2 SpH.ans (SpH.ite2 SpH.ans (SpH.ite2 SpH.ans (SpH.ite2 SpH.ans (SpH.ite2 SpH.ans (SpH.ite2 SpH.ans (SpH.ite2 SpH.ans (SpH.ite2 SpH.ans (SpH.ite2 SpH.ans (SpH.ite2 SpH.ans (SpH.bif2 SpH.ans (SpH.err 1)))))))))))
