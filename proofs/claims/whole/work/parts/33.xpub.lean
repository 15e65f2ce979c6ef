/-! the class: boats, seeds, numbers that wait -/
theorem j_min (h : AH) (a b : Int32) : Ct 0 y_Math_min [.int a, .int b] h (fun r h' => h' = h ∧ r = some (.int (if b < a then b else a))) := by
  obtain ⟨I, P, S, n, sl⟩ := h
  repeat refine Go.step rfl ?_
  refine Go.ite (fun c1 => ?_) (fun c1 => ?_)
  · repeat refine Go.step rfl ?_
    exact Go.ret rfl ⟨rfl, by rw [if_pos c1]⟩
  · repeat refine Go.step rfl ?_
    exact Go.ret rfl ⟨rfl, by rw [if_neg c1]⟩
theorem j_max (h : AH) (a b : Int32) : Ct 0 y_Math_max [.int a, .int b] h (fun r h' => h' = h ∧ r = some (.int (if a < b then b else a))) := by
  obtain ⟨I, P, S, n, sl⟩ := h
  repeat refine Go.step rfl ?_
  refine Go.ite (fun c1 => ?_) (fun c1 => ?_)
  · repeat refine Go.step rfl ?_
    exact Go.ret rfl ⟨rfl, by rw [if_pos c1]⟩
  · repeat refine Go.step rfl ?_
    exact Go.ret rfl ⟨rfl, by rw [if_neg c1]⟩
theorem x_held (h : AH) (v a b : Int32) (hab : a ≤ b) : Ct 1 y_X_held [.int v, .int a, .int b] h (fun r h' => h' = h ∧ r = some (.int (hel v a b))) := by
  obtain ⟨I, P, S, n, sl⟩ := h
  repeat refine Go.step rfl ?_
  refine Go.cal (j_min _ b v) (by decide) rfl ?_
  rintro _ _ ⟨rfl, rfl⟩
  refine Go.cal (j_max _ a _) (by decide) rfl ?_
  rintro _ _ ⟨rfl, rfl⟩
  refine Go.ret rfl ⟨rfl, ?_⟩
  simp only [am_push, hel]
  simp only [Int32.lt_iff_toInt_lt, Int32.le_iff_toInt_le] at hab ⊢
  congr 2
  by_cases h1 : v.toInt < b.toInt
  · simp only [h1, if_true]
    by_cases h2 : v.toInt < a.toInt
    · have : ¬ a.toInt < v.toInt := by omega
      simp [h2, this]
    · by_cases h3 : a.toInt < v.toInt
      · have : ¬ b.toInt < v.toInt := by omega
        simp [h2, h3, this]
      · have h4 : a = v := Int32.toInt_inj.mp (by omega)
        have : ¬ b.toInt < v.toInt := by omega
        subst h4
        simp [h2, this]
  · simp only [h1, if_false]
    have h2 : ¬ v.toInt < a.toInt := by omega
    simp only [h2, if_false]
    by_cases h3 : b.toInt < v.toInt
    · simp only [h3, if_true]
      by_cases h4 : a.toInt < b.toInt
      · simp [h4]
      · have : a = b := Int32.toInt_inj.mp (by omega)
        simp [h4, this]
    · simp only [h3, if_false]
      have h5 : b = v := Int32.toInt_inj.mp (by omega)
      subst h5
      by_cases h4 : a.toInt < b.toInt
      · simp [h4]
      · have : a = b := Int32.toInt_inj.mp (by omega)
        simp [h4, this]
/-- a boat of a sea, or null -/
theorem x_find (I : AI) (T : AT) (B : Nat) (hB : B = 1 ∨ B = 17 ∨ B = 33) (b : Int32) (hs : rg (I B 1) 8) : Ct 1 y_Sea_find [.ref B, .int b] (hp I T) (fun r h' => h' = hp I T ∧ ((win b 0 (I B 1 - 1) = true ∧ r = some (.ref (B + 8 + cl b))) ∨ (win b 0 (I B 1 - 1) = false ∧ r = some .null))) := by
  have row : ∀ j, j < 8 → sP T.1 T.2.1 T.2.2.1 (B + 3) j = some (B + 8 + j) := by
    intro j hj
    rcases hB with rfl | rfl | rfl <;> rcases (show j = 0 ∨ j = 1 ∨ j = 2 ∨ j = 3 ∨ j = 4 ∨ j = 5 ∨ j = 6 ∨ j = 7 by omega) with rfl | rfl | rfl | rfl | rfl | rfl | rfl | rfl <;> rfl
  rcases hB with rfl | rfl | rfl
  all_goals
    repeat refine Go.step rfl ?_
    refine Go.cal (x_within _ b 0 _) (by decide) rfl ?_
    rintro _ _ ⟨rfl, rfl⟩
    refine Go.step rfl ?_
    refine Go.ifz (fun c1 => ?_) (fun c1 => ?_)
    · repeat refine Go.step rfl ?_
      exact Go.ret rfl ⟨rfl, Or.inr ⟨c1, rfl⟩⟩
    · obtain ⟨j, hj, hj8, rfl⟩ := boat_of_win hs c1
      have hcl : cl (nI j) = j := nI_clamp (by omega)
      repeat refine Go.step rfl ?_
      refine Go.aald rfl rfl rfl (am_in_nI (by omega) (by decide)) (by rw [nI_clamp (by omega)]; exact row j hj8) ?_
      repeat refine Go.step rfl ?_
      exact Go.ret rfl ⟨rfl, Or.inl ⟨c1, by rw [hcl]⟩⟩
theorem x_err {xs : Nat → Int32} {d y nx pc : Nat} {ls : ALS} {I : AI} {T : AT} {J : AI} {k : Nat} {v : Int32} {ops : List Nat} {o : AI × Int32} (hG : XG xs I T J) (h1 : 1 ≤ k) (h6 : k ≤ 6) (ho : o = (er J k, LO k)) (e : (cd y pc).bind (fun e => (am_call e [.int (nI k), .ref 0] (hp I T)).map (fun q => (e.2.1, q, am_step e (mrt y) ls [.int (nI k), .ref 0] (hp I T)))) = some (nx, (y_X_refuse, [.ref 0, .int (nI k)], []), none)) (e2 : cd y nx = some (.ireturn, nx + 1, v, ops)) (hr : mrt y = 0) (hd : 1 < d) : Go d y pc ls [.int (nI k), .ref 0] (hp I T) (XP xs I T o) := by
  refine Go.cal (x_refuse I T k h1 h6) hd e ?_
  rintro _ _ ⟨rfl, rfl⟩
  refine Go.ret (r := some (.int (LO k))) ?_ ?_
  · rw [e2]
    simp only [Option.bind_some, am_step, am_push, hr]
  · rw [ho]; exact XP.err hG h1 h6
theorem x_told (xs : Nat → Int32) (I : AI) (T : AT) (J : AI) (hG : XG xs I T J) (k : Int32) : Ct 2 y_X_told [.ref 0, .int k] (hp I T) (XP xs I T (sp_told J k)) := by
  repeat refine Go.step rfl ?_
  refine Go.cal (x_within _ k 1 6) (by decide) rfl ?_
  rintro _ _ ⟨rfl, rfl⟩
  refine Go.step rfl ?_
  refine Go.ifz (fun c1 => ?_) (fun c1 => ?_)
  · iterate 2 refine Go.step rfl ?_
    exact x_err (k := 1) hG (by decide) (by decide) (by rw [sp_told, c1]; rfl) rfl rfl rfl (by decide)
  · have hk : ∃ j, 1 ≤ j ∧ j ≤ 6 ∧ k = nI j := by
      have c2 := c1
      simp only [win, Bool.and_eq_true, decide_eq_true_eq] at c2
      have h0 : ¬ k < 0 := fun q => absurd (Int32.lt_of_le_of_lt c2.1 q) (by decide)
      obtain ⟨j, hj, rfl⟩ := nI_of2 (nI_toInt (n := 6) (by decide)) h0 c2.2
      refine ⟨j, ?_, hj, rfl⟩
      have := c2.1
      rw [show (1 : Int32) = nI 1 from rfl, nI_leI (by decide) (by omega)] at this
      exact this
    obtain ⟨j, hj1, hj, rfl⟩ := hk
    have hcl : cl (nI j) = j := nI_clamp (by omega)
    repeat refine Go.step rfl ?_
    refine Go.iald rfl rfl (am_in_nI (by omega) (by decide)) ?_
    repeat refine Go.step rfl ?_
    refine Go.ret rfl ?_
    rw [sp_told, c1, nI_clamp (by omega), hcl]
    refine ⟨I, rfl, fun _ _ _ => rfl, hG, ?_⟩
    show some (Value.int (I 64 j)) = some (Value.int (J 77 j))
    rw [hG.2.2.2.2.2.1 j hj1 hj]
