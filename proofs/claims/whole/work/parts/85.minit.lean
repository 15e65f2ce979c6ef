/-! the reference's constructor -/
def wyS (s : Nat → Int32) : Nat → Nat → Int32
  | 0 => s
  | m + 1 => va_up (va_up (wyS s m) (10 + m) 10) (34 + m) 3
theorem wyS_at (s : Nat → Int32) {j : Nat} : ∀ m, m ≤ 24 → j < m → wyS s m (10 + j) = 10 ∧ wyS s m (34 + j) = 3 := by
  intro m
  induction m with
  | zero => intro _ h; omega
  | succ m ih =>
    intro hm h
    rw [wyS]
    by_cases q : j = m
    · subst q; exact ⟨by rw [va_up_ne _ _ (by omega), vu_same], vu_same _ _ _⟩
    · have := ih (by omega) (by omega)
      exact ⟨by rw [va_up_ne _ _ (by omega), va_up_ne _ _ (by omega)]; exact this.1, by rw [va_up_ne _ _ (by omega), va_up_ne _ _ (by omega)]; exact this.2⟩
theorem wyS_off (s : Nat → Int32) {j : Nat} (h : j < 10 ∨ 58 ≤ j) : ∀ m, m ≤ 24 → wyS s m j = s j := by
  intro m
  induction m with
  | zero => intro _; rfl
  | succ m ih => intro hm; rw [wyS, va_up_ne _ _ (by omega), va_up_ne _ _ (by omega)]; exact ih (by omega)
/-- the first row -/
def row0 : Nat → Int32 := wyS (txW 5 (fun _ => 3) (va_up (fun _ => 0) 4 1) 4) 24
theorem m_initL (I : AI) (P : AP) (S : AS) (n sl : Nat) (hS : S 74 = (0, 456)) (hS3 : S 73 = (19, 25)) (hP : P 73 0 = some 74) (h74 : I 74 = va_up (fun _ => 0) 4 1) : Go 2 y_M_init 149 [some (.ref 73), none] [] (I, P, S, n, sl) (fun r h' => h' = (va_up I 74 row0, P, S, n, sl) ∧ r = none) := by
  have l2 : ∀ m i, i + m = 24 → ∀ I3 : AI, I3 = va_up I 74 (wyS (txW 5 (fun _ => 3) (va_up (fun _ => 0) 4 1) 4) i) → Go 2 y_M_init 173 [some (.ref 73), some (.int (nI i))] [] (I3, P, S, n, sl) (fun r h' => h' = (va_up I 74 row0, P, S, n, sl) ∧ r = none) := by
    intro m
    induction m with
    | zero =>
      intro i hi I3 e
      have : i = 24 := by omega
      subst this
      iterate 3 refine Go.step rfl ?_
      refine Go.ifp (Int32.le_refl _) ?_
      exact Go.ret rfl ⟨by rw [e]; rfl, rfl⟩
    | succ m ih =>
      intro i hi I3 e
      iterate 3 refine Go.step rfl ?_
      refine Go.ifn (nI_ge (a := i) (b := 24) (by omega) (by decide)) ?_
      refine Go.step rfl ?_
      refine Go.getr rfl hS3 rfl hP ?_
      iterate 3 refine Go.step rfl ?_
      rw [show (10 : Int32) + nI i = nI (10 + i) from nI_add 10 i]
      refine Go.step rfl ?_
      refine Go.iast rfl hS (am_in_nI (show 10 + i < 456 by omega) (by decide)) ?_
      rw [nI_clamp (by omega)]
      refine Go.step rfl ?_
      refine Go.getr rfl hS3 rfl hP ?_
      iterate 3 refine Go.step rfl ?_
      rw [show (34 : Int32) + nI i = nI (34 + i) from nI_add 34 i]
      refine Go.step rfl ?_
      refine Go.iast rfl hS (am_in_nI (show 34 + i < 456 by omega) (by decide)) ?_
      rw [nI_clamp (by omega)]
      iterate 2 refine Go.step rfl ?_
      rw [show nI i + 1 = nI (i + 1) from nI_1 i]
      exact ih (i + 1) (by omega) _ (by rw [e]; simp only [vu_idem, vu_same]; rfl)
  have l1 : ∀ m i, i + m = 4 → ∀ I3 : AI, I3 = va_up I 74 (txW 5 (fun _ => 3) (va_up (fun _ => 0) 4 1) i) → Go 2 y_M_init 151 [some (.ref 73), some (.int (nI i))] [] (I3, P, S, n, sl) (fun r h' => h' = (va_up I 74 row0, P, S, n, sl) ∧ r = none) := by
    intro m
    induction m with
    | zero =>
      intro i hi I3 e
      have : i = 4 := by omega
      subst this
      iterate 3 refine Go.step rfl ?_
      refine Go.ifp (Int32.le_refl _) ?_
      iterate 2 refine Go.step rfl ?_
      exact l2 24 0 (by omega) I3 e
    | succ m ih =>
      intro i hi I3 e
      iterate 3 refine Go.step rfl ?_
      refine Go.ifn (nI_ge (a := i) (b := 4) (by omega) (by decide)) ?_
      refine Go.step rfl ?_
      refine Go.getr rfl hS3 rfl hP ?_
      iterate 3 refine Go.step rfl ?_
      rw [show (5 : Int32) + nI i = nI (5 + i) from nI_add 5 i]
      refine Go.step rfl ?_
      refine Go.iast rfl hS (am_in_nI (show 5 + i < 456 by omega) (by decide)) ?_
      rw [nI_clamp (by omega)]
      iterate 2 refine Go.step rfl ?_
      rw [show nI i + 1 = nI (i + 1) from nI_1 i]
      exact ih (i + 1) (by omega) _ (by rw [e]; simp only [vu_idem, vu_same]; rfl)
  iterate 2 refine Go.step rfl ?_
  exact l1 4 0 (by omega) I (by rw [txW, ← h74, vu_self])
theorem m_init (I : AI) (P : AP) (S : AS) (sl : Nat) (hP0 : ∀ a, 73 ≤ a → a < 91 → ∀ k, P a k = none) : Ct 2 y_M_init [.ref 73] (va_up I 73 (fun _ => 0), va_up P 73 (fun _ => none), va_up S 73 (19, 25), 74, sl) (fun r h' => ∃ I' P' S' sl', h' = (I', P', S', 91, sl') ∧ sl' ≤ sl + 3000 ∧ r = none ∧ Blk 73 91 I P S I' P' S' ∧ I' 74 = row0 ∧ I' 73 = (fun _ => 0) ∧ I' 77 = (fun _ => 0) ∧ I' 87 = (fun _ => 0) ∧ I' 88 = (fun _ => 0) ∧ I' 89 = (fun _ => 0)) := by
  iterate 75 refine Go.step rfl ?_
  refine Go.mono (m_initL _ _ _ _ _ rfl rfl rfl rfl) ?_
  rintro _ _ ⟨rfl, rfl⟩
  refine ⟨_, _, _, sl + 1935, rfl, by omega, rfl, ?_, vu_same _ _ _, rfl, rfl, rfl, rfl, rfl⟩
  refine ⟨fun a ha => ?_, fun a ha => ?_, fun a ha => ?_, fun a g1 g2 => ?_, fun a g1 g2 k => ?_⟩
  · repeat rw [va_up_ne _ _ (by omega)]
  · repeat rw [va_up_ne _ _ (by omega)]
  · repeat rw [va_up_ne _ _ (by omega)]
  · rcases (show a = 73 ∨ a = 74 ∨ a = 75 ∨ a = 76 ∨ a = 77 ∨ a = 78 ∨ a = 79 ∨ a = 80 ∨ a = 81 ∨ a = 82 ∨ a = 83 ∨ a = 84 ∨ a = 85 ∨ a = 86 ∨ a = 87 ∨ a = 88 ∨ a = 89 ∨ a = 90 by omega) with rfl | rfl | rfl | rfl | rfl | rfl | rfl | rfl | rfl | rfl | rfl | rfl | rfl | rfl | rfl | rfl | rfl | rfl <;> rfl
  · rcases (show a = 73 ∨ a = 74 ∨ a = 75 ∨ a = 76 ∨ a = 77 ∨ a = 78 ∨ a = 79 ∨ a = 80 ∨ a = 81 ∨ a = 82 ∨ a = 83 ∨ a = 84 ∨ a = 85 ∨ a = 86 ∨ a = 87 ∨ a = 88 ∨ a = 89 ∨ a = 90 by omega) with rfl | rfl | rfl | rfl | rfl | rfl | rfl | rfl | rfl | rfl | rfl | rfl | rfl | rfl | rfl | rfl | rfl | rfl
    all_goals
      first
      | exact hP0 _ (by omega) (by omega) k
      | (simp only [va_up]; match k with
        | 0 => rfl
        | 1 => rfl
        | 2 => rfl
        | 3 => rfl
        | 4 => rfl
        | 5 => rfl
        | 6 => rfl
        | 7 => rfl
        | 8 => rfl
        | 9 => rfl
        | 10 => rfl
        | 11 => rfl
        | 12 => rfl
        | 13 => rfl
        | 14 => rfl
        | 15 => rfl
        | 16 => rfl
        | 17 => rfl
        | 18 => rfl
        | 19 => rfl
        | 20 => rfl
        | 21 => rfl
        | 22 => rfl
        | 23 => rfl
        | 24 => rfl
        | k + 25 => rfl)
