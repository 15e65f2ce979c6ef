/-! the constructors -/
theorem j_fill_loop (I : AI) (P : AP) (S : AS) (n sl a len : Nat) (v : Int32) (hS : S a = (0, len)) (hl : len < 100000) : ∀ (m k : Nat), k + m = len → Go 0 y_Arrays_fill 5 [some (.ref a), some (.int v), some (.int (nI k)), some (.int (nI len))] [] (va_up I a (cpy (fun _ => v) (I a) k), P, S, n, sl) (fun r h' => h' = (va_up I a (cpy (fun _ => v) (I a) len), P, S, n, sl) ∧ r = none) := by
  intro m
  induction m with
  | zero =>
    intro k hk
    have : k = len := by omega
    subst this
    iterate 3 refine Go.step rfl ?_
    refine Go.ite (fun c1 => ?_) (fun c1 => ?_)
    · exact Go.ret rfl ⟨rfl, rfl⟩
    · exact absurd (Int32.le_refl _) c1
  | succ m ih =>
    intro k hk
    iterate 3 refine Go.step rfl ?_
    refine Go.ite (fun c1 => ?_) (fun c1 => ?_)
    · exact absurd c1 (nI_ge (by omega) (by omega))
    · iterate 3 refine Go.step rfl ?_
      refine Go.iast rfl hS (am_in_nI (by omega) (by omega)) ?_
      iterate 2 refine Go.step rfl ?_
      have e1 : va_up (va_up I a (cpy (fun _ => v) (I a) k)) a (va_up (va_up I a (cpy (fun _ => v) (I a) k) a) (nI k).toNatClampNeg v) = va_up I a (cpy (fun _ => v) (I a) (k + 1)) := by
        rw [vu_idem, vu_same, nI_clamp (by omega)]
        congr 1
        funext j
        simp only [va_up, cpy]
        by_cases hj : j = k
        · subst hj; simp
        · by_cases hj2 : j < k
          · simp [hj, hj2, show j < k + 1 by omega]
          · simp [hj, hj2, show ¬ j < k + 1 by omega]
      rw [e1, show nI k + 1 = nI (k + 1) from nI_1 k]
      exact ih (k + 1) (by omega)
theorem j_fill (I : AI) (P : AP) (S : AS) (n sl a len : Nat) (v : Int32) (hS : S a = (0, len)) (hl : len < 100000) : Ct 0 y_Arrays_fill [.ref a, .int v] (I, P, S, n, sl) (fun r h' => h' = (va_up I a (cpy (fun _ => v) (I a) len), P, S, n, sl) ∧ r = none) := by
  iterate 3 refine Go.step rfl ?_
  refine Go.alen rfl hS rfl ?_
  refine Go.step rfl ?_
  have h1 := j_fill_loop I P S n sl a len v hS hl len 0 (by omega)
  have e1 : va_up I a (cpy (fun _ => v) (I a) 0) = I := by
    funext j
    by_cases hj : j = a
    · subst hj; rw [vu_same]; rfl
    · rw [va_up_ne _ _ hj]
  rw [e1] at h1
  exact h1
theorem x_boatInit (h : AH) (a : Nat) : Ct 0 y_Boat_init [.ref a] h (fun r h' => h' = h ∧ r = none) := by
  obtain ⟨I, P, S, n, sl⟩ := h
  repeat refine Go.step rfl ?_
  exact Go.ret rfl ⟨rfl, rfl⟩
/-- a block of new cells lo .. hi - 1, as the tables have it; all else as it was -/
def Blk (lo hi : Nat) (I : AI) (P : AP) (S : AS) (I' : AI) (P' : AP) (S' : AS) : Prop := (∀ a, a < lo ∨ hi ≤ a → I' a = I a) ∧ (∀ a, a < lo ∨ hi ≤ a → P' a = P a) ∧ (∀ a, a < lo ∨ hi ≤ a → S' a = S a) ∧ (∀ a, lo ≤ a → a < hi → S' a = tS a) ∧ ∀ a, lo ≤ a → a < hi → ∀ k, P' a k = tP (fun _ => none) (some 1010) a k
theorem Blk.app {lo mid hi : Nat} {I I1 I2 : AI} {P P1 P2 : AP} {S S1 S2 : AS} (h1 : Blk lo mid I P S I1 P1 S1) (h2 : Blk mid hi I1 P1 S1 I2 P2 S2) (hm : lo ≤ mid) (hh : mid ≤ hi) : Blk lo hi I P S I2 P2 S2 := by
  obtain ⟨a1, a2, a3, a4, a5⟩ := h1
  obtain ⟨b1, b2, b3, b4, b5⟩ := h2
  refine ⟨fun a h => by rw [b1 a (by omega), a1 a (by omega)], fun a h => by rw [b2 a (by omega), a2 a (by omega)], fun a h => by rw [b3 a (by omega), a3 a (by omega)], fun a g1 g2 => ?_, fun a g1 g2 k => ?_⟩
  · by_cases h : a < mid
    · rw [b3 a (Or.inl h)]; exact a4 a g1 h
    · exact b4 a (by omega) g2
  · by_cases h : a < mid
    · rw [b2 a (Or.inl h)]; exact a5 a g1 h k
    · exact b5 a (by omega) g2 k
set_option maxRecDepth 4000 in
theorem x_seaInit_1 (I : AI) (P : AP) (S : AS) (sl : Nat) (hP0 : ∀ a, 1 ≤ a → a < 91 → ∀ k, P a k = none) : Ct 2 y_Sea_init [.ref 1] (va_up I 1 (fun _ => 0), va_up P 1 (fun _ => none), va_up S 1 (13, 9), 2, sl) (fun r h' => ∃ I' P' S', h' = (I', P', S', 17, sl + 184) ∧ r = none ∧ Blk 1 17 I P S I' P' S' ∧ I' 1 0 = 0 ∧ I' 1 1 = 0 ∧ (∀ j, j < 24 → I' 2 j = 103) ∧ ∀ q, q < 4 → I' 3 q = 3) := by
  repeat refine Go.step rfl ?_
  refine Go.cal (j_fill _ _ _ _ _ 2 24 103 rfl (by decide)) (by decide) rfl ?_
  rintro _ _ ⟨rfl, rfl⟩
  repeat refine Go.step rfl ?_
  refine Go.cal (j_fill _ _ _ _ _ 3 4 3 rfl (by decide)) (by decide) rfl ?_
  rintro _ _ ⟨rfl, rfl⟩
  repeat refine Go.step rfl ?_
  refine Go.cal (x_boatInit _ 9) (by decide) rfl ?_
  rintro _ _ ⟨rfl, rfl⟩
  repeat refine Go.step rfl ?_
  refine Go.cal (x_boatInit _ 10) (by decide) rfl ?_
  rintro _ _ ⟨rfl, rfl⟩
  repeat refine Go.step rfl ?_
  refine Go.cal (x_boatInit _ 11) (by decide) rfl ?_
  rintro _ _ ⟨rfl, rfl⟩
  repeat refine Go.step rfl ?_
  refine Go.cal (x_boatInit _ 12) (by decide) rfl ?_
  rintro _ _ ⟨rfl, rfl⟩
  repeat refine Go.step rfl ?_
  refine Go.cal (x_boatInit _ 13) (by decide) rfl ?_
  rintro _ _ ⟨rfl, rfl⟩
  repeat refine Go.step rfl ?_
  refine Go.cal (x_boatInit _ 14) (by decide) rfl ?_
  rintro _ _ ⟨rfl, rfl⟩
  repeat refine Go.step rfl ?_
  refine Go.cal (x_boatInit _ 15) (by decide) rfl ?_
  rintro _ _ ⟨rfl, rfl⟩
  repeat refine Go.step rfl ?_
  refine Go.cal (x_boatInit _ 16) (by decide) rfl ?_
  rintro _ _ ⟨rfl, rfl⟩
  repeat refine Go.step rfl ?_
  refine Go.ret rfl ⟨_, _, _, rfl, rfl, ?_, rfl, rfl, ?_, ?_⟩
  rotate_left
  · intro j hj; repeat rw [va_up_ne _ _ (by omega)]
    rw [vu_same]; simp [cpy, hj]
  · intro q hq; repeat rw [va_up_ne _ _ (by omega)]
    rw [vu_same]; simp [cpy, hq]
  refine ⟨fun a ha => ?_, fun a ha => ?_, fun a ha => ?_, fun a g1 g2 => ?_, fun a g1 g2 k => ?_⟩
  · repeat rw [va_up_ne _ _ (by omega)]
  · repeat rw [va_up_ne _ _ (by omega)]
  · repeat rw [va_up_ne _ _ (by omega)]
  · rcases (show a = 1 ∨ a = 2 ∨ a = 3 ∨ a = 4 ∨ a = 5 ∨ a = 6 ∨ a = 7 ∨ a = 8 ∨ a = 9 ∨ a = 10 ∨ a = 11 ∨ a = 12 ∨ a = 13 ∨ a = 14 ∨ a = 15 ∨ a = 16 by omega) with rfl | rfl | rfl | rfl | rfl | rfl | rfl | rfl | rfl | rfl | rfl | rfl | rfl | rfl | rfl | rfl <;> rfl
  · rcases (show a = 1 ∨ a = 2 ∨ a = 3 ∨ a = 4 ∨ a = 5 ∨ a = 6 ∨ a = 7 ∨ a = 8 ∨ a = 9 ∨ a = 10 ∨ a = 11 ∨ a = 12 ∨ a = 13 ∨ a = 14 ∨ a = 15 ∨ a = 16 by omega) with rfl | rfl | rfl | rfl | rfl | rfl | rfl | rfl | rfl | rfl | rfl | rfl | rfl | rfl | rfl | rfl
    all_goals
      first
      | exact hP0 _ (by omega) (by omega) k
      | (simp only [va_up]; match k with
        | 0 => rfl
        | 1 => rfl
        | 2 => rfl
        | 3 => rfl
        | 4 => rfl
        | 5 => rfl
        | 6 => rfl
        | 7 => rfl
        | 8 => rfl
        | 9 => rfl
        | 10 => rfl
        | 11 => rfl
        | 12 => rfl
        | 13 => rfl
        | 14 => rfl
        | 15 => rfl
        | 16 => rfl
        | 17 => rfl
        | 18 => rfl
        | 19 => rfl
        | 20 => rfl
        | 21 => rfl
        | 22 => rfl
        | 23 => rfl
        | 24 => rfl
        | k + 25 => rfl)
set_option maxRecDepth 4000 in
theorem x_seaInit_17 (I : AI) (P : AP) (S : AS) (sl : Nat) (hP0 : ∀ a, 17 ≤ a → a < 91 → ∀ k, P a k = none) : Ct 2 y_Sea_init [.ref 17] (va_up I 17 (fun _ => 0), va_up P 17 (fun _ => none), va_up S 17 (13, 9), 18, sl) (fun r h' => ∃ I' P' S', h' = (I', P', S', 33, sl + 184) ∧ r = none ∧ Blk 17 33 I P S I' P' S' ∧ I' 17 0 = 0 ∧ I' 17 1 = 0 ∧ (∀ j, j < 24 → I' 18 j = 103) ∧ ∀ q, q < 4 → I' 19 q = 3) := by
  repeat refine Go.step rfl ?_
  refine Go.cal (j_fill _ _ _ _ _ 18 24 103 rfl (by decide)) (by decide) rfl ?_
  rintro _ _ ⟨rfl, rfl⟩
  repeat refine Go.step rfl ?_
  refine Go.cal (j_fill _ _ _ _ _ 19 4 3 rfl (by decide)) (by decide) rfl ?_
  rintro _ _ ⟨rfl, rfl⟩
  repeat refine Go.step rfl ?_
  refine Go.cal (x_boatInit _ 25) (by decide) rfl ?_
  rintro _ _ ⟨rfl, rfl⟩
  repeat refine Go.step rfl ?_
  refine Go.cal (x_boatInit _ 26) (by decide) rfl ?_
  rintro _ _ ⟨rfl, rfl⟩
  repeat refine Go.step rfl ?_
  refine Go.cal (x_boatInit _ 27) (by decide) rfl ?_
  rintro _ _ ⟨rfl, rfl⟩
  repeat refine Go.step rfl ?_
  refine Go.cal (x_boatInit _ 28) (by decide) rfl ?_
  rintro _ _ ⟨rfl, rfl⟩
  repeat refine Go.step rfl ?_
  refine Go.cal (x_boatInit _ 29) (by decide) rfl ?_
  rintro _ _ ⟨rfl, rfl⟩
  repeat refine Go.step rfl ?_
  refine Go.cal (x_boatInit _ 30) (by decide) rfl ?_
  rintro _ _ ⟨rfl, rfl⟩
  repeat refine Go.step rfl ?_
  refine Go.cal (x_boatInit _ 31) (by decide) rfl ?_
  rintro _ _ ⟨rfl, rfl⟩
  repeat refine Go.step rfl ?_
  refine Go.cal (x_boatInit _ 32) (by decide) rfl ?_
  rintro _ _ ⟨rfl, rfl⟩
  repeat refine Go.step rfl ?_
  refine Go.ret rfl ⟨_, _, _, rfl, rfl, ?_, rfl, rfl, ?_, ?_⟩
  rotate_left
  · intro j hj; repeat rw [va_up_ne _ _ (by omega)]
    rw [vu_same]; simp [cpy, hj]
  · intro q hq; repeat rw [va_up_ne _ _ (by omega)]
    rw [vu_same]; simp [cpy, hq]
  refine ⟨fun a ha => ?_, fun a ha => ?_, fun a ha => ?_, fun a g1 g2 => ?_, fun a g1 g2 k => ?_⟩
  · repeat rw [va_up_ne _ _ (by omega)]
  · repeat rw [va_up_ne _ _ (by omega)]
  · repeat rw [va_up_ne _ _ (by omega)]
  · rcases (show a = 17 ∨ a = 18 ∨ a = 19 ∨ a = 20 ∨ a = 21 ∨ a = 22 ∨ a = 23 ∨ a = 24 ∨ a = 25 ∨ a = 26 ∨ a = 27 ∨ a = 28 ∨ a = 29 ∨ a = 30 ∨ a = 31 ∨ a = 32 by omega) with rfl | rfl | rfl | rfl | rfl | rfl | rfl | rfl | rfl | rfl | rfl | rfl | rfl | rfl | rfl | rfl <;> rfl
  · rcases (show a = 17 ∨ a = 18 ∨ a = 19 ∨ a = 20 ∨ a = 21 ∨ a = 22 ∨ a = 23 ∨ a = 24 ∨ a = 25 ∨ a = 26 ∨ a = 27 ∨ a = 28 ∨ a = 29 ∨ a = 30 ∨ a = 31 ∨ a = 32 by omega) with rfl | rfl | rfl | rfl | rfl | rfl | rfl | rfl | rfl | rfl | rfl | rfl | rfl | rfl | rfl | rfl
    all_goals
      first
      | exact hP0 _ (by omega) (by omega) k
      | (simp only [va_up]; match k with
        | 0 => rfl
        | 1 => rfl
        | 2 => rfl
        | 3 => rfl
        | 4 => rfl
        | 5 => rfl
        | 6 => rfl
        | 7 => rfl
        | 8 => rfl
        | 9 => rfl
        | 10 => rfl
        | 11 => rfl
        | 12 => rfl
        | 13 => rfl
        | 14 => rfl
        | 15 => rfl
        | 16 => rfl
        | 17 => rfl
        | 18 => rfl
        | 19 => rfl
        | 20 => rfl
        | 21 => rfl
        | 22 => rfl
        | 23 => rfl
        | 24 => rfl
        | k + 25 => rfl)
set_option maxRecDepth 4000 in
theorem x_seaInit_33 (I : AI) (P : AP) (S : AS) (sl : Nat) (hP0 : ∀ a, 33 ≤ a → a < 91 → ∀ k, P a k = none) : Ct 2 y_Sea_init [.ref 33] (va_up I 33 (fun _ => 0), va_up P 33 (fun _ => none), va_up S 33 (13, 9), 34, sl) (fun r h' => ∃ I' P' S', h' = (I', P', S', 49, sl + 184) ∧ r = none ∧ Blk 33 49 I P S I' P' S' ∧ I' 33 0 = 0 ∧ I' 33 1 = 0 ∧ (∀ j, j < 24 → I' 34 j = 103) ∧ ∀ q, q < 4 → I' 35 q = 3) := by
  repeat refine Go.step rfl ?_
  refine Go.cal (j_fill _ _ _ _ _ 34 24 103 rfl (by decide)) (by decide) rfl ?_
  rintro _ _ ⟨rfl, rfl⟩
  repeat refine Go.step rfl ?_
  refine Go.cal (j_fill _ _ _ _ _ 35 4 3 rfl (by decide)) (by decide) rfl ?_
  rintro _ _ ⟨rfl, rfl⟩
  repeat refine Go.step rfl ?_
  refine Go.cal (x_boatInit _ 41) (by decide) rfl ?_
  rintro _ _ ⟨rfl, rfl⟩
  repeat refine Go.step rfl ?_
  refine Go.cal (x_boatInit _ 42) (by decide) rfl ?_
  rintro _ _ ⟨rfl, rfl⟩
  repeat refine Go.step rfl ?_
  refine Go.cal (x_boatInit _ 43) (by decide) rfl ?_
  rintro _ _ ⟨rfl, rfl⟩
  repeat refine Go.step rfl ?_
  refine Go.cal (x_boatInit _ 44) (by decide) rfl ?_
  rintro _ _ ⟨rfl, rfl⟩
  repeat refine Go.step rfl ?_
  refine Go.cal (x_boatInit _ 45) (by decide) rfl ?_
  rintro _ _ ⟨rfl, rfl⟩
  repeat refine Go.step rfl ?_
  refine Go.cal (x_boatInit _ 46) (by decide) rfl ?_
  rintro _ _ ⟨rfl, rfl⟩
  repeat refine Go.step rfl ?_
  refine Go.cal (x_boatInit _ 47) (by decide) rfl ?_
  rintro _ _ ⟨rfl, rfl⟩
  repeat refine Go.step rfl ?_
  refine Go.cal (x_boatInit _ 48) (by decide) rfl ?_
  rintro _ _ ⟨rfl, rfl⟩
  repeat refine Go.step rfl ?_
  refine Go.ret rfl ⟨_, _, _, rfl, rfl, ?_, rfl, rfl, ?_, ?_⟩
  rotate_left
  · intro j hj; repeat rw [va_up_ne _ _ (by omega)]
    rw [vu_same]; simp [cpy, hj]
  · intro q hq; repeat rw [va_up_ne _ _ (by omega)]
    rw [vu_same]; simp [cpy, hq]
  refine ⟨fun a ha => ?_, fun a ha => ?_, fun a ha => ?_, fun a g1 g2 => ?_, fun a g1 g2 k => ?_⟩
  · repeat rw [va_up_ne _ _ (by omega)]
  · repeat rw [va_up_ne _ _ (by omega)]
  · repeat rw [va_up_ne _ _ (by omega)]
  · rcases (show a = 33 ∨ a = 34 ∨ a = 35 ∨ a = 36 ∨ a = 37 ∨ a = 38 ∨ a = 39 ∨ a = 40 ∨ a = 41 ∨ a = 42 ∨ a = 43 ∨ a = 44 ∨ a = 45 ∨ a = 46 ∨ a = 47 ∨ a = 48 by omega) with rfl | rfl | rfl | rfl | rfl | rfl | rfl | rfl | rfl | rfl | rfl | rfl | rfl | rfl | rfl | rfl <;> rfl
  · rcases (show a = 33 ∨ a = 34 ∨ a = 35 ∨ a = 36 ∨ a = 37 ∨ a = 38 ∨ a = 39 ∨ a = 40 ∨ a = 41 ∨ a = 42 ∨ a = 43 ∨ a = 44 ∨ a = 45 ∨ a = 46 ∨ a = 47 ∨ a = 48 by omega) with rfl | rfl | rfl | rfl | rfl | rfl | rfl | rfl | rfl | rfl | rfl | rfl | rfl | rfl | rfl | rfl
    all_goals
      first
      | exact hP0 _ (by omega) (by omega) k
      | (simp only [va_up]; match k with
        | 0 => rfl
        | 1 => rfl
        | 2 => rfl
        | 3 => rfl
        | 4 => rfl
        | 5 => rfl
        | 6 => rfl
        | 7 => rfl
        | 8 => rfl
        | 9 => rfl
        | 10 => rfl
        | 11 => rfl
        | 12 => rfl
        | 13 => rfl
        | 14 => rfl
        | 15 => rfl
        | 16 => rfl
        | 17 => rfl
        | 18 => rfl
        | 19 => rfl
        | 20 => rfl
        | 21 => rfl
        | 22 => rfl
        | 23 => rfl
        | 24 => rfl
        | k + 25 => rfl)
