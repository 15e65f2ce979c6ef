/-! the other constructors of the class -/
theorem Go.putr {d y pc nx : Nat} {ls : ALS} {r : List Value} {I : AI} {P : AP} {S : AS} {n sl : Nat} {Q : Option Value → AH → Prop} {v : Int32} {x a ci kk q1 q2 N q : Nat} (e : cd y pc = some (.putfield x, nx, v, [ci, kk, q1, q2])) (hS : S a = (10 + ci, N)) (hf : fTy ci kk = 1) (k : Go d y nx ls r (I, va_up P a (va_up (P a) kk (some q)), S, n, sl) Q) : Go d y pc ls (.ref q :: .ref a :: r) (I, P, S, n, sl) Q :=
  Go.step (by rw [e]; simp [am_step, hS, hf]) k
theorem x_deskInit_49 (I : AI) (P : AP) (S : AS) (sl : Nat) (hP0 : ∀ a, 49 ≤ a → a < 91 → ∀ k, P a k = none) : Ct 2 y_Desk_init [.ref 49] (va_up I 49 (fun _ => 0), va_up P 49 (fun _ => none), va_up S 49 (11, 5), 50, sl) (fun r h' => ∃ I' P' S', h' = (I', P', S', 52, sl + 84) ∧ r = none ∧ Blk 49 52 I P S I' P' S' ∧ I' 49 2 = 0 ∧ I' 49 3 = 0 ∧ I' 49 4 = 1) := by
  repeat refine Go.step rfl ?_
  refine Go.ret rfl ⟨_, _, _, rfl, rfl, ?_, rfl, rfl, rfl⟩
  refine ⟨fun a ha => ?_, fun a ha => ?_, fun a ha => ?_, fun a g1 g2 => ?_, fun a g1 g2 k => ?_⟩
  · repeat rw [va_up_ne _ _ (by omega)]
  · repeat rw [va_up_ne _ _ (by omega)]
  · repeat rw [va_up_ne _ _ (by omega)]
  · rcases (show a = 49 ∨ a = 50 ∨ a = 51 by omega) with rfl | rfl | rfl <;> rfl
  · rcases (show a = 49 ∨ a = 50 ∨ a = 51 by omega) with rfl | rfl | rfl
    all_goals
      first
      | exact hP0 _ (by omega) (by omega) k
      | (simp only [va_up]; match k with
        | 0 => rfl
        | 1 => rfl
        | 2 => rfl
        | 3 => rfl
        | 4 => rfl
        | 5 => rfl
        | 6 => rfl
        | 7 => rfl
        | 8 => rfl
        | 9 => rfl
        | 10 => rfl
        | 11 => rfl
        | 12 => rfl
        | 13 => rfl
        | 14 => rfl
        | 15 => rfl
        | 16 => rfl
        | 17 => rfl
        | 18 => rfl
        | 19 => rfl
        | 20 => rfl
        | 21 => rfl
        | 22 => rfl
        | 23 => rfl
        | 24 => rfl
        | k + 25 => rfl)
theorem x_deskInit_52 (I : AI) (P : AP) (S : AS) (sl : Nat) (hP0 : ∀ a, 52 ≤ a → a < 91 → ∀ k, P a k = none) : Ct 2 y_Desk_init [.ref 52] (va_up I 52 (fun _ => 0), va_up P 52 (fun _ => none), va_up S 52 (11, 5), 53, sl) (fun r h' => ∃ I' P' S', h' = (I', P', S', 55, sl + 84) ∧ r = none ∧ Blk 52 55 I P S I' P' S' ∧ I' 52 2 = 0 ∧ I' 52 3 = 0 ∧ I' 52 4 = 1) := by
  repeat refine Go.step rfl ?_
  refine Go.ret rfl ⟨_, _, _, rfl, rfl, ?_, rfl, rfl, rfl⟩
  refine ⟨fun a ha => ?_, fun a ha => ?_, fun a ha => ?_, fun a g1 g2 => ?_, fun a g1 g2 k => ?_⟩
  · repeat rw [va_up_ne _ _ (by omega)]
  · repeat rw [va_up_ne _ _ (by omega)]
  · repeat rw [va_up_ne _ _ (by omega)]
  · rcases (show a = 52 ∨ a = 53 ∨ a = 54 by omega) with rfl | rfl | rfl <;> rfl
  · rcases (show a = 52 ∨ a = 53 ∨ a = 54 by omega) with rfl | rfl | rfl
    all_goals
      first
      | exact hP0 _ (by omega) (by omega) k
      | (simp only [va_up]; match k with
        | 0 => rfl
        | 1 => rfl
        | 2 => rfl
        | 3 => rfl
        | 4 => rfl
        | 5 => rfl
        | 6 => rfl
        | 7 => rfl
        | 8 => rfl
        | 9 => rfl
        | 10 => rfl
        | 11 => rfl
        | 12 => rfl
        | 13 => rfl
        | 14 => rfl
        | 15 => rfl
        | 16 => rfl
        | 17 => rfl
        | 18 => rfl
        | 19 => rfl
        | 20 => rfl
        | 21 => rfl
        | 22 => rfl
        | 23 => rfl
        | 24 => rfl
        | k + 25 => rfl)
theorem x_readerInit (I : AI) (P : AP) (S : AS) (sl : Nat) (hP0 : ∀ a, 55 ≤ a → a < 91 → ∀ k, P a k = none) : Ct 2 y_Reader_init [.ref 55] (va_up I 55 (fun _ => 0), va_up P 55 (fun _ => none), va_up S 55 (12, 7), 56, sl) (fun r h' => ∃ I' P' S', h' = (I', P', S', 58, sl + 120) ∧ r = none ∧ Blk 55 58 I P S I' P' S') := by
  repeat refine Go.step rfl ?_
  refine Go.ret rfl ⟨_, _, _, rfl, rfl, ?_⟩
  refine ⟨fun a ha => ?_, fun a ha => ?_, fun a ha => ?_, fun a g1 g2 => ?_, fun a g1 g2 k => ?_⟩
  · repeat rw [va_up_ne _ _ (by omega)]
  · repeat rw [va_up_ne _ _ (by omega)]
  · repeat rw [va_up_ne _ _ (by omega)]
  · rcases (show a = 55 ∨ a = 56 ∨ a = 57 by omega) with rfl | rfl | rfl <;> rfl
  · rcases (show a = 55 ∨ a = 56 ∨ a = 57 by omega) with rfl | rfl | rfl
    all_goals
      first
      | exact hP0 _ (by omega) (by omega) k
      | (simp only [va_up]; match k with
        | 0 => rfl
        | 1 => rfl
        | 2 => rfl
        | 3 => rfl
        | 4 => rfl
        | 5 => rfl
        | 6 => rfl
        | 7 => rfl
        | 8 => rfl
        | 9 => rfl
        | 10 => rfl
        | 11 => rfl
        | 12 => rfl
        | 13 => rfl
        | 14 => rfl
        | 15 => rfl
        | 16 => rfl
        | 17 => rfl
        | 18 => rfl
        | 19 => rfl
        | 20 => rfl
        | 21 => rfl
        | 22 => rfl
        | 23 => rfl
        | 24 => rfl
        | k + 25 => rfl)
theorem x_voyageInit (I : AI) (P : AP) (S : AS) (sl : Nat) (hP0 : ∀ a, 58 ≤ a → a < 91 → ∀ k, P a k = none) : Ct 2 y_Voyage_init [.ref 58] (va_up I 58 (fun _ => 0), va_up P 58 (fun _ => none), va_up S 58 (17, 2), 59, sl) (fun r h' => ∃ I' P' S', h' = (I', P', S', 61, sl + 48) ∧ r = none ∧ Blk 58 61 I P S I' P' S') := by
  repeat refine Go.step rfl ?_
  refine Go.ret rfl ⟨_, _, _, rfl, rfl, ?_⟩
  refine ⟨fun a ha => ?_, fun a ha => ?_, fun a ha => ?_, fun a g1 g2 => ?_, fun a g1 g2 k => ?_⟩
  · repeat rw [va_up_ne _ _ (by omega)]
  · repeat rw [va_up_ne _ _ (by omega)]
  · repeat rw [va_up_ne _ _ (by omega)]
  · rcases (show a = 58 ∨ a = 59 ∨ a = 60 by omega) with rfl | rfl | rfl <;> rfl
  · rcases (show a = 58 ∨ a = 59 ∨ a = 60 by omega) with rfl | rfl | rfl
    all_goals
      first
      | exact hP0 _ (by omega) (by omega) k
      | (simp only [va_up]; match k with
        | 0 => rfl
        | 1 => rfl
        | 2 => rfl
        | 3 => rfl
        | 4 => rfl
        | 5 => rfl
        | 6 => rfl
        | 7 => rfl
        | 8 => rfl
        | 9 => rfl
        | 10 => rfl
        | 11 => rfl
        | 12 => rfl
        | 13 => rfl
        | 14 => rfl
        | 15 => rfl
        | 16 => rfl
        | 17 => rfl
        | 18 => rfl
        | 19 => rfl
        | 20 => rfl
        | 21 => rfl
        | 22 => rfl
        | 23 => rfl
        | 24 => rfl
        | k + 25 => rfl)
theorem x_voicesInit (I : AI) (P : AP) (S : AS) (sl : Nat) (hP0 : ∀ a, 61 ≤ a → a < 91 → ∀ k, P a k = none) : Ct 2 y_Voices_init [.ref 61] (va_up I 61 (fun _ => 0), va_up P 61 (fun _ => none), va_up S 61 (16, 6), 62, sl) (fun r h' => ∃ I' P' S', h' = (I', P', S', 63, sl + 30) ∧ r = none ∧ Blk 61 63 I P S I' P' S' ∧ I' 61 1 = 0) := by
  repeat refine Go.step rfl ?_
  refine Go.ret rfl ⟨_, _, _, rfl, rfl, ?_, rfl⟩
  refine ⟨fun a ha => ?_, fun a ha => ?_, fun a ha => ?_, fun a g1 g2 => ?_, fun a g1 g2 k => ?_⟩
  · repeat rw [va_up_ne _ _ (by omega)]
  · repeat rw [va_up_ne _ _ (by omega)]
  · repeat rw [va_up_ne _ _ (by omega)]
  · rcases (show a = 61 ∨ a = 62 by omega) with rfl | rfl <;> rfl
  · rcases (show a = 61 ∨ a = 62 by omega) with rfl | rfl
    all_goals
      first
      | exact hP0 _ (by omega) (by omega) k
      | (simp only [va_up]; match k with
        | 0 => rfl
        | 1 => rfl
        | 2 => rfl
        | 3 => rfl
        | 4 => rfl
        | 5 => rfl
        | 6 => rfl
        | 7 => rfl
        | 8 => rfl
        | 9 => rfl
        | 10 => rfl
        | 11 => rfl
        | 12 => rfl
        | 13 => rfl
        | 14 => rfl
        | 15 => rfl
        | 16 => rfl
        | 17 => rfl
        | 18 => rfl
        | 19 => rfl
        | 20 => rfl
        | 21 => rfl
        | 22 => rfl
        | 23 => rfl
        | 24 => rfl
        | k + 25 => rfl)
theorem x_sheetInit_65 (I : AI) (P : AP) (S : AS) (sl : Nat) (hP0 : ∀ a, 65 ≤ a → a < 91 → ∀ k, P a k = none) : Ct 2 y_Sheet_init [.ref 65] (va_up I 65 (fun _ => 0), va_up P 65 (fun _ => none), va_up S 65 (14, 3), 66, sl) (fun r h' => ∃ I' P' S', h' = (I', P', S', 67, sl + 24) ∧ r = none ∧ Blk 65 67 I P S I' P' S' ∧ I' 65 1 = 0 ∧ I' 65 2 = 0 ∧ ∀ j, j < 24 → I' 66 j = 0) := by
  repeat refine Go.step rfl ?_
  refine Go.ret rfl ⟨_, _, _, rfl, rfl, ?_, rfl, rfl, fun _ _ => rfl⟩
  refine ⟨fun a ha => ?_, fun a ha => ?_, fun a ha => ?_, fun a g1 g2 => ?_, fun a g1 g2 k => ?_⟩
  · repeat rw [va_up_ne _ _ (by omega)]
  · repeat rw [va_up_ne _ _ (by omega)]
  · repeat rw [va_up_ne _ _ (by omega)]
  · rcases (show a = 65 ∨ a = 66 by omega) with rfl | rfl <;> rfl
  · rcases (show a = 65 ∨ a = 66 by omega) with rfl | rfl
    all_goals
      first
      | exact hP0 _ (by omega) (by omega) k
      | (simp only [va_up]; match k with
        | 0 => rfl
        | 1 => rfl
        | 2 => rfl
        | 3 => rfl
        | 4 => rfl
        | 5 => rfl
        | 6 => rfl
        | 7 => rfl
        | 8 => rfl
        | 9 => rfl
        | 10 => rfl
        | 11 => rfl
        | 12 => rfl
        | 13 => rfl
        | 14 => rfl
        | 15 => rfl
        | 16 => rfl
        | 17 => rfl
        | 18 => rfl
        | 19 => rfl
        | 20 => rfl
        | 21 => rfl
        | 22 => rfl
        | 23 => rfl
        | 24 => rfl
        | k + 25 => rfl)
theorem x_sheetInit_67 (I : AI) (P : AP) (S : AS) (sl : Nat) (hP0 : ∀ a, 67 ≤ a → a < 91 → ∀ k, P a k = none) : Ct 2 y_Sheet_init [.ref 67] (va_up I 67 (fun _ => 0), va_up P 67 (fun _ => none), va_up S 67 (14, 3), 68, sl) (fun r h' => ∃ I' P' S', h' = (I', P', S', 69, sl + 24) ∧ r = none ∧ Blk 67 69 I P S I' P' S' ∧ I' 67 1 = 0 ∧ I' 67 2 = 0 ∧ ∀ j, j < 24 → I' 68 j = 0) := by
  repeat refine Go.step rfl ?_
  refine Go.ret rfl ⟨_, _, _, rfl, rfl, ?_, rfl, rfl, fun _ _ => rfl⟩
  refine ⟨fun a ha => ?_, fun a ha => ?_, fun a ha => ?_, fun a g1 g2 => ?_, fun a g1 g2 k => ?_⟩
  · repeat rw [va_up_ne _ _ (by omega)]
  · repeat rw [va_up_ne _ _ (by omega)]
  · repeat rw [va_up_ne _ _ (by omega)]
  · rcases (show a = 67 ∨ a = 68 by omega) with rfl | rfl <;> rfl
  · rcases (show a = 67 ∨ a = 68 by omega) with rfl | rfl
    all_goals
      first
      | exact hP0 _ (by omega) (by omega) k
      | (simp only [va_up]; match k with
        | 0 => rfl
        | 1 => rfl
        | 2 => rfl
        | 3 => rfl
        | 4 => rfl
        | 5 => rfl
        | 6 => rfl
        | 7 => rfl
        | 8 => rfl
        | 9 => rfl
        | 10 => rfl
        | 11 => rfl
        | 12 => rfl
        | 13 => rfl
        | 14 => rfl
        | 15 => rfl
        | 16 => rfl
        | 17 => rfl
        | 18 => rfl
        | 19 => rfl
        | 20 => rfl
        | 21 => rfl
        | 22 => rfl
        | 23 => rfl
        | 24 => rfl
        | k + 25 => rfl)
theorem x_sheetInit_69 (I : AI) (P : AP) (S : AS) (sl : Nat) (hP0 : ∀ a, 69 ≤ a → a < 91 → ∀ k, P a k = none) : Ct 2 y_Sheet_init [.ref 69] (va_up I 69 (fun _ => 0), va_up P 69 (fun _ => none), va_up S 69 (14, 3), 70, sl) (fun r h' => ∃ I' P' S', h' = (I', P', S', 71, sl + 24) ∧ r = none ∧ Blk 69 71 I P S I' P' S' ∧ I' 69 1 = 0 ∧ I' 69 2 = 0 ∧ ∀ j, j < 24 → I' 70 j = 0) := by
  repeat refine Go.step rfl ?_
  refine Go.ret rfl ⟨_, _, _, rfl, rfl, ?_, rfl, rfl, fun _ _ => rfl⟩
  refine ⟨fun a ha => ?_, fun a ha => ?_, fun a ha => ?_, fun a g1 g2 => ?_, fun a g1 g2 k => ?_⟩
  · repeat rw [va_up_ne _ _ (by omega)]
  · repeat rw [va_up_ne _ _ (by omega)]
  · repeat rw [va_up_ne _ _ (by omega)]
  · rcases (show a = 69 ∨ a = 70 by omega) with rfl | rfl <;> rfl
  · rcases (show a = 69 ∨ a = 70 by omega) with rfl | rfl
    all_goals
      first
      | exact hP0 _ (by omega) (by omega) k
      | (simp only [va_up]; match k with
        | 0 => rfl
        | 1 => rfl
        | 2 => rfl
        | 3 => rfl
        | 4 => rfl
        | 5 => rfl
        | 6 => rfl
        | 7 => rfl
        | 8 => rfl
        | 9 => rfl
        | 10 => rfl
        | 11 => rfl
        | 12 => rfl
        | 13 => rfl
        | 14 => rfl
        | 15 => rfl
        | 16 => rfl
        | 17 => rfl
        | 18 => rfl
        | 19 => rfl
        | 20 => rfl
        | 21 => rfl
        | 22 => rfl
        | 23 => rfl
        | 24 => rfl
        | k + 25 => rfl)
theorem x_sheetInit_71 (I : AI) (P : AP) (S : AS) (sl : Nat) (hP0 : ∀ a, 71 ≤ a → a < 91 → ∀ k, P a k = none) : Ct 2 y_Sheet_init [.ref 71] (va_up I 71 (fun _ => 0), va_up P 71 (fun _ => none), va_up S 71 (14, 3), 72, sl) (fun r h' => ∃ I' P' S', h' = (I', P', S', 73, sl + 24) ∧ r = none ∧ Blk 71 73 I P S I' P' S' ∧ I' 71 1 = 0 ∧ I' 71 2 = 0 ∧ ∀ j, j < 24 → I' 72 j = 0) := by
  repeat refine Go.step rfl ?_
  refine Go.ret rfl ⟨_, _, _, rfl, rfl, ?_, rfl, rfl, fun _ _ => rfl⟩
  refine ⟨fun a ha => ?_, fun a ha => ?_, fun a ha => ?_, fun a g1 g2 => ?_, fun a g1 g2 k => ?_⟩
  · repeat rw [va_up_ne _ _ (by omega)]
  · repeat rw [va_up_ne _ _ (by omega)]
  · repeat rw [va_up_ne _ _ (by omega)]
  · rcases (show a = 71 ∨ a = 72 by omega) with rfl | rfl <;> rfl
  · rcases (show a = 71 ∨ a = 72 by omega) with rfl | rfl
    all_goals
      first
      | exact hP0 _ (by omega) (by omega) k
      | (simp only [va_up]; match k with
        | 0 => rfl
        | 1 => rfl
        | 2 => rfl
        | 3 => rfl
        | 4 => rfl
        | 5 => rfl
        | 6 => rfl
        | 7 => rfl
        | 8 => rfl
        | 9 => rfl
        | 10 => rfl
        | 11 => rfl
        | 12 => rfl
        | 13 => rfl
        | 14 => rfl
        | 15 => rfl
        | 16 => rfl
        | 17 => rfl
        | 18 => rfl
        | 19 => rfl
        | 20 => rfl
        | 21 => rfl
        | 22 => rfl
        | 23 => rfl
        | 24 => rfl
        | k + 25 => rfl)
