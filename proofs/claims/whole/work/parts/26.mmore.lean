/-! the reference: more of its small methods -/
theorem Go.ifz {d y a b : Nat} {x : Bool} {hc : Decidable (bo x = 0)} {ls : ALS} {st : List Value} {h : AH} {Q : Option Value → AH → Prop} (ka : x = false → Go d y a ls st h Q) (kb : x = true → Go d y b ls st h Q) : Go d y (@_root_.ite Nat (bo x = 0) hc a b) ls st h Q := by
  cases x with
  | false => rw [if_pos (show bo false = 0 from rfl)]; exact ka rfl
  | true => rw [if_neg (fun h : bo true = 0 => absurd h (show ¬ (1 : Int32) = 0 from by decide))]; exact kb rfl
theorem nI_of_win {v : Int32} {N : Nat} (hN : N < 2 ^ 31) (h : win v 0 (nI N) = true) : ∃ j, j ≤ N ∧ v = nI j := by
  simp only [win, Bool.and_eq_true, decide_eq_true_eq] at h
  exact nI_of2 (nI_toInt hN) (Int32.not_lt.mpr h.1) h.2
theorem win_nI {j N : Nat} (hN : N < 2 ^ 31) : win (nI j) 0 (nI N) = decide (j ≤ N) ∨ 2 ^ 31 ≤ j := by
  by_cases hj : j < 2 ^ 31
  · left
    simp only [win]
    rw [show (0 : Int32) = nI 0 from rfl]
    have h1 : nI 0 ≤ nI j := nI_le (Nat.zero_le j) hj
    simp only [h1, decide_true, Bool.true_and]
    by_cases h2 : j ≤ N
    · simp [nI_le h2 hN, h2]
    · have h3 : ¬ nI j ≤ nI N := by rw [nI_leI hj hN]; exact h2
      simp [h3, h2]
  · exact Or.inr (by omega)
def fur (g p l : Int32) : Bool := decide (g = 0) && decide (l < p)
theorem m_isFurled (I : AI) (T : AT) (b c : Nat) (hb : b < 8) (hc : I 74 (58 + 8 * b + 2) = nI c) (hc2 : c < 24) : Ct 1 y_M_isFurled [.ref 73, .int (nI b)] (hp I T) (fun r h' => h' = hp I T ∧ r = some (.int (bo (fur (I 74 (58 + 8 * b + 7)) (I 74 (5 + c / 6)) (I 74 (58 + 8 * b + 4)))))) := by
  repeat refine Go.step rfl ?_
  refine Go.cal (m_its I T b 7 hb (by omega)) (by decide) rfl ?_
  rintro _ _ ⟨rfl, rfl⟩
  refine Go.step rfl ?_
  refine Go.ite (fun c1 => ?_) (fun c1 => ?_)
  · repeat refine Go.step rfl ?_
    refine Go.cal (m_its I T b 2 hb (by omega)) (by decide) rfl ?_
    rintro _ _ ⟨rfl, rfl⟩
    rw [hc]
    refine Go.cal (m_priceAt I T c hc2) (by decide) rfl ?_
    rintro _ _ ⟨rfl, rfl⟩
    repeat refine Go.step rfl ?_
    refine Go.cal (m_its I T b 4 hb (by omega)) (by decide) rfl ?_
    rintro _ _ ⟨rfl, rfl⟩
    refine Go.step rfl ?_
    refine Go.ite (fun c2 => ?_) (fun c2 => ?_)
    · repeat refine Go.step rfl ?_
      refine Go.ret rfl ⟨rfl, ?_⟩
      simp [fur, c1, bo, Int32.not_lt.mpr c2]
    · repeat refine Go.step rfl ?_
      refine Go.ret rfl ⟨rfl, ?_⟩
      simp [fur, c1, bo, Int32.not_le.mp c2]
  · repeat refine Go.step rfl ?_
    refine Go.ret rfl ⟨rfl, ?_⟩
    simp [fur, c1, bo]
def owd (o c : Int32) : Int32 := hel (o + c) (-999999) 999999
theorem m_owes (I : AI) (T : AT) (b : Nat) (x : Int32) (hb : b < 8) : Ct 1 y_M_owes [.ref 73, .int (nI b), .int x] (hp I T) (fun r h' => h' = hp (va_up I 74 (va_up (I 74) (58 + 8 * b + 5) (owd (I 74 (58 + 8 * b + 5)) x))) T ∧ r = none) := by
  repeat refine Go.step rfl ?_
  refine Go.cal (m_its I T b 5 hb (by omega)) (by decide) rfl ?_
  rintro _ _ ⟨rfl, rfl⟩
  repeat refine Go.step rfl ?_
  refine Go.cal (m_held _ _ _ _) (by decide) rfl ?_
  rintro _ _ ⟨rfl, rfl⟩
  refine Go.cal (m_lays1 I T b 5 _ hb (by omega)) (by decide) rfl ?_
  rintro _ _ ⟨rfl, rfl⟩
  exact Go.ret rfl ⟨rfl, rfl⟩
def cpy (f g : Nat → Int32) (k : Nat) : Nat → Int32 := fun j => if j < k then f j else g j
theorem m_carry_loop (I : AI) (T : AT) (a b : Nat) (hab : a ≠ b) (hSa : sS T.2.2.2.2.2.2 T.2.2.2.1 a = (0, 456)) (hSb : sS T.2.2.2.2.2.2 T.2.2.2.1 b = (0, 456)) : ∀ (m k : Nat), k + m = 456 → Go 0 y_M_carry 2 [some (.ref a), some (.ref b), some (.int (nI k))] [] (hp (va_up I b (cpy (I a) (I b) k)) T) (fun r h' => h' = hp (va_up I b (cpy (I a) (I b) 456)) T ∧ r = none) := by
  intro m
  induction m with
  | zero =>
    intro k hk
    have : k = 456 := by omega
    subst this
    repeat refine Go.step rfl ?_
    refine Go.ite (fun c1 => ?_) (fun c1 => ?_)
    · exact Go.ret rfl ⟨rfl, rfl⟩
    · exact absurd (Int32.le_refl _) c1
  | succ m ih =>
    intro k hk
    repeat refine Go.step rfl ?_
    refine Go.ite (fun c1 => ?_) (fun c1 => ?_)
    · exact absurd c1 (nI_ge (a := k) (b := 456) (by omega) (by decide))
    · repeat refine Go.step rfl ?_
      refine Go.iald rfl hSa (am_in_nI (by omega) (by decide)) ?_
      refine Go.iast rfl hSb (am_in_nI (by omega) (by decide)) ?_
      iterate 2 refine Go.step rfl ?_
      have h1 := ih (k + 1) (by omega)
      have e1 : va_up (va_up I b (cpy (I a) (I b) k)) b (va_up (va_up I b (cpy (I a) (I b) k) b) (nI k).toNatClampNeg (va_up I b (cpy (I a) (I b) k) a (nI k).toNatClampNeg)) = va_up I b (cpy (I a) (I b) (k + 1)) := by
        rw [vu_idem, vu_same, va_up_ne I _ hab, nI_clamp (by omega)]
        congr 1
        funext j
        simp only [va_up, cpy]
        by_cases hj : j = k
        · subst hj; simp
        · by_cases hj2 : j < k
          · simp [hj, hj2, show j < k + 1 by omega]
          · simp [hj, hj2, show ¬ j < k + 1 by omega]
      rw [e1]
      rw [show nI k + 1 = nI (k + 1) from nI_1 k]
      exact h1
theorem m_carry (I : AI) (T : AT) (a b : Nat) (hab : a ≠ b) (hSa : sS T.2.2.2.2.2.2 T.2.2.2.1 a = (0, 456)) (hSb : sS T.2.2.2.2.2.2 T.2.2.2.1 b = (0, 456)) : Ct 0 y_M_carry [.ref a, .ref b] (hp I T) (fun r h' => h' = hp (va_up I b (cpy (I a) (I b) 456)) T ∧ r = none) := by
  iterate 2 refine Go.step rfl ?_
  have h1 := m_carry_loop I T a b hab hSa hSb 456 0 rfl
  have e1 : va_up I b (cpy (I a) (I b) 0) = I := by
    funext j
    by_cases hj : j = b
    · subst hj; rw [vu_same]; rfl
    · rw [va_up_ne _ _ hj]
  rw [e1] at h1
  exact h1
