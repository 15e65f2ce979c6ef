/-! TEXTS worked out, on both sides -/
def jn (c x y : Int32) : Int32 := if c = 43 then x + y else if c = 45 then x - y else if c = 42 then x * y else if c = 47 then (if y = 0 then 0 else x / y) else if c = 37 then (if y = 0 then 0 else irm x y) else if c = 60 then (if x < y then 1 else 0) else if c = 62 then (if y < x then 1 else 0) else if c = 61 then (if x = y then 1 else 0) else if c = 38 then (if x = 0 then 0 else if y = 0 then 0 else 1) else (if x = 0 then (if y = 0 then 0 else 1) else 1)
def isSg (c : Int32) : Prop := c = 43 ∨ c = 45 ∨ c = 42 ∨ c = 47 ∨ c = 37 ∨ c = 60 ∨ c = 62 ∨ c = 61 ∨ c = 38 ∨ c = 124
theorem div_m1 (x : Int32) : x / (-1) = -x := by
  apply Int32.toInt_inj.mp
  rw [Int32.toInt_div, show (-1 : Int32).toInt = -1 by decide, Int.tdiv_neg, Int.tdiv_one, Int32.toInt_neg]
theorem irm_m1 (x : Int32) : irm x (-1) = 0 := by
  unfold irm
  rw [div_m1]
  apply Int32.toInt_inj.mp
  rw [Int32.mul_neg, Int32.mul_one, Int32.neg_neg, Int32.sub_self]
theorem x_joined (h : AH) (c x y : Int32) (hc : isSg c) : Ct 0 y_Text_joined [.int c, .int x, .int y] h (fun r h' => h' = h ∧ r = some (.int (jn c x y))) := by
  obtain ⟨I, P, S, n, sl⟩ := h
  rcases hc with rfl | rfl | rfl | rfl | rfl | rfl | rfl | rfl | rfl | rfl
  · repeat refine Go.step rfl ?_
    exact Go.ret rfl ⟨rfl, rfl⟩
  · repeat refine Go.step rfl ?_
    exact Go.ret rfl ⟨rfl, rfl⟩
  · repeat refine Go.step rfl ?_
    exact Go.ret rfl ⟨rfl, rfl⟩
  · repeat refine Go.step rfl ?_
    refine Go.ite (fun c1 => ?_) (fun c1 => ?_)
    · repeat refine Go.step rfl ?_
      exact Go.ret rfl ⟨rfl, by simp [jn, c1]⟩
    · repeat refine Go.step rfl ?_
      refine Go.idiv rfl c1 ?_
      exact Go.ret rfl ⟨rfl, by simp [jn, c1]⟩
  · repeat refine Go.step rfl ?_
    refine Go.ite (fun c1 => ?_) (fun c1 => ?_)
    · repeat refine Go.step rfl ?_
      exact Go.ret rfl ⟨rfl, by simp [jn, c1]⟩
    · repeat refine Go.step rfl ?_
      refine Go.irem rfl c1 ?_
      exact Go.ret rfl ⟨rfl, by simp [jn, c1]⟩
  · repeat refine Go.step rfl ?_
    refine Go.ite (fun c1 => ?_) (fun c1 => ?_)
    · repeat refine Go.step rfl ?_
      exact Go.ret rfl ⟨rfl, by simp [jn, Int32.not_lt.mpr c1]⟩
    · repeat refine Go.step rfl ?_
      exact Go.ret rfl ⟨rfl, by simp [jn, Int32.not_le.mp c1]⟩
  · repeat refine Go.step rfl ?_
    refine Go.ite (fun c1 => ?_) (fun c1 => ?_)
    · repeat refine Go.step rfl ?_
      exact Go.ret rfl ⟨rfl, by simp [jn, Int32.not_lt.mpr c1]⟩
    · repeat refine Go.step rfl ?_
      exact Go.ret rfl ⟨rfl, by simp [jn, Int32.not_le.mp c1]⟩
  · repeat refine Go.step rfl ?_
    refine Go.ite (fun c1 => ?_) (fun c1 => ?_)
    · repeat refine Go.step rfl ?_
      exact Go.ret rfl ⟨rfl, by simp [jn, c1]⟩
    · repeat refine Go.step rfl ?_
      exact Go.ret rfl ⟨rfl, by simp [jn, c1]⟩
  · repeat refine Go.step rfl ?_
    refine Go.ite (fun c1 => ?_) (fun c1 => ?_)
    all_goals repeat refine Go.step rfl ?_
    all_goals first
      | exact Go.ret rfl ⟨rfl, by simp [jn, c1]⟩
      | refine Go.ite (fun c2 => ?_) (fun c2 => ?_)
    all_goals repeat refine Go.step rfl ?_
    all_goals exact Go.ret rfl ⟨rfl, by simp [jn, c1, c2]⟩
  · repeat refine Go.step rfl ?_
    refine Go.ite (fun c1 => ?_) (fun c1 => ?_)
    all_goals repeat refine Go.step rfl ?_
    all_goals first
      | exact Go.ret rfl ⟨rfl, by simp [jn, c1]⟩
      | refine Go.ite (fun c2 => ?_) (fun c2 => ?_)
    all_goals repeat refine Go.step rfl ?_
    all_goals exact Go.ret rfl ⟨rfl, by simp [jn, c1, c2]⟩
theorem m_joined (h : AH) (c x y : Int32) (hc : isSg c) : Ct 0 y_M_joined [.int c, .int x, .int y] h (fun r h' => h' = h ∧ r = some (.int (jn c x y))) := by
  obtain ⟨I, P, S, n, sl⟩ := h
  rcases hc with rfl | rfl | rfl | rfl | rfl | rfl | rfl | rfl | rfl | rfl
  · repeat refine Go.step rfl ?_
    exact Go.ret rfl ⟨rfl, rfl⟩
  · repeat refine Go.step rfl ?_
    exact Go.ret rfl ⟨rfl, rfl⟩
  · repeat refine Go.step rfl ?_
    exact Go.ret rfl ⟨rfl, rfl⟩
  · repeat refine Go.step rfl ?_
    refine Go.ite (fun c1 => ?_) (fun c1 => ?_)
    · repeat refine Go.step rfl ?_
      exact Go.ret rfl ⟨rfl, by simp [jn, c1]⟩
    · repeat refine Go.step rfl ?_
      refine Go.ite (fun c3 => ?_) (fun c2 => ?_)
      · subst c3
        repeat refine Go.step rfl ?_
        refine Go.ret rfl ⟨rfl, ?_⟩
        have e : jn 47 x (-1) = x / (-1) := rfl
        rw [e, div_m1]
      · repeat refine Go.step rfl ?_
        refine Go.idiv rfl c1 ?_
        exact Go.ret rfl ⟨rfl, by simp [jn, c1]⟩
  · repeat refine Go.step rfl ?_
    refine Go.ite (fun c1 => ?_) (fun c1 => ?_)
    · repeat refine Go.step rfl ?_
      exact Go.ret rfl ⟨rfl, by simp [jn, c1]⟩
    · repeat refine Go.step rfl ?_
      refine Go.ite (fun c3 => ?_) (fun c2 => ?_)
      · subst c3
        repeat refine Go.step rfl ?_
        refine Go.ret rfl ⟨rfl, ?_⟩
        have e : jn 37 x (-1) = irm x (-1) := rfl
        rw [e, irm_m1]
      · repeat refine Go.step rfl ?_
        refine Go.irem rfl c1 ?_
        exact Go.ret rfl ⟨rfl, by simp [jn, c1]⟩
  · repeat refine Go.step rfl ?_
    refine Go.ite (fun c1 => ?_) (fun c1 => ?_)
    · repeat refine Go.step rfl ?_
      exact Go.ret rfl ⟨rfl, by simp [jn, Int32.not_lt.mpr c1]⟩
    · repeat refine Go.step rfl ?_
      exact Go.ret rfl ⟨rfl, by simp [jn, Int32.not_le.mp c1]⟩
  · repeat refine Go.step rfl ?_
    refine Go.ite (fun c1 => ?_) (fun c1 => ?_)
    · repeat refine Go.step rfl ?_
      exact Go.ret rfl ⟨rfl, by simp [jn, Int32.not_lt.mpr c1]⟩
    · repeat refine Go.step rfl ?_
      exact Go.ret rfl ⟨rfl, by simp [jn, Int32.not_le.mp c1]⟩
  · repeat refine Go.step rfl ?_
    refine Go.ite (fun c1 => ?_) (fun c1 => ?_)
    · repeat refine Go.step rfl ?_
      exact Go.ret rfl ⟨rfl, by simp [jn, c1]⟩
    · repeat refine Go.step rfl ?_
      exact Go.ret rfl ⟨rfl, by simp [jn, c1]⟩
  · repeat refine Go.step rfl ?_
    refine Go.ite (fun c1 => ?_) (fun c1 => ?_)
    all_goals repeat refine Go.step rfl ?_
    all_goals first
      | exact Go.ret rfl ⟨rfl, by simp [jn, c1]⟩
      | refine Go.ite (fun c2 => ?_) (fun c2 => ?_)
    all_goals repeat refine Go.step rfl ?_
    all_goals exact Go.ret rfl ⟨rfl, by simp [jn, c1, c2]⟩
  · repeat refine Go.step rfl ?_
    refine Go.ite (fun c1 => ?_) (fun c1 => ?_)
    all_goals repeat refine Go.step rfl ?_
    all_goals first
      | exact Go.ret rfl ⟨rfl, by simp [jn, c1]⟩
      | refine Go.ite (fun c2 => ?_) (fun c2 => ?_)
    all_goals repeat refine Go.step rfl ?_
    all_goals exact Go.ret rfl ⟨rfl, by simp [jn, c1, c2]⟩
def nmd (i a1 a2 a3 : Int32) : Int32 := if i = 0 then a1 else if i = 1 then a2 else a3
theorem x_named (h : AH) (i a1 a2 a3 : Int32) : Ct 0 y_Text_named [.int i, .int a1, .int a2, .int a3] h (fun r h' => h' = h ∧ r = some (.int (nmd i a1 a2 a3))) := by
  obtain ⟨I, P, S, n, sl⟩ := h
  repeat refine Go.step rfl ?_
  refine Go.ite (fun c1 => ?_) (fun c1 => ?_)
  · repeat refine Go.step rfl ?_
    exact Go.ret rfl ⟨rfl, by simp [nmd, c1]⟩
  · repeat refine Go.step rfl ?_
    refine Go.ite (fun c2 => ?_) (fun c2 => ?_)
    · repeat refine Go.step rfl ?_
      exact Go.ret rfl ⟨rfl, by simp [nmd, c2]⟩
    · repeat refine Go.step rfl ?_
      exact Go.ret rfl ⟨rfl, by simp [nmd, c1, c2]⟩
/-- the pile, word by word -/
def dp (f : Nat → Int32) (k : Nat) : Nat := (deps f k).getD 0
def evA (f : Nat → Int32) (a1 a2 a3 : Int32) : Nat → Nat → Int32
  | 0 => fun _ => 0
  | k + 1 => if f k < 10000 then va_up (evA f a1 a2 a3 k) (dp f k) (f k) else if f k < 20000 then va_up (evA f a1 a2 a3 k) (dp f k) (nmd (f k - 10000) a1 a2 a3) else if f k = 20033 then va_up (evA f a1 a2 a3 k) (dp f k - 1) (if evA f a1 a2 a3 k (dp f k - 1) = 0 then 1 else 0) else va_up (evA f a1 a2 a3 k) (dp f k - 2) (jn (f k - 20000) (evA f a1 a2 a3 k (dp f k - 2)) (evA f a1 a2 a3 k (dp f k - 1)))
def evT (f : Nat → Int32) (len : Nat) (a1 a2 a3 : Int32) : Int32 := evA f a1 a2 a3 len 0
theorem dep_le {f : Nat → Int32} : ∀ {k n : Nat}, deps f k = some n → n ≤ k := by
  intro k
  induction k with
  | zero => intro n h; cases h; exact Nat.le_refl 0
  | succ k ih =>
    intro n h
    rw [deps] at h
    cases hd : deps f k with
    | none => rw [hd] at h; cases h
    | some m =>
      rw [hd] at h
      have := ih hd
      simp only [Option.bind_some, dep] at h
      split at h
      · cases h; omega
      · split at h
        · split at h <;> cases h; omega
        · split at h <;> cases h; omega
/-- what a word of a good text is, and what it does to the depth -/
theorem wf_word {f : Nat → Int32} {len k : Nat} (h : wfT f len) (hk : k < len) : deps f k = some (dp f k) ∧ dp f k ≤ k ∧ ((f k < 10000 ∧ 0 ≤ f k ∧ f k < 20000 ∧ dp f (k + 1) = dp f k + 1) ∨ (¬ f k < 10000 ∧ f k < 20000 ∧ (f k = 10000 ∨ f k = 10001 ∨ f k = 10002) ∧ dp f (k + 1) = dp f k + 1) ∨ (¬ f k < 10000 ∧ ¬ f k < 20000 ∧ f k = 20033 ∧ 1 ≤ dp f k ∧ dp f (k + 1) = dp f k) ∨ (¬ f k < 10000 ∧ ¬ f k < 20000 ∧ ¬ f k = 20033 ∧ isSg (f k - 20000) ∧ 2 ≤ dp f k ∧ dp f (k + 1) = dp f k - 1)) := by
  obtain ⟨h1, h2, h3, h4, h5⟩ := h
  obtain ⟨n, hn⟩ := h3 k (by omega)
  obtain ⟨n', hn'⟩ := h3 (k + 1) (by omega)
  have en : dp f k = n := by unfold dp; rw [hn]; rfl
  have en' : dp f (k + 1) = n' := by unfold dp; rw [hn']; rfl
  refine ⟨by rw [en]; exact hn, by rw [en]; exact dep_le hn, ?_⟩
  rw [en, en']
  rw [deps, hn] at hn'
  simp only [Option.bind_some, dep] at hn'
  by_cases g1 : f k < 20000
  · rw [if_pos g1] at hn'
    have e : n' = n + 1 := by cases hn'; rfl
    by_cases g2 : f k < 10000
    · left
      refine ⟨g2, ?_, g1, e⟩
      rcases h5 k hk with ⟨q, -⟩ | q | q | q | q | q | q | q | q | q | q | q
      · exact q
      all_goals rw [q]; decide
    · right; left
      refine ⟨g2, g1, ?_, e⟩
      rcases h5 k hk with ⟨-, q⟩ | q | q | q | q | q | q | q | q | q | q | q
      · have g3 := Int32.not_lt.mp g2
        rw [Int32.lt_iff_toInt_lt, show (10003 : Int32).toInt = 10003 by decide] at q
        rw [Int32.le_iff_toInt_le, show (10000 : Int32).toInt = 10000 by decide] at g3
        rcases (show (f k).toInt = 10000 ∨ (f k).toInt = 10001 ∨ (f k).toInt = 10002 by omega) with z | z | z
        · exact Or.inl (Int32.toInt_inj.mp (by rw [z]; decide))
        · exact Or.inr (Or.inl (Int32.toInt_inj.mp (by rw [z]; decide)))
        · exact Or.inr (Or.inr (Int32.toInt_inj.mp (by rw [z]; decide)))
      all_goals rw [q] at g1; exact absurd g1 (by decide)
  · rw [if_neg g1] at hn'
    have g2 : ¬ f k < 10000 := fun q => g1 (Int32.lt_trans q (by decide))
    right; right
    by_cases g3 : f k = 20033
    · rw [if_pos g3] at hn'
      left
      by_cases g4 : 1 ≤ n
      · rw [if_pos g4] at hn'; exact ⟨g2, g1, g3, g4, by cases hn'; rfl⟩
      · rw [if_neg g4] at hn'; cases hn'
    · rw [if_neg g3] at hn'
      right
      by_cases g4 : 2 ≤ n
      · rw [if_pos g4] at hn'
        refine ⟨g2, g1, g3, ?_, g4, by cases hn'; rfl⟩
        rcases h5 k hk with ⟨-, q⟩ | q | q | q | q | q | q | q | q | q | q | q
        · exact absurd (Int32.lt_trans q (by decide)) g1
        · exact absurd q g3
        all_goals rw [q]; unfold isSg; decide
      · rw [if_neg g4] at hn'; cases hn'
