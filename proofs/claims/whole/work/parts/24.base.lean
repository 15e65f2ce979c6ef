/-! small methods of both sides -/
def bo (b : Bool) : Int32 := match b with
  | true => 1
  | false => 0
theorem bo_01 (b : Bool) : bo b = 0 ∨ bo b = 1 := by cases b <;> simp [bo]
theorem bo_0 {b : Bool} : bo b = 0 ↔ b = false := by cases b <;> simp [bo]
def win (v a b : Int32) : Bool := decide (a ≤ v) && decide (v ≤ b)
def hel (v a b : Int32) : Int32 := if v < a then a else if b < v then b else v
theorem x_within (h : AH) (v a b : Int32) : Ct 0 y_X_within [.int v, .int a, .int b] h (fun r h' => h' = h ∧ r = some (.int (bo (win v a b)))) := by
  obtain ⟨I, P, S, n, sl⟩ := h
  repeat refine Go.step rfl ?_
  refine Go.ite (fun c1 => ?_) (fun c1 => ?_)
  · repeat refine Go.step rfl ?_
    refine Go.ret rfl ⟨rfl, ?_⟩
    simp [win, bo, Int32.not_le.mpr c1]
  · repeat refine Go.step rfl ?_
    refine Go.ite (fun c2 => ?_) (fun c2 => ?_)
    · repeat refine Go.step rfl ?_
      refine Go.ret rfl ⟨rfl, ?_⟩
      simp [win, bo, Int32.not_le.mpr c2]
    · repeat refine Go.step rfl ?_
      refine Go.ret rfl ⟨rfl, ?_⟩
      simp [win, bo, Int32.not_lt.mp c1, Int32.not_lt.mp c2]
theorem m_in (h : AH) (v a b : Int32) : Ct 0 y_M_in [.int v, .int a, .int b] h (fun r h' => h' = h ∧ r = some (.int (bo (win v a b)))) := by
  obtain ⟨I, P, S, n, sl⟩ := h
  repeat refine Go.step rfl ?_
  refine Go.ite (fun c1 => ?_) (fun c1 => ?_)
  · repeat refine Go.step rfl ?_
    refine Go.ret rfl ⟨rfl, ?_⟩
    simp [win, bo, Int32.not_le.mpr c1]
  · repeat refine Go.step rfl ?_
    refine Go.ite (fun c2 => ?_) (fun c2 => ?_)
    · repeat refine Go.step rfl ?_
      refine Go.ret rfl ⟨rfl, ?_⟩
      simp [win, bo, Int32.not_le.mpr c2]
    · repeat refine Go.step rfl ?_
      refine Go.ret rfl ⟨rfl, ?_⟩
      simp [win, bo, Int32.not_lt.mp c1, Int32.not_lt.mp c2]
theorem m_held (h : AH) (v a b : Int32) : Ct 0 y_M_held [.int v, .int a, .int b] h (fun r h' => h' = h ∧ r = some (.int (hel v a b))) := by
  obtain ⟨I, P, S, n, sl⟩ := h
  repeat refine Go.step rfl ?_
  refine Go.ite (fun c1 => ?_) (fun c1 => ?_)
  · repeat refine Go.step rfl ?_
    refine Go.ite (fun c2 => ?_) (fun c2 => ?_)
    · repeat refine Go.step rfl ?_
      refine Go.ret rfl ⟨rfl, ?_⟩
      simp [hel, Int32.not_lt.mpr c1, Int32.not_lt.mpr c2]
    · repeat refine Go.step rfl ?_
      refine Go.ret rfl ⟨rfl, ?_⟩
      simp [hel, Int32.not_lt.mpr c1, Int32.not_le.mp c2]
  · repeat refine Go.step rfl ?_
    refine Go.ret rfl ⟨rfl, ?_⟩
    simp [hel, Int32.not_le.mp c1]
theorem m_its (I : AI) (T : AT) (b f : Nat) (hb : b < 8) (hf : f < 8) : Ct 0 y_M_its [.ref 73, .int (nI b), .int (nI f)] (hp I T) (fun r h' => h' = hp I T ∧ r = some (.int (I 74 (58 + 8 * b + f)))) := by
  repeat refine Go.step rfl ?_
  have e1 : (58 : Int32) + 8 * nI b + nI f = nI (58 + 8 * b + f) := by
    show nI 58 + nI 8 * nI b + nI f = _
    rw [nI_mul, nI_add, nI_add]
  rw [e1]
  refine Go.iald rfl rfl (am_in_nI (by omega) (by decide)) ?_
  rw [nI_clamp (by omega)]
  exact Go.ret rfl ⟨rfl, rfl⟩
