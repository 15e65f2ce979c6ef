/-! answers, and the reference's public methods on boats, seeds, numbers that wait, images -/
theorem boat_of_win {s0 b : Int32} (hs : rg s0 8) (h : win b 0 (s0 - 1) = true) : ∃ j, j < cl s0 ∧ j < 8 ∧ b = nI j := by
  obtain ⟨n, hn, rfl⟩ := hs
  have hc : cl (nI n) = n := nI_clamp (by omega)
  rw [hc]
  cases n with
  | zero =>
    exfalso
    simp only [win, Bool.and_eq_true, decide_eq_true_eq] at h
    have h1 : (0 : Int32) ≤ nI 0 - 1 := Int32.le_trans h.1 h.2
    exact absurd h1 (by decide)
  | succ n =>
    rw [nI_pred] at h
    obtain ⟨j, hj, e⟩ := nI_of_win (by omega) h
    exact ⟨j, by omega, by omega, e⟩
theorem win_of_boat {s0 : Int32} {j : Nat} (hs : rg s0 8) (h : j < cl s0) : win (nI j) 0 (s0 - 1) = true := by
  obtain ⟨n, hn, rfl⟩ := hs
  have hc : cl (nI n) = n := nI_clamp (by omega)
  rw [hc] at h
  cases n with
  | zero => omega
  | succ n => rw [nI_pred]; exact win_of_le (by omega) (by omega)
def und (own kind : Int32) : Bool := decide (kind = 0) || decide (own = kind) || (decide (kind = 1) && (decide (own = 3) || decide (own = 4))) || (decide (kind = 2) && decide (own = 5))
theorem m_isUnder (h : AH) (o k : Int32) : Ct 0 y_M_isUnder [.int o, .int k] h (fun r h' => h' = h ∧ r = some (.int (bo (und o k)))) := by
  obtain ⟨I, P, S, n, sl⟩ := h
  have yes : und o k = true → Go 0 y_M_isUnder 34 [some (.int o), some (.int k)] [] (I, P, S, n, sl) (fun r h' => h' = (I, P, S, n, sl) ∧ r = some (.int (bo (und o k)))) := by
    intro hq
    repeat refine Go.step rfl ?_
    refine Go.ret rfl ⟨rfl, ?_⟩
    rw [hq]; rfl
  have no : und o k = false → Go 0 y_M_isUnder 38 [some (.int o), some (.int k)] [] (I, P, S, n, sl) (fun r h' => h' = (I, P, S, n, sl) ∧ r = some (.int (bo (und o k)))) := by
    intro hq
    repeat refine Go.step rfl ?_
    refine Go.ret rfl ⟨rfl, ?_⟩
    rw [hq]; rfl
  have two : ¬ k = 0 → ¬ o = k → (¬ k = 1 ∨ (¬ o = 3 ∧ ¬ o = 4)) → Go 0 y_M_isUnder 24 [some (.int o), some (.int k)] [] (I, P, S, n, sl) (fun r h' => h' = (I, P, S, n, sl) ∧ r = some (.int (bo (und o k)))) := by
    intro h1 h2 h3
    repeat refine Go.step rfl ?_
    refine Go.ite (fun c1 => ?_) (fun c1 => ?_)
    · repeat refine Go.step rfl ?_
      refine Go.ite (fun c2 => ?_) (fun c2 => ?_)
      · exact yes (by simp [und, c1, c2])
      · exact no (by subst c1; simp [und, c2, h2])
    · exact no (by rcases h3 with h3 | h3 <;> simp [und, h1, h2, h3, c1])
  repeat refine Go.step rfl ?_
  refine Go.ite (fun c1 => ?_) (fun c1 => ?_)
  · exact yes (by simp [und, c1])
  · repeat refine Go.step rfl ?_
    refine Go.ite (fun c2 => ?_) (fun c2 => ?_)
    · exact yes (by simp [und, c2])
    · repeat refine Go.step rfl ?_
      refine Go.ite (fun c3 => ?_) (fun c3 => ?_)
      · repeat refine Go.step rfl ?_
        refine Go.ite (fun c4 => ?_) (fun c4 => ?_)
        · exact yes (by simp [und, c3, c4])
        · repeat refine Go.step rfl ?_
          refine Go.ite (fun c5 => ?_) (fun c5 => ?_)
          · exact yes (by simp [und, c3, c5])
          · exact two c1 c2 (Or.inr ⟨c4, c5⟩)
      · exact two c1 c2 (Or.inl c3)
def MP (I : AI) (T : AT) (o : AI × Int32) : Option Value → AH → Prop := fun r h' => h' = hp o.1 T ∧ r = some (.int o.2)
theorem m_err {d y nx pc : Nat} {ls : ALS} {I : AI} {T : AT} {k : Nat} {v : Int32} {ops : List Nat} {o : AI × Int32} (hk : k < 7) (ho : o = (er I k, LO k)) (e : (cd y pc).bind (fun e => (am_call e [.int (nI k), .ref 73] (hp I T)).map (fun q => (e.2.1, q, am_step e (mrt y) ls [.int (nI k), .ref 73] (hp I T)))) = some (nx, (y_M_error, [.ref 73, .int (nI k)], []), none)) (e2 : cd y nx = some (.ireturn, nx + 1, v, ops)) (hr : mrt y = 0) (hd : 0 < d) : Go d y pc ls [.int (nI k), .ref 73] (hp I T) (MP I T o) := by
  refine Go.cal (m_error I T k hk) hd e ?_
  rintro _ _ ⟨rfl, rfl⟩
  refine Go.ret (r := some (.int (-1000000000 - nI k))) ?_ ?_
  · rw [e2]
    simp only [Option.bind_some, am_step, am_push, hr]
  · rw [ho]; exact ⟨rfl, rfl⟩
def sp_seed (J : AI) (v : Int32) : AI × Int32 := (sps J (va_up (J 74) 4 v), J 74 4)
theorem m_seed (I : AI) (T : AT) (v : Int32) : Ct 0 y_M_seed [.ref 73, .int v] (hp I T) (MP I T (sp_seed I v)) := by
  repeat refine Go.step rfl ?_
  exact Go.ret rfl ⟨rfl, rfl⟩
def sp_told (J : AI) (k : Int32) : AI × Int32 := bif win k 1 6 then (J, J 77 (cl k)) else (er J 1, LO 1)
theorem m_told (I : AI) (T : AT) (k : Int32) : Ct 2 y_M_told [.ref 73, .int k] (hp I T) (MP I T (sp_told I k)) := by
  repeat refine Go.step rfl ?_
  refine Go.cal (m_in _ k 1 6) (by decide) rfl ?_
  rintro _ _ ⟨rfl, rfl⟩
  refine Go.step rfl ?_
  refine Go.ifz (fun c1 => ?_) (fun c1 => ?_)
  · iterate 2 refine Go.step rfl ?_
    exact m_err (k := 1) (by decide) (by rw [sp_told, c1]; rfl) rfl rfl rfl (by decide)
  · have hk : ∃ j, j ≤ 6 ∧ k = nI j := by
      simp only [win, Bool.and_eq_true, decide_eq_true_eq] at c1
      have h0 : ¬ k < 0 := fun q => absurd (Int32.lt_of_le_of_lt c1.1 q) (by decide)
      exact nI_of2 (nI_toInt (n := 6) (by decide)) h0 c1.2
    obtain ⟨j, hj, rfl⟩ := hk
    repeat refine Go.step rfl ?_
    refine Go.iald rfl rfl (am_in_nI (by omega) (by decide)) ?_
    repeat refine Go.step rfl ?_
    refine Go.ret rfl ?_
    rw [sp_told, c1]
    exact ⟨rfl, rfl⟩
def sp_tell (J : AI) (v : Int32) : AI × Int32 := if J 74 3 = 24 then (er J 4, LO 4) else (sps J (va_up (va_up (J 74) (432 + cl (J 74 3)) v) 3 (J 74 3 + 1)), J 74 3 + 1)
theorem m_tell (I : AI) (T : AT) (hs : sOK (I 74)) (v : Int32) : Ct 2 y_M_tell [.ref 73, .int v] (hp I T) (MP I T (sp_tell I v)) := by
  obtain ⟨ew, hw⟩ := hs.2.2.2.1.eq (by decide)
  repeat refine Go.step rfl ?_
  refine Go.ite (fun c1 => ?_) (fun c1 => ?_)
  · replace c1 : I 74 3 = 24 := c1
    iterate 2 refine Go.step rfl ?_
    exact m_err (k := 4) (by decide) (by rw [sp_tell, if_pos c1]) rfl rfl rfl (by decide)
  · replace c1 : ¬ I 74 3 = 24 := c1
    repeat refine Go.step rfl ?_
    have e1 : (432 : Int32) + I 74 (Int32.toNatClampNeg 3) = nI (432 + cl (I 74 3)) := by
      show (432 : Int32) + I 74 3 = nI (432 + cl (I 74 3))
      rw [ew, show cl (nI (cl (I 74 3))) = cl (I 74 3) by rw [← ew]]; exact nI_add 432 _
    rw [e1]
    have hlt : cl (I 74 3) < 24 := by
      rcases Nat.lt_or_ge (cl (I 74 3)) 24 with h | h
      · exact h
      · exact absurd (by rw [ew, show cl (I 74 3) = 24 by omega]; rfl) c1
    refine Go.iast rfl rfl (am_in_nI (by omega) (by decide)) ?_
    rw [nI_clamp (by omega)]
    repeat refine Go.step rfl ?_
    refine Go.ret rfl ?_
    rw [sp_tell, if_neg c1]
    have e3 : va_up (I 74) (432 + cl (I 74 3)) v 3 = I 74 3 := va_up_ne _ _ (by omega)
    refine ⟨?_, ?_⟩
    · show hp _ T = _
      simp only [vu_idem, vu_same]
      show hp (va_up I 74 (va_up (va_up (I 74) (432 + cl (I 74 3)) v) 3 (va_up (I 74) (432 + cl (I 74 3)) v 3 + 1))) T = _
      rw [e3]
      rfl
    · simp only [vu_same]
      show some (Value.int (va_up (va_up (I 74) (432 + cl (I 74 3)) v) 3 (va_up (I 74) (432 + cl (I 74 3)) v 3 + 1) 3)) = _
      rw [vu_same, e3]
def sp_as (J : AI) (b k : Int32) : AI × Int32 := bif win b 0 (J 74 0 - 1) && win k 0 6 then (bif und (J 74 (58 + 8 * cl b)) k then (J, J 74 (58 + 8 * cl b + 6)) else (er J 5, LO 5)) else (er J 1, LO 1)
theorem m_as (I : AI) (T : AT) (hs : sOK (I 74)) (b k : Int32) : Ct 2 y_M_as [.ref 73, .int b, .int k] (hp I T) (MP I T (sp_as I b k)) := by
  have bad : (win b 0 (I 74 0 - 1) && win k 0 6) = false → Go 2 y_M_as 18 [some (.ref 73), some (.int b), some (.int k)] [] (hp I T) (MP I T (sp_as I b k)) := by
    intro hq
    iterate 2 refine Go.step rfl ?_
    exact m_err (k := 1) (by decide) (by rw [sp_as, hq]; rfl) rfl rfl rfl (by decide)
  repeat refine Go.step rfl ?_
  refine Go.cal (m_isBoat I T b) (by decide) rfl ?_
  rintro _ _ ⟨rfl, rfl⟩
  refine Go.step rfl ?_
  refine Go.ifz (fun c1 => ?_) (fun c1 => ?_)
  · exact bad (by rw [c1]; rfl)
  · iterate 3 refine Go.step rfl ?_
    refine Go.cal (m_in _ k 0 6) (by decide) rfl ?_
    rintro _ _ ⟨rfl, rfl⟩
    refine Go.step rfl ?_
    refine Go.ifz (fun c2 => ?_) (fun c2 => ?_)
    · exact bad (by rw [c2, Bool.and_false])
    · obtain ⟨j, hj, hj8, rfl⟩ := boat_of_win hs.1 c1
      have hcl : cl (nI j) = j := nI_clamp (by omega)
      repeat refine Go.step rfl ?_
      refine Go.cal (m_its I T j 0 hj8 (by omega)) (by decide) rfl ?_
      rintro _ _ ⟨rfl, rfl⟩
      refine Go.step rfl ?_
      refine Go.cal (m_isUnder _ (I 74 (58 + 8 * j)) k) (by decide) rfl ?_
      rintro _ _ ⟨rfl, rfl⟩
      refine Go.step rfl ?_
      refine Go.ifz (fun c3 => ?_) (fun c3 => ?_)
      · iterate 2 refine Go.step rfl ?_
        exact m_err (k := 5) (by decide) (by rw [sp_as, c1, c2, hcl, c3]; rfl) rfl rfl rfl (by decide)
      · iterate 3 refine Go.step rfl ?_
        refine Go.cal (m_its I T j 6 hj8 (by omega)) (by decide) rfl ?_
        rintro _ _ ⟨rfl, rfl⟩
        repeat refine Go.step rfl ?_
        refine Go.ret rfl ?_
        rw [sp_as, c1, c2, hcl, c3]
        exact ⟨rfl, rfl⟩
