/-! THE ANSWERS, as functions of the reference's cells (J 74 its row s, J 75 what is kept, J 77 errors ..), and the reference's simple public methods -/
def LO (k : Nat) : Int32 := -1000000000 - nI k
def er (J : AI) (k : Nat) : AI := va_up J 77 (va_up (J 77) k (J 77 k + 1))
def sps (J : AI) (s : Nat → Int32) : AI := va_up J 74 s
def sp_wind (J : AI) (h kw : Int32) : AI × Int32 := bif win h 0 23 && isW kw then (sps J (va_up (va_up (J 74) (10 + h.toNatClampNeg) (kw / 10)) (34 + h.toNatClampNeg) (irm kw 10)), 10 * J 74 (10 + h.toNatClampNeg) + J 74 (34 + h.toNatClampNeg)) else (er J 1, LO 1)
theorem m_wind (I : AI) (T : AT) (hh kw : Int32) : Ct 2 y_M_wind [.ref 73, .int hh, .int kw] (hp I T) (fun r h' => h' = hp (sp_wind I hh kw).1 T ∧ r = some (.int (sp_wind I hh kw).2)) := by
  have bad : (win hh 0 23 && isW kw) = false → Go 2 y_M_wind 17 [some (.ref 73), some (.int hh), some (.int kw), none] [] (hp I T) (fun r h' => h' = hp (sp_wind I hh kw).1 T ∧ r = some (.int (sp_wind I hh kw).2)) := by
    intro hq
    iterate 2 refine Go.step rfl ?_
    refine Go.cal (m_error I T 1 (by decide)) (by decide) rfl ?_
    rintro _ _ ⟨rfl, rfl⟩
    refine Go.ret rfl ?_
    rw [sp_wind, hq]
    exact ⟨rfl, rfl⟩
  repeat refine Go.step rfl ?_
  refine Go.cal (m_in _ hh 0 23) (by decide) rfl ?_
  rintro _ _ ⟨rfl, rfl⟩
  refine Go.step rfl ?_
  refine Go.ifz (fun c1 => ?_) (fun c1 => ?_)
  · exact bad (by rw [c1]; rfl)
  · refine Go.step rfl ?_
    refine Go.cal (m_isWind _ kw) (by decide) rfl ?_
    rintro _ _ ⟨rfl, rfl⟩
    refine Go.step rfl ?_
    refine Go.ifz (fun c2 => ?_) (fun c2 => ?_)
    · exact bad (by rw [c2, Bool.and_false])
    · obtain ⟨j, hj, rfl⟩ := nI_of_win (N := 23) (by decide) c1
      have e1 : (10 : Int32) + nI j = nI (10 + j) := nI_add 10 _
      have e2 : (34 : Int32) + nI j = nI (34 + j) := nI_add 34 _
      repeat refine Go.step rfl ?_
      rw [e1]
      refine Go.iald rfl rfl (am_in_nI (by omega) (by decide)) ?_
      repeat refine Go.step rfl ?_
      rw [e2]
      refine Go.iald rfl rfl (am_in_nI (by omega) (by decide)) ?_
      repeat refine Go.step rfl ?_
      refine Go.cal (m_blowsAt I T j kw (by omega)) (by decide) rfl ?_
      rintro _ _ ⟨rfl, rfl⟩
      refine Go.step rfl ?_
      refine Go.ret rfl ?_
      rw [sp_wind, c1, c2, nI_clamp (by omega), nI_clamp (by omega), nI_clamp (by omega)]
      exact ⟨rfl, rfl⟩
def sp_price (J : AI) (q v : Int32) : AI × Int32 := bif win q 0 3 && win v 0 99 then (sps J (va_up (J 74) (5 + q.toNatClampNeg) v), J 74 (5 + q.toNatClampNeg)) else (er J 1, LO 1)
theorem m_price (I : AI) (T : AT) (q v : Int32) : Ct 2 y_M_price [.ref 73, .int q, .int v] (hp I T) (fun r h' => h' = hp (sp_price I q v).1 T ∧ r = some (.int (sp_price I q v).2)) := by
  have bad : (win q 0 3 && win v 0 99) = false → Go 2 y_M_price 19 [some (.ref 73), some (.int q), some (.int v), none] [] (hp I T) (fun r h' => h' = hp (sp_price I q v).1 T ∧ r = some (.int (sp_price I q v).2)) := by
    intro hq
    iterate 2 refine Go.step rfl ?_
    refine Go.cal (m_error I T 1 (by decide)) (by decide) rfl ?_
    rintro _ _ ⟨rfl, rfl⟩
    refine Go.ret rfl ?_
    rw [sp_price, hq]
    exact ⟨rfl, rfl⟩
  repeat refine Go.step rfl ?_
  refine Go.cal (m_in _ q 0 3) (by decide) rfl ?_
  rintro _ _ ⟨rfl, rfl⟩
  refine Go.step rfl ?_
  refine Go.ifz (fun c1 => ?_) (fun c1 => ?_)
  · exact bad (by rw [c1]; rfl)
  · iterate 3 refine Go.step rfl ?_
    refine Go.cal (m_in _ v 0 99) (by decide) rfl ?_
    rintro _ _ ⟨rfl, rfl⟩
    refine Go.step rfl ?_
    refine Go.ifz (fun c2 => ?_) (fun c2 => ?_)
    · exact bad (by rw [c2, Bool.and_false])
    · obtain ⟨j, hj, rfl⟩ := nI_of_win (N := 3) (by decide) c1
      have e1 : (5 : Int32) + nI j = nI (5 + j) := nI_add 5 _
      repeat refine Go.step rfl ?_
      rw [e1]
      refine Go.iald rfl rfl (am_in_nI (by omega) (by decide)) ?_
      repeat refine Go.step rfl ?_
      rw [e1]
      refine Go.iast rfl rfl (am_in_nI (by omega) (by decide)) ?_
      repeat refine Go.step rfl ?_
      refine Go.ret rfl ?_
      rw [sp_price, c1, c2, nI_clamp (by omega), nI_clamp (by omega)]
      exact ⟨rfl, rfl⟩
