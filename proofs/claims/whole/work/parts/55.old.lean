/-! PAIRS that stand: wind, price, boat, as, set, pay, seed, told, tell, body -/
theorem op_wind (a b : Int32) : OpOK y_X_wind y_M_wind [.int a, .int b] := by
  refine op_old (sp := fun J => sp_wind J a b) (fun xs I T J h => x_wind xs I T J h a b) (fun xs I0 T0 I T h => m_wind I T a b) (by decide) (by decide) ?_ ?_ ?_
  · unfold sp_wind; exact SpO.bif2 SpO.row (SpO.err 1)
  · unfold sp_wind; exact SpC.bif2 (fun _ _ _ => rfl) (SpC.row (fun J J' e => by rw [e.2.2.1] <;> exact ⟨rfl, rfl⟩)) (SpC.err 1)
  · unfold sp_wind; exact SpH.bifc (fun xs I T J h c1 => by
      have := cl_win (N := 23) (by decide) (Bool.and_eq_true _ _ ▸ c1).1
      exact h.2.sps1 (by rw [va_up_ne _ _ (by omega), va_up_ne _ _ (by omega)]) (fun j hj => by rw [va_up_ne _ _ (by omega), va_up_ne _ _ (by omega)])) (SpH.err 1)
theorem op_price (a b : Int32) : OpOK y_X_price y_M_price [.int a, .int b] := by
  refine op_old (sp := fun J => sp_price J a b) (fun xs I T J h => x_price xs I T J h a b) (fun xs I0 T0 I T h => m_price I T a b) (by decide) (by decide) ?_ ?_ ?_
  · unfold sp_price; exact SpO.bif2 SpO.row (SpO.err 1)
  · unfold sp_price; exact SpC.bif2 (fun _ _ _ => rfl) (SpC.row (fun J J' e => by rw [e.2.2.1] <;> exact ⟨rfl, rfl⟩)) (SpC.err 1)
  · unfold sp_price; exact SpH.bifc (fun xs I T J h c1 => by
      have := cl_win (N := 3) (by decide) (Bool.and_eq_true _ _ ▸ c1).1
      exact h.2.sps1 (by rw [va_up_ne _ _ (by omega)]) (fun j hj => by rw [va_up_ne _ _ (by omega)])) (SpH.err 1)
theorem op_boat (a b : Int32) : OpOK y_X_boat y_M_boat [.int a, .int b] := by
  refine op_old (sp := fun J => sp_boat J a b) (fun xs I T J h => x_boat xs I T J h a b) (fun xs I0 T0 I T h => m_boat I T h.1 a b) (by decide) (by decide) ?_ ?_ ?_
  · unfold sp_boat; exact SpO.bif2 (SpO.ite2 (SpO.err 4) SpO.row) (SpO.err 1)
  · unfold sp_boat; exact SpC.bif2 (fun _ _ _ => rfl) (SpC.ite2 (fun J J' e => by rw [e.2.2.1]) (SpC.err 4) (SpC.row (fun J J' e => by rw [e.2.2.1] <;> exact ⟨rfl, rfl⟩))) (SpC.err 1)
  · unfold sp_boat; exact SpH.bif2 (SpH.ite2 (SpH.err 4) (fun xs I T J h => by
      have := (h.1.1.1.eq (by decide)).2
      exact h.2.sps1 (bt_ne (by decide) (by omega)) (fun j hj => bt_ne (by omega) (by omega)))) (SpH.err 1)
theorem op_as (a b : Int32) : OpOK y_X_as y_M_as [.int a, .int b] := by
  refine op_old (sp := fun J => sp_as J a b) (fun xs I T J h => x_as xs I T J h a b) (fun xs I0 T0 I T h => m_as I T h.1 a b) (by decide) (by decide) ?_ ?_ ?_
  · unfold sp_as; exact SpO.bif2 (SpO.bif2 SpO.ans (SpO.err 5)) (SpO.err 1)
  · unfold sp_as; exact SpC.bif2 (fun J J' e => by rw [e.2.2.1]) (SpC.bif2 (fun J J' e => by rw [e.2.2.1]) (SpC.ans (fun J J' e => by rw [e.2.2.1])) (SpC.err 5)) (SpC.err 1)
  · unfold sp_as; exact SpH.bif2 (SpH.bif2 SpH.ans (SpH.err 5)) (SpH.err 1)
theorem op_set (a b c : Int32) : OpOK y_X_set y_M_set [.int a, .int b, .int c] := by
  refine op_old (sp := fun J => sp_set J a b c) (fun xs I T J h => x_set xs I T J h a b c) (fun xs I0 T0 I T h => m_set I T h.1 a b c) (by decide) (by decide) ?_ ?_ ?_
  · unfold sp_set; exact SpO.bif2 SpO.row (SpO.err 1)
  · unfold sp_set; exact SpC.bif2 (fun J J' e => by rw [e.2.2.1]) (SpC.row (fun J J' e => by rw [e.2.2.1] <;> exact ⟨rfl, rfl⟩)) (SpC.err 1)
  · unfold sp_set; exact SpH.bifc (fun xs I T J h c1 => by
      rw [Bool.and_eq_true, Bool.and_eq_true] at c1
      obtain ⟨j1, hj, hj8, rfl⟩ := boat_of_win h.1.1.1 c1.1.1
      obtain ⟨f1, hf, rfl, -⟩ := wOK_nI c1.1.2
      have h1 : cl (nI j1) = j1 := nI_clamp (by omega)
      have h2 : cl (nI f1) = f1 := nI_clamp (by omega)
      exact h.2.sps1 (by rw [va_up_ne _ _ (by omega)]) (fun j hj => by rw [va_up_ne _ _ (by omega)])) (SpH.err 1)
theorem op_pay (a b : Int32) : OpOK y_X_pay y_M_pay [.int a, .int b] := by
  refine op_old (sp := fun J => sp_pay J a b) (fun xs I T J h => x_pay xs I T J h a b) (fun xs I0 T0 I T h => m_pay I T h.1 a b) (by decide) (by decide) ?_ ?_ ?_
  · unfold sp_pay; exact SpO.bif2 (SpO.ite2 SpO.row (SpO.err 3)) (SpO.err 1)
  · unfold sp_pay; exact SpC.bif2 (fun J J' e => by rw [e.2.2.1]) (SpC.ite2 (fun J J' e => by rw [e.2.2.1]) (SpC.row (fun J J' e => by rw [e.2.2.1] <;> exact ⟨rfl, rfl⟩)) (SpC.err 3)) (SpC.err 1)
  · unfold sp_pay; exact SpH.bifc (fun xs I T J h c1 => by
      rw [Bool.and_eq_true] at c1
      obtain ⟨j1, hj, hj8, rfl⟩ := boat_of_win h.1.1.1 c1.1
      have h1 : cl (nI j1) = j1 := nI_clamp (by omega)
      split
      · exact h.2.sps1 (by rw [va_up_ne _ _ (by omega)]) (fun j hj => by rw [va_up_ne _ _ (by omega)])
      · exact h.2.er1 3) (SpH.err 1)
theorem op_seed (a : Int32) : OpOK y_X_seed y_M_seed [.int a] := by
  refine op_old (sp := fun J => sp_seed J a) (fun xs I T J h => x_seed xs I T J h a) (fun xs I0 T0 I T h => m_seed I T a) (by decide) (by decide) ?_ ?_ ?_
  · unfold sp_seed; exact SpO.row
  · unfold sp_seed; exact SpC.row (fun J J' e => by rw [e.2.2.1] <;> exact ⟨rfl, rfl⟩)
  · unfold sp_seed; exact SpH.row (fun J => by rw [va_up_ne _ _ (by omega)]) (fun J j hj => by rw [va_up_ne _ _ (by omega)])
theorem op_told (a : Int32) : OpOK y_X_told y_M_told [.int a] := by
  refine op_old (sp := fun J => sp_told J a) (fun xs I T J h => x_told xs I T J h a) (fun xs I0 T0 I T h => m_told I T a) (by decide) (by decide) ?_ ?_ ?_
  · unfold sp_told; exact SpO.bif2 SpO.ans (SpO.err 1)
  · unfold sp_told; exact SpC.bif2 (fun _ _ _ => rfl) (SpC.ans (fun J J' e => by rw [e.2.2.2.2.1])) (SpC.err 1)
  · unfold sp_told; exact SpH.bif2 SpH.ans (SpH.err 1)
theorem op_tell (a : Int32) : OpOK y_X_tell y_M_tell [.int a] := by
  refine op_old (sp := fun J => sp_tell J a) (fun xs I T J h => x_tell xs I T J h a) (fun xs I0 T0 I T h => m_tell I T h.1 a) (by decide) (by decide) ?_ ?_ ?_
  · unfold sp_tell; exact SpO.ite2 (SpO.err 4) SpO.row
  · unfold sp_tell; exact SpC.ite2 (fun J J' e => by rw [e.2.2.1]) (SpC.err 4) (SpC.row (fun J J' e => by rw [e.2.2.1] <;> exact ⟨rfl, rfl⟩))
  · unfold sp_tell; exact SpH.ite2 (SpH.err 4) (SpH.row (fun J => by rw [va_up_ne _ _ (by omega), va_up_ne _ _ (by omega)]) (fun J j hj => by rw [va_up_ne _ _ (by omega), va_up_ne _ _ (by omega)]))
theorem op_body (a : Int32) : OpOK y_X_body y_M_body [.int a] := by
  refine op_old (sp := fun J => sp_body J a) (fun xs I T J h => x_body xs I T J h a) (fun xs I0 T0 I T h => m_body I T h.2.2.2.2.2.2.2.1.2.1 a) (by decide) (by decide) ?_ ?_ ?_
  · unfold sp_body; exact SpO.bif2 SpO.ans (SpO.err 2)
  · unfold sp_body; exact SpC.bif2 (fun J J' e => by rw [e.2.1]) (SpC.ans (fun J J' e => by rw [e.2.2.2.2.2.1])) (SpC.err 2)
  · unfold sp_body; exact SpH.bif2 SpH.ans (SpH.err 2)
