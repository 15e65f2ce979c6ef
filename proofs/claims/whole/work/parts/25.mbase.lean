/-! the reference: its small methods -/
theorem nI_div {a b : Nat} (ha : a < 2 ^ 31) (hb : b < 2 ^ 31) : nI a / nI b = nI (a / b) := by
  apply Int32.toInt_inj.mp
  have h3 : a / b < 2 ^ 31 := Nat.lt_of_le_of_lt (Nat.div_le_self a b) ha
  rw [Int32.toInt_div, nI_toInt ha, nI_toInt hb, nI_toInt h3, ← Int.ofNat_tdiv]
  generalize a / b = q at h3 ⊢
  rw [Int.bmod_eq_of_le] <;> omega
theorem irm_nI {a b : Nat} (ha : a < 2 ^ 31) (hb : b < 2 ^ 31) : irm (nI a) (nI b) = nI (a % b) := by
  unfold irm
  rw [nI_div ha hb, nI_mul]
  apply Int32.toInt_inj.mp
  have h1 : a / b * b ≤ a := Nat.div_mul_le_self a b
  have h2 : a % b < 2 ^ 31 := Nat.lt_of_le_of_lt (Nat.mod_le a b) ha
  have h4 : a / b * b + a % b = a := by rw [Nat.mul_comm]; exact Nat.div_add_mod a b
  generalize a / b * b = q at h1 h4 ⊢
  generalize a % b = w at h2 h4 ⊢
  rw [Int32.toInt_sub, nI_toInt ha, nI_toInt (by omega), nI_toInt h2]
  rw [Int.bmod_eq_of_le] <;> omega
theorem m_error (I : AI) (T : AT) (k : Nat) (hk : k < 7) : Ct 0 y_M_error [.ref 73, .int (nI k)] (hp I T) (fun r h' => h' = hp (va_up I 77 (va_up (I 77) k (I 77 k + 1))) T ∧ r = some (.int (-1000000000 - nI k))) := by
  repeat refine Go.step rfl ?_
  refine Go.iald rfl rfl (am_in_nI hk (by decide)) ?_
  repeat refine Go.step rfl ?_
  refine Go.iast rfl rfl (am_in_nI hk (by decide)) ?_
  repeat refine Go.step rfl ?_
  rw [nI_clamp (by omega)]
  exact Go.ret rfl ⟨rfl, rfl⟩
theorem m_isCell (h : AH) (c : Int32) : Ct 1 y_M_isCell [.int c] h (fun r h' => h' = h ∧ r = some (.int (bo (win c 0 23)))) := by
  obtain ⟨I, P, S, n, sl⟩ := h
  repeat refine Go.step rfl ?_
  refine Go.cal (m_in _ c 0 23) (by decide) rfl ?_
  rintro _ _ ⟨rfl, rfl⟩
  exact Go.zret rfl rfl (bo_01 _) ⟨rfl, rfl⟩
theorem m_isBoat (I : AI) (T : AT) (b : Int32) : Ct 1 y_M_isBoat [.ref 73, .int b] (hp I T) (fun r h' => h' = hp I T ∧ r = some (.int (bo (win b 0 (I 74 0 - 1))))) := by
  repeat refine Go.step rfl ?_
  refine Go.cal (m_in _ b 0 (I 74 0 - 1)) (by decide) rfl ?_
  rintro _ _ ⟨rfl, rfl⟩
  exact Go.zret rfl rfl (bo_01 _) ⟨rfl, rfl⟩
theorem m_lays1 (I : AI) (T : AT) (b f : Nat) (v : Int32) (hb : b < 8) (hf : f < 8) : Ct 0 y_M_lays1 [.ref 73, .int (nI b), .int (nI f), .int v] (hp I T) (fun r h' => h' = hp (va_up I 74 (va_up (I 74) (58 + 8 * b + f) v)) T ∧ r = none) := by
  repeat refine Go.step rfl ?_
  have e1 : (58 : Int32) + 8 * nI b + nI f = nI (58 + 8 * b + f) := by
    show nI 58 + nI 8 * nI b + nI f = _
    rw [nI_mul, nI_add, nI_add]
  rw [e1]
  refine Go.iast rfl rfl (am_in_nI (by omega) (by decide)) ?_
  rw [nI_clamp (by omega)]
  exact Go.ret rfl ⟨rfl, rfl⟩
theorem m_hourOfDay (I : AI) (T : AT) (h : Nat) (hh : I 74 1 = nI h) (hb : h < 100000) : Ct 0 y_M_hourOfDay [.ref 73] (hp I T) (fun r h' => h' = hp I T ∧ r = some (.int (nI (h % 24)))) := by
  repeat refine Go.step rfl ?_
  refine Go.ret rfl ⟨rfl, ?_⟩
  show some (Value.int (irm (I 74 1) (nI 24))) = _
  rw [hh, irm_nI (by omega) (by decide)]
theorem m_knots (I : AI) (T : AT) (h : Nat) (hh : I 74 1 = nI h) (hb : h < 100000) : Ct 1 y_M_knots [.ref 73] (hp I T) (fun r h' => h' = hp I T ∧ r = some (.int (I 74 (10 + h % 24)))) := by
  repeat refine Go.step rfl ?_
  refine Go.cal (m_hourOfDay I T h hh hb) (by decide) rfl ?_
  rintro _ _ ⟨rfl, rfl⟩
  repeat refine Go.step rfl ?_
  have e1 : (10 : Int32) + nI (h % 24) = nI (10 + h % 24) := nI_add 10 _
  rw [e1]
  refine Go.iald rfl rfl (am_in_nI (by omega) (by decide)) ?_
  rw [nI_clamp (by omega)]
  exact Go.ret rfl ⟨rfl, rfl⟩
theorem m_way (I : AI) (T : AT) (h : Nat) (hh : I 74 1 = nI h) (hb : h < 100000) : Ct 1 y_M_way [.ref 73] (hp I T) (fun r h' => h' = hp I T ∧ r = some (.int (I 74 (34 + h % 24)))) := by
  repeat refine Go.step rfl ?_
  refine Go.cal (m_hourOfDay I T h hh hb) (by decide) rfl ?_
  rintro _ _ ⟨rfl, rfl⟩
  repeat refine Go.step rfl ?_
  have e1 : (34 : Int32) + nI (h % 24) = nI (34 + h % 24) := nI_add 34 _
  rw [e1]
  refine Go.iald rfl rfl (am_in_nI (by omega) (by decide)) ?_
  rw [nI_clamp (by omega)]
  exact Go.ret rfl ⟨rfl, rfl⟩
def isW (kw : Int32) : Bool := win kw 0 403 && decide (irm kw 10 ≤ 3)
theorem m_isWind (h : AH) (kw : Int32) : Ct 1 y_M_isWind [.int kw] h (fun r h' => h' = h ∧ r = some (.int (bo (isW kw)))) := by
  obtain ⟨I, P, S, n, sl⟩ := h
  repeat refine Go.step rfl ?_
  refine Go.cal (m_in _ kw 0 403) (by decide) rfl ?_
  rintro _ _ ⟨rfl, rfl⟩
  refine Go.step rfl ?_
  refine Go.ite (fun c1 => ?_) (fun c1 => ?_)
  · repeat refine Go.step rfl ?_
    refine Go.ret rfl ⟨rfl, ?_⟩
    rw [bo_0] at c1
    simp [isW, c1, bo]
  · repeat refine Go.step rfl ?_
    have c2 : win kw 0 403 = true := by
      cases hw : win kw 0 403 with
      | true => rfl
      | false => exact absurd (bo_0.mpr hw) c1
    refine Go.ite (fun c3 => ?_) (fun c3 => ?_)
    · repeat refine Go.step rfl ?_
      refine Go.ret rfl ⟨rfl, ?_⟩
      simp [isW, c2, bo, Int32.not_le.mpr c3]
    · repeat refine Go.step rfl ?_
      refine Go.ret rfl ⟨rfl, ?_⟩
      simp [isW, c2, bo, Int32.not_lt.mp c3]
theorem m_blowsAt (I : AI) (T : AT) (j : Nat) (kw : Int32) (hj : j < 24) : Ct 0 y_M_blowsAt [.ref 73, .int (nI j), .int kw] (hp I T) (fun r h' => h' = hp (va_up I 74 (va_up (va_up (I 74) (10 + j) (kw / 10)) (34 + j) (irm kw 10))) T ∧ r = none) := by
  repeat refine Go.step rfl ?_
  have e1 : (10 : Int32) + nI j = nI (10 + j) := nI_add 10 _
  rw [e1]
  refine Go.iast rfl rfl (am_in_nI (by omega) (by decide)) ?_
  rw [nI_clamp (by omega)]
  repeat refine Go.step rfl ?_
  have e2 : (34 : Int32) + nI j = nI (34 + j) := nI_add 34 _
  rw [e2]
  refine Go.iast rfl rfl (am_in_nI (by omega) (by decide)) ?_
  rw [nI_clamp (by omega)]
  refine Go.ret rfl ⟨?_, rfl⟩
  rw [vu_idem, vu_same]
  rfl
theorem m_priceAt (I : AI) (T : AT) (c : Nat) (hc : c < 24) : Ct 0 y_M_priceAt [.ref 73, .int (nI c)] (hp I T) (fun r h' => h' = hp I T ∧ r = some (.int (I 74 (5 + c / 6)))) := by
  repeat refine Go.step rfl ?_
  have e1 : (5 : Int32) + nI c / 6 = nI (5 + c / 6) := by
    show nI 5 + nI c / nI 6 = _
    rw [nI_div (by omega) (by decide), nI_add]
  rw [e1]
  refine Go.iald rfl rfl (am_in_nI (by omega) (by decide)) ?_
  rw [nI_clamp (by omega)]
  exact Go.ret rfl ⟨rfl, rfl⟩
