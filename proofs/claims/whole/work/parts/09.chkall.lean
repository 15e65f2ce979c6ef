theorem am_chk_all : ∀ y pc, am_chk y pc = true := by
  intro y pc
  by_cases hp : pc < mlen y
  · by_cases hy : y < 223
    · rcases (show (y < 34 ∧ 0 ≤ y) ∨ (y < 60 ∧ 34 ≤ y) ∨ (y < 81 ∧ 60 ≤ y) ∨ (y < 104 ∧ 81 ≤ y) ∨ (y < 138 ∧ 104 ≤ y) ∨ (y < 157 ∧ 138 ≤ y) ∨ (y < 174 ∧ 157 ≤ y) ∨ (y < 193 ∧ 174 ≤ y) ∨ (y < 219 ∧ 193 ≤ y) ∨ (y < 222 ∧ 219 ≤ y) ∨ (y < 223 ∧ 222 ≤ y) by omega) with h | h | h | h | h | h | h | h | h | h | h
      · exact am_chk_0 y h.1 h.2 pc hp
      · exact am_chk_1 y h.1 h.2 pc hp
      · exact am_chk_2 y h.1 h.2 pc hp
      · exact am_chk_3 y h.1 h.2 pc hp
      · exact am_chk_4 y h.1 h.2 pc hp
      · exact am_chk_5 y h.1 h.2 pc hp
      · exact am_chk_6 y h.1 h.2 pc hp
      · exact am_chk_7 y h.1 h.2 pc hp
      · exact am_chk_8 y h.1 h.2 pc hp
      · exact am_chk_9 y h.1 h.2 pc hp
      · exact am_chk_10 y h.1 h.2 pc hp
    · exfalso
      have : mlen y = 0 := by
        unfold mlen
        rw [Nat.ble_eq_true_of_le (by omega), cond_true]
      omega
  · unfold am_chk cd
    have : Nat.blt pc (mlen y) = false := by
      cases h : Nat.blt pc (mlen y) with
      | false => rfl
      | true => exact absurd (by simpa using h) hp
    rw [this]
    rfl
theorem am_mchk_all : ∀ y, y < 222 → am_mchk y = true := by
  intro y hy
  rcases (show (y < 40 ∧ 0 ≤ y) ∨ (y < 80 ∧ 40 ≤ y) ∨ (y < 120 ∧ 80 ≤ y) ∨ (y < 160 ∧ 120 ≤ y) ∨ (y < 200 ∧ 160 ≤ y) ∨ (y < 222 ∧ 200 ≤ y) by omega) with h | h | h | h | h | h
  · exact am_mchk_0 y h.1 h.2
  · exact am_mchk_1 y h.1 h.2
  · exact am_mchk_2 y h.1 h.2
  · exact am_mchk_3 y h.1 h.2
  · exact am_mchk_4 y h.1 h.2
  · exact am_mchk_5 y h.1 h.2
theorem am_mml_le : ∀ y, y < 222 → mml y ≤ 40 := by decide +kernel
