theorem am_chk_all : ∀ y pc, am_chk y pc = true := by
  intro y pc
  by_cases hp : pc < mlen y
  · by_cases hy : y < 223
    · rcases (show (y < 34 ∧ 0 ≤ y) ∨ (y < 60 ∧ 34 ≤ y) ∨ (y < 81 ∧ 60 ≤ y) ∨ (y < 104 ∧ 81 ≤ y) ∨ (y < 138 ∧ 104 ≤ y) ∨ (y < 157 ∧ 138 ≤ y) ∨ (y < 174 ∧ 157 ≤ y) ∨ (y < 193 ∧ 174 ≤ y) ∨ (y < 219 ∧ 193 ≤ y) ∨ (y < 222 ∧ 219 ≤ y) ∨ (y < 223 ∧ 222 ≤ y) by omega) with h | h | h | h | h | h | h | h | h | h | h
      · exact am_chk_0 y h.1 h.2 pc hp
      · exact am_chk_1 y h.1 h.2 pc hp
      · exact am_chk_2 y h.1 h.2 pc hp
      · exact am_chk_3 y h.1 h.2 pc hp
      · exact am_chk_4 y h.1 h.2 pc hp
      · exact am_chk_5 y h.1 h.2 pc hp
      · exact am_chk_6 y h.1 h.2 pc hp
      · exact am_chk_7 y h.1 h.2 pc hp
      · exact am_chk_8 y h.1 h.2 pc hp
      · exact am_chk_9 y h.1 h.2 pc hp
      · have h2 : y = 222 := by omega
        subst h2
        have hb : pc < 1320 := Nat.lt_of_lt_of_le hp (Nat.le_of_ble_eq_true rfl)
        rcases (show (pc < 60 ∧ 0 ≤ pc) ∨ (pc < 120 ∧ 60 ≤ pc) ∨ (pc < 180 ∧ 120 ≤ pc) ∨ (pc < 240 ∧ 180 ≤ pc) ∨ (pc < 300 ∧ 240 ≤ pc) ∨ (pc < 360 ∧ 300 ≤ pc) ∨ (pc < 420 ∧ 360 ≤ pc) ∨ (pc < 480 ∧ 420 ≤ pc) ∨ (pc < 540 ∧ 480 ≤ pc) ∨ (pc < 600 ∧ 540 ≤ pc) ∨ (pc < 660 ∧ 600 ≤ pc) ∨ (pc < 720 ∧ 660 ≤ pc) ∨ (pc < 780 ∧ 720 ≤ pc) ∨ (pc < 840 ∧ 780 ≤ pc) ∨ (pc < 900 ∧ 840 ≤ pc) ∨ (pc < 960 ∧ 900 ≤ pc) ∨ (pc < 1020 ∧ 960 ≤ pc) ∨ (pc < 1080 ∧ 1020 ≤ pc) ∨ (pc < 1140 ∧ 1080 ≤ pc) ∨ (pc < 1200 ∧ 1140 ≤ pc) ∨ (pc < 1260 ∧ 1200 ≤ pc) ∨ (pc < 1320 ∧ 1260 ≤ pc) by omega) with q | q | q | q | q | q | q | q | q | q | q | q | q | q | q | q | q | q | q | q | q | q
        · exact am_chkL_0 pc q.1 q.2
        · exact am_chkL_60 pc q.1 q.2
        · exact am_chkL_120 pc q.1 q.2
        · exact am_chkL_180 pc q.1 q.2
        · exact am_chkL_240 pc q.1 q.2
        · exact am_chkL_300 pc q.1 q.2
        · exact am_chkL_360 pc q.1 q.2
        · exact am_chkL_420 pc q.1 q.2
        · exact am_chkL_480 pc q.1 q.2
        · exact am_chkL_540 pc q.1 q.2
        · exact am_chkL_600 pc q.1 q.2
        · exact am_chkL_660 pc q.1 q.2
        · exact am_chkL_720 pc q.1 q.2
        · exact am_chkL_780 pc q.1 q.2
        · exact am_chkL_840 pc q.1 q.2
        · exact am_chkL_900 pc q.1 q.2
        · exact am_chkL_960 pc q.1 q.2
        · exact am_chkL_1020 pc q.1 q.2
        · exact am_chkL_1080 pc q.1 q.2
        · exact am_chkL_1140 pc q.1 q.2
        · exact am_chkL_1200 pc q.1 q.2
        · exact am_chkL_1260 pc q.1 q.2
    · exfalso
      have : mlen y = 0 := by
        unfold mlen
        rw [Nat.ble_eq_true_of_le (by omega), cond_true]
      omega
  · unfold am_chk cd
    have : Nat.blt pc (mlen y) = false := by
      cases h : Nat.blt pc (mlen y) with
      | false => rfl
      | true => exact absurd (by simpa using h) hp
    rw [this]
    rfl
theorem am_mchk_all : ∀ y, y < 222 → am_mchk y = true := by
  intro y hy
  rcases (show (y < 40 ∧ 0 ≤ y) ∨ (y < 80 ∧ 40 ≤ y) ∨ (y < 120 ∧ 80 ≤ y) ∨ (y < 160 ∧ 120 ≤ y) ∨ (y < 200 ∧ 160 ≤ y) ∨ (y < 222 ∧ 200 ≤ y) by omega) with h | h | h | h | h | h
  · exact am_mchk_0 y h.1 h.2
  · exact am_mchk_1 y h.1 h.2
  · exact am_mchk_2 y h.1 h.2
  · exact am_mchk_3 y h.1 h.2
  · exact am_mchk_4 y h.1 h.2
  · exact am_mchk_5 y h.1 h.2
theorem am_mml_le : ∀ y, y < 222 → mml y ≤ 40 := by decide +kernel
