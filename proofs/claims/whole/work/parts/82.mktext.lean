/-! a text is made -/
theorem tP_nm (a : Nat) (h : a < 91) (h55 : a ≠ 55) (tx : Nat → Option Nat) (nm nm' : Option Nat) (k : Nat) : tP tx nm' a k = tP tx nm a k := by
  rcases (show a = 0 ∨ a = 1 ∨ a = 2 ∨ a = 3 ∨ a = 4 ∨ a = 5 ∨ a = 6 ∨ a = 7 ∨ a = 8 ∨ a = 9 ∨ a = 10 ∨ a = 11 ∨ a = 12 ∨ a = 13 ∨ a = 14 ∨ a = 15 ∨ a = 16 ∨ a = 17 ∨ a = 18 ∨ a = 19 ∨ a = 20 ∨ a = 21 ∨ a = 22 ∨ a = 23 ∨ a = 24 ∨ a = 25 ∨ a = 26 ∨ a = 27 ∨ a = 28 ∨ a = 29 ∨ a = 30 ∨ a = 31 ∨ a = 32 ∨ a = 33 ∨ a = 34 ∨ a = 35 ∨ a = 36 ∨ a = 37 ∨ a = 38 ∨ a = 39 ∨ a = 40 ∨ a = 41 ∨ a = 42 ∨ a = 43 ∨ a = 44 ∨ a = 45 ∨ a = 46 ∨ a = 47 ∨ a = 48 ∨ a = 49 ∨ a = 50 ∨ a = 51 ∨ a = 52 ∨ a = 53 ∨ a = 54 ∨ a = 55 ∨ a = 56 ∨ a = 57 ∨ a = 58 ∨ a = 59 ∨ a = 60 ∨ a = 61 ∨ a = 62 ∨ a = 63 ∨ a = 64 ∨ a = 65 ∨ a = 66 ∨ a = 67 ∨ a = 68 ∨ a = 69 ∨ a = 70 ∨ a = 71 ∨ a = 72 ∨ a = 73 ∨ a = 74 ∨ a = 75 ∨ a = 76 ∨ a = 77 ∨ a = 78 ∨ a = 79 ∨ a = 80 ∨ a = 81 ∨ a = 82 ∨ a = 83 ∨ a = 84 ∨ a = 85 ∨ a = 86 ∨ a = 87 ∨ a = 88 ∨ a = 89 ∨ a = 90 by omega) with rfl | rfl | rfl | rfl | rfl | rfl | rfl | rfl | rfl | rfl | rfl | rfl | rfl | rfl | rfl | rfl | rfl | rfl | rfl | rfl | rfl | rfl | rfl | rfl | rfl | rfl | rfl | rfl | rfl | rfl | rfl | rfl | rfl | rfl | rfl | rfl | rfl | rfl | rfl | rfl | rfl | rfl | rfl | rfl | rfl | rfl | rfl | rfl | rfl | rfl | rfl | rfl | rfl | rfl | rfl | rfl | rfl | rfl | rfl | rfl | rfl | rfl | rfl | rfl | rfl | rfl | rfl | rfl | rfl | rfl | rfl | rfl | rfl | rfl | rfl | rfl | rfl | rfl | rfl | rfl | rfl | rfl | rfl | rfl | rfl | rfl | rfl | rfl | rfl | rfl | rfl
  all_goals first
    | rfl
    | exact absurd rfl h55
theorem sP_nm (tx : Nat → Option Nat) (nm nm' : Option Nat) (Pd : AP) : va_up (sP tx nm Pd) 55 (va_up (sP tx nm Pd 55) 2 nm') = sP tx nm' Pd := by
  funext a k
  by_cases ha : a = 55
  · subst ha
    rw [vu_same]
    match k with
    | 0 => rfl
    | 1 => rfl
    | 2 => rfl
    | k + 3 => rfl
  · rw [va_up_ne _ _ ha]
    unfold sP
    by_cases h90 : a ≤ 90
    · rw [show Nat.ble a 90 = true from Nat.ble_eq.mpr h90]
      exact tP_nm a (by omega) ha _ _ _ _
    · rw [show Nat.ble a 90 = false from by rw [← Bool.not_eq_true, Nat.ble_eq]; omega]
      rfl
theorem sS_up (L : Nat) (Sd : AS) {n : Nat} (h1 : 91 ≤ n) (h2 : n < 1000) (v : Nat × Nat) : va_up (sS L Sd) n v = sS L (va_up Sd n v) := by
  funext a
  by_cases ha : a = n
  · subst ha
    rw [vu_same, sS_dyn _ _ h1 h2, vu_same]
  · rw [va_up_ne _ _ ha]
    unfold sS
    rw [va_up_ne _ _ ha]
theorem sP_up (tx : Nat → Option Nat) (nm : Option Nat) (Pd : AP) {n : Nat} (h1 : 91 ≤ n) (h2 : n < 1000) (g : Nat → Option Nat) : va_up (sP tx nm Pd) n g = sP tx nm (va_up Pd n g) := by
  funext a k
  by_cases ha : a = n
  · subst ha
    rw [vu_same, sP_dyn _ _ _ h1 h2, vu_same]
  · rw [va_up_ne _ _ ha]
    unfold sP
    rw [va_up_ne _ _ ha]
theorem sP_at (tx : Nat → Option Nat) (nm : Option Nat) (Pd : AP) {n : Nat} (h1 : 91 ≤ n) (h2 : n < 1000) : sP tx nm Pd n = Pd n := by
  funext k; exact sP_dyn _ _ _ h1 h2
section
variable {d y pc nx : Nat} {ls : ALS} {r : List Value} {I : AI} {P : AP} {S : AS} {n sl : Nat} {Q : Option Value → AH → Prop} {v : Int32}
theorem Go.new {x ci q : Nat} (e : cd y pc = some (.new x, nx, v, [ci, q])) (hn : n < 1000) (k : Go d y nx ls (.ref n :: r) (va_up I n (fun _ => 0), va_up P n (fun _ => none), va_up S n (10 + ci, fN ci), n + 1, sl + fN ci) Q) : Go d y pc ls r (I, P, S, n, sl) Q :=
  Go.step (by rw [e]; simp only [Option.bind_some, am_step, show Nat.blt n 1000 = true from Nat.ble_eq.mpr hn, cond_true]) k
theorem Go.newa {ops : List Nat} {at' : _} {m : Nat} (e : cd y pc = some (.newarray at', nx, v, ops)) (hn : n < 1000) (hm : m < 1000) (k : Go d y nx ls (.ref n :: r) (va_up I n (fun _ => 0), P, va_up S n (0, m), n + 1, sl + m) Q) : Go d y pc ls (.int (nI m) :: r) (I, P, S, n, sl) Q :=
  Go.step (by rw [e]; simp only [Option.bind_some, am_step, show Nat.blt n 1000 = true from Nat.ble_eq.mpr hn, am_in_nI (show m < 1000000 by omega) (by decide), Bool.and_self, cond_true, nI_clamp (show m < 2 ^ 31 by omega)]) k
theorem Go.clone {x q a n0 : Nat} (e : cd y pc = some (.invokevirtual x, nx, v, [7, q])) (hS : S a = (0, n0)) (hn : n < 1000) (hr : Nat.ble (am_cats r) 8 = true) (k : Go d y nx ls (.ref n :: r) (va_up I n (I a), P, va_up S n (0, n0), n + 1, sl + n0) Q) : Go d y pc ls (.ref a :: r) (I, P, S, n, sl) Q :=
  Go.step (by rw [e]; simp only [Option.bind_some, am_step, hS, show Nat.blt n 1000 = true from Nat.ble_eq.mpr hn, hr]; rfl) k
theorem Go.chk {x a n0 : Nat} {ops : List Nat} (e : cd y pc = some (.checkcast x, nx, v, ops)) (hS : S a = (0, n0)) (k : Go d y nx ls (.ref a :: r) (I, P, S, n, sl) Q) : Go d y pc ls (.ref a :: r) (I, P, S, n, sl) Q :=
  Go.step (by rw [e]; simp only [Option.bind_some, am_step, hS]; rfl) k
end
theorem j_copyOf (I : AI) (P : AP) (S : AS) (n sl len : Nat) (h57 : S 57 = (0, 60)) (hn : n < 1000) (hn2 : n ≠ 57) (hl : len ≤ 60) : Ct 1 y_Arrays_copyOf [.ref 57, .int (nI len)] (I, P, S, n, sl) (fun r h' => ∃ I', h' = (I', P, va_up S n (0, len), n + 1, sl + len) ∧ (∀ a, a ≠ n → I' a = I a) ∧ (∀ j, j < len → I' n j = I 57 j) ∧ r = some (.ref n)) := by
  iterate 2 refine Go.step rfl ?_
  refine Go.alen rfl h57 rfl ?_
  refine Go.step rfl ?_
  by_cases q : len = 60
  · subst q
    refine Go.ifp rfl ?_
    refine Go.step rfl ?_
    refine Go.clone rfl h57 hn rfl ?_
    refine Go.chk rfl (show va_up S n (0, 60) n = (0, 60) from vu_same _ _ _) ?_
    exact Go.ret rfl ⟨_, rfl, fun a ha => va_up_ne _ _ ha, fun j _ => by rw [vu_same], rfl⟩
  · refine Go.ifn (fun z => q ((nI_eq (a := len) (b := 60) (by omega) (by decide)).mp z)) ?_
    refine Go.step rfl ?_
    refine Go.newa rfl hn (show len < 1000 by omega) ?_
    iterate 6 refine Go.step rfl ?_
    have h57' : va_up S n (0, len) 57 = (0, 60) := by rw [va_up_ne _ _ hn2.symm]; exact h57
    refine Go.alen rfl h57' rfl ?_
    refine Go.step rfl ?_
    refine Go.cal (j_min _ (nI 60) (nI len)) (by decide) rfl ?_
    rintro _ _ ⟨rfl, rfl⟩
    rw [if_pos (nI_lt (a := len) (b := 60) (by omega) (by decide))]
    refine Go.acpy (sp := 0) (dp := 0) (c := len) rfl h57' (vu_same _ _ _) (by omega) (by omega) (by decide) (by omega) rfl ?_
    refine Go.step rfl ?_
    refine Go.ret rfl ⟨_, rfl, fun a ha => by rw [va_up_ne _ _ ha, va_up_ne _ _ ha], fun j hj => ?_, rfl⟩
    rw [vu_same, va_up_ne _ _ hn2.symm]
    unfold va_cpy
    rw [if_pos ⟨by omega, by omega⟩, show 0 + (j - 0) = j by omega]
theorem x_textInit (I : AI) (P : AP) (S : AS) (n sl a w : Nat) (hS : S a = (15, 1)) : Ct 0 y_Text_init [.ref a, .ref w] (I, P, S, n, sl) (fun r h' => h' = (I, va_up P a (va_up (P a) 0 (some w)), S, n, sl) ∧ r = none) := by
  iterate 4 refine Go.step rfl ?_
  refine Go.putr rfl hS rfl ?_
  exact Go.ret rfl ⟨rfl, rfl⟩
