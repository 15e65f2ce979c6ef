/-! COPIES of seas and desks -/
theorem cpy_step (f g : Nat → Int32) (k : Nat) : va_up (cpy f g k) k (f k) = cpy f g (k + 1) := by
  funext j
  simp only [va_up, cpy]
  by_cases hj : j = k
  · subst hj; simp
  · by_cases hj2 : j < k
    · simp [hj, hj2, show j < k + 1 by omega]
    · simp [hj, hj2, show ¬ j < k + 1 by omega]
theorem cpy_0 (f g : Nat → Int32) : cpy f g 0 = g := by funext j; simp [cpy]
theorem x_boatCopy (I : AI) (T : AT) (a b N N' : Nat) (hne : b ≠ a) (hSa : sS T.2.2.2.2.2.2 T.2.2.2.1 a = (10, N)) (hSb : sS T.2.2.2.2.2.2 T.2.2.2.1 b = (10, N')) : Ct 0 y_Boat_copy [.ref a, .ref b] (hp I T) (fun r h' => h' = hp (va_up I a (cpy (I b) (I a) 8)) T ∧ r = none) := by
  have st : Go 0 y_Boat_copy 0 (am_pad (mml y_Boat_copy) (am_lay [.ref a, .ref b])) [] (hp (va_up I a (cpy (I b) (I a) 0)) T) (fun r h' => h' = hp (va_up I a (cpy (I b) (I a) 8)) T ∧ r = none) := by
    iterate 2 refine Go.step rfl ?_
    refine Go.geti rfl hSb (Or.inl rfl) ?_
    rw [va_up_ne _ _ hne]
    refine Go.puti rfl hSa rfl ?_
    rw [vu_idem, vu_same, cpy_step]
    iterate 2 refine Go.step rfl ?_
    refine Go.geti rfl hSb (Or.inl rfl) ?_
    rw [va_up_ne _ _ hne]
    refine Go.puti rfl hSa rfl ?_
    rw [vu_idem, vu_same, cpy_step]
    iterate 2 refine Go.step rfl ?_
    refine Go.geti rfl hSb (Or.inl rfl) ?_
    rw [va_up_ne _ _ hne]
    refine Go.puti rfl hSa rfl ?_
    rw [vu_idem, vu_same, cpy_step]
    iterate 2 refine Go.step rfl ?_
    refine Go.geti rfl hSb (Or.inl rfl) ?_
    rw [va_up_ne _ _ hne]
    refine Go.puti rfl hSa rfl ?_
    rw [vu_idem, vu_same, cpy_step]
    iterate 2 refine Go.step rfl ?_
    refine Go.geti rfl hSb (Or.inl rfl) ?_
    rw [va_up_ne _ _ hne]
    refine Go.puti rfl hSa rfl ?_
    rw [vu_idem, vu_same, cpy_step]
    iterate 2 refine Go.step rfl ?_
    refine Go.geti rfl hSb (Or.inl rfl) ?_
    rw [va_up_ne _ _ hne]
    refine Go.puti rfl hSa rfl ?_
    rw [vu_idem, vu_same, cpy_step]
    iterate 2 refine Go.step rfl ?_
    refine Go.geti rfl hSb (Or.inl rfl) ?_
    rw [va_up_ne _ _ hne]
    refine Go.puti rfl hSa rfl ?_
    rw [vu_idem, vu_same, cpy_step]
    iterate 2 refine Go.step rfl ?_
    refine Go.geti rfl hSb (Or.inl rfl) ?_
    rw [va_up_ne _ _ hne]
    refine Go.puti rfl hSa rfl ?_
    rw [vu_idem, vu_same, cpy_step]
    exact Go.ret rfl ⟨rfl, rfl⟩
  rw [cpy_0, vu_self] at st
  exact st
theorem tP_ind (a : Nat) (h : a < 91) (h5 : a ≠ 5) (h21 : a ≠ 21) (h37 : a ≠ 37) (tx tx' : Nat → Option Nat) (nm : Option Nat) (k : Nat) : tP tx nm a k = tP tx' nm a k := by
  rcases (show a = 0 ∨ a = 1 ∨ a = 2 ∨ a = 3 ∨ a = 4 ∨ a = 5 ∨ a = 6 ∨ a = 7 ∨ a = 8 ∨ a = 9 ∨ a = 10 ∨ a = 11 ∨ a = 12 ∨ a = 13 ∨ a = 14 ∨ a = 15 ∨ a = 16 ∨ a = 17 ∨ a = 18 ∨ a = 19 ∨ a = 20 ∨ a = 21 ∨ a = 22 ∨ a = 23 ∨ a = 24 ∨ a = 25 ∨ a = 26 ∨ a = 27 ∨ a = 28 ∨ a = 29 ∨ a = 30 ∨ a = 31 ∨ a = 32 ∨ a = 33 ∨ a = 34 ∨ a = 35 ∨ a = 36 ∨ a = 37 ∨ a = 38 ∨ a = 39 ∨ a = 40 ∨ a = 41 ∨ a = 42 ∨ a = 43 ∨ a = 44 ∨ a = 45 ∨ a = 46 ∨ a = 47 ∨ a = 48 ∨ a = 49 ∨ a = 50 ∨ a = 51 ∨ a = 52 ∨ a = 53 ∨ a = 54 ∨ a = 55 ∨ a = 56 ∨ a = 57 ∨ a = 58 ∨ a = 59 ∨ a = 60 ∨ a = 61 ∨ a = 62 ∨ a = 63 ∨ a = 64 ∨ a = 65 ∨ a = 66 ∨ a = 67 ∨ a = 68 ∨ a = 69 ∨ a = 70 ∨ a = 71 ∨ a = 72 ∨ a = 73 ∨ a = 74 ∨ a = 75 ∨ a = 76 ∨ a = 77 ∨ a = 78 ∨ a = 79 ∨ a = 80 ∨ a = 81 ∨ a = 82 ∨ a = 83 ∨ a = 84 ∨ a = 85 ∨ a = 86 ∨ a = 87 ∨ a = 88 ∨ a = 89 ∨ a = 90 by omega) with rfl | rfl | rfl | rfl | rfl | rfl | rfl | rfl | rfl | rfl | rfl | rfl | rfl | rfl | rfl | rfl | rfl | rfl | rfl | rfl | rfl | rfl | rfl | rfl | rfl | rfl | rfl | rfl | rfl | rfl | rfl | rfl | rfl | rfl | rfl | rfl | rfl | rfl | rfl | rfl | rfl | rfl | rfl | rfl | rfl | rfl | rfl | rfl | rfl | rfl | rfl | rfl | rfl | rfl | rfl | rfl | rfl | rfl | rfl | rfl | rfl | rfl | rfl | rfl | rfl | rfl | rfl | rfl | rfl | rfl | rfl | rfl | rfl | rfl | rfl | rfl | rfl | rfl | rfl | rfl | rfl | rfl | rfl | rfl | rfl | rfl | rfl | rfl | rfl | rfl | rfl
  all_goals first
    | rfl
    | exact absurd rfl h5
    | exact absurd rfl h21
    | exact absurd rfl h37
theorem sP_tx (tx : Nat → Option Nat) (nm : Option Nat) (Pd : AP) (i u : Nat) (hi : i < 3) (hu : u < 2) (o : Option Nat) : sP (va_up tx (2 * i + u) o) nm Pd = va_up (sP tx nm Pd) (16 * i + 5) (va_up (sP tx nm Pd (16 * i + 5)) u o) := by
  funext a k
  by_cases ha : a = 16 * i + 5
  · subst ha
    rw [vu_same]
    rcases (show i = 0 ∨ i = 1 ∨ i = 2 by omega) with rfl | rfl | rfl <;> rcases (show u = 0 ∨ u = 1 by omega) with rfl | rfl <;> (match k with
      | 0 => rfl
      | 1 => rfl
      | k + 2 => rfl)
  · rw [va_up_ne _ _ ha]
    unfold sP
    by_cases h90 : a ≤ 90
    · rw [show Nat.ble a 90 = true from Nat.ble_eq.mpr h90]
      show tP _ nm a k = tP _ nm a k
      by_cases h5 : a = 5
      · subst h5
        match k with
        | 0 => exact va_up_ne _ _ (by omega)
        | 1 => exact va_up_ne _ _ (by omega)
        | k + 2 => rfl
      · by_cases h21 : a = 21
        · subst h21
          match k with
          | 0 => exact va_up_ne _ _ (by omega)
          | 1 => exact va_up_ne _ _ (by omega)
          | k + 2 => rfl
        · by_cases h37 : a = 37
          · subst h37
            match k with
            | 0 => exact va_up_ne _ _ (by omega)
            | 1 => exact va_up_ne _ _ (by omega)
            | k + 2 => rfl
          · exact tP_ind a (by omega) h5 h21 h37 _ _ _ _
    · rw [show Nat.ble a 90 = false from by rw [← Bool.not_eq_true, Nat.ble_eq]; omega]
      rfl
theorem Go.aast {d y pc nx : Nat} {ls : ALS} {r : List Value} {I : AI} {P : AP} {S : AS} {n sl : Nat} {Q : Option Value → AH → Prop} {v : Int32} {ops : List Nat} {a len kd q : Nat} {j : Int32} (e : cd y pc = some (.aastore, nx, v, ops)) (hS : S a = (kd, len)) (hk : (Nat.ble 1 kd && Nat.ble kd 3) = true) (hb : am_in j len = true) (hq : Nat.beq (S q).1 (am_ec kd) = true) (k : Go d y nx ls r (I, va_up P a (va_up (P a) j.toNatClampNeg (some q)), S, n, sl) Q) : Go d y pc ls (.ref q :: .int j :: .ref a :: r) (I, P, S, n, sl) Q :=
  Go.step (by rw [e]; simp only [am_step, hS, hb, hk, hq, Option.bind_some, Bool.and_self, cond_true]) k
theorem Go.aastN {d y pc nx : Nat} {ls : ALS} {r : List Value} {I : AI} {P : AP} {S : AS} {n sl : Nat} {Q : Option Value → AH → Prop} {v : Int32} {ops : List Nat} {a len kd : Nat} {j : Int32} (e : cd y pc = some (.aastore, nx, v, ops)) (hS : S a = (kd, len)) (hk : (Nat.ble 1 kd && Nat.ble kd 3) = true) (hb : am_in j len = true) (k : Go d y nx ls r (I, va_up P a (va_up (P a) j.toNatClampNeg none), S, n, sl) Q) : Go d y pc ls (.null :: .int j :: .ref a :: r) (I, P, S, n, sl) Q :=
  Go.step (by rw [e]; simp only [am_step, hS, hb, hk, Option.bind_some, Bool.and_self, cond_true]) k
def cT (T : AT) (iD iS : Nat) : AT := (va_up (va_up T.1 (2 * iD + 0) (T.1 (2 * iS + 0))) (2 * iD + 1) (T.1 (2 * iS + 1)), T.2)
theorem x_copyTxt_17_1 (I : AI) (T : AT) (u : Nat) (hu : u < 2) (hq : ∀ q, T.1 (2 * 0 + u) = some q → sS T.2.2.2.2.2.2 T.2.2.2.1 q = (15, 1)) (Q : Option Value → AH → Prop) (K : Go 1 y_Sea_copy 78 [some (.ref 17), some (.ref 1), some (.int (nI (u + 1)))] [] (hp I (va_up T.1 (2 * 1 + u) (T.1 (2 * 0 + u)), T.2)) Q) : Go 1 y_Sea_copy 78 [some (.ref 17), some (.ref 1), some (.int (nI u))] [] (hp I T) Q := by
  have K' : Go 1 y_Sea_copy 95 [some (.ref 17), some (.ref 1), some (.int (nI u))] [] (I, va_up (sP T.1 T.2.1 T.2.2.1) (16 * 1 + 5) (va_up (sP T.1 T.2.1 T.2.2.1 (16 * 1 + 5)) u (T.1 (2 * 0 + u))), sS T.2.2.2.2.2.2 T.2.2.2.1, T.2.2.2.2.1, T.2.2.2.2.2.1) Q := by
    rw [← sP_tx _ _ _ 1 u (by decide) hu]
    iterate 2 refine Go.step rfl ?_
    rw [show nI u + 1 = nI (u + 1) from nI_1 u]
    exact K
  have hP : sP T.1 T.2.1 T.2.2.1 5 u = T.1 (2 * 0 + u) := by
    rcases (show u = 0 ∨ u = 1 by omega) with rfl | rfl <;> rfl
  iterate 3 refine Go.step rfl ?_
  refine Go.ifn (nI_ge (a := u) (b := 2) hu (by decide)) ?_
  iterate 6 refine Go.step rfl ?_
  cases ho : T.1 (2 * 0 + u) with
  | none =>
    refine Go.aaldN rfl rfl rfl (am_in_nI hu (by decide)) (by rw [nI_clamp (by omega)]; exact hP.trans ho) ?_
    refine Go.aastN rfl rfl rfl (am_in_nI hu (by decide)) ?_
    rw [nI_clamp (by omega)]
    rw [ho] at K'
    exact K'
  | some q =>
    have hS := hq q ho
    refine Go.aald rfl rfl rfl (am_in_nI hu (by decide)) (by rw [nI_clamp (by omega)]; exact hP.trans ho) ?_
    refine Go.aast rfl rfl rfl (am_in_nI hu (by decide)) (by rw [show sS T.2.2.2.2.2.2 T.2.2.2.1 q = (15, 1) from hS]; rfl) ?_
    rw [nI_clamp (by omega)]
    rw [ho] at K'
    exact K'
theorem x_seaCopy_17_1 (I : AI) (T : AT) (s : Nat → Int32) (hs : sOK s) (hX : XSea I T 1 0 s) : Ct 1 y_Sea_copy [.ref 17, .ref 1] (hp I T) (fun r h' => ∃ I', h' = hp I' (cT T 1 0) ∧ (∀ a, a < 17 ∨ 17 + 15 < a → I' a = I a) ∧ XSea I' (cT T 1 0) 17 1 s ∧ r = none) := by
  obtain ⟨en, hn⟩ := hs.1.eq (by decide)
  obtain ⟨x1, x2, x3, x4, x5, x6⟩ := id hX
  have hq : ∀ u, u < 2 → ∀ q, T.1 (2 * 0 + u) = some q → sS T.2.2.2.2.2.2 T.2.2.2.1 q = (15, 1) := by
    intro u hu q e
    have h := x6 u hu
    rw [e] at h
    obtain ⟨h1, h2, h3, -⟩ := h
    rw [sS_dyn _ _ h1 h2]; exact h3
  have fin : ∀ I' : AI, (∀ a, a < 17 ∨ 17 + 15 < a → I' a = I a) → I' 17 0 = s 1 → I' 17 1 = s 0 → (∀ j, j < 24 → I' 18 j = I 2 j) → (∀ j, j < 4 → I' 19 j = I 3 j) → (∀ b f, b < cl (s 0) → b < 8 → f < 8 → I' ((17 + 8) + b) f = I ((1 + 8) + b) f) → Go 1 y_Sea_copy 76 [some (.ref 17), some (.ref 1), some (.int (nI (cl (s 0))))] [] (hp I' T) (fun r h' => ∃ I', h' = hp I' (cT T 1 0) ∧ (∀ a, a < 17 ∨ 17 + 15 < a → I' a = I a) ∧ XSea I' (cT T 1 0) 17 1 s ∧ r = none) := by
    intro I' k0 k1 k2 k3 k4 k5
    have e1 : va_up T.1 (2 * 1 + 0) (T.1 (2 * 0 + 0)) (2 * 0 + 1) = T.1 (2 * 0 + 1) := va_up_ne T.1 (T.1 (2 * 0 + 0)) (show 2 * 0 + 1 ≠ 2 * 1 + 0 by decide)
    iterate 2 refine Go.step rfl ?_
    refine x_copyTxt_17_1 I' T 0 (by decide) (hq 0 (by decide)) _ ?_
    refine x_copyTxt_17_1 I' (va_up T.1 (2 * 1 + 0) (T.1 (2 * 0 + 0)), T.2) 1 (by decide) (fun q e => hq 1 (by decide) q (e1.symm.trans e)) _ ?_
    rw [show ((va_up T.1 (2 * 1 + 0) (T.1 (2 * 0 + 0)), T.2) : AT).1 (2 * 0 + 1) = T.1 (2 * 0 + 1) from e1]
    iterate 3 refine Go.step rfl ?_
    refine Go.ifp (Int32.le_refl _) ?_
    refine Go.ret rfl ⟨I', rfl, k0, ⟨k1, k2, fun j hj => (k3 j hj).trans (x3 j hj), fun q hq => (k4 q hq).trans (x4 q hq), fun b f g1 g2 g3 => (k5 b f g1 g2 g3).trans (x5 b f g1 g2 g3), fun u hu => ?_⟩, rfl⟩
    have e : (cT T 1 0).1 (2 * 1 + u) = T.1 (2 * 0 + u) := by
      rcases (show u = 0 ∨ u = 1 by omega) with rfl | rfl
      · show va_up (va_up T.1 (2 * 1 + 0) (T.1 (2 * 0 + 0))) (2 * 1 + 1) (T.1 (2 * 0 + 1)) (2 * 1 + 0) = _
        rw [va_up_ne _ (T.1 (2 * 0 + 1)) (show 2 * 1 + 0 ≠ 2 * 1 + 1 by decide), vu_same]
      · show va_up (va_up T.1 (2 * 1 + 0) (T.1 (2 * 0 + 0))) (2 * 1 + 1) (T.1 (2 * 0 + 1)) (2 * 1 + 1) = _
        rw [vu_same]
    rw [e]
    exact (x6 u hu).kept (fun a ha => k0 a (by omega)) (fun _ _ _ => rfl) hu
  have loop : ∀ m k, k + m = cl (s 0) → ∀ I' : AI, (∀ a, a < 17 ∨ 17 + 15 < a → I' a = I a) → I' 17 0 = s 1 → I' 17 1 = s 0 → (∀ j, j < 24 → I' 18 j = I 2 j) → (∀ j, j < 4 → I' 19 j = I 3 j) → (∀ b f, b < k → b < 8 → f < 8 → I' ((17 + 8) + b) f = I ((1 + 8) + b) f) → Go 1 y_Sea_copy 47 [some (.ref 17), some (.ref 1), some (.int (nI k))] [] (hp I' T) (fun r h' => ∃ I', h' = hp I' (cT T 1 0) ∧ (∀ a, a < 17 ∨ 17 + 15 < a → I' a = I a) ∧ XSea I' (cT T 1 0) 17 1 s ∧ r = none) := by
    intro m
    induction m with
    | zero =>
      intro k hk I' k0 k1 k2 k3 k4 k5
      have : k = cl (s 0) := by omega
      subst this
      iterate 3 refine Go.step rfl ?_
      rw [show I' 17 1 = nI (cl (s 0)) from k2.trans en]
      refine Go.step rfl ?_
      refine Go.ifp (Int32.le_refl _) ?_
      exact fin I' k0 k1 k2 k3 k4 k5
    | succ m ih =>
      intro k hk I' k0 k1 k2 k3 k4 k5
      have hk8 : k < 8 := by omega
      have hSa : sS T.2.2.2.2.2.2 T.2.2.2.1 ((17 + 8) + k) = (10, 9) := sS_boat _ _ (B := 17) (Or.inr (Or.inl rfl)) hk8
      have hSb : sS T.2.2.2.2.2.2 T.2.2.2.1 ((1 + 8) + k) = (10, 9) := sS_boat _ _ (B := 1) (Or.inl rfl) hk8
      iterate 3 refine Go.step rfl ?_
      rw [show I' 17 1 = nI (cl (s 0)) from k2.trans en]
      refine Go.step rfl ?_
      refine Go.ifn (nI_ge (a := k) (b := cl (s 0)) (by omega) (by omega)) ?_
      iterate 3 refine Go.step rfl ?_
      refine Go.aald rfl rfl rfl (am_in_nI hk8 (by decide)) (by rw [nI_clamp (by omega)]; exact sP_boats T (B := 17) (Or.inr (Or.inl rfl)) hk8) ?_
      iterate 3 refine Go.step rfl ?_
      refine Go.aald rfl rfl rfl (am_in_nI hk8 (by decide)) (by rw [nI_clamp (by omega)]; exact sP_boats T (B := 1) (Or.inl rfl) hk8) ?_
      refine Go.calv (x_boatCopy I' T ((17 + 8) + k) ((1 + 8) + k) 9 9 (by omega) hSa hSb) (by decide) rfl rfl hSa rfl ?_
      rintro _ _ ⟨rfl, rfl⟩
      iterate 2 refine Go.step rfl ?_
      rw [show nI k + 1 = nI (k + 1) from nI_1 k]
      refine ih (k + 1) (by omega) _ (fun a ha => by rw [va_up_ne _ _ (by omega)]; exact k0 a ha) (by rw [va_up_ne _ _ (by omega)]; exact k1) (by rw [va_up_ne _ _ (by omega)]; exact k2) (fun j hj => by rw [va_up_ne _ _ (by omega)]; exact k3 j hj) (fun j hj => by rw [va_up_ne _ _ (by omega)]; exact k4 j hj) (fun b f g1 g2 g3 => ?_)
      by_cases q : b = k
      · subst q
        rw [vu_same, k0 ((1 + 8) + b) (by omega)]
        show (if f < 8 then _ else _) = _
        rw [if_pos g3]
      · rw [va_up_ne _ _ (by omega)]; exact k5 b f (by omega) g2 g3
  iterate 26 refine Go.step rfl ?_
  refine loop (cl (s 0)) 0 (by omega) _ (fun a ha => ?_) ?_ ?_ (fun j hj => ?_) (fun j hj => ?_) (fun b f g1 g2 g3 => by omega)
  · rw [va_up_ne _ _ (by omega), va_up_ne _ _ (by omega), va_up_ne _ _ (by omega), va_up_ne _ _ (by omega)]
  · simpa [va_up] using x1
  · simpa [va_up] using x2
  · rw [va_up_ne _ _ (by decide), vu_same, va_up_ne _ _ (by decide), va_up_ne _ _ (by decide)]
    show (if 0 ≤ j ∧ j < 0 + 24 then I 2 (0 + (j - 0)) else _) = _
    rw [if_pos ⟨by omega, by omega⟩, show 0 + (j - 0) = j by omega]
  · rw [vu_same, va_up_ne _ _ (by decide), va_up_ne _ _ (by decide), va_up_ne _ _ (by decide)]
    show (if 0 ≤ j ∧ j < 0 + 4 then I 3 (0 + (j - 0)) else _) = _
    rw [if_pos ⟨by omega, by omega⟩, show 0 + (j - 0) = j by omega]
theorem x_copyTxt_33_1 (I : AI) (T : AT) (u : Nat) (hu : u < 2) (hq : ∀ q, T.1 (2 * 0 + u) = some q → sS T.2.2.2.2.2.2 T.2.2.2.1 q = (15, 1)) (Q : Option Value → AH → Prop) (K : Go 1 y_Sea_copy 78 [some (.ref 33), some (.ref 1), some (.int (nI (u + 1)))] [] (hp I (va_up T.1 (2 * 2 + u) (T.1 (2 * 0 + u)), T.2)) Q) : Go 1 y_Sea_copy 78 [some (.ref 33), some (.ref 1), some (.int (nI u))] [] (hp I T) Q := by
  have K' : Go 1 y_Sea_copy 95 [some (.ref 33), some (.ref 1), some (.int (nI u))] [] (I, va_up (sP T.1 T.2.1 T.2.2.1) (16 * 2 + 5) (va_up (sP T.1 T.2.1 T.2.2.1 (16 * 2 + 5)) u (T.1 (2 * 0 + u))), sS T.2.2.2.2.2.2 T.2.2.2.1, T.2.2.2.2.1, T.2.2.2.2.2.1) Q := by
    rw [← sP_tx _ _ _ 2 u (by decide) hu]
    iterate 2 refine Go.step rfl ?_
    rw [show nI u + 1 = nI (u + 1) from nI_1 u]
    exact K
  have hP : sP T.1 T.2.1 T.2.2.1 5 u = T.1 (2 * 0 + u) := by
    rcases (show u = 0 ∨ u = 1 by omega) with rfl | rfl <;> rfl
  iterate 3 refine Go.step rfl ?_
  refine Go.ifn (nI_ge (a := u) (b := 2) hu (by decide)) ?_
  iterate 6 refine Go.step rfl ?_
  cases ho : T.1 (2 * 0 + u) with
  | none =>
    refine Go.aaldN rfl rfl rfl (am_in_nI hu (by decide)) (by rw [nI_clamp (by omega)]; exact hP.trans ho) ?_
    refine Go.aastN rfl rfl rfl (am_in_nI hu (by decide)) ?_
    rw [nI_clamp (by omega)]
    rw [ho] at K'
    exact K'
  | some q =>
    have hS := hq q ho
    refine Go.aald rfl rfl rfl (am_in_nI hu (by decide)) (by rw [nI_clamp (by omega)]; exact hP.trans ho) ?_
    refine Go.aast rfl rfl rfl (am_in_nI hu (by decide)) (by rw [show sS T.2.2.2.2.2.2 T.2.2.2.1 q = (15, 1) from hS]; rfl) ?_
    rw [nI_clamp (by omega)]
    rw [ho] at K'
    exact K'
theorem x_seaCopy_33_1 (I : AI) (T : AT) (s : Nat → Int32) (hs : sOK s) (hX : XSea I T 1 0 s) : Ct 1 y_Sea_copy [.ref 33, .ref 1] (hp I T) (fun r h' => ∃ I', h' = hp I' (cT T 2 0) ∧ (∀ a, a < 33 ∨ 33 + 15 < a → I' a = I a) ∧ XSea I' (cT T 2 0) 33 2 s ∧ r = none) := by
  obtain ⟨en, hn⟩ := hs.1.eq (by decide)
  obtain ⟨x1, x2, x3, x4, x5, x6⟩ := id hX
  have hq : ∀ u, u < 2 → ∀ q, T.1 (2 * 0 + u) = some q → sS T.2.2.2.2.2.2 T.2.2.2.1 q = (15, 1) := by
    intro u hu q e
    have h := x6 u hu
    rw [e] at h
    obtain ⟨h1, h2, h3, -⟩ := h
    rw [sS_dyn _ _ h1 h2]; exact h3
  have fin : ∀ I' : AI, (∀ a, a < 33 ∨ 33 + 15 < a → I' a = I a) → I' 33 0 = s 1 → I' 33 1 = s 0 → (∀ j, j < 24 → I' 34 j = I 2 j) → (∀ j, j < 4 → I' 35 j = I 3 j) → (∀ b f, b < cl (s 0) → b < 8 → f < 8 → I' ((33 + 8) + b) f = I ((1 + 8) + b) f) → Go 1 y_Sea_copy 76 [some (.ref 33), some (.ref 1), some (.int (nI (cl (s 0))))] [] (hp I' T) (fun r h' => ∃ I', h' = hp I' (cT T 2 0) ∧ (∀ a, a < 33 ∨ 33 + 15 < a → I' a = I a) ∧ XSea I' (cT T 2 0) 33 2 s ∧ r = none) := by
    intro I' k0 k1 k2 k3 k4 k5
    have e1 : va_up T.1 (2 * 2 + 0) (T.1 (2 * 0 + 0)) (2 * 0 + 1) = T.1 (2 * 0 + 1) := va_up_ne T.1 (T.1 (2 * 0 + 0)) (show 2 * 0 + 1 ≠ 2 * 2 + 0 by decide)
    iterate 2 refine Go.step rfl ?_
    refine x_copyTxt_33_1 I' T 0 (by decide) (hq 0 (by decide)) _ ?_
    refine x_copyTxt_33_1 I' (va_up T.1 (2 * 2 + 0) (T.1 (2 * 0 + 0)), T.2) 1 (by decide) (fun q e => hq 1 (by decide) q (e1.symm.trans e)) _ ?_
    rw [show ((va_up T.1 (2 * 2 + 0) (T.1 (2 * 0 + 0)), T.2) : AT).1 (2 * 0 + 1) = T.1 (2 * 0 + 1) from e1]
    iterate 3 refine Go.step rfl ?_
    refine Go.ifp (Int32.le_refl _) ?_
    refine Go.ret rfl ⟨I', rfl, k0, ⟨k1, k2, fun j hj => (k3 j hj).trans (x3 j hj), fun q hq => (k4 q hq).trans (x4 q hq), fun b f g1 g2 g3 => (k5 b f g1 g2 g3).trans (x5 b f g1 g2 g3), fun u hu => ?_⟩, rfl⟩
    have e : (cT T 2 0).1 (2 * 2 + u) = T.1 (2 * 0 + u) := by
      rcases (show u = 0 ∨ u = 1 by omega) with rfl | rfl
      · show va_up (va_up T.1 (2 * 2 + 0) (T.1 (2 * 0 + 0))) (2 * 2 + 1) (T.1 (2 * 0 + 1)) (2 * 2 + 0) = _
        rw [va_up_ne _ (T.1 (2 * 0 + 1)) (show 2 * 2 + 0 ≠ 2 * 2 + 1 by decide), vu_same]
      · show va_up (va_up T.1 (2 * 2 + 0) (T.1 (2 * 0 + 0))) (2 * 2 + 1) (T.1 (2 * 0 + 1)) (2 * 2 + 1) = _
        rw [vu_same]
    rw [e]
    exact (x6 u hu).kept (fun a ha => k0 a (by omega)) (fun _ _ _ => rfl) hu
  have loop : ∀ m k, k + m = cl (s 0) → ∀ I' : AI, (∀ a, a < 33 ∨ 33 + 15 < a → I' a = I a) → I' 33 0 = s 1 → I' 33 1 = s 0 → (∀ j, j < 24 → I' 34 j = I 2 j) → (∀ j, j < 4 → I' 35 j = I 3 j) → (∀ b f, b < k → b < 8 → f < 8 → I' ((33 + 8) + b) f = I ((1 + 8) + b) f) → Go 1 y_Sea_copy 47 [some (.ref 33), some (.ref 1), some (.int (nI k))] [] (hp I' T) (fun r h' => ∃ I', h' = hp I' (cT T 2 0) ∧ (∀ a, a < 33 ∨ 33 + 15 < a → I' a = I a) ∧ XSea I' (cT T 2 0) 33 2 s ∧ r = none) := by
    intro m
    induction m with
    | zero =>
      intro k hk I' k0 k1 k2 k3 k4 k5
      have : k = cl (s 0) := by omega
      subst this
      iterate 3 refine Go.step rfl ?_
      rw [show I' 33 1 = nI (cl (s 0)) from k2.trans en]
      refine Go.step rfl ?_
      refine Go.ifp (Int32.le_refl _) ?_
      exact fin I' k0 k1 k2 k3 k4 k5
    | succ m ih =>
      intro k hk I' k0 k1 k2 k3 k4 k5
      have hk8 : k < 8 := by omega
      have hSa : sS T.2.2.2.2.2.2 T.2.2.2.1 ((33 + 8) + k) = (10, 9) := sS_boat _ _ (B := 33) (Or.inr (Or.inr rfl)) hk8
      have hSb : sS T.2.2.2.2.2.2 T.2.2.2.1 ((1 + 8) + k) = (10, 9) := sS_boat _ _ (B := 1) (Or.inl rfl) hk8
      iterate 3 refine Go.step rfl ?_
      rw [show I' 33 1 = nI (cl (s 0)) from k2.trans en]
      refine Go.step rfl ?_
      refine Go.ifn (nI_ge (a := k) (b := cl (s 0)) (by omega) (by omega)) ?_
      iterate 3 refine Go.step rfl ?_
      refine Go.aald rfl rfl rfl (am_in_nI hk8 (by decide)) (by rw [nI_clamp (by omega)]; exact sP_boats T (B := 33) (Or.inr (Or.inr rfl)) hk8) ?_
      iterate 3 refine Go.step rfl ?_
      refine Go.aald rfl rfl rfl (am_in_nI hk8 (by decide)) (by rw [nI_clamp (by omega)]; exact sP_boats T (B := 1) (Or.inl rfl) hk8) ?_
      refine Go.calv (x_boatCopy I' T ((33 + 8) + k) ((1 + 8) + k) 9 9 (by omega) hSa hSb) (by decide) rfl rfl hSa rfl ?_
      rintro _ _ ⟨rfl, rfl⟩
      iterate 2 refine Go.step rfl ?_
      rw [show nI k + 1 = nI (k + 1) from nI_1 k]
      refine ih (k + 1) (by omega) _ (fun a ha => by rw [va_up_ne _ _ (by omega)]; exact k0 a ha) (by rw [va_up_ne _ _ (by omega)]; exact k1) (by rw [va_up_ne _ _ (by omega)]; exact k2) (fun j hj => by rw [va_up_ne _ _ (by omega)]; exact k3 j hj) (fun j hj => by rw [va_up_ne _ _ (by omega)]; exact k4 j hj) (fun b f g1 g2 g3 => ?_)
      by_cases q : b = k
      · subst q
        rw [vu_same, k0 ((1 + 8) + b) (by omega)]
        show (if f < 8 then _ else _) = _
        rw [if_pos g3]
      · rw [va_up_ne _ _ (by omega)]; exact k5 b f (by omega) g2 g3
  iterate 26 refine Go.step rfl ?_
  refine loop (cl (s 0)) 0 (by omega) _ (fun a ha => ?_) ?_ ?_ (fun j hj => ?_) (fun j hj => ?_) (fun b f g1 g2 g3 => by omega)
  · rw [va_up_ne _ _ (by omega), va_up_ne _ _ (by omega), va_up_ne _ _ (by omega), va_up_ne _ _ (by omega)]
  · simpa [va_up] using x1
  · simpa [va_up] using x2
  · rw [va_up_ne _ _ (by decide), vu_same, va_up_ne _ _ (by decide), va_up_ne _ _ (by decide)]
    show (if 0 ≤ j ∧ j < 0 + 24 then I 2 (0 + (j - 0)) else _) = _
    rw [if_pos ⟨by omega, by omega⟩, show 0 + (j - 0) = j by omega]
  · rw [vu_same, va_up_ne _ _ (by decide), va_up_ne _ _ (by decide), va_up_ne _ _ (by decide)]
    show (if 0 ≤ j ∧ j < 0 + 4 then I 3 (0 + (j - 0)) else _) = _
    rw [if_pos ⟨by omega, by omega⟩, show 0 + (j - 0) = j by omega]
theorem x_copyTxt_1_33 (I : AI) (T : AT) (u : Nat) (hu : u < 2) (hq : ∀ q, T.1 (2 * 2 + u) = some q → sS T.2.2.2.2.2.2 T.2.2.2.1 q = (15, 1)) (Q : Option Value → AH → Prop) (K : Go 1 y_Sea_copy 78 [some (.ref 1), some (.ref 33), some (.int (nI (u + 1)))] [] (hp I (va_up T.1 (2 * 0 + u) (T.1 (2 * 2 + u)), T.2)) Q) : Go 1 y_Sea_copy 78 [some (.ref 1), some (.ref 33), some (.int (nI u))] [] (hp I T) Q := by
  have K' : Go 1 y_Sea_copy 95 [some (.ref 1), some (.ref 33), some (.int (nI u))] [] (I, va_up (sP T.1 T.2.1 T.2.2.1) (16 * 0 + 5) (va_up (sP T.1 T.2.1 T.2.2.1 (16 * 0 + 5)) u (T.1 (2 * 2 + u))), sS T.2.2.2.2.2.2 T.2.2.2.1, T.2.2.2.2.1, T.2.2.2.2.2.1) Q := by
    rw [← sP_tx _ _ _ 0 u (by decide) hu]
    iterate 2 refine Go.step rfl ?_
    rw [show nI u + 1 = nI (u + 1) from nI_1 u]
    exact K
  have hP : sP T.1 T.2.1 T.2.2.1 37 u = T.1 (2 * 2 + u) := by
    rcases (show u = 0 ∨ u = 1 by omega) with rfl | rfl <;> rfl
  iterate 3 refine Go.step rfl ?_
  refine Go.ifn (nI_ge (a := u) (b := 2) hu (by decide)) ?_
  iterate 6 refine Go.step rfl ?_
  cases ho : T.1 (2 * 2 + u) with
  | none =>
    refine Go.aaldN rfl rfl rfl (am_in_nI hu (by decide)) (by rw [nI_clamp (by omega)]; exact hP.trans ho) ?_
    refine Go.aastN rfl rfl rfl (am_in_nI hu (by decide)) ?_
    rw [nI_clamp (by omega)]
    rw [ho] at K'
    exact K'
  | some q =>
    have hS := hq q ho
    refine Go.aald rfl rfl rfl (am_in_nI hu (by decide)) (by rw [nI_clamp (by omega)]; exact hP.trans ho) ?_
    refine Go.aast rfl rfl rfl (am_in_nI hu (by decide)) (by rw [show sS T.2.2.2.2.2.2 T.2.2.2.1 q = (15, 1) from hS]; rfl) ?_
    rw [nI_clamp (by omega)]
    rw [ho] at K'
    exact K'
theorem x_seaCopy_1_33 (I : AI) (T : AT) (s : Nat → Int32) (hs : sOK s) (hX : XSea I T 33 2 s) : Ct 1 y_Sea_copy [.ref 1, .ref 33] (hp I T) (fun r h' => ∃ I', h' = hp I' (cT T 0 2) ∧ (∀ a, a < 1 ∨ 1 + 15 < a → I' a = I a) ∧ XSea I' (cT T 0 2) 1 0 s ∧ r = none) := by
  obtain ⟨en, hn⟩ := hs.1.eq (by decide)
  obtain ⟨x1, x2, x3, x4, x5, x6⟩ := id hX
  have hq : ∀ u, u < 2 → ∀ q, T.1 (2 * 2 + u) = some q → sS T.2.2.2.2.2.2 T.2.2.2.1 q = (15, 1) := by
    intro u hu q e
    have h := x6 u hu
    rw [e] at h
    obtain ⟨h1, h2, h3, -⟩ := h
    rw [sS_dyn _ _ h1 h2]; exact h3
  have fin : ∀ I' : AI, (∀ a, a < 1 ∨ 1 + 15 < a → I' a = I a) → I' 1 0 = s 1 → I' 1 1 = s 0 → (∀ j, j < 24 → I' 2 j = I 34 j) → (∀ j, j < 4 → I' 3 j = I 35 j) → (∀ b f, b < cl (s 0) → b < 8 → f < 8 → I' ((1 + 8) + b) f = I ((33 + 8) + b) f) → Go 1 y_Sea_copy 76 [some (.ref 1), some (.ref 33), some (.int (nI (cl (s 0))))] [] (hp I' T) (fun r h' => ∃ I', h' = hp I' (cT T 0 2) ∧ (∀ a, a < 1 ∨ 1 + 15 < a → I' a = I a) ∧ XSea I' (cT T 0 2) 1 0 s ∧ r = none) := by
    intro I' k0 k1 k2 k3 k4 k5
    have e1 : va_up T.1 (2 * 0 + 0) (T.1 (2 * 2 + 0)) (2 * 2 + 1) = T.1 (2 * 2 + 1) := va_up_ne T.1 (T.1 (2 * 2 + 0)) (show 2 * 2 + 1 ≠ 2 * 0 + 0 by decide)
    iterate 2 refine Go.step rfl ?_
    refine x_copyTxt_1_33 I' T 0 (by decide) (hq 0 (by decide)) _ ?_
    refine x_copyTxt_1_33 I' (va_up T.1 (2 * 0 + 0) (T.1 (2 * 2 + 0)), T.2) 1 (by decide) (fun q e => hq 1 (by decide) q (e1.symm.trans e)) _ ?_
    rw [show ((va_up T.1 (2 * 0 + 0) (T.1 (2 * 2 + 0)), T.2) : AT).1 (2 * 2 + 1) = T.1 (2 * 2 + 1) from e1]
    iterate 3 refine Go.step rfl ?_
    refine Go.ifp (Int32.le_refl _) ?_
    refine Go.ret rfl ⟨I', rfl, k0, ⟨k1, k2, fun j hj => (k3 j hj).trans (x3 j hj), fun q hq => (k4 q hq).trans (x4 q hq), fun b f g1 g2 g3 => (k5 b f g1 g2 g3).trans (x5 b f g1 g2 g3), fun u hu => ?_⟩, rfl⟩
    have e : (cT T 0 2).1 (2 * 0 + u) = T.1 (2 * 2 + u) := by
      rcases (show u = 0 ∨ u = 1 by omega) with rfl | rfl
      · show va_up (va_up T.1 (2 * 0 + 0) (T.1 (2 * 2 + 0))) (2 * 0 + 1) (T.1 (2 * 2 + 1)) (2 * 0 + 0) = _
        rw [va_up_ne _ (T.1 (2 * 2 + 1)) (show 2 * 0 + 0 ≠ 2 * 0 + 1 by decide), vu_same]
      · show va_up (va_up T.1 (2 * 0 + 0) (T.1 (2 * 2 + 0))) (2 * 0 + 1) (T.1 (2 * 2 + 1)) (2 * 0 + 1) = _
        rw [vu_same]
    rw [e]
    exact (x6 u hu).kept (fun a ha => k0 a (by omega)) (fun _ _ _ => rfl) hu
  have loop : ∀ m k, k + m = cl (s 0) → ∀ I' : AI, (∀ a, a < 1 ∨ 1 + 15 < a → I' a = I a) → I' 1 0 = s 1 → I' 1 1 = s 0 → (∀ j, j < 24 → I' 2 j = I 34 j) → (∀ j, j < 4 → I' 3 j = I 35 j) → (∀ b f, b < k → b < 8 → f < 8 → I' ((1 + 8) + b) f = I ((33 + 8) + b) f) → Go 1 y_Sea_copy 47 [some (.ref 1), some (.ref 33), some (.int (nI k))] [] (hp I' T) (fun r h' => ∃ I', h' = hp I' (cT T 0 2) ∧ (∀ a, a < 1 ∨ 1 + 15 < a → I' a = I a) ∧ XSea I' (cT T 0 2) 1 0 s ∧ r = none) := by
    intro m
    induction m with
    | zero =>
      intro k hk I' k0 k1 k2 k3 k4 k5
      have : k = cl (s 0) := by omega
      subst this
      iterate 3 refine Go.step rfl ?_
      rw [show I' 1 1 = nI (cl (s 0)) from k2.trans en]
      refine Go.step rfl ?_
      refine Go.ifp (Int32.le_refl _) ?_
      exact fin I' k0 k1 k2 k3 k4 k5
    | succ m ih =>
      intro k hk I' k0 k1 k2 k3 k4 k5
      have hk8 : k < 8 := by omega
      have hSa : sS T.2.2.2.2.2.2 T.2.2.2.1 ((1 + 8) + k) = (10, 9) := sS_boat _ _ (B := 1) (Or.inl rfl) hk8
      have hSb : sS T.2.2.2.2.2.2 T.2.2.2.1 ((33 + 8) + k) = (10, 9) := sS_boat _ _ (B := 33) (Or.inr (Or.inr rfl)) hk8
      iterate 3 refine Go.step rfl ?_
      rw [show I' 1 1 = nI (cl (s 0)) from k2.trans en]
      refine Go.step rfl ?_
      refine Go.ifn (nI_ge (a := k) (b := cl (s 0)) (by omega) (by omega)) ?_
      iterate 3 refine Go.step rfl ?_
      refine Go.aald rfl rfl rfl (am_in_nI hk8 (by decide)) (by rw [nI_clamp (by omega)]; exact sP_boats T (B := 1) (Or.inl rfl) hk8) ?_
      iterate 3 refine Go.step rfl ?_
      refine Go.aald rfl rfl rfl (am_in_nI hk8 (by decide)) (by rw [nI_clamp (by omega)]; exact sP_boats T (B := 33) (Or.inr (Or.inr rfl)) hk8) ?_
      refine Go.calv (x_boatCopy I' T ((1 + 8) + k) ((33 + 8) + k) 9 9 (by omega) hSa hSb) (by decide) rfl rfl hSa rfl ?_
      rintro _ _ ⟨rfl, rfl⟩
      iterate 2 refine Go.step rfl ?_
      rw [show nI k + 1 = nI (k + 1) from nI_1 k]
      refine ih (k + 1) (by omega) _ (fun a ha => by rw [va_up_ne _ _ (by omega)]; exact k0 a ha) (by rw [va_up_ne _ _ (by omega)]; exact k1) (by rw [va_up_ne _ _ (by omega)]; exact k2) (fun j hj => by rw [va_up_ne _ _ (by omega)]; exact k3 j hj) (fun j hj => by rw [va_up_ne _ _ (by omega)]; exact k4 j hj) (fun b f g1 g2 g3 => ?_)
      by_cases q : b = k
      · subst q
        rw [vu_same, k0 ((33 + 8) + b) (by omega)]
        show (if f < 8 then _ else _) = _
        rw [if_pos g3]
      · rw [va_up_ne _ _ (by omega)]; exact k5 b f (by omega) g2 g3
  iterate 26 refine Go.step rfl ?_
  refine loop (cl (s 0)) 0 (by omega) _ (fun a ha => ?_) ?_ ?_ (fun j hj => ?_) (fun j hj => ?_) (fun b f g1 g2 g3 => by omega)
  · rw [va_up_ne _ _ (by omega), va_up_ne _ _ (by omega), va_up_ne _ _ (by omega), va_up_ne _ _ (by omega)]
  · simpa [va_up] using x1
  · simpa [va_up] using x2
  · rw [va_up_ne _ _ (by decide), vu_same, va_up_ne _ _ (by decide), va_up_ne _ _ (by decide)]
    show (if 0 ≤ j ∧ j < 0 + 24 then I 34 (0 + (j - 0)) else _) = _
    rw [if_pos ⟨by omega, by omega⟩, show 0 + (j - 0) = j by omega]
  · rw [vu_same, va_up_ne _ _ (by decide), va_up_ne _ _ (by decide), va_up_ne _ _ (by decide)]
    show (if 0 ≤ j ∧ j < 0 + 4 then I 35 (0 + (j - 0)) else _) = _
    rw [if_pos ⟨by omega, by omega⟩, show 0 + (j - 0) = j by omega]
