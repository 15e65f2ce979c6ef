/-! THE LAW'S LOOP, by what each pair of methods owes -/
def lgw (a b : Int32) : Int64 := a.toInt64 <<< ((32 : Int32).toInt64 &&& 63) ||| b.toInt64 &&& Int64.ofNat 4294967295
def AllOps : Prop := ∀ (a b c d e : Int32), OpOK 72 129 [.int a, .int b] ∧ OpOK 73 130 [.int a, .int b] ∧ OpOK 74 131 [.int a, .int b] ∧ OpOK 75 136 [.int a, .int b] ∧ OpOK 76 137 [.int a, .int b] ∧ OpOK 77 139 [.int a, .int b, .int c] ∧ OpOK 78 141 [.int a, .int b] ∧ OpOK 79 164 [.int a] ∧ OpOK 80 165 [.int a] ∧ OpOK 81 142 [.long (lgw a b), .int c] ∧ OpOK 82 154 [.int a] ∧ OpOK 83 155 [.int a] ∧ OpOK 84 172 [.int a] ∧ OpOK 85 174 [.int a] ∧ OpOK 86 175 [.int a] ∧ OpOK 88 177 [.int a, .int b, .int c] ∧ OpOK 89 179 [.int a] ∧ OpOK 90 180 [.int a, .int b] ∧ OpOK 91 181 [.int a, .int b] ∧ OpOK 92 183 [.int a, .int b, .int c] ∧ OpOK 93 185 [.int a, .int b, .int c] ∧ OpOK 95 194 [.int a, .int b, .int c] ∧ OpOK 96 195 [.int a] ∧ OpOK 97 197 [.int a, .int b, .int c] ∧ OpOK 98 198 [.int a, .int b, .int c] ∧ OpOK 99 199 [.int a, .int b, .int c, .int d, .int e] ∧ OpOK 100 201 [.int a] ∧ OpOK 101 202 [.int a] ∧ OpOK 102 203 [] ∧ OpOK 103 204 [] ∧ OpOK 104 205 [.int a] ∧ OpOK 105 206 [.int a] ∧ OpOK 106 207 [.int a] ∧ OpOK 107 208 [.int a]
theorem law_lt {c L : Nat} (hL : L ≤ 384) (h : ¬ nI L - 6 < nI (6 * c)) (hc : c ≤ 64) : 6 * c + 6 ≤ L := by
  have h1 := Int32.not_lt.mp h
  rw [Int32.le_iff_toInt_le, Int32.toInt_sub, nI_toInt (by omega), nI_toInt (by omega)] at h1
  have h6 : (6 : Int32).toInt = 6 := by decide
  rw [h6, Int.bmod_eq_of_le (by omega) (by omega)] at h1
  omega
theorem law_loop (H : AllOps) (L : Nat) (xs : Nat → Int32) (hL : L ≤ 384) : ∀ (m c : Nat), c + m = 64 → 6 * c ≤ L ∨ c = 0 → ∀ (I : AI) (T : AT), XG2 xs I T (mp I) → TTc T L c → Go 300 y_law 18 [some (.ref 1003), some (.ref 0), some (.ref 73), some (.int (nI (6 * c)))] [] (hp I T) (fun r h' => r = some (.int 1) ∧ h'.2.2.2.1 ≤ 1000 ∧ h'.2.2.2.2 ≤ 1000000) := by
  have ends : ∀ (c : Nat) (I : AI) (T : AT), TTc T L c → c ≤ 64 → Go 300 y_law 1252 [some (.ref 1003), some (.ref 0), some (.ref 73), some (.int (nI (6 * c)))] [] (hp I T) (fun r h' => r = some (.int 1) ∧ h'.2.2.2.1 ≤ 1000 ∧ h'.2.2.2.2 ≤ 1000000) := by
    intro c I T hT hc
    refine Go.step rfl ?_
    refine Go.ret rfl ⟨rfl, ?_, ?_⟩
    · have := hT.2.1; show T.2.2.2.2.1 ≤ 1000; omega
    · have := hT.2.2.1; show T.2.2.2.2.2.1 ≤ 1000000; omega
  intro m
  induction m with
  | zero =>
    intro c hm hc6 I T hG hT
    obtain ⟨TL, hT2, hT3, hT4, hT5⟩ := id hT
    have hS : sS T.2.2.2.2.2.2 T.2.2.2.1 1003 = (50, L) := by rw [TL]; rfl
    iterate 2 refine Go.step rfl ?_
    refine Go.alen rfl hS rfl ?_
    iterate 3 refine Go.step rfl ?_
    refine Go.ite (fun c1 => ?_) (fun c1 => ?_)
    · exact ends c I T hT (by omega)
    · have := law_lt hL c1 (by omega); omega
  | succ m ih =>
    intro c hm hc6 I T hG hT
    obtain ⟨TL, hT2, hT3, hT4, hT5⟩ := id hT
    have hS : sS T.2.2.2.2.2.2 T.2.2.2.1 1003 = (50, L) := by rw [TL]; rfl
    have hxs : ∀ j, I 1003 j = xs j := fun j => hG.1.2.2.2.2.2.2.2.2 3 j
    iterate 2 refine Go.step rfl ?_
    refine Go.alen rfl hS rfl ?_
    iterate 3 refine Go.step rfl ?_
    refine Go.ite (fun c1 => ?_) (fun c1 => ?_)
    · exact ends c I T hT (by omega)
    · have hlt := law_lt hL c1 (by omega)
      have next : ∀ (I2 : AI) (T2 : AT), XG2 xs I2 T2 (mp I2) → TTc T2 L (c + 1) → Go 300 y_law 1246 [some (.ref 1003), some (.ref 0), some (.ref 73), some (.int (nI (6 * c)))] [] (hp I2 T2) (fun r h' => r = some (.int 1) ∧ h'.2.2.2.1 ≤ 1000 ∧ h'.2.2.2.2 ≤ 1000000) := by
        intro I2 T2 hG2 hT6
        iterate 2 refine Go.step rfl ?_
        have := ih (c + 1) (by omega) (Or.inl (by omega)) I2 T2 hG2 hT6
        rw [show nI (6 * c) + 6 = nI (6 * (c + 1)) from by rw [show (6 : Int32) = nI 6 from rfl, nI_add, show 6 * c + 6 = 6 * (c + 1) by omega]]
        exact this
      have e1 : nI (6 * c) + 1 = nI (6 * c + 1) := nI_1 _
      have e2 : nI (6 * c) + 2 = nI (6 * c + 2) := nI_add (6 * c) 2
      have e3 : nI (6 * c) + 3 = nI (6 * c + 3) := nI_add (6 * c) 3
      have e4 : nI (6 * c) + 4 = nI (6 * c + 4) := nI_add (6 * c) 4
      have e5 : nI (6 * c) + 5 = nI (6 * c + 5) := nI_add (6 * c) 5
      have hops := H (xs (6 * c + 1)) (xs (6 * c + 2)) (xs (6 * c + 3)) (xs (6 * c + 4)) (xs (6 * c + 5))
      obtain ⟨o0, o1, o2, o3, o4, o5, o6, o7, o8, o9, o10, o11, o12, o13, o14, o15, o16, o17, o18, o19, o20, o21, o22, o23, o24, o25, o26, o27, o28, o29, o30, o31, o32, o33⟩ := hops
      iterate 2 refine Go.step rfl ?_
      refine Go.cald rfl hS (am_in_nI (by omega) (by omega)) ?_
      rw [nI_clamp (by omega), hxs]
      iterate 3 refine Go.step rfl ?_
      rcases am_ts_spec (xs (6 * c) &&& 63) 1246 [184, 217, 250, 283, 316, 349, 392, 425, 448, 471, 534, 557, 580, 603, 626, 649, 692, 715, 748, 781, 824, 867, 910, 933, 976, 1019, 1082, 1105, 1128, 1141, 1154, 1177, 1200, 1223] 0 with ⟨j, tt, h1, h2, h3⟩ | ⟨h1, h2⟩
      · rw [h3]
        have hj : j < 34 := (List.getElem?_eq_some_iff.mp h1).1
        rcases (show j = 0 ∨ j = 1 ∨ j = 2 ∨ j = 3 ∨ j = 4 ∨ j = 5 ∨ j = 6 ∨ j = 7 ∨ j = 8 ∨ j = 9 ∨ j = 10 ∨ j = 11 ∨ j = 12 ∨ j = 13 ∨ j = 14 ∨ j = 15 ∨ j = 16 ∨ j = 17 ∨ j = 18 ∨ j = 19 ∨ j = 20 ∨ j = 21 ∨ j = 22 ∨ j = 23 ∨ j = 24 ∨ j = 25 ∨ j = 26 ∨ j = 27 ∨ j = 28 ∨ j = 29 ∨ j = 30 ∨ j = 31 ∨ j = 32 ∨ j = 33 by omega) with rfl | rfl | rfl | rfl | rfl | rfl | rfl | rfl | rfl | rfl | rfl | rfl | rfl | rfl | rfl | rfl | rfl | rfl | rfl | rfl | rfl | rfl | rfl | rfl | rfl | rfl | rfl | rfl | rfl | rfl | rfl | rfl | rfl | rfl
        · -- wind
          cases h1
          refine Go.step rfl ?_
          iterate 4 refine Go.step rfl ?_
          rw [e1]
          refine Go.cald rfl hS (am_in_nI (by omega) (by omega)) ?_
          rw [nI_clamp (by omega), hxs]
          iterate 4 refine Go.step rfl ?_
          rw [e2]
          refine Go.cald rfl hS (am_in_nI (by omega) (by omega)) ?_
          rw [nI_clamp (by omega), hxs]
          refine Go.cal (o0 L xs I T c hG hT (by omega)) (by decide) rfl ?_
          rintro _ _ ⟨I1, T1, v, rfl, rfl, hT1, hC1, hM⟩
          have hS1 : sS T1.2.2.2.2.2.2 T1.2.2.2.1 1003 = (50, L) := by rw [hT1.1]; rfl
          have hx1 : ∀ j, I1 1003 j = xs j := fun j => hC1 3 j
          refine Go.step rfl ?_
          iterate 4 refine Go.step rfl ?_
          rw [e1]
          refine Go.cald rfl hS1 (am_in_nI (by omega) (by omega)) ?_
          rw [nI_clamp (by omega), hx1]
          iterate 4 refine Go.step rfl ?_
          rw [e2]
          refine Go.cald rfl hS1 (am_in_nI (by omega) (by omega)) ?_
          rw [nI_clamp (by omega), hx1]
          refine Go.cal hM (by decide) rfl ?_
          rintro _ _ ⟨I2, rfl, rfl, hG2⟩
          refine Go.step rfl ?_
          refine Go.ite (fun _ => next I2 T1 hG2 hT1) (fun q => absurd rfl q)
        · -- price
          cases h1
          refine Go.step rfl ?_
          iterate 4 refine Go.step rfl ?_
          rw [e1]
          refine Go.cald rfl hS (am_in_nI (by omega) (by omega)) ?_
          rw [nI_clamp (by omega), hxs]
          iterate 4 refine Go.step rfl ?_
          rw [e2]
          refine Go.cald rfl hS (am_in_nI (by omega) (by omega)) ?_
          rw [nI_clamp (by omega), hxs]
          refine Go.cal (o1 L xs I T c hG hT (by omega)) (by decide) rfl ?_
          rintro _ _ ⟨I1, T1, v, rfl, rfl, hT1, hC1, hM⟩
          have hS1 : sS T1.2.2.2.2.2.2 T1.2.2.2.1 1003 = (50, L) := by rw [hT1.1]; rfl
          have hx1 : ∀ j, I1 1003 j = xs j := fun j => hC1 3 j
          refine Go.step rfl ?_
          iterate 4 refine Go.step rfl ?_
          rw [e1]
          refine Go.cald rfl hS1 (am_in_nI (by omega) (by omega)) ?_
          rw [nI_clamp (by omega), hx1]
          iterate 4 refine Go.step rfl ?_
          rw [e2]
          refine Go.cald rfl hS1 (am_in_nI (by omega) (by omega)) ?_
          rw [nI_clamp (by omega), hx1]
          refine Go.cal hM (by decide) rfl ?_
          rintro _ _ ⟨I2, rfl, rfl, hG2⟩
          refine Go.step rfl ?_
          refine Go.ite (fun _ => next I2 T1 hG2 hT1) (fun q => absurd rfl q)
        · -- boat
          cases h1
          refine Go.step rfl ?_
          iterate 4 refine Go.step rfl ?_
          rw [e1]
          refine Go.cald rfl hS (am_in_nI (by omega) (by omega)) ?_
          rw [nI_clamp (by omega), hxs]
          iterate 4 refine Go.step rfl ?_
          rw [e2]
          refine Go.cald rfl hS (am_in_nI (by omega) (by omega)) ?_
          rw [nI_clamp (by omega), hxs]
          refine Go.cal (o2 L xs I T c hG hT (by omega)) (by decide) rfl ?_
          rintro _ _ ⟨I1, T1, v, rfl, rfl, hT1, hC1, hM⟩
          have hS1 : sS T1.2.2.2.2.2.2 T1.2.2.2.1 1003 = (50, L) := by rw [hT1.1]; rfl
          have hx1 : ∀ j, I1 1003 j = xs j := fun j => hC1 3 j
          refine Go.step rfl ?_
          iterate 4 refine Go.step rfl ?_
          rw [e1]
          refine Go.cald rfl hS1 (am_in_nI (by omega) (by omega)) ?_
          rw [nI_clamp (by omega), hx1]
          iterate 4 refine Go.step rfl ?_
          rw [e2]
          refine Go.cald rfl hS1 (am_in_nI (by omega) (by omega)) ?_
          rw [nI_clamp (by omega), hx1]
          refine Go.cal hM (by decide) rfl ?_
          rintro _ _ ⟨I2, rfl, rfl, hG2⟩
          refine Go.step rfl ?_
          refine Go.ite (fun _ => next I2 T1 hG2 hT1) (fun q => absurd rfl q)
        · -- boatIs
          cases h1
          refine Go.step rfl ?_
          iterate 4 refine Go.step rfl ?_
          rw [e1]
          refine Go.cald rfl hS (am_in_nI (by omega) (by omega)) ?_
          rw [nI_clamp (by omega), hxs]
          iterate 4 refine Go.step rfl ?_
          rw [e2]
          refine Go.cald rfl hS (am_in_nI (by omega) (by omega)) ?_
          rw [nI_clamp (by omega), hxs]
          refine Go.cal (o3 L xs I T c hG hT (by omega)) (by decide) rfl ?_
          rintro _ _ ⟨I1, T1, v, rfl, rfl, hT1, hC1, hM⟩
          have hS1 : sS T1.2.2.2.2.2.2 T1.2.2.2.1 1003 = (50, L) := by rw [hT1.1]; rfl
          have hx1 : ∀ j, I1 1003 j = xs j := fun j => hC1 3 j
          refine Go.step rfl ?_
          iterate 4 refine Go.step rfl ?_
          rw [e1]
          refine Go.cald rfl hS1 (am_in_nI (by omega) (by omega)) ?_
          rw [nI_clamp (by omega), hx1]
          iterate 4 refine Go.step rfl ?_
          rw [e2]
          refine Go.cald rfl hS1 (am_in_nI (by omega) (by omega)) ?_
          rw [nI_clamp (by omega), hx1]
          refine Go.cal hM (by decide) rfl ?_
          rintro _ _ ⟨I2, rfl, rfl, hG2⟩
          refine Go.step rfl ?_
          refine Go.ite (fun _ => next I2 T1 hG2 hT1) (fun q => absurd rfl q)
        · -- as
          cases h1
          refine Go.step rfl ?_
          iterate 4 refine Go.step rfl ?_
          rw [e1]
          refine Go.cald rfl hS (am_in_nI (by omega) (by omega)) ?_
          rw [nI_clamp (by omega), hxs]
          iterate 4 refine Go.step rfl ?_
          rw [e2]
          refine Go.cald rfl hS (am_in_nI (by omega) (by omega)) ?_
          rw [nI_clamp (by omega), hxs]
          refine Go.cal (o4 L xs I T c hG hT (by omega)) (by decide) rfl ?_
          rintro _ _ ⟨I1, T1, v, rfl, rfl, hT1, hC1, hM⟩
          have hS1 : sS T1.2.2.2.2.2.2 T1.2.2.2.1 1003 = (50, L) := by rw [hT1.1]; rfl
          have hx1 : ∀ j, I1 1003 j = xs j := fun j => hC1 3 j
          refine Go.step rfl ?_
          iterate 4 refine Go.step rfl ?_
          rw [e1]
          refine Go.cald rfl hS1 (am_in_nI (by omega) (by omega)) ?_
          rw [nI_clamp (by omega), hx1]
          iterate 4 refine Go.step rfl ?_
          rw [e2]
          refine Go.cald rfl hS1 (am_in_nI (by omega) (by omega)) ?_
          rw [nI_clamp (by omega), hx1]
          refine Go.cal hM (by decide) rfl ?_
          rintro _ _ ⟨I2, rfl, rfl, hG2⟩
          refine Go.step rfl ?_
          refine Go.ite (fun _ => next I2 T1 hG2 hT1) (fun q => absurd rfl q)
        · -- set
          cases h1
          refine Go.step rfl ?_
          iterate 4 refine Go.step rfl ?_
          rw [e1]
          refine Go.cald rfl hS (am_in_nI (by omega) (by omega)) ?_
          rw [nI_clamp (by omega), hxs]
          iterate 4 refine Go.step rfl ?_
          rw [e2]
          refine Go.cald rfl hS (am_in_nI (by omega) (by omega)) ?_
          rw [nI_clamp (by omega), hxs]
          iterate 4 refine Go.step rfl ?_
          rw [e3]
          refine Go.cald rfl hS (am_in_nI (by omega) (by omega)) ?_
          rw [nI_clamp (by omega), hxs]
          refine Go.cal (o5 L xs I T c hG hT (by omega)) (by decide) rfl ?_
          rintro _ _ ⟨I1, T1, v, rfl, rfl, hT1, hC1, hM⟩
          have hS1 : sS T1.2.2.2.2.2.2 T1.2.2.2.1 1003 = (50, L) := by rw [hT1.1]; rfl
          have hx1 : ∀ j, I1 1003 j = xs j := fun j => hC1 3 j
          refine Go.step rfl ?_
          iterate 4 refine Go.step rfl ?_
          rw [e1]
          refine Go.cald rfl hS1 (am_in_nI (by omega) (by omega)) ?_
          rw [nI_clamp (by omega), hx1]
          iterate 4 refine Go.step rfl ?_
          rw [e2]
          refine Go.cald rfl hS1 (am_in_nI (by omega) (by omega)) ?_
          rw [nI_clamp (by omega), hx1]
          iterate 4 refine Go.step rfl ?_
          rw [e3]
          refine Go.cald rfl hS1 (am_in_nI (by omega) (by omega)) ?_
          rw [nI_clamp (by omega), hx1]
          refine Go.cal hM (by decide) rfl ?_
          rintro _ _ ⟨I2, rfl, rfl, hG2⟩
          refine Go.step rfl ?_
          refine Go.ite (fun _ => next I2 T1 hG2 hT1) (fun q => absurd rfl q)
        · -- pay
          cases h1
          refine Go.step rfl ?_
          iterate 4 refine Go.step rfl ?_
          rw [e1]
          refine Go.cald rfl hS (am_in_nI (by omega) (by omega)) ?_
          rw [nI_clamp (by omega), hxs]
          iterate 4 refine Go.step rfl ?_
          rw [e2]
          refine Go.cald rfl hS (am_in_nI (by omega) (by omega)) ?_
          rw [nI_clamp (by omega), hxs]
          refine Go.cal (o6 L xs I T c hG hT (by omega)) (by decide) rfl ?_
          rintro _ _ ⟨I1, T1, v, rfl, rfl, hT1, hC1, hM⟩
          have hS1 : sS T1.2.2.2.2.2.2 T1.2.2.2.1 1003 = (50, L) := by rw [hT1.1]; rfl
          have hx1 : ∀ j, I1 1003 j = xs j := fun j => hC1 3 j
          refine Go.step rfl ?_
          iterate 4 refine Go.step rfl ?_
          rw [e1]
          refine Go.cald rfl hS1 (am_in_nI (by omega) (by omega)) ?_
          rw [nI_clamp (by omega), hx1]
          iterate 4 refine Go.step rfl ?_
          rw [e2]
          refine Go.cald rfl hS1 (am_in_nI (by omega) (by omega)) ?_
          rw [nI_clamp (by omega), hx1]
          refine Go.cal hM (by decide) rfl ?_
          rintro _ _ ⟨I2, rfl, rfl, hG2⟩
          refine Go.step rfl ?_
          refine Go.ite (fun _ => next I2 T1 hG2 hT1) (fun q => absurd rfl q)
        · -- blows
          cases h1
          refine Go.step rfl ?_
          iterate 4 refine Go.step rfl ?_
          rw [e1]
          refine Go.cald rfl hS (am_in_nI (by omega) (by omega)) ?_
          rw [nI_clamp (by omega), hxs]
          refine Go.cal (o7 L xs I T c hG hT (by omega)) (by decide) rfl ?_
          rintro _ _ ⟨I1, T1, v, rfl, rfl, hT1, hC1, hM⟩
          have hS1 : sS T1.2.2.2.2.2.2 T1.2.2.2.1 1003 = (50, L) := by rw [hT1.1]; rfl
          have hx1 : ∀ j, I1 1003 j = xs j := fun j => hC1 3 j
          refine Go.step rfl ?_
          iterate 4 refine Go.step rfl ?_
          rw [e1]
          refine Go.cald rfl hS1 (am_in_nI (by omega) (by omega)) ?_
          rw [nI_clamp (by omega), hx1]
          refine Go.cal hM (by decide) rfl ?_
          rintro _ _ ⟨I2, rfl, rfl, hG2⟩
          refine Go.step rfl ?_
          refine Go.ite (fun _ => next I2 T1 hG2 hT1) (fun q => absurd rfl q)
        · -- gone
          cases h1
          refine Go.step rfl ?_
          iterate 4 refine Go.step rfl ?_
          rw [e1]
          refine Go.cald rfl hS (am_in_nI (by omega) (by omega)) ?_
          rw [nI_clamp (by omega), hxs]
          refine Go.cal (o8 L xs I T c hG hT (by omega)) (by decide) rfl ?_
          rintro _ _ ⟨I1, T1, v, rfl, rfl, hT1, hC1, hM⟩
          have hS1 : sS T1.2.2.2.2.2.2 T1.2.2.2.1 1003 = (50, L) := by rw [hT1.1]; rfl
          have hx1 : ∀ j, I1 1003 j = xs j := fun j => hC1 3 j
          refine Go.step rfl ?_
          iterate 4 refine Go.step rfl ?_
          rw [e1]
          refine Go.cald rfl hS1 (am_in_nI (by omega) (by omega)) ?_
          rw [nI_clamp (by omega), hx1]
          refine Go.cal hM (by decide) rfl ?_
          rintro _ _ ⟨I2, rfl, rfl, hG2⟩
          refine Go.step rfl ?_
          refine Go.ite (fun _ => next I2 T1 hG2 hT1) (fun q => absurd rfl q)
        · -- feed
          cases h1
          refine Go.step rfl ?_
          iterate 4 refine Go.step rfl ?_
          rw [e1]
          refine Go.cald rfl hS (am_in_nI (by omega) (by omega)) ?_
          rw [nI_clamp (by omega), hxs]
          iterate 3 refine Go.step rfl ?_
          iterate 4 refine Go.step rfl ?_
          rw [e2]
          refine Go.cald rfl hS (am_in_nI (by omega) (by omega)) ?_
          rw [nI_clamp (by omega), hxs]
          iterate 4 refine Go.step rfl ?_
          iterate 4 refine Go.step rfl ?_
          rw [e3]
          refine Go.cald rfl hS (am_in_nI (by omega) (by omega)) ?_
          rw [nI_clamp (by omega), hxs]
          refine Go.cal (o9 L xs I T c hG hT (by omega)) (by decide) rfl ?_
          rintro _ _ ⟨I1, T1, v, rfl, rfl, hT1, hC1, hM⟩
          have hS1 : sS T1.2.2.2.2.2.2 T1.2.2.2.1 1003 = (50, L) := by rw [hT1.1]; rfl
          have hx1 : ∀ j, I1 1003 j = xs j := fun j => hC1 3 j
          refine Go.step rfl ?_
          iterate 4 refine Go.step rfl ?_
          rw [e1]
          refine Go.cald rfl hS1 (am_in_nI (by omega) (by omega)) ?_
          rw [nI_clamp (by omega), hx1]
          iterate 3 refine Go.step rfl ?_
          iterate 4 refine Go.step rfl ?_
          rw [e2]
          refine Go.cald rfl hS1 (am_in_nI (by omega) (by omega)) ?_
          rw [nI_clamp (by omega), hx1]
          iterate 4 refine Go.step rfl ?_
          iterate 4 refine Go.step rfl ?_
          rw [e3]
          refine Go.cald rfl hS1 (am_in_nI (by omega) (by omega)) ?_
          rw [nI_clamp (by omega), hx1]
          refine Go.cal hM (by decide) rfl ?_
          rintro _ _ ⟨I2, rfl, rfl, hG2⟩
          refine Go.step rfl ?_
          refine Go.ite (fun _ => next I2 T1 hG2 hT1) (fun q => absurd rfl q)
        · -- text
          cases h1
          refine Go.step rfl ?_
          iterate 4 refine Go.step rfl ?_
          rw [e1]
          refine Go.cald rfl hS (am_in_nI (by omega) (by omega)) ?_
          rw [nI_clamp (by omega), hxs]
          refine Go.cal (o10 L xs I T c hG hT (by omega)) (by decide) rfl ?_
          rintro _ _ ⟨I1, T1, v, rfl, rfl, hT1, hC1, hM⟩
          have hS1 : sS T1.2.2.2.2.2.2 T1.2.2.2.1 1003 = (50, L) := by rw [hT1.1]; rfl
          have hx1 : ∀ j, I1 1003 j = xs j := fun j => hC1 3 j
          refine Go.step rfl ?_
          iterate 4 refine Go.step rfl ?_
          rw [e1]
          refine Go.cald rfl hS1 (am_in_nI (by omega) (by omega)) ?_
          rw [nI_clamp (by omega), hx1]
          refine Go.cal hM (by decide) rfl ?_
          rintro _ _ ⟨I2, rfl, rfl, hG2⟩
          refine Go.step rfl ?_
          refine Go.ite (fun _ => next I2 T1 hG2 hT1) (fun q => absurd rfl q)
        · -- untell
          cases h1
          refine Go.step rfl ?_
          iterate 4 refine Go.step rfl ?_
          rw [e1]
          refine Go.cald rfl hS (am_in_nI (by omega) (by omega)) ?_
          rw [nI_clamp (by omega), hxs]
          refine Go.cal (o11 L xs I T c hG hT (by omega)) (by decide) rfl ?_
          rintro _ _ ⟨I1, T1, v, rfl, rfl, hT1, hC1, hM⟩
          have hS1 : sS T1.2.2.2.2.2.2 T1.2.2.2.1 1003 = (50, L) := by rw [hT1.1]; rfl
          have hx1 : ∀ j, I1 1003 j = xs j := fun j => hC1 3 j
          refine Go.step rfl ?_
          iterate 4 refine Go.step rfl ?_
          rw [e1]
          refine Go.cald rfl hS1 (am_in_nI (by omega) (by omega)) ?_
          rw [nI_clamp (by omega), hx1]
          refine Go.cal hM (by decide) rfl ?_
          rintro _ _ ⟨I2, rfl, rfl, hG2⟩
          refine Go.step rfl ?_
          refine Go.ite (fun _ => next I2 T1 hG2 hT1) (fun q => absurd rfl q)
        · -- hours
          cases h1
          refine Go.step rfl ?_
          iterate 4 refine Go.step rfl ?_
          rw [e1]
          refine Go.cald rfl hS (am_in_nI (by omega) (by omega)) ?_
          rw [nI_clamp (by omega), hxs]
          refine Go.cal (o12 L xs I T c hG hT (by omega)) (by decide) rfl ?_
          rintro _ _ ⟨I1, T1, v, rfl, rfl, hT1, hC1, hM⟩
          have hS1 : sS T1.2.2.2.2.2.2 T1.2.2.2.1 1003 = (50, L) := by rw [hT1.1]; rfl
          have hx1 : ∀ j, I1 1003 j = xs j := fun j => hC1 3 j
          refine Go.step rfl ?_
          iterate 4 refine Go.step rfl ?_
          rw [e1]
          refine Go.cald rfl hS1 (am_in_nI (by omega) (by omega)) ?_
          rw [nI_clamp (by omega), hx1]
          refine Go.cal hM (by decide) rfl ?_
          rintro _ _ ⟨I2, rfl, rfl, hG2⟩
          refine Go.step rfl ?_
          refine Go.ite (fun _ => next I2 T1 hG2 hT1) (fun q => absurd rfl q)
        · -- loose
          cases h1
          refine Go.step rfl ?_
          iterate 4 refine Go.step rfl ?_
          rw [e1]
          refine Go.cald rfl hS (am_in_nI (by omega) (by omega)) ?_
          rw [nI_clamp (by omega), hxs]
          refine Go.cal (o13 L xs I T c hG hT (by omega)) (by decide) rfl ?_
          rintro _ _ ⟨I1, T1, v, rfl, rfl, hT1, hC1, hM⟩
          have hS1 : sS T1.2.2.2.2.2.2 T1.2.2.2.1 1003 = (50, L) := by rw [hT1.1]; rfl
          have hx1 : ∀ j, I1 1003 j = xs j := fun j => hC1 3 j
          refine Go.step rfl ?_
          iterate 4 refine Go.step rfl ?_
          rw [e1]
          refine Go.cald rfl hS1 (am_in_nI (by omega) (by omega)) ?_
          rw [nI_clamp (by omega), hx1]
          refine Go.cal hM (by decide) rfl ?_
          rintro _ _ ⟨I2, rfl, rfl, hG2⟩
          refine Go.step rfl ?_
          refine Go.ite (fun _ => next I2 T1 hG2 hT1) (fun q => absurd rfl q)
        · -- seed
          cases h1
          refine Go.step rfl ?_
          iterate 4 refine Go.step rfl ?_
          rw [e1]
          refine Go.cald rfl hS (am_in_nI (by omega) (by omega)) ?_
          rw [nI_clamp (by omega), hxs]
          refine Go.cal (o14 L xs I T c hG hT (by omega)) (by decide) rfl ?_
          rintro _ _ ⟨I1, T1, v, rfl, rfl, hT1, hC1, hM⟩
          have hS1 : sS T1.2.2.2.2.2.2 T1.2.2.2.1 1003 = (50, L) := by rw [hT1.1]; rfl
          have hx1 : ∀ j, I1 1003 j = xs j := fun j => hC1 3 j
          refine Go.step rfl ?_
          iterate 4 refine Go.step rfl ?_
          rw [e1]
          refine Go.cald rfl hS1 (am_in_nI (by omega) (by omega)) ?_
          rw [nI_clamp (by omega), hx1]
          refine Go.cal hM (by decide) rfl ?_
          rintro _ _ ⟨I2, rfl, rfl, hG2⟩
          refine Go.step rfl ?_
          refine Go.ite (fun _ => next I2 T1 hG2 hT1) (fun q => absurd rfl q)
        · -- then
          cases h1
          refine Go.step rfl ?_
          iterate 4 refine Go.step rfl ?_
          rw [e1]
          refine Go.cald rfl hS (am_in_nI (by omega) (by omega)) ?_
          rw [nI_clamp (by omega), hxs]
          iterate 4 refine Go.step rfl ?_
          rw [e2]
          refine Go.cald rfl hS (am_in_nI (by omega) (by omega)) ?_
          rw [nI_clamp (by omega), hxs]
          iterate 4 refine Go.step rfl ?_
          rw [e3]
          refine Go.cald rfl hS (am_in_nI (by omega) (by omega)) ?_
          rw [nI_clamp (by omega), hxs]
          refine Go.cal (o15 L xs I T c hG hT (by omega)) (by decide) rfl ?_
          rintro _ _ ⟨I1, T1, v, rfl, rfl, hT1, hC1, hM⟩
          have hS1 : sS T1.2.2.2.2.2.2 T1.2.2.2.1 1003 = (50, L) := by rw [hT1.1]; rfl
          have hx1 : ∀ j, I1 1003 j = xs j := fun j => hC1 3 j
          refine Go.step rfl ?_
          iterate 4 refine Go.step rfl ?_
          rw [e1]
          refine Go.cald rfl hS1 (am_in_nI (by omega) (by omega)) ?_
          rw [nI_clamp (by omega), hx1]
          iterate 4 refine Go.step rfl ?_
          rw [e2]
          refine Go.cald rfl hS1 (am_in_nI (by omega) (by omega)) ?_
          rw [nI_clamp (by omega), hx1]
          iterate 4 refine Go.step rfl ?_
          rw [e3]
          refine Go.cald rfl hS1 (am_in_nI (by omega) (by omega)) ?_
          rw [nI_clamp (by omega), hx1]
          refine Go.cal hM (by decide) rfl ?_
          rintro _ _ ⟨I2, rfl, rfl, hG2⟩
          refine Go.step rfl ?_
          refine Go.ite (fun _ => next I2 T1 hG2 hT1) (fun q => absurd rfl q)
        · -- income
          cases h1
          refine Go.step rfl ?_
          iterate 4 refine Go.step rfl ?_
          rw [e1]
          refine Go.cald rfl hS (am_in_nI (by omega) (by omega)) ?_
          rw [nI_clamp (by omega), hxs]
          refine Go.cal (o16 L xs I T c hG hT (by omega)) (by decide) rfl ?_
          rintro _ _ ⟨I1, T1, v, rfl, rfl, hT1, hC1, hM⟩
          have hS1 : sS T1.2.2.2.2.2.2 T1.2.2.2.1 1003 = (50, L) := by rw [hT1.1]; rfl
          have hx1 : ∀ j, I1 1003 j = xs j := fun j => hC1 3 j
          refine Go.step rfl ?_
          iterate 4 refine Go.step rfl ?_
          rw [e1]
          refine Go.cald rfl hS1 (am_in_nI (by omega) (by omega)) ?_
          rw [nI_clamp (by omega), hx1]
          refine Go.cal hM (by decide) rfl ?_
          rintro _ _ ⟨I2, rfl, rfl, hG2⟩
          refine Go.step rfl ?_
          refine Go.ite (fun _ => next I2 T1 hG2 hT1) (fun q => absurd rfl q)
        · -- dearest
          cases h1
          refine Go.step rfl ?_
          iterate 4 refine Go.step rfl ?_
          rw [e1]
          refine Go.cald rfl hS (am_in_nI (by omega) (by omega)) ?_
          rw [nI_clamp (by omega), hxs]
          iterate 4 refine Go.step rfl ?_
          rw [e2]
          refine Go.cald rfl hS (am_in_nI (by omega) (by omega)) ?_
          rw [nI_clamp (by omega), hxs]
          refine Go.cal (o17 L xs I T c hG hT (by omega)) (by decide) rfl ?_
          rintro _ _ ⟨I1, T1, v, rfl, rfl, hT1, hC1, hM⟩
          have hS1 : sS T1.2.2.2.2.2.2 T1.2.2.2.1 1003 = (50, L) := by rw [hT1.1]; rfl
          have hx1 : ∀ j, I1 1003 j = xs j := fun j => hC1 3 j
          refine Go.step rfl ?_
          iterate 4 refine Go.step rfl ?_
          rw [e1]
          refine Go.cald rfl hS1 (am_in_nI (by omega) (by omega)) ?_
          rw [nI_clamp (by omega), hx1]
          iterate 4 refine Go.step rfl ?_
          rw [e2]
          refine Go.cald rfl hS1 (am_in_nI (by omega) (by omega)) ?_
          rw [nI_clamp (by omega), hx1]
          refine Go.cal hM (by decide) rfl ?_
          rintro _ _ ⟨I2, rfl, rfl, hG2⟩
          refine Go.step rfl ?_
          refine Go.ite (fun _ => next I2 T1 hG2 hT1) (fun q => absurd rfl q)
        · -- lee
          cases h1
          refine Go.step rfl ?_
          iterate 4 refine Go.step rfl ?_
          rw [e1]
          refine Go.cald rfl hS (am_in_nI (by omega) (by omega)) ?_
          rw [nI_clamp (by omega), hxs]
          iterate 4 refine Go.step rfl ?_
          rw [e2]
          refine Go.cald rfl hS (am_in_nI (by omega) (by omega)) ?_
          rw [nI_clamp (by omega), hxs]
          refine Go.cal (o18 L xs I T c hG hT (by omega)) (by decide) rfl ?_
          rintro _ _ ⟨I1, T1, v, rfl, rfl, hT1, hC1, hM⟩
          have hS1 : sS T1.2.2.2.2.2.2 T1.2.2.2.1 1003 = (50, L) := by rw [hT1.1]; rfl
          have hx1 : ∀ j, I1 1003 j = xs j := fun j => hC1 3 j
          refine Go.step rfl ?_
          iterate 4 refine Go.step rfl ?_
          rw [e1]
          refine Go.cald rfl hS1 (am_in_nI (by omega) (by omega)) ?_
          rw [nI_clamp (by omega), hx1]
          iterate 4 refine Go.step rfl ?_
          rw [e2]
          refine Go.cald rfl hS1 (am_in_nI (by omega) (by omega)) ?_
          rw [nI_clamp (by omega), hx1]
          refine Go.cal hM (by decide) rfl ?_
          rintro _ _ ⟨I2, rfl, rfl, hG2⟩
          refine Go.step rfl ?_
          refine Go.ite (fun _ => next I2 T1 hG2 hT1) (fun q => absurd rfl q)
        · -- who
          cases h1
          refine Go.step rfl ?_
          iterate 4 refine Go.step rfl ?_
          rw [e1]
          refine Go.cald rfl hS (am_in_nI (by omega) (by omega)) ?_
          rw [nI_clamp (by omega), hxs]
          iterate 4 refine Go.step rfl ?_
          rw [e2]
          refine Go.cald rfl hS (am_in_nI (by omega) (by omega)) ?_
          rw [nI_clamp (by omega), hxs]
          iterate 4 refine Go.step rfl ?_
          rw [e3]
          refine Go.cald rfl hS (am_in_nI (by omega) (by omega)) ?_
          rw [nI_clamp (by omega), hxs]
          refine Go.cal (o19 L xs I T c hG hT (by omega)) (by decide) rfl ?_
          rintro _ _ ⟨I1, T1, v, rfl, rfl, hT1, hC1, hM⟩
          have hS1 : sS T1.2.2.2.2.2.2 T1.2.2.2.1 1003 = (50, L) := by rw [hT1.1]; rfl
          have hx1 : ∀ j, I1 1003 j = xs j := fun j => hC1 3 j
          refine Go.step rfl ?_
          iterate 4 refine Go.step rfl ?_
          rw [e1]
          refine Go.cald rfl hS1 (am_in_nI (by omega) (by omega)) ?_
          rw [nI_clamp (by omega), hx1]
          iterate 4 refine Go.step rfl ?_
          rw [e2]
          refine Go.cald rfl hS1 (am_in_nI (by omega) (by omega)) ?_
          rw [nI_clamp (by omega), hx1]
          iterate 4 refine Go.step rfl ?_
          rw [e3]
          refine Go.cald rfl hS1 (am_in_nI (by omega) (by omega)) ?_
          rw [nI_clamp (by omega), hx1]
          refine Go.cal hM (by decide) rfl ?_
          rintro _ _ ⟨I2, rfl, rfl, hG2⟩
          refine Go.step rfl ?_
          refine Go.ite (fun _ => next I2 T1 hG2 hT1) (fun q => absurd rfl q)
        · -- voyage
          cases h1
          refine Go.step rfl ?_
          iterate 4 refine Go.step rfl ?_
          rw [e1]
          refine Go.cald rfl hS (am_in_nI (by omega) (by omega)) ?_
          rw [nI_clamp (by omega), hxs]
          iterate 4 refine Go.step rfl ?_
          rw [e2]
          refine Go.cald rfl hS (am_in_nI (by omega) (by omega)) ?_
          rw [nI_clamp (by omega), hxs]
          iterate 4 refine Go.step rfl ?_
          rw [e3]
          refine Go.cald rfl hS (am_in_nI (by omega) (by omega)) ?_
          rw [nI_clamp (by omega), hxs]
          refine Go.cal (o20 L xs I T c hG hT (by omega)) (by decide) rfl ?_
          rintro _ _ ⟨I1, T1, v, rfl, rfl, hT1, hC1, hM⟩
          have hS1 : sS T1.2.2.2.2.2.2 T1.2.2.2.1 1003 = (50, L) := by rw [hT1.1]; rfl
          have hx1 : ∀ j, I1 1003 j = xs j := fun j => hC1 3 j
          refine Go.step rfl ?_
          iterate 4 refine Go.step rfl ?_
          rw [e1]
          refine Go.cald rfl hS1 (am_in_nI (by omega) (by omega)) ?_
          rw [nI_clamp (by omega), hx1]
          iterate 4 refine Go.step rfl ?_
          rw [e2]
          refine Go.cald rfl hS1 (am_in_nI (by omega) (by omega)) ?_
          rw [nI_clamp (by omega), hx1]
          iterate 4 refine Go.step rfl ?_
          rw [e3]
          refine Go.cald rfl hS1 (am_in_nI (by omega) (by omega)) ?_
          rw [nI_clamp (by omega), hx1]
          refine Go.cal hM (by decide) rfl ?_
          rintro _ _ ⟨I2, rfl, rfl, hG2⟩
          refine Go.step rfl ?_
          refine Go.ite (fun _ => next I2 T1 hG2 hT1) (fun q => absurd rfl q)
        · -- voice
          cases h1
          refine Go.step rfl ?_
          iterate 4 refine Go.step rfl ?_
          rw [e1]
          refine Go.cald rfl hS (am_in_nI (by omega) (by omega)) ?_
          rw [nI_clamp (by omega), hxs]
          iterate 4 refine Go.step rfl ?_
          rw [e2]
          refine Go.cald rfl hS (am_in_nI (by omega) (by omega)) ?_
          rw [nI_clamp (by omega), hxs]
          iterate 4 refine Go.step rfl ?_
          rw [e3]
          refine Go.cald rfl hS (am_in_nI (by omega) (by omega)) ?_
          rw [nI_clamp (by omega), hxs]
          refine Go.cal (o21 L xs I T c hG hT (by omega)) (by decide) rfl ?_
          rintro _ _ ⟨I1, T1, v, rfl, rfl, hT1, hC1, hM⟩
          have hS1 : sS T1.2.2.2.2.2.2 T1.2.2.2.1 1003 = (50, L) := by rw [hT1.1]; rfl
          have hx1 : ∀ j, I1 1003 j = xs j := fun j => hC1 3 j
          refine Go.step rfl ?_
          iterate 4 refine Go.step rfl ?_
          rw [e1]
          refine Go.cald rfl hS1 (am_in_nI (by omega) (by omega)) ?_
          rw [nI_clamp (by omega), hx1]
          iterate 4 refine Go.step rfl ?_
          rw [e2]
          refine Go.cald rfl hS1 (am_in_nI (by omega) (by omega)) ?_
          rw [nI_clamp (by omega), hx1]
          iterate 4 refine Go.step rfl ?_
          rw [e3]
          refine Go.cald rfl hS1 (am_in_nI (by omega) (by omega)) ?_
          rw [nI_clamp (by omega), hx1]
          refine Go.cal hM (by decide) rfl ?_
          rintro _ _ ⟨I2, rfl, rfl, hG2⟩
          refine Go.step rfl ?_
          refine Go.ite (fun _ => next I2 T1 hG2 hT1) (fun q => absurd rfl q)
        · -- body
          cases h1
          refine Go.step rfl ?_
          iterate 4 refine Go.step rfl ?_
          rw [e1]
          refine Go.cald rfl hS (am_in_nI (by omega) (by omega)) ?_
          rw [nI_clamp (by omega), hxs]
          refine Go.cal (o22 L xs I T c hG hT (by omega)) (by decide) rfl ?_
          rintro _ _ ⟨I1, T1, v, rfl, rfl, hT1, hC1, hM⟩
          have hS1 : sS T1.2.2.2.2.2.2 T1.2.2.2.1 1003 = (50, L) := by rw [hT1.1]; rfl
          have hx1 : ∀ j, I1 1003 j = xs j := fun j => hC1 3 j
          refine Go.step rfl ?_
          iterate 4 refine Go.step rfl ?_
          rw [e1]
          refine Go.cald rfl hS1 (am_in_nI (by omega) (by omega)) ?_
          rw [nI_clamp (by omega), hx1]
          refine Go.cal hM (by decide) rfl ?_
          rintro _ _ ⟨I2, rfl, rfl, hG2⟩
          refine Go.step rfl ?_
          refine Go.ite (fun _ => next I2 T1 hG2 hT1) (fun q => absurd rfl q)
        · -- sheet
          cases h1
          refine Go.step rfl ?_
          iterate 4 refine Go.step rfl ?_
          rw [e1]
          refine Go.cald rfl hS (am_in_nI (by omega) (by omega)) ?_
          rw [nI_clamp (by omega), hxs]
          iterate 4 refine Go.step rfl ?_
          rw [e2]
          refine Go.cald rfl hS (am_in_nI (by omega) (by omega)) ?_
          rw [nI_clamp (by omega), hxs]
          iterate 4 refine Go.step rfl ?_
          rw [e3]
          refine Go.cald rfl hS (am_in_nI (by omega) (by omega)) ?_
          rw [nI_clamp (by omega), hxs]
          refine Go.cal (o23 L xs I T c hG hT (by omega)) (by decide) rfl ?_
          rintro _ _ ⟨I1, T1, v, rfl, rfl, hT1, hC1, hM⟩
          have hS1 : sS T1.2.2.2.2.2.2 T1.2.2.2.1 1003 = (50, L) := by rw [hT1.1]; rfl
          have hx1 : ∀ j, I1 1003 j = xs j := fun j => hC1 3 j
          refine Go.step rfl ?_
          iterate 4 refine Go.step rfl ?_
          rw [e1]
          refine Go.cald rfl hS1 (am_in_nI (by omega) (by omega)) ?_
          rw [nI_clamp (by omega), hx1]
          iterate 4 refine Go.step rfl ?_
          rw [e2]
          refine Go.cald rfl hS1 (am_in_nI (by omega) (by omega)) ?_
          rw [nI_clamp (by omega), hx1]
          iterate 4 refine Go.step rfl ?_
          rw [e3]
          refine Go.cald rfl hS1 (am_in_nI (by omega) (by omega)) ?_
          rw [nI_clamp (by omega), hx1]
          refine Go.cal hM (by decide) rfl ?_
          rintro _ _ ⟨I2, rfl, rfl, hG2⟩
          refine Go.step rfl ?_
          refine Go.ite (fun _ => next I2 T1 hG2 hT1) (fun q => absurd rfl q)
        · -- put
          cases h1
          refine Go.step rfl ?_
          iterate 4 refine Go.step rfl ?_
          rw [e1]
          refine Go.cald rfl hS (am_in_nI (by omega) (by omega)) ?_
          rw [nI_clamp (by omega), hxs]
          iterate 4 refine Go.step rfl ?_
          rw [e2]
          refine Go.cald rfl hS (am_in_nI (by omega) (by omega)) ?_
          rw [nI_clamp (by omega), hxs]
          iterate 4 refine Go.step rfl ?_
          rw [e3]
          refine Go.cald rfl hS (am_in_nI (by omega) (by omega)) ?_
          rw [nI_clamp (by omega), hxs]
          refine Go.cal (o24 L xs I T c hG hT (by omega)) (by decide) rfl ?_
          rintro _ _ ⟨I1, T1, v, rfl, rfl, hT1, hC1, hM⟩
          have hS1 : sS T1.2.2.2.2.2.2 T1.2.2.2.1 1003 = (50, L) := by rw [hT1.1]; rfl
          have hx1 : ∀ j, I1 1003 j = xs j := fun j => hC1 3 j
          refine Go.step rfl ?_
          iterate 4 refine Go.step rfl ?_
          rw [e1]
          refine Go.cald rfl hS1 (am_in_nI (by omega) (by omega)) ?_
          rw [nI_clamp (by omega), hx1]
          iterate 4 refine Go.step rfl ?_
          rw [e2]
          refine Go.cald rfl hS1 (am_in_nI (by omega) (by omega)) ?_
          rw [nI_clamp (by omega), hx1]
          iterate 4 refine Go.step rfl ?_
          rw [e3]
          refine Go.cald rfl hS1 (am_in_nI (by omega) (by omega)) ?_
          rw [nI_clamp (by omega), hx1]
          refine Go.cal hM (by decide) rfl ?_
          rintro _ _ ⟨I2, rfl, rfl, hG2⟩
          refine Go.step rfl ?_
          refine Go.ite (fun _ => next I2 T1 hG2 hT1) (fun q => absurd rfl q)
        · -- move
          cases h1
          refine Go.step rfl ?_
          iterate 4 refine Go.step rfl ?_
          rw [e1]
          refine Go.cald rfl hS (am_in_nI (by omega) (by omega)) ?_
          rw [nI_clamp (by omega), hxs]
          iterate 4 refine Go.step rfl ?_
          rw [e2]
          refine Go.cald rfl hS (am_in_nI (by omega) (by omega)) ?_
          rw [nI_clamp (by omega), hxs]
          iterate 4 refine Go.step rfl ?_
          rw [e3]
          refine Go.cald rfl hS (am_in_nI (by omega) (by omega)) ?_
          rw [nI_clamp (by omega), hxs]
          iterate 4 refine Go.step rfl ?_
          rw [e4]
          refine Go.cald rfl hS (am_in_nI (by omega) (by omega)) ?_
          rw [nI_clamp (by omega), hxs]
          iterate 4 refine Go.step rfl ?_
          rw [e5]
          refine Go.cald rfl hS (am_in_nI (by omega) (by omega)) ?_
          rw [nI_clamp (by omega), hxs]
          refine Go.cal (o25 L xs I T c hG hT (by omega)) (by decide) rfl ?_
          rintro _ _ ⟨I1, T1, v, rfl, rfl, hT1, hC1, hM⟩
          have hS1 : sS T1.2.2.2.2.2.2 T1.2.2.2.1 1003 = (50, L) := by rw [hT1.1]; rfl
          have hx1 : ∀ j, I1 1003 j = xs j := fun j => hC1 3 j
          refine Go.step rfl ?_
          iterate 4 refine Go.step rfl ?_
          rw [e1]
          refine Go.cald rfl hS1 (am_in_nI (by omega) (by omega)) ?_
          rw [nI_clamp (by omega), hx1]
          iterate 4 refine Go.step rfl ?_
          rw [e2]
          refine Go.cald rfl hS1 (am_in_nI (by omega) (by omega)) ?_
          rw [nI_clamp (by omega), hx1]
          iterate 4 refine Go.step rfl ?_
          rw [e3]
          refine Go.cald rfl hS1 (am_in_nI (by omega) (by omega)) ?_
          rw [nI_clamp (by omega), hx1]
          iterate 4 refine Go.step rfl ?_
          rw [e4]
          refine Go.cald rfl hS1 (am_in_nI (by omega) (by omega)) ?_
          rw [nI_clamp (by omega), hx1]
          iterate 4 refine Go.step rfl ?_
          rw [e5]
          refine Go.cald rfl hS1 (am_in_nI (by omega) (by omega)) ?_
          rw [nI_clamp (by omega), hx1]
          refine Go.cal hM (by decide) rfl ?_
          rintro _ _ ⟨I2, rfl, rfl, hG2⟩
          refine Go.step rfl ?_
          refine Go.ite (fun _ => next I2 T1 hG2 hT1) (fun q => absurd rfl q)
        · -- winds
          cases h1
          refine Go.step rfl ?_
          iterate 4 refine Go.step rfl ?_
          rw [e1]
          refine Go.cald rfl hS (am_in_nI (by omega) (by omega)) ?_
          rw [nI_clamp (by omega), hxs]
          refine Go.cal (o26 L xs I T c hG hT (by omega)) (by decide) rfl ?_
          rintro _ _ ⟨I1, T1, v, rfl, rfl, hT1, hC1, hM⟩
          have hS1 : sS T1.2.2.2.2.2.2 T1.2.2.2.1 1003 = (50, L) := by rw [hT1.1]; rfl
          have hx1 : ∀ j, I1 1003 j = xs j := fun j => hC1 3 j
          refine Go.step rfl ?_
          iterate 4 refine Go.step rfl ?_
          rw [e1]
          refine Go.cald rfl hS1 (am_in_nI (by omega) (by omega)) ?_
          rw [nI_clamp (by omega), hx1]
          refine Go.cal hM (by decide) rfl ?_
          rintro _ _ ⟨I2, rfl, rfl, hG2⟩
          refine Go.step rfl ?_
          refine Go.ite (fun _ => next I2 T1 hG2 hT1) (fun q => absurd rfl q)
        · -- judge
          cases h1
          refine Go.step rfl ?_
          iterate 4 refine Go.step rfl ?_
          rw [e1]
          refine Go.cald rfl hS (am_in_nI (by omega) (by omega)) ?_
          rw [nI_clamp (by omega), hxs]
          refine Go.cal (o27 L xs I T c hG hT (by omega)) (by decide) rfl ?_
          rintro _ _ ⟨I1, T1, v, rfl, rfl, hT1, hC1, hM⟩
          have hS1 : sS T1.2.2.2.2.2.2 T1.2.2.2.1 1003 = (50, L) := by rw [hT1.1]; rfl
          have hx1 : ∀ j, I1 1003 j = xs j := fun j => hC1 3 j
          refine Go.step rfl ?_
          iterate 4 refine Go.step rfl ?_
          rw [e1]
          refine Go.cald rfl hS1 (am_in_nI (by omega) (by omega)) ?_
          rw [nI_clamp (by omega), hx1]
          refine Go.cal hM (by decide) rfl ?_
          rintro _ _ ⟨I2, rfl, rfl, hG2⟩
          refine Go.step rfl ?_
          refine Go.ite (fun _ => next I2 T1 hG2 hT1) (fun q => absurd rfl q)
        · -- image
          cases h1
          refine Go.step rfl ?_
          refine Go.cal (o28 L xs I T c hG hT (by omega)) (by decide) rfl ?_
          rintro _ _ ⟨I1, T1, v, rfl, rfl, hT1, hC1, hM⟩
          have hS1 : sS T1.2.2.2.2.2.2 T1.2.2.2.1 1003 = (50, L) := by rw [hT1.1]; rfl
          have hx1 : ∀ j, I1 1003 j = xs j := fun j => hC1 3 j
          refine Go.step rfl ?_
          refine Go.cal hM (by decide) rfl ?_
          rintro _ _ ⟨I2, rfl, rfl, hG2⟩
          refine Go.step rfl ?_
          refine Go.ite (fun _ => next I2 T1 hG2 hT1) (fun q => absurd rfl q)
        · -- restore
          cases h1
          refine Go.step rfl ?_
          refine Go.cal (o29 L xs I T c hG hT (by omega)) (by decide) rfl ?_
          rintro _ _ ⟨I1, T1, v, rfl, rfl, hT1, hC1, hM⟩
          have hS1 : sS T1.2.2.2.2.2.2 T1.2.2.2.1 1003 = (50, L) := by rw [hT1.1]; rfl
          have hx1 : ∀ j, I1 1003 j = xs j := fun j => hC1 3 j
          refine Go.step rfl ?_
          refine Go.cal hM (by decide) rfl ?_
          rintro _ _ ⟨I2, rfl, rfl, hG2⟩
          refine Go.step rfl ?_
          refine Go.ite (fun _ => next I2 T1 hG2 hT1) (fun q => absurd rfl q)
        · -- tell
          cases h1
          refine Go.step rfl ?_
          iterate 4 refine Go.step rfl ?_
          rw [e1]
          refine Go.cald rfl hS (am_in_nI (by omega) (by omega)) ?_
          rw [nI_clamp (by omega), hxs]
          refine Go.cal (o30 L xs I T c hG hT (by omega)) (by decide) rfl ?_
          rintro _ _ ⟨I1, T1, v, rfl, rfl, hT1, hC1, hM⟩
          have hS1 : sS T1.2.2.2.2.2.2 T1.2.2.2.1 1003 = (50, L) := by rw [hT1.1]; rfl
          have hx1 : ∀ j, I1 1003 j = xs j := fun j => hC1 3 j
          refine Go.step rfl ?_
          iterate 4 refine Go.step rfl ?_
          rw [e1]
          refine Go.cald rfl hS1 (am_in_nI (by omega) (by omega)) ?_
          rw [nI_clamp (by omega), hx1]
          refine Go.cal hM (by decide) rfl ?_
          rintro _ _ ⟨I2, rfl, rfl, hG2⟩
          refine Go.step rfl ?_
          refine Go.ite (fun _ => next I2 T1 hG2 hT1) (fun q => absurd rfl q)
        · -- check
          cases h1
          refine Go.step rfl ?_
          iterate 4 refine Go.step rfl ?_
          rw [e1]
          refine Go.cald rfl hS (am_in_nI (by omega) (by omega)) ?_
          rw [nI_clamp (by omega), hxs]
          refine Go.cal (o31 L xs I T c hG hT (by omega)) (by decide) rfl ?_
          rintro _ _ ⟨I1, T1, v, rfl, rfl, hT1, hC1, hM⟩
          have hS1 : sS T1.2.2.2.2.2.2 T1.2.2.2.1 1003 = (50, L) := by rw [hT1.1]; rfl
          have hx1 : ∀ j, I1 1003 j = xs j := fun j => hC1 3 j
          refine Go.step rfl ?_
          iterate 4 refine Go.step rfl ?_
          rw [e1]
          refine Go.cald rfl hS1 (am_in_nI (by omega) (by omega)) ?_
          rw [nI_clamp (by omega), hx1]
          refine Go.cal hM (by decide) rfl ?_
          rintro _ _ ⟨I2, rfl, rfl, hG2⟩
          refine Go.step rfl ?_
          refine Go.ite (fun _ => next I2 T1 hG2 hT1) (fun q => absurd rfl q)
        · -- count
          cases h1
          refine Go.step rfl ?_
          iterate 4 refine Go.step rfl ?_
          rw [e1]
          refine Go.cald rfl hS (am_in_nI (by omega) (by omega)) ?_
          rw [nI_clamp (by omega), hxs]
          refine Go.cal (o32 L xs I T c hG hT (by omega)) (by decide) rfl ?_
          rintro _ _ ⟨I1, T1, v, rfl, rfl, hT1, hC1, hM⟩
          have hS1 : sS T1.2.2.2.2.2.2 T1.2.2.2.1 1003 = (50, L) := by rw [hT1.1]; rfl
          have hx1 : ∀ j, I1 1003 j = xs j := fun j => hC1 3 j
          refine Go.step rfl ?_
          iterate 4 refine Go.step rfl ?_
          rw [e1]
          refine Go.cald rfl hS1 (am_in_nI (by omega) (by omega)) ?_
          rw [nI_clamp (by omega), hx1]
          refine Go.cal hM (by decide) rfl ?_
          rintro _ _ ⟨I2, rfl, rfl, hG2⟩
          refine Go.step rfl ?_
          refine Go.ite (fun _ => next I2 T1 hG2 hT1) (fun q => absurd rfl q)
        · -- told
          cases h1
          refine Go.step rfl ?_
          iterate 4 refine Go.step rfl ?_
          rw [e1]
          refine Go.cald rfl hS (am_in_nI (by omega) (by omega)) ?_
          rw [nI_clamp (by omega), hxs]
          refine Go.cal (o33 L xs I T c hG hT (by omega)) (by decide) rfl ?_
          rintro _ _ ⟨I1, T1, v, rfl, rfl, hT1, hC1, hM⟩
          have hS1 : sS T1.2.2.2.2.2.2 T1.2.2.2.1 1003 = (50, L) := by rw [hT1.1]; rfl
          have hx1 : ∀ j, I1 1003 j = xs j := fun j => hC1 3 j
          refine Go.step rfl ?_
          iterate 4 refine Go.step rfl ?_
          rw [e1]
          refine Go.cald rfl hS1 (am_in_nI (by omega) (by omega)) ?_
          rw [nI_clamp (by omega), hx1]
          refine Go.cal hM (by decide) rfl ?_
          rintro _ _ ⟨I2, rfl, rfl, hG2⟩
          refine Go.step rfl ?_
          refine Go.ite (fun _ => next I2 T1 hG2 hT1) (fun q => absurd rfl q)
      · rw [h2]
        exact next I T hG hT.up
theorem all_ops : AllOps := fun a b c d e => ⟨op_wind a b, op_price a b, op_boat a b, op_boatIs a b, op_as a b, op_set a b c, op_pay a b, op_blows a, op_gone a, op_feed (lgw a b) c, op_text a, op_untell a, op_hours a, op_loose a, op_seed a, op_then a b c, op_income a, op_dearest a b, op_lee a b, op_who a b c, op_voyage a b c, op_voice a b c, op_body a, op_sheet a b c, op_put a b c, op_move a b c d e, op_winds a, op_judge a, op_image , op_restore , op_tell a, op_check a, op_count a, op_told a⟩
