/-! THE LAW RUNS -/
theorem row0_z {j : Nat} (h : j < 4 ∨ j = 9 ∨ 58 ≤ j) : row0 j = 0 := by
  unfold row0
  rw [wyS_off _ (by omega) _ (by decide), txW_off _ _ _ _ (by omega), va_up_ne _ _ (by omega)]
theorem row0_4 : row0 4 = 1 := by
  unfold row0
  rw [wyS_off _ (by omega) _ (by decide), txW_off _ _ _ _ (by omega), vu_same]
theorem row0_p {q : Nat} (h : q < 4) : row0 (5 + q) = 3 := by
  unfold row0
  rw [wyS_off _ (by omega) _ (by decide), txW_at _ _ _ _ h]
theorem row0_w {j : Nat} (h : j < 24) : row0 (10 + j) = 10 ∧ row0 (34 + j) = 3 := wyS_at _ _ (by decide) h
theorem row0_ok : sOK row0 := by
  refine ⟨⟨0, by decide, row0_z (by decide)⟩, ⟨0, by decide, row0_z (by decide)⟩, ⟨0, by decide, row0_z (by decide)⟩, ⟨0, by decide, row0_z (by decide)⟩, fun q hq => ⟨3, by decide, row0_p hq⟩, fun j hj => ⟨10, by decide, (row0_w hj).1⟩, fun j hj => ⟨3, by decide, (row0_w hj).2⟩, fun b hb => ?_⟩
  rw [row0_z (by decide)] at hb
  exact absurd hb (by rw [show cl (0 : Int32) = 0 from rfl]; omega)
theorem law_runs : LawRuns := by
  intro L xs hL
  refine Go.new rfl (by decide) ?_
  iterate 1 refine Go.step rfl ?_
  refine Go.cal (x_init _ _ _ _ (vu_same _ _ _) (vu_same _ _ _) (fun a g1 g2 k => by rw [va_up_ne _ _ (by omega)]; exact if_pos (by omega))) (by decide) rfl ?_
  rintro _ _ ⟨I1, P1, S1, sl1, rfl, hsl1, rfl, hin, hv⟩
  iterate 1 refine Go.step rfl ?_
  refine Go.new rfl (by decide) ?_
  iterate 1 refine Go.step rfl ?_
  refine Go.cal (m_init I1 P1 S1 _ (fun a g1 g2 k => by rw [(hin.1 a g1).2.1, va_up_ne _ _ (by omega)]; exact if_pos (by omega))) (by decide) rfl ?_
  rintro _ _ ⟨I2, P2, S2, sl2, rfl, hsl2, rfl, hb, r74, r73, r77, r87, r88, r89⟩
  iterate 3 refine Go.step rfl ?_
  obtain ⟨b1, b2, b3, b4, b5⟩ := hb
  obtain ⟨a1, a2, a3, a4, a5, a6, a7⟩ := hin
  have eP : P2 = sP (fun _ => none) (some 1010) (fun _ _ => none) := by
    funext a k
    by_cases h90 : a ≤ 90
    · have e : sP (fun _ => none) (some 1010) (fun _ _ => none) a k = tP (fun _ => none) (some 1010) a k := by
        unfold sP
        rw [show Nat.ble a 90 = true from Nat.ble_eq.mpr h90]; rfl
      rw [e]
      by_cases h73 : 73 ≤ a
      · exact b5 a h73 (by omega) k
      · rw [b2 a (Or.inl (by omega))]
        by_cases h0 : a = 0
        · subst h0
          rw [a6]
          match k with
          | 0 => rfl
          | 1 => rfl
          | 2 => rfl
          | 3 => rfl
          | 4 => rfl
          | 5 => rfl
          | 6 => rfl
          | 7 => rfl
          | 8 => rfl
          | 9 => rfl
          | 10 => rfl
          | k + 11 => rfl
        · by_cases h63 : a = 63
          · subst h63
            rw [a7 (by decide)]
            match k with
            | 0 => rfl
            | 1 => rfl
            | 2 => rfl
            | 3 => rfl
            | k + 4 => rfl
          · exact a3 a (by omega) (by omega) h63 k
    · rw [b2 a (Or.inr (by omega)), (a1 a (by omega)).2.1, va_up_ne _ _ (by omega)]
      unfold sP
      rw [show Nat.ble a 90 = false from by rw [← Bool.not_eq_true, Nat.ble_eq]; omega]
      by_cases h1000 : a < 1000
      · rw [show Nat.ble 1000 a = false from by rw [← Bool.not_eq_true, Nat.ble_eq]; omega]
        exact if_pos h1000
      · rw [show Nat.ble 1000 a = true from Nat.ble_eq.mpr (by omega)]
        rw [cond_false, cond_true]
        exact if_neg h1000
  have eS : S2 = sS L (fun _ => (99, 0)) := by
    funext a
    by_cases h90 : a ≤ 90
    · have e : sS L (fun _ => (99, 0)) a = tS a := by
        unfold sS
        rw [show Nat.ble a 90 = true from Nat.ble_eq.mpr h90]; rfl
      rw [e]
      by_cases h73 : 73 ≤ a
      · exact b4 a h73 (by omega)
      · rw [b3 a (Or.inl (by omega))]
        by_cases h0 : a = 0
        · subst h0
          rw [a5, vu_same]; rfl
        · exact a2 a (by omega) (by omega)
    · rw [b3 a (Or.inr (by omega)), (a1 a (by omega)).2.2, va_up_ne _ _ (by omega)]
      unfold sS
      rw [show Nat.ble a 90 = false from by rw [← Bool.not_eq_true, Nat.ble_eq]; omega]
      by_cases h1000 : a < 1000
      · rw [show Nat.ble 1000 a = false from by rw [← Bool.not_eq_true, Nat.ble_eq]; omega]
        exact if_pos h1000
      · rw [show Nat.ble 1000 a = true from Nat.ble_eq.mpr (by omega)]
        rw [cond_false, cond_true]
        exact if_neg h1000
  subst eP eS
  obtain ⟨v1, v2, v3, v4, v5, v6, v7, v8, v9, v10⟩ := hv
  have eI : ∀ a, a < 73 → I2 a = I1 a := fun a ha => b1 a (Or.inl ha)
  have hXG : XG xs I2 (fun _ => none, some 1010, fun _ _ => none, fun _ => (99, 0), 91, sl2, L) (mp I2) := by
    unfold XG XSht XVoi
    rw [mp_at I2 (a := 73) (by decide) (by decide), mp_at I2 (a := 74) (by decide) (by decide), mp_at I2 (a := 77) (by decide) (by decide), mp_at I2 (a := 87) (by decide) (by decide), mp_at I2 (a := 88) (by decide) (by decide), mp_at I2 (a := 89) (by decide) (by decide), r73, r74, r77, r87, r88, r89]
    refine ⟨row0_ok, ⟨?_, ?_, fun j hj => ?_, fun q hq => ?_, fun b f hb => ?_, fun u hu => row0_z (by omega)⟩, ⟨?_, ?_, ?_, fun j hj => ?_, fun j hj => ?_⟩, fun q => absurd rfl q, ?_, fun k g1 g2 => ?_, fun k hk => ?_, ⟨?_, ⟨0, by decide, rfl⟩, fun i hi => ?_⟩, fun c j => ?_⟩
    · rw [eI 1 (by decide), v1, row0_z (by decide)]
    · rw [eI 1 (by decide), v2, row0_z (by decide)]
    · rw [eI 2 (by decide), v3 j hj, (row0_w hj).1, (row0_w hj).2]; rfl
    · rw [eI 3 (by decide), v4 q hq, row0_p hq]
    · rw [row0_z (by decide)] at hb
      exact absurd hb (by rw [show cl (0 : Int32) = 0 from rfl]; omega)
    · rw [eI 49 (by decide), v5, row0_z (by decide)]
    · rw [eI 49 (by decide), v6, row0_z (by decide)]
    · rw [eI 49 (by decide), v7, row0_4]
    · rw [row0_z (by decide)] at hj
      exact absurd hj (by rw [show cl (0 : Int32) = 0 from rfl]; omega)
    · rw [row0_z (by decide)] at hj
      exact absurd hj (by rw [show cl (0 : Int32) = 0 from rfl]; omega)
    · rw [eI 0 (by decide), a4, vu_same]
    · rw [eI 64 (by decide), v9]
    · obtain ⟨x1, x2, x3⟩ := v10 k hk
      refine ⟨by rw [eI _ (by omega)]; exact x1, by rw [eI _ (by omega)]; exact x2, fun j hj => by rw [eI _ (by omega)]; exact x3 j hj, Or.inl rfl, ⟨0, by decide, rfl⟩⟩
    · rw [eI 61 (by decide), v8]
    · exact absurd hi (by rw [show cl (0 : Int32) = 0 from rfl]; omega)
    · rw [b1 _ (Or.inr (by omega)), (a1 _ (by omega)).1, va_up_ne _ _ (by omega)]
      show (if 1000 + c < 1000 then 0 else am_cI xs (1000 + c - 1000) j) = _
      rw [if_neg (by omega), show 1000 + c - 1000 = c by omega]
  have hHB : HB (mp I2) := by
    unfold HB
    rw [mp_at I2 (a := 73) (by decide) (by decide), mp_at I2 (a := 74) (by decide) (by decide), r73, r74]
    exact ⟨⟨0, by decide, row0_z (by decide)⟩, fun q => absurd rfl q, fun j hj => ⟨0, by decide, row0_z (by omega)⟩⟩
  have hs1 : sl1 ≤ 0 + 11 + 2000 := hsl1
  have hs2 : sl2 ≤ sl1 + 25 + 3000 := hsl2
  exact law_loop all_ops L xs hL 64 0 (by decide) (Or.inr rfl) I2 (fun _ => none, some 1010, fun _ _ => none, fun _ => (99, 0), 91, sl2, L) ⟨hXG, hHB⟩ ⟨rfl, by show 91 ≤ _; omega, by show sl2 ≤ _; omega, by show 91 ≤ 91; omega, fun _ _ _ => rfl⟩
