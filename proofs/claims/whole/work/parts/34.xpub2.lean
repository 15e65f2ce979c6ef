/-! the class: isUnder, as, set, pay, boat, seed, tell -/
theorem x_isUnder_end (I : AI) (T : AT) (o k : Value) (i : Nat) (hi : i < 7) (Q : Option Value → AH → Prop) (hq : Q (some (.int 0)) (hp I T)) : Go 1 y_X_isUnder 4 [some o, some k, some (.int (-1)), some (.int (nI i))] [] (hp I T) Q := by
  iterate 4 refine Go.step rfl ?_
  refine Go.ite (fun c1 => ?_) (fun c1 => ?_)
  · exact absurd c1 (nI_ge (a := i) (b := 7) hi (by decide))
  · iterate 3 refine Go.step rfl ?_
    refine Go.cal (x_within _ (-1) 0 6) (by decide) rfl ?_
    rintro _ _ ⟨rfl, rfl⟩
    refine Go.step rfl ?_
    refine Go.ifz (fun c1 => ?_) (fun c1 => ?_)
    · repeat refine Go.step rfl ?_
      exact Go.ret rfl hq
    · exact absurd c1 (by decide)
theorem x_isUnder_step (I : AI) (T : AT) (o : Value) (k : Int32) (c i : Nat) (hc : c ≤ 6) (hi : i < 7) (nxt : Int32) (hn : I 1000 c = nxt) (Q : Option Value → AH → Prop) (Y : nI c = k → Q (some (.int 1)) (hp I T)) (K : ¬ nI c = k → Go 1 y_X_isUnder 4 [some o, some (.int k), some (.int nxt), some (.int (nI (i + 1)))] [] (hp I T) Q) : Go 1 y_X_isUnder 4 [some o, some (.int k), some (.int (nI c)), some (.int (nI i))] [] (hp I T) Q := by
  iterate 4 refine Go.step rfl ?_
  refine Go.ite (fun c1 => ?_) (fun c1 => ?_)
  · exact absurd c1 (nI_ge (a := i) (b := 7) hi (by decide))
  · iterate 3 refine Go.step rfl ?_
    refine Go.cal (x_within _ (nI c) 0 6) (by decide) rfl ?_
    rintro _ _ ⟨rfl, rfl⟩
    refine Go.step rfl ?_
    refine Go.ifz (fun c1 => ?_) (fun c1 => ?_)
    · rw [show win (nI c) 0 6 = true from win_of_le (N := 6) hc (by decide)] at c1; cases c1
    · iterate 3 refine Go.step rfl ?_
      refine Go.ite (fun c2 => ?_) (fun c2 => ?_)
      · repeat refine Go.step rfl ?_
        exact Go.ret rfl (Y c2)
      · iterate 2 refine Go.step rfl ?_
        refine Go.cald rfl rfl (am_in_nI (by omega) (by decide)) ?_
        rw [nI_clamp (by omega), hn]
        iterate 3 refine Go.step rfl ?_
        rw [show nI i + 1 = nI (i + 1) from nI_1 i]
        exact K c2
theorem x_isUnder (xs : Nat → Int32) (I : AI) (T : AT) (hC : XCon xs I) (o : Nat) (ho : o ≤ 6) (k : Int32) (hk : rg k 6) : Ct 1 y_X_isUnder [.int (nI o), .int k] (hp I T) (fun r h' => h' = hp I T ∧ r = some (.int (bo (und (nI o) k)))) := by
  have c0 : I 1000 0 = -1 := hC 0 0
  have c1 : I 1000 1 = nI 0 := hC 0 1
  have c2 : I 1000 2 = nI 0 := hC 0 2
  have c3 : I 1000 3 = nI 1 := hC 0 3
  have c4 : I 1000 4 = nI 1 := hC 0 4
  have c5 : I 1000 5 = nI 2 := hC 0 5
  have c6 : I 1000 6 = nI 0 := hC 0 6
  obtain ⟨kk, hkk, rfl⟩ := hk
  iterate 4 refine Go.step rfl ?_
  rcases (show o = 0 ∨ o = 1 ∨ o = 2 ∨ o = 3 ∨ o = 4 ∨ o = 5 ∨ o = 6 by omega) with rfl | rfl | rfl | rfl | rfl | rfl | rfl <;>
  rcases (show kk = 0 ∨ kk = 1 ∨ kk = 2 ∨ kk = 3 ∨ kk = 4 ∨ kk = 5 ∨ kk = 6 by omega) with rfl | rfl | rfl | rfl | rfl | rfl | rfl
  all_goals first
    | exact x_isUnder_step I T _ _ 0 0 (by decide) (by decide) _ c0 _ (fun q => ⟨rfl, by first | rfl | exact absurd q (by decide)⟩) (fun q => by first | exact absurd rfl q | exact x_isUnder_end I T _ _ 1 (by decide) _ ⟨rfl, rfl⟩)
    | exact x_isUnder_step I T _ _ 1 0 (by decide) (by decide) _ c1 _ (fun q => ⟨rfl, by first | rfl | exact absurd q (by decide)⟩) (fun q => by first | exact absurd rfl q | exact x_isUnder_step I T _ _ 0 1 (by decide) (by decide) _ c0 _ (fun q => ⟨rfl, by first | rfl | exact absurd q (by decide)⟩) (fun q => by first | exact absurd rfl q | exact x_isUnder_end I T _ _ 2 (by decide) _ ⟨rfl, rfl⟩))
    | exact x_isUnder_step I T _ _ 2 0 (by decide) (by decide) _ c2 _ (fun q => ⟨rfl, by first | rfl | exact absurd q (by decide)⟩) (fun q => by first | exact absurd rfl q | exact x_isUnder_step I T _ _ 0 1 (by decide) (by decide) _ c0 _ (fun q => ⟨rfl, by first | rfl | exact absurd q (by decide)⟩) (fun q => by first | exact absurd rfl q | exact x_isUnder_end I T _ _ 2 (by decide) _ ⟨rfl, rfl⟩))
    | exact x_isUnder_step I T _ _ 6 0 (by decide) (by decide) _ c6 _ (fun q => ⟨rfl, by first | rfl | exact absurd q (by decide)⟩) (fun q => by first | exact absurd rfl q | exact x_isUnder_step I T _ _ 0 1 (by decide) (by decide) _ c0 _ (fun q => ⟨rfl, by first | rfl | exact absurd q (by decide)⟩) (fun q => by first | exact absurd rfl q | exact x_isUnder_end I T _ _ 2 (by decide) _ ⟨rfl, rfl⟩))
    | exact x_isUnder_step I T _ _ 3 0 (by decide) (by decide) _ c3 _ (fun q => ⟨rfl, by first | rfl | exact absurd q (by decide)⟩) (fun q => by first | exact absurd rfl q | exact x_isUnder_step I T _ _ 1 1 (by decide) (by decide) _ c1 _ (fun q => ⟨rfl, by first | rfl | exact absurd q (by decide)⟩) (fun q => by first | exact absurd rfl q | exact x_isUnder_step I T _ _ 0 2 (by decide) (by decide) _ c0 _ (fun q => ⟨rfl, by first | rfl | exact absurd q (by decide)⟩) (fun q => by first | exact absurd rfl q | exact x_isUnder_end I T _ _ 3 (by decide) _ ⟨rfl, rfl⟩)))
    | exact x_isUnder_step I T _ _ 4 0 (by decide) (by decide) _ c4 _ (fun q => ⟨rfl, by first | rfl | exact absurd q (by decide)⟩) (fun q => by first | exact absurd rfl q | exact x_isUnder_step I T _ _ 1 1 (by decide) (by decide) _ c1 _ (fun q => ⟨rfl, by first | rfl | exact absurd q (by decide)⟩) (fun q => by first | exact absurd rfl q | exact x_isUnder_step I T _ _ 0 2 (by decide) (by decide) _ c0 _ (fun q => ⟨rfl, by first | rfl | exact absurd q (by decide)⟩) (fun q => by first | exact absurd rfl q | exact x_isUnder_end I T _ _ 3 (by decide) _ ⟨rfl, rfl⟩)))
    | exact x_isUnder_step I T _ _ 5 0 (by decide) (by decide) _ c5 _ (fun q => ⟨rfl, by first | rfl | exact absurd q (by decide)⟩) (fun q => by first | exact absurd rfl q | exact x_isUnder_step I T _ _ 2 1 (by decide) (by decide) _ c2 _ (fun q => ⟨rfl, by first | rfl | exact absurd q (by decide)⟩) (fun q => by first | exact absurd rfl q | exact x_isUnder_step I T _ _ 0 2 (by decide) (by decide) _ c0 _ (fun q => ⟨rfl, by first | rfl | exact absurd q (by decide)⟩) (fun q => by first | exact absurd rfl q | exact x_isUnder_end I T _ _ 3 (by decide) _ ⟨rfl, rfl⟩)))
/-- boats are boats: the shape of the cells 9 + j -/
theorem sS_boat (L : Nat) (Sd : AS) {B j : Nat} (hB : B = 1 ∨ B = 17 ∨ B = 33) (hj : j < 8) : sS L Sd (B + 8 + j) = (10, 9) := by
  rcases hB with rfl | rfl | rfl <;> rcases (show j = 0 ∨ j = 1 ∨ j = 2 ∨ j = 3 ∨ j = 4 ∨ j = 5 ∨ j = 6 ∨ j = 7 by omega) with rfl | rfl | rfl | rfl | rfl | rfl | rfl | rfl <;> rfl
theorem x_as (xs : Nat → Int32) (I : AI) (T : AT) (J : AI) (hG : XG xs I T J) (b k : Int32) : Ct 2 y_X_as [.ref 0, .int b, .int k] (hp I T) (XP xs I T (sp_as J b k)) := by
  obtain ⟨x1, x2, x3, x4, x5, x6⟩ := id hG.2.1
  have hs := id hG.1
  have hr : rg (I 1 1) 8 := by rw [x2]; exact hs.1
  have bad : ∀ t3 : Value, (win b 0 (J 74 0 - 1) && win k 0 6) = false → Go 2 y_X_as 23 [some (.ref 0), some (.int b), some (.int k), some t3] [] (hp I T) (XP xs I T (sp_as J b k)) := by
    intro t3 hq
    iterate 2 refine Go.step rfl ?_
    exact x_err (k := 1) hG (by decide) (by decide) (by rw [sp_as, hq]; rfl) rfl rfl rfl (by decide)
  repeat refine Go.step rfl ?_
  refine Go.cal (x_find I T 1 (Or.inl rfl) b hr) (by decide) rfl ?_
  rintro _ _ ⟨rfl, ⟨c1, rfl⟩ | ⟨c1, rfl⟩⟩
  · rw [x2] at c1
    iterate 6 refine Go.step rfl ?_
    refine Go.cal (x_within _ k 0 6) (by decide) rfl ?_
    rintro _ _ ⟨rfl, rfl⟩
    refine Go.step rfl ?_
    refine Go.ifz (fun c2 => ?_) (fun c2 => ?_)
    · exact bad _ (by rw [c2, Bool.and_false])
    · obtain ⟨j, hj, hj8, rfl⟩ := boat_of_win hs.1 c1
      have hcl : cl (nI j) = j := nI_clamp (by omega)
      have f0 : I (1 + 8 + j) 0 = J 74 (58 + 8 * j) := x5 j 0 hj hj8 (by omega)
      have f6 : I (1 + 8 + j) 6 = J 74 (58 + 8 * j + 6) := x5 j 6 hj hj8 (by omega)
      obtain ⟨o, ho, eo⟩ := (hs.2.2.2.2.2.2.2 j hj).1
      rw [hcl]
      refine Go.step rfl ?_
      refine Go.geti rfl (sS_boat _ _ (Or.inl rfl) hj8) (Or.inl rfl) ?_
      rw [f0, eo]
      refine Go.step rfl ?_
      refine Go.cal (x_isUnder xs I T hG.2.2.2.2.2.2.2.2 o ho k (rg_of_win (by decide) c2)) (by decide) rfl ?_
      rintro _ _ ⟨rfl, rfl⟩
      refine Go.step rfl ?_
      refine Go.ifz (fun c3 => ?_) (fun c3 => ?_)
      · iterate 2 refine Go.step rfl ?_
        exact x_err (k := 5) hG (by decide) (by decide) (by rw [sp_as, c1, c2, hcl, eo, c3]; rfl) rfl rfl rfl (by decide)
      · refine Go.step rfl ?_
        refine Go.geti rfl (sS_boat _ _ (Or.inl rfl) hj8) (Or.inl rfl) ?_
        rw [f6]
        repeat refine Go.step rfl ?_
        refine Go.ret rfl ?_
        rw [sp_as, c1, c2, hcl, eo, c3]
        exact ⟨I, rfl, fun _ _ _ => rfl, hG, rfl⟩
  · rw [x2] at c1
    iterate 3 refine Go.step rfl ?_
    exact bad _ (by rw [c1]; rfl)
