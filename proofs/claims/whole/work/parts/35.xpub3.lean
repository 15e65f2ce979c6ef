/-! the class: set, pay, boat, seed, tell -/
/-- a call on an object whose kind is known otherwise -/
theorem Go.calv {c d y pc : Nat} {ls : ALS} {st : List Value} {I : AI} {P : AP} {S : AS} {n sl : Nat} {Q Q' : Option Value → AH → Prop} {x y' nx na p ci a N : Nat} {v : Int32} {more : List Nat} {as r : List Value} (hc : Ct c y' (.ref a :: as) (I, P, S, n, sl) Q') (hcd : c < d) (e : cd y pc = some (.invokevirtual x, nx, v, 0 :: y' :: na :: p :: ci :: more)) (hst : am_pop (na + 1) st [] = some (.ref a :: as, r)) (hS : S a = (10 + ci, N)) (hok : (Nat.ble (am_cats r) 8 && am_args y' (.ref a :: as)) = true) (kk : ∀ v h', Q' v h' → Go d y nx ls (am_push v r) h' Q) : Go d y pc ls st (I, P, S, n, sl) Q := by
  refine Go.cal hc hcd ?_ kk
  rw [e]
  simp only [Bool.and_eq_true] at hok
  have hb : Nat.beq (10 + ci) (10 + ci) = true := Nat.beq_refl _
  simp only [Option.bind_some, am_call, am_call0, hst, hS, hb, hok.1, hok.2, Bool.and_self, cond_true, Option.map_some]
  rfl
theorem x_mostOf (xs : Nat → Int32) (I : AI) (T : AT) (hC : XCon xs I) (w : Int32) : Ct 1 y_Boat_mostOf [.int w] (hp I T) (fun r h' => h' = hp I T ∧ ((wOK w = true ∧ r = some (.int (mo w))) ∨ (wOK w = false ∧ r = some (.int (-1))))) := by
  iterate 6 refine Go.step rfl ?_
  refine Go.cal (x_within _ w 0 7) (by decide) rfl ?_
  rintro _ _ ⟨rfl, rfl⟩
  refine Go.step rfl ?_
  refine Go.ifz (fun c1 => ?_) (fun c1 => ?_)
  · repeat refine Go.step rfl ?_
    refine Go.ret rfl ⟨rfl, Or.inr ⟨?_, rfl⟩⟩
    cases hw : wOK w with
    | false => rfl
    | true =>
      obtain ⟨f, hf, rfl, -⟩ := wOK_nI hw
      rw [show win (nI f) 0 7 = true from win_of_le (N := 7) (by omega) (by decide)] at c1
      cases c1
  · obtain ⟨f, hf, rfl⟩ := nI_of_win (N := 7) (by decide) c1
    iterate 2 refine Go.step rfl ?_
    refine Go.cald rfl rfl (am_in_nI (by omega) (by decide)) ?_
    rw [nI_clamp (by omega), show I 1001 f = am_cI xs 1 f from hC 1 f]
    repeat refine Go.step rfl ?_
    refine Go.ret rfl ⟨rfl, ?_⟩
    rcases (show f = 0 ∨ f = 1 ∨ f = 2 ∨ f = 3 ∨ f = 4 ∨ f = 5 ∨ f = 6 ∨ f = 7 by omega) with rfl | rfl | rfl | rfl | rfl | rfl | rfl | rfl
    · exact Or.inl ⟨rfl, rfl⟩
    · exact Or.inl ⟨rfl, rfl⟩
    · exact Or.inl ⟨rfl, rfl⟩
    · exact Or.inl ⟨rfl, rfl⟩
    · exact Or.inl ⟨rfl, rfl⟩
    · exact Or.inr ⟨rfl, rfl⟩
    · exact Or.inr ⟨rfl, rfl⟩
    · exact Or.inl ⟨rfl, rfl⟩
/-- a boat's number: KIND .. GRANT -/
theorem x_part (I : AI) (T : AT) (a f N : Nat) (hf : f < 8) (hS : sS T.2.2.2.2.2.2 T.2.2.2.1 a = (10, N)) : Ct 0 y_Boat_part [.ref a, .int (nI f)] (hp I T) (fun r h' => h' = hp I T ∧ r = some (.int (I a f))) := by
  rcases (show f = 0 ∨ f = 1 ∨ f = 2 ∨ f = 3 ∨ f = 4 ∨ f = 5 ∨ f = 6 ∨ f = 7 by omega) with rfl | rfl | rfl | rfl | rfl | rfl | rfl | rfl
  all_goals
    iterate 3 refine Go.step rfl ?_
    refine Go.geti rfl hS (Or.inl rfl) ?_
    exact Go.ret rfl ⟨rfl, rfl⟩
theorem x_become (I : AI) (T : AT) (a f N : Nat) (v : Int32) (hf : f ≤ 4 ∨ f = 7) (hS : sS T.2.2.2.2.2.2 T.2.2.2.1 a = (10, N)) : Ct 0 y_Boat_become [.ref a, .int (nI f), .int v] (hp I T) (fun r h' => h' = hp (va_up I a (va_up (I a) f v)) T ∧ r = none) := by
  rcases (show f = 0 ∨ f = 1 ∨ f = 2 ∨ f = 3 ∨ f = 4 ∨ f = 7 by omega) with rfl | rfl | rfl | rfl | rfl | rfl
  all_goals
    iterate 4 refine Go.step rfl ?_
    refine Go.puti rfl hS rfl ?_
    repeat refine Go.step rfl ?_
    exact Go.ret rfl ⟨rfl, rfl⟩
theorem win_neg (v : Int32) : win v 0 (-1) = false := by
  cases h : win v 0 (-1) with
  | false => rfl
  | true =>
    simp only [win, Bool.and_eq_true, decide_eq_true_eq] at h
    exact absurd (Int32.le_trans h.1 h.2) (by decide)
theorem okf_set {f : Nat} {v : Int32} (hf : f ≤ 4 ∨ f = 7) (h : win v 0 (mo (nI f)) = true) : okf f v := by
  rcases (show f = 0 ∨ f = 1 ∨ f = 2 ∨ f = 3 ∨ f = 4 ∨ f = 7 by omega) with rfl | rfl | rfl | rfl | rfl | rfl
  · have := rg_of_win (N := 6) (by decide) h
    exact ⟨fun _ => this, fun q => by omega, fun q => by omega, fun q => by omega, fun q => by omega, fun q => by omega, fun q => by omega, fun q => by omega⟩
  · have := rg_of_win (N := 9) (by decide) h
    exact ⟨fun q => by omega, fun _ => this, fun q => by omega, fun q => by omega, fun q => by omega, fun q => by omega, fun q => by omega, fun q => by omega⟩
  · have := rg_of_win (N := 23) (by decide) h
    exact ⟨fun q => by omega, fun q => by omega, fun _ => this, fun q => by omega, fun q => by omega, fun q => by omega, fun q => by omega, fun q => by omega⟩
  · have := rg_of_win (N := 3) (by decide) h
    exact ⟨fun q => by omega, fun q => by omega, fun q => by omega, fun _ => this, fun q => by omega, fun q => by omega, fun q => by omega, fun q => by omega⟩
  · have := rg_of_win (N := 99) (by decide) h
    exact ⟨fun q => by omega, fun q => by omega, fun q => by omega, fun q => by omega, fun _ => this, fun q => by omega, fun q => by omega, fun q => by omega⟩
  · have := rg_of_win (N := 1) (by decide) h
    exact ⟨fun q => by omega, fun q => by omega, fun q => by omega, fun q => by omega, fun q => by omega, fun q => by omega, fun q => by omega, fun _ => this⟩
theorem x_set (xs : Nat → Int32) (I : AI) (T : AT) (J : AI) (hG : XG xs I T J) (b w v : Int32) : Ct 2 y_X_set [.ref 0, .int b, .int w, .int v] (hp I T) (XP xs I T (sp_set J b w v)) := by
  obtain ⟨x1, x2, x3, x4, x5, x6⟩ := id hG.2.1
  have hs := id hG.1
  have hr : rg (I 1 1) 8 := by rw [x2]; exact hs.1
  have bad : ∀ t4 : Value, ((win b 0 (J 74 0 - 1) && wOK w) && win v 0 (mo w)) = false → Go 2 y_X_set 27 [some (.ref 0), some (.int b), some (.int w), some (.int v), some t4, none] [] (hp I T) (XP xs I T (sp_set J b w v)) := by
    intro t4 hq
    iterate 2 refine Go.step rfl ?_
    exact x_err (k := 1) hG (by decide) (by decide) (by rw [sp_set, hq]; rfl) rfl rfl rfl (by decide)
  iterate 3 refine Go.step rfl ?_
  refine Go.cal (x_find I T 1 (Or.inl rfl) b hr) (by decide) rfl ?_
  rintro _ _ ⟨rfl, ⟨c1, rfl⟩ | ⟨c1, rfl⟩⟩
  · rw [x2] at c1
    iterate 6 refine Go.step rfl ?_
    refine Go.cal (x_mostOf xs I T hG.2.2.2.2.2.2.2.2 w) (by decide) rfl ?_
    rintro _ _ ⟨rfl, ⟨c2, rfl⟩ | ⟨c2, rfl⟩⟩
    · refine Go.cal (x_within _ v 0 (mo w)) (by decide) rfl ?_
      rintro _ _ ⟨rfl, rfl⟩
      refine Go.step rfl ?_
      refine Go.ifz (fun c3 => ?_) (fun c3 => ?_)
      · exact bad _ (by rw [c3, Bool.and_false])
      · obtain ⟨j, hj, hj8, rfl⟩ := boat_of_win hs.1 c1
        obtain ⟨f, hf, rfl, hf4⟩ := wOK_nI c2
        have h1 : cl (nI j) = j := nI_clamp (by omega)
        have h2 : cl (nI f) = f := nI_clamp (by omega)
        have hS := sS_boat T.2.2.2.2.2.2 T.2.2.2.1 (B := 1) (j := j) (Or.inl rfl) hj8
        rw [h1]
        iterate 2 refine Go.step rfl ?_
        refine Go.calv (x_part I T (1 + 8 + j) f 9 hf hS) (by decide) rfl rfl hS rfl ?_
        rintro _ _ ⟨rfl, rfl⟩
        iterate 4 refine Go.step rfl ?_
        refine Go.calv (x_become I T (1 + 8 + j) f 9 v hf4 hS) (by decide) rfl rfl hS rfl ?_
        rintro _ _ ⟨rfl, rfl⟩
        refine Go.step rfl ?_
        refine Go.ret rfl ?_
        rw [sp_set, c1, c2, c3, h1, h2]
        refine ⟨_, rfl, fun a g1 g2 => va_up_ne _ _ (by omega), ?_, ?_⟩
        · have := hG.boat hj8 hf (okf_set hf4 c3)
          rw [show 1 + 8 + j = 9 + j by omega]
          exact this
        · show some (Value.int (I (1 + 8 + j) f)) = _
          rw [x5 j f hj hj8 hf]
          rfl
    · refine Go.cal (x_within _ v 0 (-1)) (by decide) rfl ?_
      rintro _ _ ⟨rfl, rfl⟩
      refine Go.step rfl ?_
      refine Go.ifz (fun c3 => ?_) (fun c3 => ?_)
      · exact bad _ (by rw [c2, Bool.and_false]; rfl)
      · rw [win_neg] at c3; cases c3
  · rw [x2] at c1
    iterate 3 refine Go.step rfl ?_
    exact bad _ (by rw [c1]; rfl)
theorem x_owe (I : AI) (T : AT) (a N : Nat) (x : Int32) (hS : sS T.2.2.2.2.2.2 T.2.2.2.1 a = (10, N)) : Ct 2 y_Boat_owe [.ref a, .int x] (hp I T) (fun r h' => h' = hp (va_up I a (va_up (I a) 5 (owd (I a 5) x))) T ∧ r = none) := by
  iterate 2 refine Go.step rfl ?_
  refine Go.geti rfl hS (Or.inl rfl) ?_
  iterate 4 refine Go.step rfl ?_
  refine Go.cal (x_held _ _ _ _ (by decide)) (by decide) rfl ?_
  rintro _ _ ⟨rfl, rfl⟩
  refine Go.puti rfl hS rfl ?_
  exact Go.ret rfl ⟨rfl, rfl⟩
theorem hel_in {v a b : Int32} (hab : a ≤ b) : a ≤ hel v a b ∧ hel v a b ≤ b := by
  unfold hel
  split
  · exact ⟨Int32.le_refl a, hab⟩
  · rename_i h1
    split
    · exact ⟨hab, Int32.le_refl b⟩
    · rename_i h2
      exact ⟨Int32.not_lt.mp h1, Int32.not_lt.mp h2⟩
theorem okf_owes {v : Int32} (h : (-999999 : Int32) ≤ v ∧ v ≤ 999999) : okf 5 v := ⟨fun q => by omega, fun q => by omega, fun q => by omega, fun q => by omega, fun q => by omega, fun _ => h, fun q => by omega, fun q => by omega⟩
theorem x_pay (xs : Nat → Int32) (I : AI) (T : AT) (J : AI) (hG : XG xs I T J) (b c : Int32) : Ct 3 y_X_pay [.ref 0, .int b, .int c] (hp I T) (XP xs I T (sp_pay J b c)) := by
  obtain ⟨x1, x2, x3, x4, x5, x6⟩ := id hG.2.1
  have hs := id hG.1
  have hr : rg (I 1 1) 8 := by rw [x2]; exact hs.1
  have bad : ∀ t3 : Value, (win b 0 (J 74 0 - 1) && win c 1 9999) = false → Go 3 y_X_pay 24 [some (.ref 0), some (.int b), some (.int c), some t3, none] [] (hp I T) (XP xs I T (sp_pay J b c)) := by
    intro t3 hq
    iterate 2 refine Go.step rfl ?_
    exact x_err (k := 1) hG (by decide) (by decide) (by rw [sp_pay, hq]; rfl) rfl rfl rfl (by decide)
  iterate 3 refine Go.step rfl ?_
  refine Go.cal (x_find I T 1 (Or.inl rfl) b hr) (by decide) rfl ?_
  rintro _ _ ⟨rfl, ⟨c1, rfl⟩ | ⟨c1, rfl⟩⟩
  · rw [x2] at c1
    iterate 6 refine Go.step rfl ?_
    refine Go.cal (x_within _ c 1 9999) (by decide) rfl ?_
    rintro _ _ ⟨rfl, rfl⟩
    refine Go.step rfl ?_
    refine Go.ifz (fun c2 => ?_) (fun c2 => ?_)
    · exact bad _ (by rw [c2, Bool.and_false])
    · obtain ⟨j, hj, hj8, rfl⟩ := boat_of_win hs.1 c1
      have h1 : cl (nI j) = j := nI_clamp (by omega)
      have hS := sS_boat T.2.2.2.2.2.2 T.2.2.2.1 (B := 1) (j := j) (Or.inl rfl) hj8
      have f5 : I (1 + 8 + j) 5 = J 74 (58 + 8 * j + 5) := x5 j 5 hj hj8 (by omega)
      rw [h1]
      refine Go.step rfl ?_
      refine Go.geti rfl hS (Or.inl rfl) ?_
      rw [f5]
      refine Go.step rfl ?_
      refine Go.ite (fun c3 => ?_) (fun c3 => ?_)
      · iterate 2 refine Go.step rfl ?_
        refine Go.geti rfl hS (Or.inl rfl) ?_
        rw [f5]
        refine Go.cal (j_min _ c (J 74 (58 + 8 * j + 5))) (by decide) rfl ?_
        rintro _ _ ⟨rfl, rfl⟩
        iterate 4 refine Go.step rfl ?_
        refine Go.calv (x_owe I T (1 + 8 + j) 9 _ hS) (by decide) rfl rfl hS rfl ?_
        rintro _ _ ⟨rfl, rfl⟩
        refine Go.step rfl ?_
        refine Go.ret rfl ?_
        have e1 : (if J 74 (58 + 8 * j + 5) < c then J 74 (58 + 8 * j + 5) else c) = (if J 74 (58 + 8 * j + 5) ≤ c then J 74 (58 + 8 * j + 5) else c) := by
          by_cases q1 : J 74 (58 + 8 * j + 5) < c
          · rw [if_pos q1, if_pos (Int32.le_of_lt q1)]
          · rw [if_neg q1]
            by_cases q2 : J 74 (58 + 8 * j + 5) ≤ c
            · rw [if_pos q2]; exact Int32.le_antisymm (Int32.not_lt.mp q1) q2
            · rw [if_neg q2]
        rw [sp_pay, c1, c2, h1, if_pos c3, e1, f5]
        refine ⟨_, rfl, fun a g1 g2 => va_up_ne _ _ (by omega), ?_, rfl⟩
        have := hG.boat (v := owd (J 74 (58 + 8 * j + 5)) (-(if J 74 (58 + 8 * j + 5) ≤ c then J 74 (58 + 8 * j + 5) else c))) hj8 (f := 5) (by omega) (okf_owes (hel_in (by decide)))
        rw [show 1 + 8 + j = 9 + j by omega]
        exact this
      · iterate 2 refine Go.step rfl ?_
        exact x_err (k := 3) hG (by decide) (by decide) (by rw [sp_pay, c1, c2, h1, if_neg c3]; rfl) rfl rfl rfl (by decide)
  · rw [x2] at c1
    iterate 3 refine Go.step rfl ?_
    exact bad _ (by rw [c1]; rfl)
