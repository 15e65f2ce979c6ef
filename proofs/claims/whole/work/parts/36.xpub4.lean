/-! the class: boat, seed, tell -/
def bg (f : Nat → Int32) (k m c : Int32) : Nat → Int32 := va_up (va_up (va_up (va_up (va_up (va_up (va_up (va_up f 0 k) 1 m) 2 c) 3 1) 4 99) 5 0) 6 0) 7 0
theorem x_begin (I : AI) (T : AT) (a N : Nat) (k m c : Int32) (hS : sS T.2.2.2.2.2.2 T.2.2.2.1 a = (10, N)) : Ct 0 y_Boat_begin [.ref a, .int k, .int m, .int c] (hp I T) (fun r h' => h' = hp (va_up I a (bg (I a) k m c)) T ∧ r = none) := by
  iterate 2 refine Go.step rfl ?_
  refine Go.puti rfl hS rfl ?_
  iterate 2 refine Go.step rfl ?_
  refine Go.puti rfl hS rfl ?_
  iterate 2 refine Go.step rfl ?_
  refine Go.puti rfl hS rfl ?_
  iterate 2 refine Go.step rfl ?_
  refine Go.puti rfl hS rfl ?_
  iterate 2 refine Go.step rfl ?_
  refine Go.puti rfl hS rfl ?_
  iterate 2 refine Go.step rfl ?_
  refine Go.puti rfl hS rfl ?_
  iterate 2 refine Go.step rfl ?_
  refine Go.puti rfl hS rfl ?_
  iterate 2 refine Go.step rfl ?_
  refine Go.puti rfl hS rfl ?_
  refine Go.ret rfl ⟨?_, rfl⟩
  simp only [vu_idem, vu_same]
  rfl
theorem x_add (I : AI) (T : AT) (b : Nat) (hb : b < 8) (hn : I 1 1 = nI b) (k m c : Int32) : Ct 1 y_Sea_add [.ref 1, .int k, .int m, .int c] (hp I T) (fun r h' => h' = hp (va_up (va_up I (9 + b) (bg (I (9 + b)) k m c)) 1 (va_up (I 1) 1 (nI (b + 1)))) T ∧ r = none) := by
  have hS := sS_boat T.2.2.2.2.2.2 T.2.2.2.1 (B := 1) (j := b) (Or.inl rfl) hb
  have hP : sP T.1 T.2.1 T.2.2.1 4 b = some (1 + 8 + b) := by
    rcases (show b = 0 ∨ b = 1 ∨ b = 2 ∨ b = 3 ∨ b = 4 ∨ b = 5 ∨ b = 6 ∨ b = 7 by omega) with rfl | rfl | rfl | rfl | rfl | rfl | rfl | rfl <;> rfl
  iterate 3 refine Go.step rfl ?_
  rw [hn]
  refine Go.step rfl ?_
  refine Go.ite (fun c1 => ?_) (fun c1 => ?_)
  · exact absurd c1 (nI_ge (a := b) (b := 8) hb (by decide))
  · iterate 4 refine Go.step rfl ?_
    rw [hn]
    refine Go.aald rfl rfl rfl (am_in_nI hb (by decide)) (by rw [nI_clamp (by omega)]; exact hP) ?_
    iterate 3 refine Go.step rfl ?_
    refine Go.calv (x_begin I T (1 + 8 + b) 9 k m c hS) (by decide) rfl rfl hS rfl ?_
    rintro _ _ ⟨rfl, rfl⟩
    iterate 6 refine Go.step rfl ?_
    refine Go.ret rfl ⟨?_, rfl⟩
    have e1 : va_up I (1 + 8 + b) (bg (I (1 + 8 + b)) k m c) 1 = I 1 := va_up_ne _ _ (by omega)
    show hp (va_up (va_up I (1 + 8 + b) (bg (I (1 + 8 + b)) k m c)) 1 (va_up (va_up I (1 + 8 + b) (bg (I (1 + 8 + b)) k m c) 1) 1 (va_up I (1 + 8 + b) (bg (I (1 + 8 + b)) k m c) 1 1 + 1))) T = _
    rw [e1, hn, nI_1, show 1 + 8 + b = 9 + b by omega]
theorem bt_ne {s : Nat → Int32} {km c : Int32} {i : Nat} (h0 : i ≠ 0) (h : i < 58 + 8 * cl (s 0) ∨ 58 + 8 * cl (s 0) + 8 ≤ i) : bt s km c i = s i := by
  unfold bt
  rw [va_up_ne _ _ h0, va_up_ne _ _ (by omega), va_up_ne _ _ (by omega), va_up_ne _ _ (by omega), va_up_ne _ _ (by omega), va_up_ne _ _ (by omega), va_up_ne _ _ (by omega), va_up_ne _ _ (by omega), va_up_ne _ _ (by omega)]
theorem bt_new {s : Nat → Int32} {km c : Int32} {f : Nat} (hf : f < 8) : bt s km c (58 + 8 * cl (s 0) + f) = bg (fun _ => 0) (km / 10) (irm km 10) c f := by
  unfold bt
  rw [va_up_ne _ _ (by omega)]
  generalize cl (s 0) = b
  rcases (show f = 0 ∨ f = 1 ∨ f = 2 ∨ f = 3 ∨ f = 4 ∨ f = 5 ∨ f = 6 ∨ f = 7 by omega) with rfl | rfl | rfl | rfl | rfl | rfl | rfl | rfl <;> (simp [va_up, bg])
theorem bg_any {f g : Nat → Int32} {k m c : Int32} {i : Nat} (hi : i < 8) : bg f k m c i = bg g k m c i := by
  rcases (show i = 0 ∨ i = 1 ∨ i = 2 ∨ i = 3 ∨ i = 4 ∨ i = 5 ∨ i = 6 ∨ i = 7 by omega) with rfl | rfl | rfl | rfl | rfl | rfl | rfl | rfl <;> rfl
theorem bt_ok {s : Nat → Int32} {km c : Int32} (h : sOK s) (h8 : cl (s 0) < 8) (hk : rg km 69) (hc : rg c 23) : sOK (bt s km c) ∧ bt s km c 0 = nI (cl (s 0) + 1) := by
  obtain ⟨s1, s2, s3, s4, s5, s6, s7, s8⟩ := h
  obtain ⟨en, hn⟩ := s1.eq (by decide)
  obtain ⟨k, hk1, rfl⟩ := hk
  have e0 : bt s (nI k) c 0 = nI (cl (s 0) + 1) := by
    unfold bt
    rw [vu_same]
    generalize cl (s 0) = b at en
    rw [en]; exact nI_1 _
  have ec : cl (bt s (nI k) c 0) = cl (s 0) + 1 := by rw [e0]; exact nI_clamp (by omega)
  refine ⟨⟨by rw [e0]; exact rg_nI (by omega), by rw [bt_ne (by omega) (by omega)]; exact s2, by rw [bt_ne (by omega) (by omega)]; exact s3, by rw [bt_ne (by omega) (by omega)]; exact s4, fun q hq => by rw [bt_ne (by omega) (by omega)]; exact s5 q hq, fun q hq => by rw [bt_ne (by omega) (by omega)]; exact s6 q hq, fun q hq => by rw [bt_ne (by omega) (by omega)]; exact s7 q hq, fun b hb => ?_⟩, e0⟩
  rw [ec] at hb
  by_cases hq : b = cl (s 0)
  · subst hq
    have f0 : bt s (nI k) c (58 + 8 * cl (s 0)) = nI k / 10 := bt_new (f := 0) (by omega)
    have f1 := bt_new (s := s) (km := nI k) (c := c) (f := 1) (by omega)
    have f2 := bt_new (s := s) (km := nI k) (c := c) (f := 2) (by omega)
    have f3 := bt_new (s := s) (km := nI k) (c := c) (f := 3) (by omega)
    have f4 := bt_new (s := s) (km := nI k) (c := c) (f := 4) (by omega)
    have f5 := bt_new (s := s) (km := nI k) (c := c) (f := 5) (by omega)
    have f6 := bt_new (s := s) (km := nI k) (c := c) (f := 6) (by omega)
    have f7 := bt_new (s := s) (km := nI k) (c := c) (f := 7) (by omega)
    unfold bOK
    rw [f0, f1, f2, f3, f4, f5, f6, f7]
    refine ⟨?_, ?_, hc, ⟨1, by decide, rfl⟩, ⟨99, by decide, rfl⟩, ⟨show (-999999 : Int32) ≤ 0 from by decide, show (0 : Int32) ≤ 999999 from by decide⟩, ⟨0, by decide, rfl⟩, ⟨0, by decide, rfl⟩⟩
    · rw [show nI k / 10 = nI (k / 10) from nI_div (b := 10) (by omega) (by decide)]; exact rg_nI (by omega)
    · show rg (irm (nI k) 10) 9
      rw [show irm (nI k) 10 = nI (k % 10) from irm_nI (b := 10) (by omega) (by decide)]; exact rg_nI (by omega)
  · have := s8 b (by omega)
    unfold bOK at this ⊢
    rw [bt_ne (by omega) (by omega), bt_ne (by omega) (by omega), bt_ne (by omega) (by omega), bt_ne (by omega) (by omega), bt_ne (by omega) (by omega), bt_ne (by omega) (by omega), bt_ne (by omega) (by omega), bt_ne (by omega) (by omega)]
    exact this
theorem x_boat (xs : Nat → Int32) (I : AI) (T : AT) (J : AI) (hG : XG xs I T J) (km c : Int32) : Ct 2 y_X_boat [.ref 0, .int km, .int c] (hp I T) (XP xs I T (sp_boat J km c)) := by
  obtain ⟨x1, x2, x3, x4, x5, x6⟩ := id hG.2.1
  have hs := id hG.1
  obtain ⟨en, hn⟩ := hs.1.eq (by decide)
  have bad : (win km 0 69 && win c 0 23) = false → Go 2 y_X_boat 20 [some (.ref 0), some (.int km), some (.int c)] [] (hp I T) (XP xs I T (sp_boat J km c)) := by
    intro hq
    iterate 2 refine Go.step rfl ?_
    exact x_err (k := 1) hG (by decide) (by decide) (by rw [sp_boat, hq]; rfl) rfl rfl rfl (by decide)
  iterate 3 refine Go.step rfl ?_
  refine Go.cal (x_within _ km 0 69) (by decide) rfl ?_
  rintro _ _ ⟨rfl, rfl⟩
  refine Go.step rfl ?_
  refine Go.ifz (fun c1 => ?_) (fun c1 => ?_)
  · exact bad (by rw [c1]; rfl)
  · iterate 3 refine Go.step rfl ?_
    refine Go.cal (x_within _ c 0 23) (by decide) rfl ?_
    rintro _ _ ⟨rfl, rfl⟩
    refine Go.step rfl ?_
    refine Go.ifz (fun c2 => ?_) (fun c2 => ?_)
    · exact bad (by rw [c2, Bool.and_false])
    · iterate 4 refine Go.step rfl ?_
      rw [x2]
      refine Go.step rfl ?_
      refine Go.ite (fun c3 => ?_) (fun c3 => ?_)
      · have h8 : cl (J 74 0) < 8 := by
          rw [en, show (8 : Int32) = nI 8 from rfl, nI_ltI (by omega) (by decide)] at c3; exact c3
        have hne : ¬ J 74 0 = 8 := fun q => by rw [q] at c3; exact absurd c3 (by decide)
        obtain ⟨hok, ebt⟩ := bt_ok (km := km) (c := c) hs h8 (rg_of_win (by decide) c1) (rg_of_win (by decide) c2)
        have e8 : ∀ {f : Nat}, f < 8 → bt (J 74) km c (58 + 8 * cl (J 74 0) + f) = bg (fun _ => 0) (km / 10) (irm km 10) c f := fun hf => bt_new hf
        have ebn : ∀ {i : Nat}, i ≠ 0 → (i < 58 + 8 * cl (J 74 0) ∨ 58 + 8 * cl (J 74 0) + 8 ≤ i) → bt (J 74) km c i = J 74 i := fun h1 h2 => bt_ne h1 h2
        have hn2 : I 1 1 = nI (cl (J 74 0)) := by rw [x2]; exact en
        generalize hb : cl (J 74 0) = b at en hn h8 ebt e8 ebn hn2
        iterate 9 refine Go.step rfl ?_
        refine Go.cal (x_add I T b h8 hn2 (km / 10) (irm km 10) c) (by decide) rfl ?_
        rintro _ _ ⟨rfl, rfl⟩
        iterate 5 refine Go.step rfl ?_
        refine Go.ret rfl ?_
        rw [sp_boat, c1, c2, if_neg hne]
        refine ⟨_, rfl, fun a g1 g2 => by rw [va_up_ne _ _ (by omega), va_up_ne _ _ (by omega)], hG.sea (fun a ha => by rw [va_up_ne _ _ (by omega), va_up_ne _ _ (by omega)]) hok ?_ (fun i hi => ebn (by omega) (by omega)), ?_⟩
        · have g1 : ∀ a, a ≠ 1 → a ≠ 9 + b → va_up (va_up I (9 + b) (bg (I (9 + b)) (km / 10) (irm km 10) c)) 1 (va_up (I 1) 1 (nI (b + 1))) a = I a := fun a h1 h2 => by rw [va_up_ne _ _ h1, va_up_ne _ _ h2]
          refine ⟨?_, ?_, fun j hj => by rw [g1 _ (by omega) (by omega), ebn (by omega) (by omega), ebn (by omega) (by omega)]; exact x3 j hj, fun q hq => by rw [g1 _ (by omega) (by omega), ebn (by omega) (by omega)]; exact x4 q hq, fun b' f g2 g3 g4 => ?_, fun u hu => (x6 u hu).kept (fun a ha => g1 a (by omega) (by omega)) (fun j g1 g2 => ebn (by omega) (by omega)) hu⟩
          · rw [vu_same, va_up_ne _ _ (by omega), ebn (by omega) (by omega)]; exact x1
          · rw [vu_same, vu_same, ebt]
          · rw [ebt, show cl (nI (b + 1)) = b + 1 from nI_clamp (by omega)] at g2
            rw [va_up_ne _ _ (by omega)]
            by_cases hq : b' = b
            · subst hq
              rw [show 1 + 8 + b' = 9 + b' by omega, vu_same, e8 g4]
              exact bg_any g4
            · rw [va_up_ne _ _ (by omega), ebn (by omega) (by omega)]
              exact x5 b' f (by omega) g3 g4
        · show some (Value.int (va_up (va_up I (9 + b) (bg (I (9 + b)) (km / 10) (irm km 10) c)) 1 (va_up (I 1) 1 (nI (b + 1))) 1 1 - 1)) = some (Value.int (J 74 0))
          rw [vu_same, vu_same, nI_pred, ← en]
      · have he : J 74 0 = 8 := by
          have h8 : ¬ cl (J 74 0) < 8 := fun q => c3 (by
            rw [en, show (8 : Int32) = nI 8 from rfl, nI_ltI (by omega) (by decide)]; exact q)
          rw [en, show cl (J 74 0) = 8 by omega]; rfl
        iterate 2 refine Go.step rfl ?_
        exact x_err (k := 4) hG (by decide) (by decide) (by rw [sp_boat, c1, c2, if_pos he]; rfl) rfl rfl rfl (by decide)
