/-! one number of the row changes -/
def okv (i : Nat) (v : Int32) : Prop := (i = 1 → rg v 11000) ∧ (i = 2 → rg v 60) ∧ (i = 3 → rg v 24) ∧ (∀ q, q < 4 → i = 5 + q → rg v 99) ∧ (∀ j, j < 24 → i = 10 + j → rg v 40) ∧ (∀ j, j < 24 → i = 34 + j → rg v 3) ∧ ∀ b, b < 8 → (i = 58 + 8 * b → rg v 6) ∧ (i = 58 + 8 * b + 1 → rg v 9) ∧ (i = 58 + 8 * b + 2 → rg v 23) ∧ (i = 58 + 8 * b + 3 → rg v 3) ∧ (i = 58 + 8 * b + 4 → rg v 99) ∧ (i = 58 + 8 * b + 5 → (-999999 : Int32) ≤ v ∧ v ≤ 999999) ∧ (i = 58 + 8 * b + 6 → rg v 999999) ∧ (i = 58 + 8 * b + 7 → rg v 1)
theorem vu_if {α : Type} {f : Nat → α} {i j : Nat} {v : α} {P : α → Prop} (h1 : j = i → P v) (h2 : P (f j)) : P (va_up f i v j) := by
  by_cases h : j = i
  · subst h; rw [vu_same]; exact h1 rfl
  · rw [va_up_ne _ _ h]; exact h2
theorem cl_le {s : Nat → Int32} (h : rg (s 0) 8) : cl (s 0) ≤ 8 := (h.eq (by decide)).2
theorem sOK.up {s : Nat → Int32} {i : Nat} {v : Int32} (h : sOK s) (h0 : i ≠ 0) (hv : okv i v) : sOK (va_up s i v) := by
  obtain ⟨s1, s2, s3, s4, s5, s6, s7, s8⟩ := h
  obtain ⟨o1, o2, o3, o4, o5, o6, o7⟩ := hv
  have e0 : va_up s i v 0 = s 0 := va_up_ne _ _ (by omega)
  refine ⟨by rw [e0]; exact s1, vu_if (P := fun x => rg x 11000) (fun q => o1 q.symm) s2, vu_if (P := fun x => rg x 60) (fun q => o2 q.symm) s3, vu_if (P := fun x => rg x 24) (fun q => o3 q.symm) s4, fun q hq => vu_if (P := fun x => rg x 99) (fun z => o4 q hq z.symm) (s5 q hq), fun q hq => vu_if (P := fun x => rg x 40) (fun z => o5 q hq z.symm) (s6 q hq), fun q hq => vu_if (P := fun x => rg x 3) (fun z => o6 q hq z.symm) (s7 q hq), fun b hb => ?_⟩
  rw [e0] at hb
  have hb8 : b < 8 := Nat.lt_of_lt_of_le hb (cl_le s1)
  obtain ⟨p1, p2, p3, p4, p5, p6, p7, p8⟩ := o7 b hb8
  obtain ⟨b1, b2, b3, b4, b5, b6, b7, b8⟩ := s8 b hb
  exact ⟨vu_if (P := fun x => rg x 6) (fun z => p1 z.symm) b1, vu_if (P := fun x => rg x 9) (fun z => p2 z.symm) b2, vu_if (P := fun x => rg x 23) (fun z => p3 z.symm) b3, vu_if (P := fun x => rg x 3) (fun z => p4 z.symm) b4, vu_if (P := fun x => rg x 99) (fun z => p5 z.symm) b5, vu_if (P := fun x => (-999999 : Int32) ≤ x ∧ x ≤ 999999) (fun z => p6 z.symm) b6, vu_if (P := fun x => rg x 999999) (fun z => p7 z.symm) b7, vu_if (P := fun x => rg x 1) (fun z => p8 z.symm) b8⟩
/-- a place whose number is free -/
theorem okv_free {i : Nat} (v : Int32) (h : i = 0 ∨ i = 4 ∨ i = 9 ∨ 122 ≤ i) : okv i v := by
  refine ⟨fun q => by omega, fun q => by omega, fun q => by omega, fun q h1 h2 => by omega, fun q h1 h2 => by omega, fun q h1 h2 => by omega, fun b hb => ⟨fun q => by omega, fun q => by omega, fun q => by omega, fun q => by omega, fun q => by omega, fun q => by omega, fun q => by omega, fun q => by omega⟩⟩
theorem okv_price {q : Nat} {v : Int32} (hq : q < 4) (h : rg v 99) : okv (5 + q) v := by
  refine ⟨fun q => by omega, fun q => by omega, fun q => by omega, fun _ _ _ => h, fun q h1 h2 => by omega, fun q h1 h2 => by omega, fun b hb => ⟨fun q => by omega, fun q => by omega, fun q => by omega, fun q => by omega, fun q => by omega, fun q => by omega, fun q => by omega, fun q => by omega⟩⟩
theorem okv_low {i : Nat} {v : Int32} (h1 : i = 1 → rg v 11000) (h2 : i = 2 → rg v 60) (h3 : i = 3 → rg v 24) (hi : i ≤ 4) : okv i v := by
  refine ⟨h1, h2, h3, fun q h1 h2 => by omega, fun q h1 h2 => by omega, fun q h1 h2 => by omega, fun b hb => ⟨fun q => by omega, fun q => by omega, fun q => by omega, fun q => by omega, fun q => by omega, fun q => by omega, fun q => by omega, fun q => by omega⟩⟩
/-- what a boat's field f may hold -/
def okf (f : Nat) (v : Int32) : Prop := (f = 0 → rg v 6) ∧ (f = 1 → rg v 9) ∧ (f = 2 → rg v 23) ∧ (f = 3 → rg v 3) ∧ (f = 4 → rg v 99) ∧ (f = 5 → (-999999 : Int32) ≤ v ∧ v ≤ 999999) ∧ (f = 6 → rg v 999999) ∧ (f = 7 → rg v 1)
theorem okv_boat {b f : Nat} {v : Int32} (hf : f < 8) (h : okf f v) : okv (58 + 8 * b + f) v := by
  obtain ⟨f0, f1, f2, f3, f4, f5, f6, f7⟩ := h
  exact ⟨fun q => by omega, fun q => by omega, fun q => by omega, fun q h1 h2 => by omega, fun q h1 h2 => by omega, fun q h1 h2 => by omega, fun b' hb => ⟨fun q => f0 (by omega), fun q => f1 (by omega), fun q => f2 (by omega), fun q => f3 (by omega), fun q => f4 (by omega), fun q => f5 (by omega), fun q => f6 (by omega), fun q => f7 (by omega)⟩⟩
/-- a boat's field in a sea -/
theorem XSea.boat {I : AI} {T : AT} {B i b f : Nat} {s : Nat → Int32} {v : Int32} (h : XSea I T B i s) (hb : b < 8) (hf : f < 8) (hB : B + 16 ≤ 91) : XSea (va_up I (B + 8 + b) (va_up (I (B + 8 + b)) f v)) T B i (va_up s (58 + 8 * b + f) v) := by
  obtain ⟨h1, h2, h3, h4, h5, h6⟩ := h
  refine ⟨by rw [va_up_ne _ _ (by omega), va_up_ne _ _ (by omega)]; exact h1, by rw [va_up_ne _ _ (by omega), va_up_ne _ _ (by omega)]; exact h2, fun j hj => by rw [va_up_ne _ _ (by omega), va_up_ne _ _ (by omega), va_up_ne _ _ (by omega)]; exact h3 j hj, fun q hq => by rw [va_up_ne _ _ (by omega), va_up_ne _ _ (by omega)]; exact h4 q hq, fun b' f' g1 g2 g3 => ?_, fun u hu => (h6 u hu).kept (fun a ha => va_up_ne _ _ (by omega)) (fun j g1 g2 => va_up_ne _ _ (by omega)) hu⟩
  rw [va_up_ne _ _ (by omega)] at g1
  by_cases hq : b' = b
  · subst hq
    rw [vu_same]
    by_cases hq2 : f' = f
    · subst hq2; rw [vu_same, vu_same]
    · rw [va_up_ne _ _ hq2, va_up_ne _ _ (by omega)]; exact h5 b' f' g1 g2 g3
  · rw [va_up_ne _ _ (by omega), va_up_ne _ _ (by omega)]; exact h5 b' f' g1 g2 g3
theorem XSea.price {I : AI} {T : AT} {B i q : Nat} {s : Nat → Int32} {v : Int32} (h : XSea I T B i s) (hq : q < 4) (hB : B + 16 ≤ 91) : XSea (va_up I (B + 2) (va_up (I (B + 2)) q v)) T B i (va_up s (5 + q) v) := by
  obtain ⟨h1, h2, h3, h4, h5, h6⟩ := h
  refine ⟨by rw [va_up_ne _ _ (by omega), va_up_ne _ _ (by omega)]; exact h1, by rw [va_up_ne _ _ (by omega), va_up_ne _ _ (by omega)]; exact h2, fun j hj => by rw [va_up_ne _ _ (by omega), va_up_ne _ _ (by omega), va_up_ne _ _ (by omega)]; exact h3 j hj, fun p hp => ?_, fun b' f' g1 g2 g3 => by rw [va_up_ne _ _ (by omega)] at g1; rw [va_up_ne _ _ (by omega), va_up_ne _ _ (by omega)]; exact h5 b' f' g1 g2 g3, fun u hu => (h6 u hu).kept (fun a ha => va_up_ne _ _ (by omega)) (fun j g1 g2 => va_up_ne _ _ (by omega)) hu⟩
  rw [vu_same]
  by_cases hp2 : p = q
  · subst hp2; rw [vu_same, vu_same]
  · rw [va_up_ne _ _ hp2, va_up_ne _ _ (by omega)]; exact h4 p hp
/-- a number of the row that seas don't know -/
theorem XSea.other {I : AI} {T : AT} {B i k : Nat} {s : Nat → Int32} {v : Int32} (h : XSea I T B i s) (hk : (2 ≤ k ∧ k ≤ 4) ∨ k = 9 ∨ 372 ≤ k) : XSea I T B i (va_up s k v) := by
  obtain ⟨h1, h2, h3, h4, h5, h6⟩ := h
  exact ⟨by rw [va_up_ne _ _ (by omega)]; exact h1, by rw [va_up_ne _ _ (by omega)]; exact h2, fun j hj => by rw [va_up_ne _ _ (by omega), va_up_ne _ _ (by omega)]; exact h3 j hj, fun q hq => by rw [va_up_ne _ _ (by omega)]; exact h4 q hq, fun b f g1 g2 g3 => by rw [va_up_ne _ _ (by omega)] at g1; rw [va_up_ne _ _ (by omega)]; exact h5 b f g1 g2 g3, fun u hu => (h6 u hu).kept (fun a ha => rfl) (fun j g1 g2 => va_up_ne _ _ (by omega)) hu⟩
/-- the sea of now, a boat's field -/
theorem XG.boat {xs : Nat → Int32} {I : AI} {T : AT} {J : AI} {b f : Nat} {v : Int32} (h : XG xs I T J) (hb : b < 8) (hf : f < 8) (hv : okf f v) : XG xs (va_up I (9 + b) (va_up (I (9 + b)) f v)) T (sps J (va_up (J 74) (58 + 8 * b + f) v)) := by
  have hX := XSea.boat (b := b) (f := f) (v := v) h.2.1 hb hf (by decide)
  rw [show 1 + 8 + b = 9 + b by omega] at hX
  exact h.sea (fun a ha => va_up_ne _ _ (by omega)) (h.1.up (by omega) (okv_boat hf hv)) hX (fun j hj => va_up_ne _ _ (by omega))
theorem x_price (xs : Nat → Int32) (I : AI) (T : AT) (J : AI) (hG : XG xs I T J) (q v : Int32) : Ct 2 y_X_price [.ref 0, .int q, .int v] (hp I T) (XP xs I T (sp_price J q v)) := by
  have bad : (win q 0 3 && win v 0 99) = false → Go 2 y_X_price 19 [some (.ref 0), some (.int q), some (.int v), none] [] (hp I T) (XP xs I T (sp_price J q v)) := by
    intro hq
    iterate 2 refine Go.step rfl ?_
    refine Go.cal (x_refuse I T 1 (by decide) (by decide)) (by decide) rfl ?_
    rintro _ _ ⟨rfl, rfl⟩
    refine Go.ret rfl ?_
    rw [sp_price, hq]
    exact XP.err hG (by decide) (by decide)
  repeat refine Go.step rfl ?_
  refine Go.cal (x_within _ q 0 3) (by decide) rfl ?_
  rintro _ _ ⟨rfl, rfl⟩
  refine Go.step rfl ?_
  refine Go.ifz (fun c1 => ?_) (fun c1 => ?_)
  · exact bad (by rw [c1]; rfl)
  · iterate 3 refine Go.step rfl ?_
    refine Go.cal (x_within _ v 0 99) (by decide) rfl ?_
    rintro _ _ ⟨rfl, rfl⟩
    refine Go.step rfl ?_
    refine Go.ifz (fun c2 => ?_) (fun c2 => ?_)
    · exact bad (by rw [c2, Bool.and_false])
    · obtain ⟨j, hj, rfl⟩ := nI_of_win (N := 3) (by decide) c1
      repeat refine Go.step rfl ?_
      refine Go.iald rfl rfl (am_in_nI (by omega) (by decide)) ?_
      repeat refine Go.step rfl ?_
      refine Go.iast rfl rfl (am_in_nI (by omega) (by decide)) ?_
      refine Go.step rfl ?_
      refine Go.ret rfl ?_
      rw [nI_clamp (by omega)]
      have e1 : sp_price J (nI j) v = (sps J (va_up (J 74) (5 + j) v), J 74 (5 + j)) := by
        rw [sp_price, c1, c2, nI_clamp (by omega)]; rfl
      rw [e1]
      refine ⟨_, rfl, fun a g1 g2 => va_up_ne _ _ (by omega), hG.sea (fun a ha => va_up_ne _ _ (by omega)) (hG.1.up (by omega) (okv_price (by omega) (rg_of_win (by decide) c2))) (XSea.price (B := 1) hG.2.1 (by omega) (by decide)) (fun i hi => va_up_ne _ _ (by omega)), ?_⟩
      show some (Value.int (I 3 j)) = _
      rw [show I 3 j = J 74 (5 + j) from hG.2.1.2.2.2.1 j (by omega)]
