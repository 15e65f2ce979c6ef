/-! AN HOUR: the class; bills, and hours that go by -/
def bl1 (r : Nat → Int32) (t p k : Int32) : Int32 := if r 247 = 0 then bl0 r t p k else hel (bl0 r t p k) (-9999) 9999
def ch1 (r : Nat → Int32) (b : Nat) (t p k : Int32) : Int32 := if r (58 + 8 * b + 7) = 0 ∧ 0 < t then owd (r (58 + 8 * b + 5)) (bl1 r t p k) else r (58 + 8 * b + 5)
def chg (r : Nat → Int32) (b : Nat) (t p k : Int32) : Int32 := if k = 0 ∧ r (58 + 8 * b) = 4 then owd (ch1 r b t p k) (- r (58 + 8 * b + 1)) else ch1 r b t p k
/-- boats before k have had their hour -/
def mrow (s : Nat → Int32) (bread : Int32) (k : Nat) : Nat → Int32 := ft s (fun b f => hr s bread (58 + 8 * b + f)) (fun b _ => decide (b < k))
theorem mrow_at (s : Nat → Int32) (bread : Int32) (k : Nat) {b f : Nat} (hb : b < 8) (hf : f < 8) : mrow s bread k (58 + 8 * b + f) = if b < k then hr s bread (58 + 8 * b + f) else s (58 + 8 * b + f) := by
  unfold mrow; rw [ft_at _ _ _ hb hf]; simp only [decide_eq_true_eq]
theorem mrow_off (s : Nat → Int32) (bread : Int32) (k : Nat) {j : Nat} (h : j < 58 ∨ 122 ≤ j) : mrow s bread k j = s j := ft_off _ _ _ h
theorem mrow_0 (s : Nat → Int32) (bread : Int32) : mrow s bread 0 = s := by
  refine row_ext (fun j hj => mrow_off _ _ _ hj) (fun b f hb hf => ?_)
  rw [mrow_at _ _ _ hb hf, if_neg (by omega)]
theorem mrow_end (s : Nat → Int32) (bread : Int32) : va_up (mrow s bread (cl (s 0))) 1 (s 1 + 1) = hr s bread := by
  refine row_ext (fun j hj => ?_) (fun b f hb hf => ?_)
  · by_cases q : j = 1
    · subst q; rw [vu_same, hr_1]
    · rw [va_up_ne _ _ q, mrow_off _ _ _ hj, hr_off _ _ hj q]
  · rw [va_up_ne _ _ (by omega), mrow_at _ _ _ hb hf]
    by_cases q : b < cl (s 0)
    · rw [if_pos q]
    · rw [if_neg q]
      unfold hr
      rw [va_up_ne _ _ (by omega), hr3_at _ _ _ hb hf, if_neg (by omega), if_neg (by omega), if_neg (by omega)]
/-- what a boat's hour makes of its fields -/
theorem drv_hr {s : Nat → Int32} (hs : sOK s) {b : Nat} (hbn : b < cl (s 0)) (hb8 : b < 8) (F : Nat → Int32) (br : Bool) (h8 : F 8 = tk s 255 b) (hF : ∀ f, f < 8 → F f = if f = 5 then ow2 s b else if f = 6 then usd s b else s (58 + 8 * b + f)) : ∀ f, f < 8 → drv F (wy s) br f = hr s (bo br) (58 + 8 * b + f) := by
  obtain ⟨o0, o1, o2, o3, o4, o5, o6, o7⟩ := hs.2.2.2.2.2.2.2 b hbn
  have g0 : F 0 = s (58 + 8 * b) := (hF 0 (by decide)).trans ((if_neg (by decide)).trans (if_neg (by decide)))
  have g2 : F 2 = s (58 + 8 * b + 2) := (hF 2 (by decide)).trans ((if_neg (by decide)).trans (if_neg (by decide)))
  have g3 : F 3 = s (58 + 8 * b + 3) := (hF 3 (by decide)).trans ((if_neg (by decide)).trans (if_neg (by decide)))
  have g5 : F 5 = ow2 s b := (hF 5 (by decide)).trans (if_pos rfl)
  have hg : goesB (F 0) (F 8) (F 3) (wy s) = gob s b := by rw [g0, h8, g3]; rfl
  have hb : bes (cl (F 2)) (cl (F 3)) = bsb s b := by rw [g2, g3]; rfl
  intro f hf
  rw [hr_at _ _ hb8 hf hbn]
  by_cases f5 : f = 5
  · subst f5
    rw [if_pos rfl, drv_5, g0, g5]
    unfold ow3 rowsB
    by_cases q : und (s (58 + 8 * b)) 2 = true
    · rw [if_pos q]
      cases br with
      | true => rw [if_pos ⟨q, rfl⟩]; rfl
      | false =>
        rw [if_neg (fun z => absurd z.2 (by decide))]
        have hi := ow2_in o5
        show _ = owd (ow2 s b) 0
        unfold owd
        rw [Int32.add_zero, hel_id hi.1 hi.2]
    · rw [if_neg q, if_neg (fun z => q z.1)]
  · rw [if_neg f5]
    by_cases f2 : f = 2
    · subst f2
      rw [if_pos rfl, drv_2, hg, hb, g2]; rfl
    · rw [if_neg f2]
      by_cases f3 : f = 3
      · subst f3
        obtain ⟨hd, hhd, ehd⟩ := o3
        rw [if_pos rfl, drv_3 (hd := hd) (by omega) (g3.trans ehd), hg, hb, g3]; rfl
      · rw [if_neg f3, drv_other f5 f2 f3, hF f hf, if_neg f5]
theorem x_billOf_1 (I : AI) (T : AT) (r : Nat → Int32) (hX : XSea I T 1 0 r) (b c : Nat) (hb : b < cl (r 0)) (hb8 : b < 8) (hc : c < 24) (ec : r (58 + 8 * b + 2) = nI c) (k : Int32) : Ct 2 y_Sea_billOf [.ref 1, .ref ((1 + 8) + b), .int k] (hp I T) (fun q h' => ∃ g, h' = hp (va_up I 8 g) T ∧ q = some (.int (bl1 r (I ((1 + 8) + b) 8) (r (5 + c / 6)) k))) := by
  have hSb : sS T.2.2.2.2.2.2 T.2.2.2.1 ((1 + 8) + b) = (10, 9) := sS_boat _ _ (B := 1) (Or.inl rfl) hb8
  have x5 : ∀ f, f < 8 → I ((1 + 8) + b) f = r (58 + 8 * b + f) := fun f hf => hX.2.2.2.2.1 b f hb hb8 hf
  have hxt := hX.2.2.2.2.2 1 (by decide)
  iterate 2 refine Go.step rfl ?_
  refine Go.geti rfl hSb (Or.inl rfl) ?_
  rw [show I ((1 + 8) + b) 2 = nI c from (x5 2 (by decide)).trans ec]
  refine Go.cal (x_priceIn_1 I T r hX c hc) (by decide) rfl ?_
  rintro _ _ ⟨rfl, rfl⟩
  iterate 4 refine Go.step rfl ?_
  cases hT : T.1 1 with
  | none =>
    rw [show T.1 (2 * 0 + 1) = none from hT] at hxt
    have h0 : r 247 = 0 := hxt
    refine Go.aaldN rfl rfl rfl rfl hT ?_
    iterate 3 refine Go.step rfl ?_
    iterate 3 refine Go.step rfl ?_
    refine Go.ite (fun c1 => ?_) (fun c1 => ?_)
    · iterate 3 refine Go.step rfl ?_
      refine Go.geti rfl hSb (Or.inl rfl) ?_
      iterate 4 refine Go.step rfl ?_
      refine Go.ret rfl ⟨I 8, by rw [vu_self] <;> rfl, ?_⟩
      unfold bl1 bl0
      rw [if_pos h0, if_pos h0, if_neg (Int32.not_lt.mpr c1)]
    · iterate 2 refine Go.step rfl ?_
      refine Go.geti rfl hSb (Or.inl rfl) ?_
      iterate 4 refine Go.step rfl ?_
      refine Go.geti rfl hSb (Or.inl rfl) ?_
      iterate 4 refine Go.step rfl ?_
      refine Go.ret rfl ⟨I 8, by rw [vu_self] <;> rfl, ?_⟩
      unfold bl1 bl0
      rw [if_pos h0, if_pos h0, if_pos (Int32.not_le.mp c1)]
  | some a =>
    rw [show T.1 (2 * 0 + 1) = some a from hT] at hxt
    obtain ⟨h1, h2, h3, w, len, h4, h5, h6, h7, h8, h9, h10⟩ := hxt
    have ea : sS T.2.2.2.2.2.2 T.2.2.2.1 a = (15, 1) := by rw [sS_dyn _ _ h1 h2]; exact h3
    have ew : sS T.2.2.2.2.2.2 T.2.2.2.1 w = (0, len) := by rw [sS_dyn _ _ h4 h5]; exact h7
    have epa : sP T.1 T.2.1 T.2.2.1 a 0 = some w := by rw [sP_dyn _ _ _ h1 h2]; exact h6
    have hl := h8.1
    have hl2 := h8.2.1
    have h0 : ¬ r 247 = 0 := by rw [show r 247 = nI len from h9]; exact nI_ne0 (by omega) (by omega)
    refine Go.aald rfl rfl rfl rfl hT ?_
    iterate 7 refine Go.step rfl ?_
    refine Go.geti rfl hSb (Or.inl rfl) ?_
    iterate 2 refine Go.step rfl ?_
    refine Go.calv (x_value I T a w len 8 _ _ _ ea epa ew rfl (by omega) h8) (by decide) rfl rfl ea rfl ?_
    rintro _ _ ⟨g, rfl, rfl⟩
    iterate 2 refine Go.step rfl ?_
    refine Go.cal (x_held _ _ _ _ (by decide)) (by decide) rfl ?_
    rintro _ _ ⟨rfl, rfl⟩
    refine Go.ret rfl ⟨g, rfl, ?_⟩
    unfold bl1 bl0
    rw [if_neg h0, if_neg h0, tev_eq (by decide) h8 h9 h10]
theorem x_charge_1 (I : AI) (T : AT) (r : Nat → Int32) (hX : XSea I T 1 0 r) (b c : Nat) (hb : b < cl (r 0)) (hb8 : b < 8) (hc : c < 24) (ec : r (58 + 8 * b + 2) = nI c) (k : Int32) : Ct 3 y_Sea_charge [.ref 1, .ref ((1 + 8) + b), .int k] (hp I T) (fun q h' => ∃ g, h' = hp (va_up (va_up I 8 g) ((1 + 8) + b) (va_up (I ((1 + 8) + b)) 5 (chg r b (I ((1 + 8) + b) 8) (r (5 + c / 6)) k))) T ∧ q = none) := by
  have hSb : sS T.2.2.2.2.2.2 T.2.2.2.1 ((1 + 8) + b) = (10, 9) := sS_boat _ _ (B := 1) (Or.inl rfl) hb8
  have x5 : ∀ f, f < 8 → I ((1 + 8) + b) f = r (58 + 8 * b + f) := fun f hf => hX.2.2.2.2.1 b f hb hb8 hf
  have mid : ∀ (g : Nat → Int32) (o1 : Int32), o1 = ch1 r b (I ((1 + 8) + b) 8) (r (5 + c / 6)) k → Go 3 y_Sea_charge 24 [some (.ref 1), some (.ref ((1 + 8) + b)), some (.int k)] [] (hp (va_up (va_up I 8 g) ((1 + 8) + b) (va_up (I ((1 + 8) + b)) 5 o1)) T) (fun q h' => ∃ g, h' = hp (va_up (va_up I 8 g) ((1 + 8) + b) (va_up (I ((1 + 8) + b)) 5 (chg r b (I ((1 + 8) + b) 8) (r (5 + c / 6)) k))) T ∧ q = none) := by
    intro g o1 ho
    iterate 2 refine Go.step rfl ?_
    refine Go.ite (fun c1 => ?_) (fun c1 => ?_)
    · refine Go.step rfl ?_
      refine Go.geti rfl hSb (Or.inl rfl) ?_
      rw [vu_same, va_up_ne _ _ (show 0 ≠ 5 by decide), x5 0 (by decide)]
      iterate 2 refine Go.step rfl ?_
      refine Go.ite (fun c2 => ?_) (fun c2 => ?_)
      · iterate 2 refine Go.step rfl ?_
        refine Go.geti rfl hSb (Or.inl rfl) ?_
        rw [vu_same, va_up_ne _ _ (show 1 ≠ 5 by decide), x5 1 (by decide)]
        refine Go.step rfl ?_
        refine Go.calv (x_owe _ T ((1 + 8) + b) 9 _ hSb) (by decide) rfl rfl hSb rfl ?_
        rintro _ _ ⟨rfl, rfl⟩
        refine Go.ret rfl ⟨g, ?_, rfl⟩
        simp only [vu_idem, vu_same]
        unfold chg
        rw [if_pos ⟨c1, c2⟩, ← ho]
      · refine Go.ret rfl ⟨g, ?_, rfl⟩
        unfold chg
        rw [if_neg (fun z => c2 z.2), ← ho] <;> rfl
    · refine Go.ret rfl ⟨g, ?_, rfl⟩
      unfold chg
      rw [if_neg (fun z => c1 z.1), ← ho]
  have skip : ¬ (r (58 + 8 * b + 7) = 0 ∧ 0 < I ((1 + 8) + b) 8) → Go 3 y_Sea_charge 24 [some (.ref 1), some (.ref ((1 + 8) + b)), some (.int k)] [] (hp I T) (fun q h' => ∃ g, h' = hp (va_up (va_up I 8 g) ((1 + 8) + b) (va_up (I ((1 + 8) + b)) 5 (chg r b (I ((1 + 8) + b) 8) (r (5 + c / 6)) k))) T ∧ q = none) := by
    intro q
    have := mid (I 8) (I ((1 + 8) + b) 5) (by unfold ch1; rw [if_neg q, x5 5 (by decide)])
    rw [vu_self, vu_self, vu_self] at this
    exact this
  refine Go.step rfl ?_
  refine Go.geti rfl hSb (Or.inl rfl) ?_
  refine Go.step rfl ?_
  refine Go.ite (fun c1 => ?_) (fun c1 => ?_)
  · exact skip (fun z => absurd z.2 (Int32.not_lt.mpr c1))
  · refine Go.step rfl ?_
    refine Go.geti rfl hSb (Or.inl rfl) ?_
    rw [x5 7 (by decide)]
    refine Go.step rfl ?_
    refine Go.ite (fun c2 => ?_) (fun c2 => ?_)
    · iterate 4 refine Go.step rfl ?_
      refine Go.cal (x_billOf_1 I T r hX b c hb hb8 hc ec k) (by decide) rfl ?_
      rintro _ _ ⟨g, rfl, rfl⟩
      refine Go.calv (x_owe _ T ((1 + 8) + b) 9 _ hSb) (by decide) rfl rfl hSb rfl ?_
      rintro _ _ ⟨rfl, rfl⟩
      rw [va_up_ne _ _ (show (1 + 8) + b ≠ 8 by omega), x5 5 (by decide)]
      refine mid g _ ?_
      unfold ch1
      rw [if_pos ⟨c2, Int32.not_le.mp c1⟩]
    · exact skip (fun z => c2 z.1)
theorem x_billOf_17 (I : AI) (T : AT) (r : Nat → Int32) (hX : XSea I T 17 1 r) (b c : Nat) (hb : b < cl (r 0)) (hb8 : b < 8) (hc : c < 24) (ec : r (58 + 8 * b + 2) = nI c) (k : Int32) : Ct 2 y_Sea_billOf [.ref 17, .ref ((17 + 8) + b), .int k] (hp I T) (fun q h' => ∃ g, h' = hp (va_up I 24 g) T ∧ q = some (.int (bl1 r (I ((17 + 8) + b) 8) (r (5 + c / 6)) k))) := by
  have hSb : sS T.2.2.2.2.2.2 T.2.2.2.1 ((17 + 8) + b) = (10, 9) := sS_boat _ _ (B := 17) (Or.inr (Or.inl rfl)) hb8
  have x5 : ∀ f, f < 8 → I ((17 + 8) + b) f = r (58 + 8 * b + f) := fun f hf => hX.2.2.2.2.1 b f hb hb8 hf
  have hxt := hX.2.2.2.2.2 1 (by decide)
  iterate 2 refine Go.step rfl ?_
  refine Go.geti rfl hSb (Or.inl rfl) ?_
  rw [show I ((17 + 8) + b) 2 = nI c from (x5 2 (by decide)).trans ec]
  refine Go.cal (x_priceIn_17 I T r hX c hc) (by decide) rfl ?_
  rintro _ _ ⟨rfl, rfl⟩
  iterate 4 refine Go.step rfl ?_
  cases hT : T.1 3 with
  | none =>
    rw [show T.1 (2 * 1 + 1) = none from hT] at hxt
    have h0 : r 247 = 0 := hxt
    refine Go.aaldN rfl rfl rfl rfl hT ?_
    iterate 3 refine Go.step rfl ?_
    iterate 3 refine Go.step rfl ?_
    refine Go.ite (fun c1 => ?_) (fun c1 => ?_)
    · iterate 3 refine Go.step rfl ?_
      refine Go.geti rfl hSb (Or.inl rfl) ?_
      iterate 4 refine Go.step rfl ?_
      refine Go.ret rfl ⟨I 24, by rw [vu_self] <;> rfl, ?_⟩
      unfold bl1 bl0
      rw [if_pos h0, if_pos h0, if_neg (Int32.not_lt.mpr c1)]
    · iterate 2 refine Go.step rfl ?_
      refine Go.geti rfl hSb (Or.inl rfl) ?_
      iterate 4 refine Go.step rfl ?_
      refine Go.geti rfl hSb (Or.inl rfl) ?_
      iterate 4 refine Go.step rfl ?_
      refine Go.ret rfl ⟨I 24, by rw [vu_self] <;> rfl, ?_⟩
      unfold bl1 bl0
      rw [if_pos h0, if_pos h0, if_pos (Int32.not_le.mp c1)]
  | some a =>
    rw [show T.1 (2 * 1 + 1) = some a from hT] at hxt
    obtain ⟨h1, h2, h3, w, len, h4, h5, h6, h7, h8, h9, h10⟩ := hxt
    have ea : sS T.2.2.2.2.2.2 T.2.2.2.1 a = (15, 1) := by rw [sS_dyn _ _ h1 h2]; exact h3
    have ew : sS T.2.2.2.2.2.2 T.2.2.2.1 w = (0, len) := by rw [sS_dyn _ _ h4 h5]; exact h7
    have epa : sP T.1 T.2.1 T.2.2.1 a 0 = some w := by rw [sP_dyn _ _ _ h1 h2]; exact h6
    have hl := h8.1
    have hl2 := h8.2.1
    have h0 : ¬ r 247 = 0 := by rw [show r 247 = nI len from h9]; exact nI_ne0 (by omega) (by omega)
    refine Go.aald rfl rfl rfl rfl hT ?_
    iterate 7 refine Go.step rfl ?_
    refine Go.geti rfl hSb (Or.inl rfl) ?_
    iterate 2 refine Go.step rfl ?_
    refine Go.calv (x_value I T a w len 24 _ _ _ ea epa ew rfl (by omega) h8) (by decide) rfl rfl ea rfl ?_
    rintro _ _ ⟨g, rfl, rfl⟩
    iterate 2 refine Go.step rfl ?_
    refine Go.cal (x_held _ _ _ _ (by decide)) (by decide) rfl ?_
    rintro _ _ ⟨rfl, rfl⟩
    refine Go.ret rfl ⟨g, rfl, ?_⟩
    unfold bl1 bl0
    rw [if_neg h0, if_neg h0, tev_eq (by decide) h8 h9 h10]
theorem x_charge_17 (I : AI) (T : AT) (r : Nat → Int32) (hX : XSea I T 17 1 r) (b c : Nat) (hb : b < cl (r 0)) (hb8 : b < 8) (hc : c < 24) (ec : r (58 + 8 * b + 2) = nI c) (k : Int32) : Ct 3 y_Sea_charge [.ref 17, .ref ((17 + 8) + b), .int k] (hp I T) (fun q h' => ∃ g, h' = hp (va_up (va_up I 24 g) ((17 + 8) + b) (va_up (I ((17 + 8) + b)) 5 (chg r b (I ((17 + 8) + b) 8) (r (5 + c / 6)) k))) T ∧ q = none) := by
  have hSb : sS T.2.2.2.2.2.2 T.2.2.2.1 ((17 + 8) + b) = (10, 9) := sS_boat _ _ (B := 17) (Or.inr (Or.inl rfl)) hb8
  have x5 : ∀ f, f < 8 → I ((17 + 8) + b) f = r (58 + 8 * b + f) := fun f hf => hX.2.2.2.2.1 b f hb hb8 hf
  have mid : ∀ (g : Nat → Int32) (o1 : Int32), o1 = ch1 r b (I ((17 + 8) + b) 8) (r (5 + c / 6)) k → Go 3 y_Sea_charge 24 [some (.ref 17), some (.ref ((17 + 8) + b)), some (.int k)] [] (hp (va_up (va_up I 24 g) ((17 + 8) + b) (va_up (I ((17 + 8) + b)) 5 o1)) T) (fun q h' => ∃ g, h' = hp (va_up (va_up I 24 g) ((17 + 8) + b) (va_up (I ((17 + 8) + b)) 5 (chg r b (I ((17 + 8) + b) 8) (r (5 + c / 6)) k))) T ∧ q = none) := by
    intro g o1 ho
    iterate 2 refine Go.step rfl ?_
    refine Go.ite (fun c1 => ?_) (fun c1 => ?_)
    · refine Go.step rfl ?_
      refine Go.geti rfl hSb (Or.inl rfl) ?_
      rw [vu_same, va_up_ne _ _ (show 0 ≠ 5 by decide), x5 0 (by decide)]
      iterate 2 refine Go.step rfl ?_
      refine Go.ite (fun c2 => ?_) (fun c2 => ?_)
      · iterate 2 refine Go.step rfl ?_
        refine Go.geti rfl hSb (Or.inl rfl) ?_
        rw [vu_same, va_up_ne _ _ (show 1 ≠ 5 by decide), x5 1 (by decide)]
        refine Go.step rfl ?_
        refine Go.calv (x_owe _ T ((17 + 8) + b) 9 _ hSb) (by decide) rfl rfl hSb rfl ?_
        rintro _ _ ⟨rfl, rfl⟩
        refine Go.ret rfl ⟨g, ?_, rfl⟩
        simp only [vu_idem, vu_same]
        unfold chg
        rw [if_pos ⟨c1, c2⟩, ← ho]
      · refine Go.ret rfl ⟨g, ?_, rfl⟩
        unfold chg
        rw [if_neg (fun z => c2 z.2), ← ho] <;> rfl
    · refine Go.ret rfl ⟨g, ?_, rfl⟩
      unfold chg
      rw [if_neg (fun z => c1 z.1), ← ho]
  have skip : ¬ (r (58 + 8 * b + 7) = 0 ∧ 0 < I ((17 + 8) + b) 8) → Go 3 y_Sea_charge 24 [some (.ref 17), some (.ref ((17 + 8) + b)), some (.int k)] [] (hp I T) (fun q h' => ∃ g, h' = hp (va_up (va_up I 24 g) ((17 + 8) + b) (va_up (I ((17 + 8) + b)) 5 (chg r b (I ((17 + 8) + b) 8) (r (5 + c / 6)) k))) T ∧ q = none) := by
    intro q
    have := mid (I 24) (I ((17 + 8) + b) 5) (by unfold ch1; rw [if_neg q, x5 5 (by decide)])
    rw [vu_self, vu_self, vu_self] at this
    exact this
  refine Go.step rfl ?_
  refine Go.geti rfl hSb (Or.inl rfl) ?_
  refine Go.step rfl ?_
  refine Go.ite (fun c1 => ?_) (fun c1 => ?_)
  · exact skip (fun z => absurd z.2 (Int32.not_lt.mpr c1))
  · refine Go.step rfl ?_
    refine Go.geti rfl hSb (Or.inl rfl) ?_
    rw [x5 7 (by decide)]
    refine Go.step rfl ?_
    refine Go.ite (fun c2 => ?_) (fun c2 => ?_)
    · iterate 4 refine Go.step rfl ?_
      refine Go.cal (x_billOf_17 I T r hX b c hb hb8 hc ec k) (by decide) rfl ?_
      rintro _ _ ⟨g, rfl, rfl⟩
      refine Go.calv (x_owe _ T ((17 + 8) + b) 9 _ hSb) (by decide) rfl rfl hSb rfl ?_
      rintro _ _ ⟨rfl, rfl⟩
      rw [va_up_ne _ _ (show (17 + 8) + b ≠ 24 by omega), x5 5 (by decide)]
      refine mid g _ ?_
      unfold ch1
      rw [if_pos ⟨c2, Int32.not_le.mp c1⟩]
    · exact skip (fun z => c2 z.1)
