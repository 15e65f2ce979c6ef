/-! AN HOUR: the class; hours that go by -/
theorem chg_hr {s r : Nat → Int32} {B : Nat} (hs : sOK s) (ht : tOK s 1) {b : Nat} (hbn : b < cl (s 0)) (hr1 : ∀ j, 122 ≤ j → j < 372 → r j = s j) (hr2 : ∀ f, f < 8 → f ≠ 6 → r (58 + 8 * b + f) = s (58 + 8 * b + f)) (hr3 : ∀ q, q < 4 → r (5 + q) = s (5 + q)) : chg r b (tk s 255 b) (r (5 + cel s b / 6)) (kn s) = ow2 s b := by
  obtain ⟨hc, ec⟩ := cel_lt hs hbn
  have e7 := hr2 7 (by decide) (by decide)
  have e5 := hr2 5 (by decide) (by decide)
  have e1 := hr2 1 (by decide) (by decide)
  have e0 : r (58 + 8 * b) = s (58 + 8 * b) := hr2 0 (by decide) (by decide)
  have ep := hr3 (cel s b / 6) (by omega)
  have eb : bl1 r (tk s 255 b) (r (5 + cel s b / 6)) (kn s) = bil s b := by
    unfold bl1 bil
    rw [bl0_congr ht hr1, ep, hr1 247 (by decide) (by decide)]
    by_cases q : s 247 = 0
    · rw [if_pos q, bl_small _ q (tk_in hs _ _) (hs.2.2.2.2.1 _ (by omega))]
    · rw [if_neg q]
  unfold chg ch1 ow2 ow1
  rw [e7, e5, e1, e0, eb]
/-- where the sea at 1 is in an hour: boats before k have had it -/
def SH_1 (I : AI) (T : AT) (s : Nat → Int32) (br : Bool) (k : Nat) (I' : AI) : Prop := XSea I' T 1 0 (mrow s (bo br) k) ∧ (∀ a, a < 1 ∨ 1 + 15 < a → I' a = I a) ∧ ∀ b, b < cl (s 0) → I' ((1 + 8) + b) 8 = tk s 255 b
theorem x_hour_1 (xs : Nat → Int32) (I : AI) (T : AT) (s : Nat → Int32) (hs : sOK s) (hX : XSea I T 1 0 s) (hC : XCon xs I) (br : Bool) (n h : Int32) (t4 t5 t6 t7 : Option Value) (Q : Option Value → AH → Prop) (K : ∀ (I' : AI) (t4 t5 t6 t7 : Option Value), XSea I' T 1 0 (hr s (bo br)) → (∀ a, a < 1 ∨ 1 + 15 < a → I' a = I a) → Go 5 y_Sea_goBy 85 [some (.ref 1), some (.int n), some (.int (bo br)), some (.int h), t4, t5, t6, t7] [] (hp I' T) Q) : Go 5 y_Sea_goBy 7 [some (.ref 1), some (.int n), some (.int (bo br)), some (.int h), t4, t5, t6, t7] [] (hp I T) Q := by
  obtain ⟨en, hn⟩ := hs.1.eq (by decide)
  have ht1 : tOK s 1 := hX.tok (by decide)
  have loop : ∀ m k, k + m = cl (s 0) → ∀ (I' : AI) (t7 : Option Value), SH_1 I T s br k I' → Go 5 y_Sea_goBy 29 [some (.ref 1), some (.int n), some (.int (bo br)), some (.int h), some (.int (kn s)), some (.int (wy s)), some (.int (nI k)), t7] [] (hp I' T) Q := by
    intro m
    induction m with
    | zero =>
      intro k hk I' t7 hM
      have : k = cl (s 0) := by omega
      subst this
      obtain ⟨m1, m2, m3⟩ := hM
      iterate 3 refine Go.step rfl ?_
      rw [show I' 1 1 = nI (cl (s 0)) from (m1.2.1.trans (mrow_off _ _ _ (by omega))).trans en]
      refine Go.step rfl ?_
      refine Go.ifp (Int32.le_refl _) ?_
      iterate 6 refine Go.step rfl ?_
      refine K _ _ _ _ _ ?_ (fun a ha => by rw [va_up_ne _ _ (by omega)]; exact m2 a ha)
      obtain ⟨x1, x2, x3, x4, x5, x6⟩ := m1
      rw [← mrow_end]
      refine ⟨?_, ?_, fun j hj => ?_, fun q hq => ?_, fun b f g1 g2 g3 => ?_, fun u hu => (x6 u hu).kept (fun a ha => va_up_ne _ _ (by omega)) (fun j h1 h2 => va_up_ne _ _ (by omega)) hu⟩
      · rw [vu_same, vu_same, vu_same]
        show I' 1 0 + 1 = _
        rw [x1, mrow_off _ _ _ (by omega)]
      · rw [vu_same, va_up_ne _ _ (by decide), va_up_ne _ _ (by decide)]; exact x2
      · rw [va_up_ne _ _ (by omega), va_up_ne _ _ (by omega), va_up_ne _ _ (by omega)]; exact x3 j hj
      · rw [va_up_ne _ _ (by omega), va_up_ne _ _ (by omega)]; exact x4 q hq
      · rw [va_up_ne _ _ (by omega)] at g1
        rw [va_up_ne _ _ (by omega), va_up_ne _ _ (by omega)]; exact x5 b f g1 g2 g3
    | succ m ih =>
      intro k hk I' t7 hM
      have hkn : k < cl (s 0) := by omega
      have hk8 : k < 8 := by omega
      obtain ⟨m1, m2, m3⟩ := hM
      obtain ⟨hc, ec⟩ := cel_lt hs hkn
      obtain ⟨o0, o1, o2, o3, o4, o5, o6, o7⟩ := hs.2.2.2.2.2.2.2 k hkn
      have hSb : sS T.2.2.2.2.2.2 T.2.2.2.1 ((1 + 8) + k) = (10, 9) := sS_boat _ _ (B := 1) (Or.inl rfl) hk8
      have eN : cl (mrow s (bo br) k 0) = cl (s 0) := by rw [mrow_off _ _ _ (by omega)]
      have x5 : ∀ f, f < 8 → I' ((1 + 8) + k) f = s (58 + 8 * k + f) := fun f hf => by
        rw [m1.2.2.2.2.1 k f (by rw [eN]; exact hkn) hk8 hf, mrow_at _ _ _ hk8 hf, if_neg (by omega)]
      iterate 3 refine Go.step rfl ?_
      rw [show I' 1 1 = nI (cl (s 0)) from (m1.2.1.trans (mrow_off _ _ _ (by omega))).trans en]
      refine Go.step rfl ?_
      refine Go.ifn (nI_ge (a := k) (b := cl (s 0)) hkn (by omega)) ?_
      iterate 3 refine Go.step rfl ?_
      refine Go.aald rfl rfl rfl (am_in_nI hk8 (by decide)) (by rw [nI_clamp (by omega)]; exact sP_boats T (B := 1) (Or.inl rfl) hk8) ?_
      iterate 2 refine Go.step rfl ?_
      refine Go.calv (x_useUp I' T ((1 + 8) + k) 9 hSb) (by decide) rfl rfl hSb rfl ?_
      rintro _ _ ⟨rfl, rfl⟩
      rw [show (if 999999 < I' ((1 + 8) + k) 6 + I' ((1 + 8) + k) 8 then 999999 else I' ((1 + 8) + k) 6 + I' ((1 + 8) + k) 8) = usd s k by
        rw [x5 6 (by decide), m3 k hkn, use_eq o6 (tk_in hs _ _)]; rfl]
      have hX1 : XSea (va_up I' ((1 + 8) + k) (va_up (I' ((1 + 8) + k)) 6 (usd s k))) T 1 0 (va_up (mrow s (bo br) k) (58 + 8 * k + 6) (usd s k)) := m1.boat hk8 (by decide) (by decide)
      have eR : ∀ f, f < 8 → f ≠ 6 → va_up (mrow s (bo br) k) (58 + 8 * k + 6) (usd s k) (58 + 8 * k + f) = s (58 + 8 * k + f) := fun f hf h6 => by
        rw [va_up_ne _ _ (by omega), mrow_at _ _ _ hk8 hf, if_neg (by omega)]
      iterate 3 refine Go.step rfl ?_
      refine Go.cal (x_charge_1 _ T _ hX1 k (cel s k) (by rw [va_up_ne _ _ (by omega), eN]; exact hkn) hk8 hc (by rw [eR 2 (by decide) (by decide)]; exact ec) (kn s)) (by decide) rfl ?_
      rintro _ _ ⟨g, rfl, rfl⟩
      rw [vu_same, va_up_ne _ _ (show 8 ≠ 6 by decide), m3 k hkn, chg_hr (B := 1) hs ht1 hkn (fun j h1 h2 => by rw [va_up_ne _ _ (by omega), mrow_off _ _ _ (by omega)]) eR (fun q hq => by rw [va_up_ne _ _ (by omega), mrow_off _ _ _ (by omega)])]
      generalize hF : va_up (va_up (I' ((1 + 8) + k)) 6 (usd s k)) 5 (ow2 s k) = F
      have F8 : F 8 = tk s 255 k := by rw [← hF, va_up_ne _ _ (by decide), va_up_ne _ _ (by decide)]; exact m3 k hkn
      have Ff : ∀ f, f < 8 → F f = if f = 5 then ow2 s k else if f = 6 then usd s k else s (58 + 8 * k + f) := by
        intro f hf
        rw [← hF]
        by_cases f5 : f = 5
        · subst f5; rw [if_pos rfl, vu_same]
        · rw [va_up_ne _ _ f5, if_neg f5]
          by_cases f6 : f = 6
          · subst f6; rw [if_pos rfl, vu_same]
          · rw [va_up_ne _ _ f6, if_neg f6]; exact x5 f hf
      generalize hI2 : va_up (va_up I' ((1 + 8) + k) (va_up (I' ((1 + 8) + k)) 6 (usd s k))) 8 g = I2
      have I2s : ∀ a, a ≠ (1 + 8) + k → a ≠ 8 → I2 a = I' a := fun a h1 h2 => by rw [← hI2, va_up_ne _ _ h2, va_up_ne _ _ h1]
      obtain ⟨ok, hok, eok⟩ := o0
      obtain ⟨hd, hhd, ehd⟩ := o3
      iterate 4 refine Go.step rfl ?_
      refine Go.cal (x_drive xs _ T (fun c j => by rw [va_up_ne _ _ (by omega), I2s _ (by omega) (by omega), m2 _ (by omega)]; exact hC c j) 1 ((1 + 8) + k) 9 ok (cel s k) hd (by omega) hSb hok hc (by omega) (by rw [vu_same]; exact ((Ff 0 (by decide)).trans ((if_neg (by decide)).trans (if_neg (by decide)))).trans eok) (by rw [vu_same]; exact ((Ff 2 (by decide)).trans ((if_neg (by decide)).trans (if_neg (by decide)))).trans ec) (by rw [vu_same]; exact ((Ff 3 (by decide)).trans ((if_neg (by decide)).trans (if_neg (by decide)))).trans ehd) (wy s) br) (by decide) rfl ?_
      rintro _ _ ⟨rfl, rfl⟩
      rw [vu_idem, vu_same]
      iterate 2 refine Go.step rfl ?_
      rw [show nI k + 1 = nI (k + 1) from nI_1 k]
      refine ih (k + 1) (by omega) _ _ ⟨?_, fun a ha => by rw [va_up_ne _ _ (by omega), I2s _ (by omega) (by omega)]; exact m2 a ha, fun b hb => ?_⟩
      · have hX2 : XSea I2 T 1 0 (va_up (mrow s (bo br) k) (58 + 8 * k + 6) (usd s k)) := by
          rw [← hI2]
          exact hX1.scr (by decide) (fun a ha => va_up_ne _ _ (by omega)) (fun b f _ _ => by rw [va_up_ne _ _ (by omega)])
        refine XSea.boatF (B := 1) hX2 hk8 (by decide) (fun j hj => ?_) (fun f hf => ?_)
        · rw [va_up_ne _ _ (by omega)]
          by_cases q : j < 58 ∨ 122 ≤ j
          · rw [mrow_off _ _ _ q, mrow_off _ _ _ q]
          · have e1 := mrow_at s (bo br) (k + 1) (b := (j - 58) / 8) (f := (j - 58) % 8) (by omega) (by omega)
            have e2 := mrow_at s (bo br) k (b := (j - 58) / 8) (f := (j - 58) % 8) (by omega) (by omega)
            rw [show 58 + 8 * ((j - 58) / 8) + (j - 58) % 8 = j by omega] at e1 e2
            rw [e1, e2]
            by_cases z : (j - 58) / 8 < k
            · rw [if_pos z, if_pos (by omega)]
            · rw [if_neg z, if_neg (by omega)]
        · rw [mrow_at _ _ _ hk8 hf, if_pos (by omega)]
          exact drv_hr hs hkn hk8 F br F8 Ff f hf
      · by_cases q : b = k
        · subst q; rw [vu_same, drv_other (by decide) (by decide) (by decide)]; exact F8
        · rw [va_up_ne _ _ (by omega), I2s _ (by omega) (by omega)]; exact m3 b hb
  refine Go.step rfl ?_
  refine Go.cal (x_knots_1 I T s hs hX) (by decide) rfl ?_
  rintro _ _ ⟨rfl, rfl⟩
  iterate 2 refine Go.step rfl ?_
  refine Go.cal (x_way_1 I T s hs hX) (by decide) rfl ?_
  rintro _ _ ⟨rfl, rfl⟩
  iterate 3 refine Go.step rfl ?_
  refine Go.cal (x_take_1 I T s hs hX 255) (by decide) rfl ?_
  rintro _ _ ⟨I', rfl, ⟨k1, k2, k3, k4⟩, rfl⟩
  iterate 2 refine Go.step rfl ?_
  exact loop (cl (s 0)) 0 (by omega) I' _ ⟨by rw [mrow_0]; exact hX.scr (by decide) k1 k2, fun a ha => k1 a (by omega), k3⟩
theorem x_goBy_1 (xs : Nat → Int32) (I : AI) (T : AT) (s : Nat → Int32) (hs : sOK s) (hX : XSea I T 1 0 s) (hC : XCon xs I) (br : Bool) (n : Nat) (hn : cl (s 1) + n ≤ 11000) : Ct 5 y_Sea_goBy [.ref 1, .int (nI n), .int (bo br)] (hp I T) (fun q h' => ∃ I', h' = hp I' T ∧ (∀ a, a < 1 ∨ 1 + 15 < a → I' a = I a) ∧ XSea I' T 1 0 (hrs s (bo br) n) ∧ q = none) := by
  have loop : ∀ m k, k + m = n → ∀ (I' : AI) (t4 t5 t6 t7 : Option Value), XSea I' T 1 0 (hrs s (bo br) k) → (∀ a, a < 1 ∨ 1 + 15 < a → I' a = I a) → Go 5 y_Sea_goBy 2 [some (.ref 1), some (.int (nI n)), some (.int (bo br)), some (.int (nI k)), t4, t5, t6, t7] [] (hp I' T) (fun q h' => ∃ I', h' = hp I' T ∧ (∀ a, a < 1 ∨ 1 + 15 < a → I' a = I a) ∧ XSea I' T 1 0 (hrs s (bo br) n) ∧ q = none) := by
    intro m
    induction m with
    | zero =>
      intro k hk I' t4 t5 t6 t7 h1 h2
      have : k = n := by omega
      subst this
      iterate 3 refine Go.step rfl ?_
      refine Go.ifp (Int32.le_refl _) ?_
      exact Go.ret rfl ⟨I', rfl, h2, h1, rfl⟩
    | succ m ih =>
      intro k hk I' t4 t5 t6 t7 h1 h2
      iterate 3 refine Go.step rfl ?_
      refine Go.ifn (nI_ge (a := k) (b := n) (by omega) (by omega)) ?_
      refine x_hour_1 xs I' T _ (hrs_ok hs (bo br) k (by omega)).1 h1 (fun c j => by rw [h2 _ (by omega)]; exact hC c j) br _ _ _ _ _ _ _ ?_
      intro I2 t4 t5 t6 t7 h3 h4
      iterate 2 refine Go.step rfl ?_
      rw [show nI k + 1 = nI (k + 1) from nI_1 k]
      exact ih (k + 1) (by omega) I2 _ _ _ _ h3 (fun a ha => by rw [h4 a ha]; exact h2 a ha)
  iterate 2 refine Go.step rfl ?_
  exact loop n 0 (by omega) I _ _ _ _ hX (fun _ _ => rfl)
/-- where the sea at 17 is in an hour: boats before k have had it -/
def SH_17 (I : AI) (T : AT) (s : Nat → Int32) (br : Bool) (k : Nat) (I' : AI) : Prop := XSea I' T 17 1 (mrow s (bo br) k) ∧ (∀ a, a < 17 ∨ 17 + 15 < a → I' a = I a) ∧ ∀ b, b < cl (s 0) → I' ((17 + 8) + b) 8 = tk s 255 b
theorem x_hour_17 (xs : Nat → Int32) (I : AI) (T : AT) (s : Nat → Int32) (hs : sOK s) (hX : XSea I T 17 1 s) (hC : XCon xs I) (br : Bool) (n h : Int32) (t4 t5 t6 t7 : Option Value) (Q : Option Value → AH → Prop) (K : ∀ (I' : AI) (t4 t5 t6 t7 : Option Value), XSea I' T 17 1 (hr s (bo br)) → (∀ a, a < 17 ∨ 17 + 15 < a → I' a = I a) → Go 5 y_Sea_goBy 85 [some (.ref 17), some (.int n), some (.int (bo br)), some (.int h), t4, t5, t6, t7] [] (hp I' T) Q) : Go 5 y_Sea_goBy 7 [some (.ref 17), some (.int n), some (.int (bo br)), some (.int h), t4, t5, t6, t7] [] (hp I T) Q := by
  obtain ⟨en, hn⟩ := hs.1.eq (by decide)
  have ht1 : tOK s 1 := hX.tok (by decide)
  have loop : ∀ m k, k + m = cl (s 0) → ∀ (I' : AI) (t7 : Option Value), SH_17 I T s br k I' → Go 5 y_Sea_goBy 29 [some (.ref 17), some (.int n), some (.int (bo br)), some (.int h), some (.int (kn s)), some (.int (wy s)), some (.int (nI k)), t7] [] (hp I' T) Q := by
    intro m
    induction m with
    | zero =>
      intro k hk I' t7 hM
      have : k = cl (s 0) := by omega
      subst this
      obtain ⟨m1, m2, m3⟩ := hM
      iterate 3 refine Go.step rfl ?_
      rw [show I' 17 1 = nI (cl (s 0)) from (m1.2.1.trans (mrow_off _ _ _ (by omega))).trans en]
      refine Go.step rfl ?_
      refine Go.ifp (Int32.le_refl _) ?_
      iterate 6 refine Go.step rfl ?_
      refine K _ _ _ _ _ ?_ (fun a ha => by rw [va_up_ne _ _ (by omega)]; exact m2 a ha)
      obtain ⟨x1, x2, x3, x4, x5, x6⟩ := m1
      rw [← mrow_end]
      refine ⟨?_, ?_, fun j hj => ?_, fun q hq => ?_, fun b f g1 g2 g3 => ?_, fun u hu => (x6 u hu).kept (fun a ha => va_up_ne _ _ (by omega)) (fun j h1 h2 => va_up_ne _ _ (by omega)) hu⟩
      · rw [vu_same, vu_same, vu_same]
        show I' 17 0 + 1 = _
        rw [x1, mrow_off _ _ _ (by omega)]
      · rw [vu_same, va_up_ne _ _ (by decide), va_up_ne _ _ (by decide)]; exact x2
      · rw [va_up_ne _ _ (by omega), va_up_ne _ _ (by omega), va_up_ne _ _ (by omega)]; exact x3 j hj
      · rw [va_up_ne _ _ (by omega), va_up_ne _ _ (by omega)]; exact x4 q hq
      · rw [va_up_ne _ _ (by omega)] at g1
        rw [va_up_ne _ _ (by omega), va_up_ne _ _ (by omega)]; exact x5 b f g1 g2 g3
    | succ m ih =>
      intro k hk I' t7 hM
      have hkn : k < cl (s 0) := by omega
      have hk8 : k < 8 := by omega
      obtain ⟨m1, m2, m3⟩ := hM
      obtain ⟨hc, ec⟩ := cel_lt hs hkn
      obtain ⟨o0, o1, o2, o3, o4, o5, o6, o7⟩ := hs.2.2.2.2.2.2.2 k hkn
      have hSb : sS T.2.2.2.2.2.2 T.2.2.2.1 ((17 + 8) + k) = (10, 9) := sS_boat _ _ (B := 17) (Or.inr (Or.inl rfl)) hk8
      have eN : cl (mrow s (bo br) k 0) = cl (s 0) := by rw [mrow_off _ _ _ (by omega)]
      have x5 : ∀ f, f < 8 → I' ((17 + 8) + k) f = s (58 + 8 * k + f) := fun f hf => by
        rw [m1.2.2.2.2.1 k f (by rw [eN]; exact hkn) hk8 hf, mrow_at _ _ _ hk8 hf, if_neg (by omega)]
      iterate 3 refine Go.step rfl ?_
      rw [show I' 17 1 = nI (cl (s 0)) from (m1.2.1.trans (mrow_off _ _ _ (by omega))).trans en]
      refine Go.step rfl ?_
      refine Go.ifn (nI_ge (a := k) (b := cl (s 0)) hkn (by omega)) ?_
      iterate 3 refine Go.step rfl ?_
      refine Go.aald rfl rfl rfl (am_in_nI hk8 (by decide)) (by rw [nI_clamp (by omega)]; exact sP_boats T (B := 17) (Or.inr (Or.inl rfl)) hk8) ?_
      iterate 2 refine Go.step rfl ?_
      refine Go.calv (x_useUp I' T ((17 + 8) + k) 9 hSb) (by decide) rfl rfl hSb rfl ?_
      rintro _ _ ⟨rfl, rfl⟩
      rw [show (if 999999 < I' ((17 + 8) + k) 6 + I' ((17 + 8) + k) 8 then 999999 else I' ((17 + 8) + k) 6 + I' ((17 + 8) + k) 8) = usd s k by
        rw [x5 6 (by decide), m3 k hkn, use_eq o6 (tk_in hs _ _)]; rfl]
      have hX1 : XSea (va_up I' ((17 + 8) + k) (va_up (I' ((17 + 8) + k)) 6 (usd s k))) T 17 1 (va_up (mrow s (bo br) k) (58 + 8 * k + 6) (usd s k)) := m1.boat hk8 (by decide) (by decide)
      have eR : ∀ f, f < 8 → f ≠ 6 → va_up (mrow s (bo br) k) (58 + 8 * k + 6) (usd s k) (58 + 8 * k + f) = s (58 + 8 * k + f) := fun f hf h6 => by
        rw [va_up_ne _ _ (by omega), mrow_at _ _ _ hk8 hf, if_neg (by omega)]
      iterate 3 refine Go.step rfl ?_
      refine Go.cal (x_charge_17 _ T _ hX1 k (cel s k) (by rw [va_up_ne _ _ (by omega), eN]; exact hkn) hk8 hc (by rw [eR 2 (by decide) (by decide)]; exact ec) (kn s)) (by decide) rfl ?_
      rintro _ _ ⟨g, rfl, rfl⟩
      rw [vu_same, va_up_ne _ _ (show 8 ≠ 6 by decide), m3 k hkn, chg_hr (B := 17) hs ht1 hkn (fun j h1 h2 => by rw [va_up_ne _ _ (by omega), mrow_off _ _ _ (by omega)]) eR (fun q hq => by rw [va_up_ne _ _ (by omega), mrow_off _ _ _ (by omega)])]
      generalize hF : va_up (va_up (I' ((17 + 8) + k)) 6 (usd s k)) 5 (ow2 s k) = F
      have F8 : F 8 = tk s 255 k := by rw [← hF, va_up_ne _ _ (by decide), va_up_ne _ _ (by decide)]; exact m3 k hkn
      have Ff : ∀ f, f < 8 → F f = if f = 5 then ow2 s k else if f = 6 then usd s k else s (58 + 8 * k + f) := by
        intro f hf
        rw [← hF]
        by_cases f5 : f = 5
        · subst f5; rw [if_pos rfl, vu_same]
        · rw [va_up_ne _ _ f5, if_neg f5]
          by_cases f6 : f = 6
          · subst f6; rw [if_pos rfl, vu_same]
          · rw [va_up_ne _ _ f6, if_neg f6]; exact x5 f hf
      generalize hI2 : va_up (va_up I' ((17 + 8) + k) (va_up (I' ((17 + 8) + k)) 6 (usd s k))) 24 g = I2
      have I2s : ∀ a, a ≠ (17 + 8) + k → a ≠ 24 → I2 a = I' a := fun a h1 h2 => by rw [← hI2, va_up_ne _ _ h2, va_up_ne _ _ h1]
      obtain ⟨ok, hok, eok⟩ := o0
      obtain ⟨hd, hhd, ehd⟩ := o3
      iterate 4 refine Go.step rfl ?_
      refine Go.cal (x_drive xs _ T (fun c j => by rw [va_up_ne _ _ (by omega), I2s _ (by omega) (by omega), m2 _ (by omega)]; exact hC c j) 17 ((17 + 8) + k) 9 ok (cel s k) hd (by omega) hSb hok hc (by omega) (by rw [vu_same]; exact ((Ff 0 (by decide)).trans ((if_neg (by decide)).trans (if_neg (by decide)))).trans eok) (by rw [vu_same]; exact ((Ff 2 (by decide)).trans ((if_neg (by decide)).trans (if_neg (by decide)))).trans ec) (by rw [vu_same]; exact ((Ff 3 (by decide)).trans ((if_neg (by decide)).trans (if_neg (by decide)))).trans ehd) (wy s) br) (by decide) rfl ?_
      rintro _ _ ⟨rfl, rfl⟩
      rw [vu_idem, vu_same]
      iterate 2 refine Go.step rfl ?_
      rw [show nI k + 1 = nI (k + 1) from nI_1 k]
      refine ih (k + 1) (by omega) _ _ ⟨?_, fun a ha => by rw [va_up_ne _ _ (by omega), I2s _ (by omega) (by omega)]; exact m2 a ha, fun b hb => ?_⟩
      · have hX2 : XSea I2 T 17 1 (va_up (mrow s (bo br) k) (58 + 8 * k + 6) (usd s k)) := by
          rw [← hI2]
          exact hX1.scr (by decide) (fun a ha => va_up_ne _ _ (by omega)) (fun b f _ _ => by rw [va_up_ne _ _ (by omega)])
        refine XSea.boatF (B := 17) hX2 hk8 (by decide) (fun j hj => ?_) (fun f hf => ?_)
        · rw [va_up_ne _ _ (by omega)]
          by_cases q : j < 58 ∨ 122 ≤ j
          · rw [mrow_off _ _ _ q, mrow_off _ _ _ q]
          · have e1 := mrow_at s (bo br) (k + 1) (b := (j - 58) / 8) (f := (j - 58) % 8) (by omega) (by omega)
            have e2 := mrow_at s (bo br) k (b := (j - 58) / 8) (f := (j - 58) % 8) (by omega) (by omega)
            rw [show 58 + 8 * ((j - 58) / 8) + (j - 58) % 8 = j by omega] at e1 e2
            rw [e1, e2]
            by_cases z : (j - 58) / 8 < k
            · rw [if_pos z, if_pos (by omega)]
            · rw [if_neg z, if_neg (by omega)]
        · rw [mrow_at _ _ _ hk8 hf, if_pos (by omega)]
          exact drv_hr hs hkn hk8 F br F8 Ff f hf
      · by_cases q : b = k
        · subst q; rw [vu_same, drv_other (by decide) (by decide) (by decide)]; exact F8
        · rw [va_up_ne _ _ (by omega), I2s _ (by omega) (by omega)]; exact m3 b hb
  refine Go.step rfl ?_
  refine Go.cal (x_knots_17 I T s hs hX) (by decide) rfl ?_
  rintro _ _ ⟨rfl, rfl⟩
  iterate 2 refine Go.step rfl ?_
  refine Go.cal (x_way_17 I T s hs hX) (by decide) rfl ?_
  rintro _ _ ⟨rfl, rfl⟩
  iterate 3 refine Go.step rfl ?_
  refine Go.cal (x_take_17 I T s hs hX 255) (by decide) rfl ?_
  rintro _ _ ⟨I', rfl, ⟨k1, k2, k3, k4⟩, rfl⟩
  iterate 2 refine Go.step rfl ?_
  exact loop (cl (s 0)) 0 (by omega) I' _ ⟨by rw [mrow_0]; exact hX.scr (by decide) k1 k2, fun a ha => k1 a (by omega), k3⟩
theorem x_goBy_17 (xs : Nat → Int32) (I : AI) (T : AT) (s : Nat → Int32) (hs : sOK s) (hX : XSea I T 17 1 s) (hC : XCon xs I) (br : Bool) (n : Nat) (hn : cl (s 1) + n ≤ 11000) : Ct 5 y_Sea_goBy [.ref 17, .int (nI n), .int (bo br)] (hp I T) (fun q h' => ∃ I', h' = hp I' T ∧ (∀ a, a < 17 ∨ 17 + 15 < a → I' a = I a) ∧ XSea I' T 17 1 (hrs s (bo br) n) ∧ q = none) := by
  have loop : ∀ m k, k + m = n → ∀ (I' : AI) (t4 t5 t6 t7 : Option Value), XSea I' T 17 1 (hrs s (bo br) k) → (∀ a, a < 17 ∨ 17 + 15 < a → I' a = I a) → Go 5 y_Sea_goBy 2 [some (.ref 17), some (.int (nI n)), some (.int (bo br)), some (.int (nI k)), t4, t5, t6, t7] [] (hp I' T) (fun q h' => ∃ I', h' = hp I' T ∧ (∀ a, a < 17 ∨ 17 + 15 < a → I' a = I a) ∧ XSea I' T 17 1 (hrs s (bo br) n) ∧ q = none) := by
    intro m
    induction m with
    | zero =>
      intro k hk I' t4 t5 t6 t7 h1 h2
      have : k = n := by omega
      subst this
      iterate 3 refine Go.step rfl ?_
      refine Go.ifp (Int32.le_refl _) ?_
      exact Go.ret rfl ⟨I', rfl, h2, h1, rfl⟩
    | succ m ih =>
      intro k hk I' t4 t5 t6 t7 h1 h2
      iterate 3 refine Go.step rfl ?_
      refine Go.ifn (nI_ge (a := k) (b := n) (by omega) (by omega)) ?_
      refine x_hour_17 xs I' T _ (hrs_ok hs (bo br) k (by omega)).1 h1 (fun c j => by rw [h2 _ (by omega)]; exact hC c j) br _ _ _ _ _ _ _ ?_
      intro I2 t4 t5 t6 t7 h3 h4
      iterate 2 refine Go.step rfl ?_
      rw [show nI k + 1 = nI (k + 1) from nI_1 k]
      exact ih (k + 1) (by omega) I2 _ _ _ _ h3 (fun a ha => by rw [h4 a ha]; exact h2 a ha)
  iterate 2 refine Go.step rfl ?_
  exact loop n 0 (by omega) I _ _ _ _ hX (fun _ _ => rfl)
