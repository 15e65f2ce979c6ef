/-! what a boat wants: the class -/
theorem nI_xor_nn {a b : Nat} (ha : a < 2 ^ 31) (hb : b < 2 ^ 31) : ¬ (nI a ^^^ nI b) < 0 := by
  have e : nI a ^^^ nI b = nI (a ^^^ b) := by
    unfold nI
    apply Int32.toBitVec_inj.mp
    simp [BitVec.ofNat_xor]
  rw [e]
  exact nI_pos (Nat.xor_lt_two_pow ha hb)
theorem j_floorMod (h : AH) (a b : Nat) (ha : a < 2 ^ 31) (hb : b < 2 ^ 31) (hb0 : 0 < b) : Ct 0 y_Math_floorMod [.int (nI a), .int (nI b)] h (fun r h' => h' = h ∧ r = some (.int (nI (a % b)))) := by
  obtain ⟨I, P, S, n, sl⟩ := h
  iterate 2 refine Go.step rfl ?_
  refine Go.irem rfl (nI_ne0 hb0 hb) ?_
  iterate 5 refine Go.step rfl ?_
  refine Go.ifp (Int32.not_lt.mp (nI_xor_nn ha hb)) ?_
  refine Go.step rfl ?_
  refine Go.ret rfl ⟨rfl, ?_⟩
  rw [irm_nI ha hb]
def kn (s : Nat → Int32) : Int32 := s (10 + hod s)
def wy (s : Nat → Int32) : Int32 := s (34 + hod s)
theorem kw_div {s : Nat → Int32} (hs : sOK s) {j : Nat} (hj : j < 24) : (10 * s (10 + j) + s (34 + j)) / 10 = s (10 + j) := by
  obtain ⟨k, hk, ek⟩ := hs.2.2.2.2.2.1 j hj
  obtain ⟨w, hw, ew⟩ := hs.2.2.2.2.2.2.1 j hj
  rw [ek, ew, show (10 : Int32) = nI 10 from rfl, nI_mul, nI_add, nI_div (by omega) (by decide), show (10 * k + w) / 10 = k by omega]
theorem kw_rem {s : Nat → Int32} (hs : sOK s) {j : Nat} (hj : j < 24) : irm (10 * s (10 + j) + s (34 + j)) 10 = s (34 + j) := by
  obtain ⟨k, hk, ek⟩ := hs.2.2.2.2.2.1 j hj
  obtain ⟨w, hw, ew⟩ := hs.2.2.2.2.2.2.1 j hj
  rw [ek, ew, show (10 : Int32) = nI 10 from rfl, nI_mul, nI_add, irm_nI (by omega) (by decide), show (10 * k + w) % 10 = w by omega]

theorem sS_dyn (L : Nat) (Sd : AS) {a : Nat} (h1 : 91 ≤ a) (h2 : a < 1000) : sS L Sd a = Sd a := by
  have e1 : Nat.ble a 90 = false := by rw [← Bool.not_eq_true, Nat.ble_eq]; omega
  have e2 : Nat.ble 1000 a = false := by rw [← Bool.not_eq_true, Nat.ble_eq]; omega
  unfold sS
  rw [e1, e2]; rfl
theorem sP_dyn (tx : Nat → Option Nat) (nm : Option Nat) (Pd : AP) {a k : Nat} (h1 : 91 ≤ a) (h2 : a < 1000) : sP tx nm Pd a k = Pd a k := by
  have e1 : Nat.ble a 90 = false := by rw [← Bool.not_eq_true, Nat.ble_eq]; omega
  have e2 : Nat.ble 1000 a = false := by rw [← Bool.not_eq_true, Nat.ble_eq]; omega
  unfold sP
  rw [e1, e2]; rfl

theorem x_windLater_1 (I : AI) (T : AT) (s : Nat → Int32) (hs : sOK s) (hX : XSea I T 1 0 s) (n : Nat) (hn : n < 1000) : Ct 1 y_Sea_windLater [.ref 1, .int (nI n)] (hp I T) (fun r h' => h' = hp I T ∧ r = some (.int (10 * s (10 + (cl (s 1) + n) % 24) + s (34 + (cl (s 1) + n) % 24)))) := by
  obtain ⟨eh, hh⟩ := hs.2.1.eq (by decide)
  iterate 4 refine Go.step rfl ?_
  rw [show I 1 0 = nI (cl (s 1)) from hX.1.trans eh]
  iterate 3 refine Go.step rfl ?_
  rw [nI_add]
  refine Go.cal (j_floorMod _ _ 24 (by omega) (by decide) (by decide)) (by decide) rfl ?_
  rintro _ _ ⟨rfl, rfl⟩
  refine Go.iald rfl rfl (am_in_nI (Nat.mod_lt _ (by decide)) (by decide)) ?_
  have hm : (cl (s 1) + n) % 24 < 24 := Nat.mod_lt _ (by decide)
  rw [nI_clamp (by omega)]
  refine Go.ret rfl ⟨rfl, ?_⟩
  rw [show I 2 ((cl (s 1) + n) % 24) = 10 * s (10 + (cl (s 1) + n) % 24) + s (34 + (cl (s 1) + n) % 24) from hX.2.2.1 _ hm]
theorem x_knots_1 (I : AI) (T : AT) (s : Nat → Int32) (hs : sOK s) (hX : XSea I T 1 0 s) : Ct 2 y_Sea_knots [.ref 1] (hp I T) (fun r h' => h' = hp I T ∧ r = some (.int (kn s))) := by
  iterate 2 refine Go.step rfl ?_
  refine Go.cal (x_windLater_1 I T s hs hX 0 (by decide)) (by decide) rfl ?_
  rintro _ _ ⟨rfl, rfl⟩
  iterate 2 refine Go.step rfl ?_
  refine Go.ret rfl ⟨rfl, ?_⟩
  rw [Nat.add_zero, kw_div hs (Nat.mod_lt _ (by decide))]
  rfl
theorem x_way_1 (I : AI) (T : AT) (s : Nat → Int32) (hs : sOK s) (hX : XSea I T 1 0 s) : Ct 2 y_Sea_way [.ref 1] (hp I T) (fun r h' => h' = hp I T ∧ r = some (.int (wy s))) := by
  iterate 2 refine Go.step rfl ?_
  refine Go.cal (x_windLater_1 I T s hs hX 0 (by decide)) (by decide) rfl ?_
  rintro _ _ ⟨rfl, rfl⟩
  iterate 2 refine Go.step rfl ?_
  refine Go.ret rfl ⟨rfl, ?_⟩
  rw [Nat.add_zero, kw_rem hs (Nat.mod_lt _ (by decide))]
  rfl
theorem x_priceIn_1 (I : AI) (T : AT) (s : Nat → Int32) (hX : XSea I T 1 0 s) (c : Nat) (hc : c < 24) : Ct 0 y_Sea_priceIn [.ref 1, .int (nI c)] (hp I T) (fun r h' => h' = hp I T ∧ r = some (.int (s (5 + c / 6)))) := by
  iterate 3 refine Go.step rfl ?_
  rw [show nI c / 6 = nI (c / 6) from nI_div (b := 6) (by omega) (by decide)]
  iterate 3 refine Go.step rfl ?_
  refine Go.ifn (nI_pos (by omega)) ?_
  iterate 3 refine Go.step rfl ?_
  refine Go.ifn (nI_ge (a := c / 6) (b := 4) (by omega) (by decide)) ?_
  iterate 3 refine Go.step rfl ?_
  refine Go.iald rfl rfl (am_in_nI (by omega) (by decide)) ?_
  rw [nI_clamp (by omega)]
  refine Go.step rfl ?_
  refine Go.ret rfl ⟨rfl, ?_⟩
  rw [show I 3 (c / 6) = s (5 + c / 6) from hX.2.2.2.1 _ (by omega)]
theorem x_isFurled_1 (I : AI) (T : AT) (s : Nat → Int32) (hs : sOK s) (hX : XSea I T 1 0 s) (b : Nat) (hb : b < cl (s 0)) (hb8 : b < 8) : Ct 1 y_Sea_isFurled [.ref 1, .ref ((1 + 8) + b)] (hp I T) (fun r h' => h' = hp I T ∧ r = some (.int (bo (furd s b)))) := by
  have hSb : sS T.2.2.2.2.2.2 T.2.2.2.1 ((1 + 8) + b) = (10, 9) := sS_boat _ _ (B := 1) (Or.inl rfl) hb8
  have x5 : ∀ f, f < 8 → I ((1 + 8) + b) f = s (58 + 8 * b + f) := fun f hf => hX.2.2.2.2.1 b f hb hb8 hf
  obtain ⟨ec, hc⟩ := (hs.2.2.2.2.2.2.2 b hb).2.2.1.eq (by decide)
  refine Go.step rfl ?_
  refine Go.geti rfl hSb (Or.inl rfl) ?_
  rw [x5 7 (by decide)]
  refine Go.step rfl ?_
  refine Go.ite (fun c1 => ?_) (fun c1 => ?_)
  · iterate 2 refine Go.step rfl ?_
    refine Go.geti rfl hSb (Or.inl rfl) ?_
    rw [x5 2 (by decide), ec]
    refine Go.cal (x_priceIn_1 I T s hX _ (by omega)) (by decide) rfl ?_
    rintro _ _ ⟨rfl, rfl⟩
    refine Go.step rfl ?_
    refine Go.geti rfl hSb (Or.inl rfl) ?_
    rw [x5 4 (by decide)]
    refine Go.step rfl ?_
    refine Go.ite (fun c2 => ?_) (fun c2 => ?_)
    · repeat refine Go.step rfl ?_
      refine Go.ret rfl ⟨rfl, ?_⟩
      have : furd s b = false := by
        unfold furd fur
        rw [decide_eq_false (Int32.not_lt.mpr c2), Bool.and_false]
      rw [this]; rfl
    · repeat refine Go.step rfl ?_
      refine Go.ret rfl ⟨rfl, ?_⟩
      have : furd s b = true := by
        unfold furd fur
        rw [decide_eq_true (Int32.not_le.mp c2), decide_eq_true c1]; rfl
      rw [this]; rfl
  · repeat refine Go.step rfl ?_
    refine Go.ret rfl ⟨rfl, ?_⟩
    have : furd s b = false := by
      unfold furd fur
      rw [decide_eq_false c1]; rfl
    rw [this]; rfl
theorem x_wants_1 (I : AI) (T : AT) (s : Nat → Int32) (hs : sOK s) (hX : XSea I T 1 0 s) (b : Nat) (hb : b < cl (s 0)) (hb8 : b < 8) (x : Int32) (hx : 0 ≤ x) : Ct 3 y_Sea_wants [.ref 1, .ref ((1 + 8) + b), .int x] (hp I T) (fun r h' => ∃ g, h' = hp (va_up I 8 g) T ∧ r = some (.int (wan s b x))) := by
  have hSb : sS T.2.2.2.2.2.2 T.2.2.2.1 ((1 + 8) + b) = (10, 9) := sS_boat _ _ (B := 1) (Or.inl rfl) hb8
  have x5 : ∀ f, f < 8 → I ((1 + 8) + b) f = s (58 + 8 * b + f) := fun f hf => hX.2.2.2.2.1 b f hb hb8 hf
  obtain ⟨o0, o1, o2, o3, o4, o5, o6, o7⟩ := hs.2.2.2.2.2.2.2 b hb
  have fin : ∀ (v : Int32) (g : Nat → Int32) (t4 : Option Value), furd s b = false → v = wish s b x → Go 3 y_Sea_wants 140 [some (.ref 1), some (.ref ((1 + 8) + b)), some (.int x), some (.int v), t4] [] (hp (va_up I 8 g) T) (fun r h' => ∃ g, h' = hp (va_up I 8 g) T ∧ r = some (.int (wan s b x))) := by
    intro v g t4 hf hv
    iterate 3 refine Go.step rfl ?_
    refine Go.cal (x_held _ _ _ _ hx) (by decide) rfl ?_
    rintro _ _ ⟨rfl, rfl⟩
    refine Go.ret rfl ⟨g, rfl, ?_⟩
    have e9 : wan s b x = hel v 0 x := by
      unfold wan
      rw [hf, if_neg (by decide), hv]
    rw [e9]
  have fin0 : ∀ (v : Int32) (t4 : Option Value), furd s b = false → v = wish s b x → Go 3 y_Sea_wants 140 [some (.ref 1), some (.ref ((1 + 8) + b)), some (.int x), some (.int v), t4] [] (hp I T) (fun r h' => ∃ g, h' = hp (va_up I 8 g) T ∧ r = some (.int (wan s b x))) := by
    intro v t4 hf hv
    have := fin v (I 8) t4 hf hv
    rw [vu_self] at this
    exact this
  iterate 2 refine Go.step rfl ?_
  refine Go.cal (x_isFurled_1 I T s hs hX b hb hb8) (by decide) rfl ?_
  rintro _ _ ⟨rfl, rfl⟩
  refine Go.step rfl ?_
  refine Go.ifz (fun cf => ?_) (fun cf => ?_)
  · iterate 3 refine Go.step rfl ?_
    refine Go.geti rfl hSb (Or.inl rfl) ?_
    obtain ⟨k, hk, ek⟩ := o0
    rw [show I ((1 + 8) + b) 0 = nI k from (x5 0 (by decide)).trans ek]
    rcases (show k = 0 ∨ k = 1 ∨ k = 2 ∨ k = 3 ∨ k = 4 ∨ k = 5 ∨ k = 6 by omega) with rfl | rfl | rfl | rfl | rfl | rfl | rfl
    · refine Go.step rfl ?_
      exact fin0 _ _ cf (by rw [wish_of ek]; rfl)
    · iterate 6 refine Go.step rfl ?_
      exact fin0 _ _ cf (by rw [wish_of ek]; rfl)
    · refine Go.step rfl ?_
      exact fin0 _ _ cf (by rw [wish_of ek]; rfl)
    · iterate 5 refine Go.step rfl ?_
      refine Go.geti rfl hSb (Or.inl rfl) ?_
      rw [x5 1 (by decide)]
      iterate 3 refine Go.step rfl ?_
      exact fin0 _ _ cf (by rw [wish_of ek]; rfl)
    · iterate 5 refine Go.step rfl ?_
      refine Go.geti rfl hSb (Or.inl rfl) ?_
      rw [x5 1 (by decide)]
      refine Go.cal (j_min _ _ _) (by decide) rfl ?_
      rintro _ _ ⟨rfl, rfl⟩
      iterate 2 refine Go.step rfl ?_
      refine fin0 _ _ cf ?_
      have hw4 : wish s b x = if x / 2 < s (58 + 8 * b + 1) then x / 2 else s (58 + 8 * b + 1) := by rw [wish_of ek]; rfl
      rw [hw4]
      by_cases c1 : s (58 + 8 * b + 1) < x / 2
      · rw [if_pos c1, if_neg (fun q => Int32.lt_irrefl (Int32.lt_trans q c1))]
      · rw [if_neg c1]
        by_cases c2 : x / 2 < s (58 + 8 * b + 1)
        · rw [if_pos c2]
        · rw [if_neg c2]; exact Int32.le_antisymm (Int32.not_lt.mp c1) (Int32.not_lt.mp c2)
    · iterate 6 refine Go.step rfl ?_
      exact fin0 _ _ cf (by rw [wish_of ek]; rfl)
    · have hw : wish s b x = if s 122 = 0 then x / 3 else tev s 0 x (nI (hod s)) (s (58 + 8 * b + 1)) := by rw [wish_of ek]; rfl
      have hxt := hX.2.2.2.2.2 0 (by decide)
      iterate 4 refine Go.step rfl ?_
      cases hT : T.1 0 with
      | none =>
        rw [show T.1 (2 * 0 + 0) = none from hT] at hxt
        refine Go.aaldN rfl rfl rfl rfl hT ?_
        iterate 9 refine Go.step rfl ?_
        refine fin0 _ _ cf ?_
        rw [hw, if_pos (show s 122 = 0 from hxt)]
      | some a =>
        rw [show T.1 (2 * 0 + 0) = some a from hT] at hxt
        obtain ⟨h1, h2, h3, w, len, h4, h5, h6, h7, h8, h9, h10⟩ := hxt
        have ea : sS T.2.2.2.2.2.2 T.2.2.2.1 a = (15, 1) := by rw [sS_dyn _ _ h1 h2]; exact h3
        have ew : sS T.2.2.2.2.2.2 T.2.2.2.1 w = (0, len) := by rw [sS_dyn _ _ h4 h5]; exact h7
        have epa : sP T.1 T.2.1 T.2.2.1 a 0 = some w := by rw [sP_dyn _ _ _ h1 h2]; exact h6
        have hl := h8.1
        have hl2 := h8.2.1
        obtain ⟨eh, hh⟩ := hs.2.1.eq (by decide)
        refine Go.aald rfl rfl rfl rfl hT ?_
        iterate 9 refine Go.step rfl ?_
        rw [show I 1 0 = nI (cl (s 1)) from hX.1.trans eh]
        iterate 2 refine Go.step rfl ?_
        rw [show irm (nI (cl (s 1))) 24 = nI (hod s) from irm_nI (b := 24) (by omega) (by decide)]
        refine Go.step rfl ?_
        refine Go.geti rfl hSb (Or.inl rfl) ?_
        rw [x5 1 (by decide)]
        refine Go.calv (x_value I T a w len 8 x (nI (hod s)) (s (58 + 8 * b + 1)) ea epa ew rfl (by omega) h8) (by decide) rfl rfl ea rfl ?_
        rintro _ _ ⟨g, rfl, rfl⟩
        iterate 2 refine Go.step rfl ?_
        refine fin _ g _ cf ?_
        rw [hw, if_neg (by rw [show s 122 = nI len from h9]; exact nI_ne0 (by omega) (by omega)), tev_eq (by decide) h8 h9 h10]
  · repeat refine Go.step rfl ?_
    refine Go.ret rfl ⟨I 8, by rw [vu_self], ?_⟩
    have e9 : wan s b x = 0 := by
      unfold wan
      rw [cf, if_pos rfl]
    rw [e9]
theorem x_windLater_17 (I : AI) (T : AT) (s : Nat → Int32) (hs : sOK s) (hX : XSea I T 17 1 s) (n : Nat) (hn : n < 1000) : Ct 1 y_Sea_windLater [.ref 17, .int (nI n)] (hp I T) (fun r h' => h' = hp I T ∧ r = some (.int (10 * s (10 + (cl (s 1) + n) % 24) + s (34 + (cl (s 1) + n) % 24)))) := by
  obtain ⟨eh, hh⟩ := hs.2.1.eq (by decide)
  iterate 4 refine Go.step rfl ?_
  rw [show I 17 0 = nI (cl (s 1)) from hX.1.trans eh]
  iterate 3 refine Go.step rfl ?_
  rw [nI_add]
  refine Go.cal (j_floorMod _ _ 24 (by omega) (by decide) (by decide)) (by decide) rfl ?_
  rintro _ _ ⟨rfl, rfl⟩
  refine Go.iald rfl rfl (am_in_nI (Nat.mod_lt _ (by decide)) (by decide)) ?_
  have hm : (cl (s 1) + n) % 24 < 24 := Nat.mod_lt _ (by decide)
  rw [nI_clamp (by omega)]
  refine Go.ret rfl ⟨rfl, ?_⟩
  rw [show I 18 ((cl (s 1) + n) % 24) = 10 * s (10 + (cl (s 1) + n) % 24) + s (34 + (cl (s 1) + n) % 24) from hX.2.2.1 _ hm]
theorem x_knots_17 (I : AI) (T : AT) (s : Nat → Int32) (hs : sOK s) (hX : XSea I T 17 1 s) : Ct 2 y_Sea_knots [.ref 17] (hp I T) (fun r h' => h' = hp I T ∧ r = some (.int (kn s))) := by
  iterate 2 refine Go.step rfl ?_
  refine Go.cal (x_windLater_17 I T s hs hX 0 (by decide)) (by decide) rfl ?_
  rintro _ _ ⟨rfl, rfl⟩
  iterate 2 refine Go.step rfl ?_
  refine Go.ret rfl ⟨rfl, ?_⟩
  rw [Nat.add_zero, kw_div hs (Nat.mod_lt _ (by decide))]
  rfl
theorem x_way_17 (I : AI) (T : AT) (s : Nat → Int32) (hs : sOK s) (hX : XSea I T 17 1 s) : Ct 2 y_Sea_way [.ref 17] (hp I T) (fun r h' => h' = hp I T ∧ r = some (.int (wy s))) := by
  iterate 2 refine Go.step rfl ?_
  refine Go.cal (x_windLater_17 I T s hs hX 0 (by decide)) (by decide) rfl ?_
  rintro _ _ ⟨rfl, rfl⟩
  iterate 2 refine Go.step rfl ?_
  refine Go.ret rfl ⟨rfl, ?_⟩
  rw [Nat.add_zero, kw_rem hs (Nat.mod_lt _ (by decide))]
  rfl
theorem x_priceIn_17 (I : AI) (T : AT) (s : Nat → Int32) (hX : XSea I T 17 1 s) (c : Nat) (hc : c < 24) : Ct 0 y_Sea_priceIn [.ref 17, .int (nI c)] (hp I T) (fun r h' => h' = hp I T ∧ r = some (.int (s (5 + c / 6)))) := by
  iterate 3 refine Go.step rfl ?_
  rw [show nI c / 6 = nI (c / 6) from nI_div (b := 6) (by omega) (by decide)]
  iterate 3 refine Go.step rfl ?_
  refine Go.ifn (nI_pos (by omega)) ?_
  iterate 3 refine Go.step rfl ?_
  refine Go.ifn (nI_ge (a := c / 6) (b := 4) (by omega) (by decide)) ?_
  iterate 3 refine Go.step rfl ?_
  refine Go.iald rfl rfl (am_in_nI (by omega) (by decide)) ?_
  rw [nI_clamp (by omega)]
  refine Go.step rfl ?_
  refine Go.ret rfl ⟨rfl, ?_⟩
  rw [show I 19 (c / 6) = s (5 + c / 6) from hX.2.2.2.1 _ (by omega)]
theorem x_isFurled_17 (I : AI) (T : AT) (s : Nat → Int32) (hs : sOK s) (hX : XSea I T 17 1 s) (b : Nat) (hb : b < cl (s 0)) (hb8 : b < 8) : Ct 1 y_Sea_isFurled [.ref 17, .ref ((17 + 8) + b)] (hp I T) (fun r h' => h' = hp I T ∧ r = some (.int (bo (furd s b)))) := by
  have hSb : sS T.2.2.2.2.2.2 T.2.2.2.1 ((17 + 8) + b) = (10, 9) := sS_boat _ _ (B := 17) (Or.inr (Or.inl rfl)) hb8
  have x5 : ∀ f, f < 8 → I ((17 + 8) + b) f = s (58 + 8 * b + f) := fun f hf => hX.2.2.2.2.1 b f hb hb8 hf
  obtain ⟨ec, hc⟩ := (hs.2.2.2.2.2.2.2 b hb).2.2.1.eq (by decide)
  refine Go.step rfl ?_
  refine Go.geti rfl hSb (Or.inl rfl) ?_
  rw [x5 7 (by decide)]
  refine Go.step rfl ?_
  refine Go.ite (fun c1 => ?_) (fun c1 => ?_)
  · iterate 2 refine Go.step rfl ?_
    refine Go.geti rfl hSb (Or.inl rfl) ?_
    rw [x5 2 (by decide), ec]
    refine Go.cal (x_priceIn_17 I T s hX _ (by omega)) (by decide) rfl ?_
    rintro _ _ ⟨rfl, rfl⟩
    refine Go.step rfl ?_
    refine Go.geti rfl hSb (Or.inl rfl) ?_
    rw [x5 4 (by decide)]
    refine Go.step rfl ?_
    refine Go.ite (fun c2 => ?_) (fun c2 => ?_)
    · repeat refine Go.step rfl ?_
      refine Go.ret rfl ⟨rfl, ?_⟩
      have : furd s b = false := by
        unfold furd fur
        rw [decide_eq_false (Int32.not_lt.mpr c2), Bool.and_false]
      rw [this]; rfl
    · repeat refine Go.step rfl ?_
      refine Go.ret rfl ⟨rfl, ?_⟩
      have : furd s b = true := by
        unfold furd fur
        rw [decide_eq_true (Int32.not_le.mp c2), decide_eq_true c1]; rfl
      rw [this]; rfl
  · repeat refine Go.step rfl ?_
    refine Go.ret rfl ⟨rfl, ?_⟩
    have : furd s b = false := by
      unfold furd fur
      rw [decide_eq_false c1]; rfl
    rw [this]; rfl
theorem x_wants_17 (I : AI) (T : AT) (s : Nat → Int32) (hs : sOK s) (hX : XSea I T 17 1 s) (b : Nat) (hb : b < cl (s 0)) (hb8 : b < 8) (x : Int32) (hx : 0 ≤ x) : Ct 3 y_Sea_wants [.ref 17, .ref ((17 + 8) + b), .int x] (hp I T) (fun r h' => ∃ g, h' = hp (va_up I 24 g) T ∧ r = some (.int (wan s b x))) := by
  have hSb : sS T.2.2.2.2.2.2 T.2.2.2.1 ((17 + 8) + b) = (10, 9) := sS_boat _ _ (B := 17) (Or.inr (Or.inl rfl)) hb8
  have x5 : ∀ f, f < 8 → I ((17 + 8) + b) f = s (58 + 8 * b + f) := fun f hf => hX.2.2.2.2.1 b f hb hb8 hf
  obtain ⟨o0, o1, o2, o3, o4, o5, o6, o7⟩ := hs.2.2.2.2.2.2.2 b hb
  have fin : ∀ (v : Int32) (g : Nat → Int32) (t4 : Option Value), furd s b = false → v = wish s b x → Go 3 y_Sea_wants 140 [some (.ref 17), some (.ref ((17 + 8) + b)), some (.int x), some (.int v), t4] [] (hp (va_up I 24 g) T) (fun r h' => ∃ g, h' = hp (va_up I 24 g) T ∧ r = some (.int (wan s b x))) := by
    intro v g t4 hf hv
    iterate 3 refine Go.step rfl ?_
    refine Go.cal (x_held _ _ _ _ hx) (by decide) rfl ?_
    rintro _ _ ⟨rfl, rfl⟩
    refine Go.ret rfl ⟨g, rfl, ?_⟩
    have e9 : wan s b x = hel v 0 x := by
      unfold wan
      rw [hf, if_neg (by decide), hv]
    rw [e9]
  have fin0 : ∀ (v : Int32) (t4 : Option Value), furd s b = false → v = wish s b x → Go 3 y_Sea_wants 140 [some (.ref 17), some (.ref ((17 + 8) + b)), some (.int x), some (.int v), t4] [] (hp I T) (fun r h' => ∃ g, h' = hp (va_up I 24 g) T ∧ r = some (.int (wan s b x))) := by
    intro v t4 hf hv
    have := fin v (I 24) t4 hf hv
    rw [vu_self] at this
    exact this
  iterate 2 refine Go.step rfl ?_
  refine Go.cal (x_isFurled_17 I T s hs hX b hb hb8) (by decide) rfl ?_
  rintro _ _ ⟨rfl, rfl⟩
  refine Go.step rfl ?_
  refine Go.ifz (fun cf => ?_) (fun cf => ?_)
  · iterate 3 refine Go.step rfl ?_
    refine Go.geti rfl hSb (Or.inl rfl) ?_
    obtain ⟨k, hk, ek⟩ := o0
    rw [show I ((17 + 8) + b) 0 = nI k from (x5 0 (by decide)).trans ek]
    rcases (show k = 0 ∨ k = 1 ∨ k = 2 ∨ k = 3 ∨ k = 4 ∨ k = 5 ∨ k = 6 by omega) with rfl | rfl | rfl | rfl | rfl | rfl | rfl
    · refine Go.step rfl ?_
      exact fin0 _ _ cf (by rw [wish_of ek]; rfl)
    · iterate 6 refine Go.step rfl ?_
      exact fin0 _ _ cf (by rw [wish_of ek]; rfl)
    · refine Go.step rfl ?_
      exact fin0 _ _ cf (by rw [wish_of ek]; rfl)
    · iterate 5 refine Go.step rfl ?_
      refine Go.geti rfl hSb (Or.inl rfl) ?_
      rw [x5 1 (by decide)]
      iterate 3 refine Go.step rfl ?_
      exact fin0 _ _ cf (by rw [wish_of ek]; rfl)
    · iterate 5 refine Go.step rfl ?_
      refine Go.geti rfl hSb (Or.inl rfl) ?_
      rw [x5 1 (by decide)]
      refine Go.cal (j_min _ _ _) (by decide) rfl ?_
      rintro _ _ ⟨rfl, rfl⟩
      iterate 2 refine Go.step rfl ?_
      refine fin0 _ _ cf ?_
      have hw4 : wish s b x = if x / 2 < s (58 + 8 * b + 1) then x / 2 else s (58 + 8 * b + 1) := by rw [wish_of ek]; rfl
      rw [hw4]
      by_cases c1 : s (58 + 8 * b + 1) < x / 2
      · rw [if_pos c1, if_neg (fun q => Int32.lt_irrefl (Int32.lt_trans q c1))]
      · rw [if_neg c1]
        by_cases c2 : x / 2 < s (58 + 8 * b + 1)
        · rw [if_pos c2]
        · rw [if_neg c2]; exact Int32.le_antisymm (Int32.not_lt.mp c1) (Int32.not_lt.mp c2)
    · iterate 6 refine Go.step rfl ?_
      exact fin0 _ _ cf (by rw [wish_of ek]; rfl)
    · have hw : wish s b x = if s 122 = 0 then x / 3 else tev s 0 x (nI (hod s)) (s (58 + 8 * b + 1)) := by rw [wish_of ek]; rfl
      have hxt := hX.2.2.2.2.2 0 (by decide)
      iterate 4 refine Go.step rfl ?_
      cases hT : T.1 2 with
      | none =>
        rw [show T.1 (2 * 1 + 0) = none from hT] at hxt
        refine Go.aaldN rfl rfl rfl rfl hT ?_
        iterate 9 refine Go.step rfl ?_
        refine fin0 _ _ cf ?_
        rw [hw, if_pos (show s 122 = 0 from hxt)]
      | some a =>
        rw [show T.1 (2 * 1 + 0) = some a from hT] at hxt
        obtain ⟨h1, h2, h3, w, len, h4, h5, h6, h7, h8, h9, h10⟩ := hxt
        have ea : sS T.2.2.2.2.2.2 T.2.2.2.1 a = (15, 1) := by rw [sS_dyn _ _ h1 h2]; exact h3
        have ew : sS T.2.2.2.2.2.2 T.2.2.2.1 w = (0, len) := by rw [sS_dyn _ _ h4 h5]; exact h7
        have epa : sP T.1 T.2.1 T.2.2.1 a 0 = some w := by rw [sP_dyn _ _ _ h1 h2]; exact h6
        have hl := h8.1
        have hl2 := h8.2.1
        obtain ⟨eh, hh⟩ := hs.2.1.eq (by decide)
        refine Go.aald rfl rfl rfl rfl hT ?_
        iterate 9 refine Go.step rfl ?_
        rw [show I 17 0 = nI (cl (s 1)) from hX.1.trans eh]
        iterate 2 refine Go.step rfl ?_
        rw [show irm (nI (cl (s 1))) 24 = nI (hod s) from irm_nI (b := 24) (by omega) (by decide)]
        refine Go.step rfl ?_
        refine Go.geti rfl hSb (Or.inl rfl) ?_
        rw [x5 1 (by decide)]
        refine Go.calv (x_value I T a w len 24 x (nI (hod s)) (s (58 + 8 * b + 1)) ea epa ew rfl (by omega) h8) (by decide) rfl rfl ea rfl ?_
        rintro _ _ ⟨g, rfl, rfl⟩
        iterate 2 refine Go.step rfl ?_
        refine fin _ g _ cf ?_
        rw [hw, if_neg (by rw [show s 122 = nI len from h9]; exact nI_ne0 (by omega) (by omega)), tev_eq (by decide) h8 h9 h10]
  · repeat refine Go.step rfl ?_
    refine Go.ret rfl ⟨I 24, by rw [vu_self], ?_⟩
    have e9 : wan s b x = 0 := by
      unfold wan
      rw [cf, if_pos rfl]
    rw [e9]
