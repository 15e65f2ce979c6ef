/-! VOICES: parts, and voice; the class -/
theorem tw_low : ∀ (L : List Nat) (f : Nat → Int32) (c j : Nat), j < c → tw f c L j = f j := by
  intro L
  induction L with
  | nil => intro f c j h; rfl
  | cons n L ih => intro f c j h; rw [tw_cons, ih _ _ _ (by omega), va_up_ne _ _ (by omega)]
theorem tw_at : ∀ (L : List Nat) (f g : Nat → Int32) (c j : Nat), c ≤ j → j < c + L.length → tw f c L j = tw g c L j := by
  intro L
  induction L with
  | nil => intro f g c j h1 h2; exact absurd h2 (by show ¬ j < c + 0; omega)
  | cons n L ih =>
    intro f g c j h1 h2
    rw [tw_cons, tw_cons]
    rw [List.length_cons] at h2
    by_cases q : j = c
    · subst q; rw [tw_low _ _ _ _ (by omega), tw_low _ _ _ _ (by omega), vu_same, vu_same]
    · exact ih _ _ _ _ (by omega) (by omega)
theorem trI_ne : ∀ (L : List Nat) (I : AI) (c a : Nat), a ≠ 61 → a ≠ 62 → trI I c L a = I a := by
  intro L
  induction L with
  | nil => intro I c a h1 h2; rfl
  | cons n L ih => intro I c a h1 h2; rw [trI_cons, ih _ _ _ h1 h2]; unfold bgI; rw [va_up_ne _ _ h1, va_up_ne _ _ h2]
theorem trI_62 : ∀ (L : List Nat) (I : AI) (c : Nat), trI I c L 62 = tw (I 62) c L := by
  intro L
  induction L with
  | nil => intro I c; rfl
  | cons n L ih =>
    intro I c
    rw [trI_cons, ih, tw_cons]
    unfold bgI
    rw [va_up_ne _ _ (by decide), vu_same]
theorem trI_61 : ∀ (L : List Nat) (I : AI) (c f : Nat), f ≠ 1 → trI I c L 61 f = I 61 f := by
  intro L
  induction L with
  | nil => intro I c f h; rfl
  | cons n L ih =>
    intro I c f h
    rw [trI_cons, ih _ _ _ h]
    unfold bgI
    rw [vu_same, va_up_ne _ _ h]
def prI (I : AI) (z : Int32) : AI := va_up I 61 (va_up (I 61) 2 z)
theorem x_voPart (xs : Nat → Int32) (I : AI) (T : AT) (K : Nat) (m k : Int32) (hV : VC xs I K m k) (hp2 : I 61 2 = 0) (x : Int32) : Ct 0 y_Voices_part [.ref 61, .int x] (hp I T) (fun r h' => h' = hp (prI I (bo (decide (m - k = 0)))) T ∧ r = some (.int (if m - k = 0 then 0 else x / (m - k)))) := by
  iterate 2 refine Go.step rfl ?_
  rw [hV.2.2.1]
  iterate 2 refine Go.step rfl ?_
  rw [hV.2.2.2]
  iterate 4 refine Go.step rfl ?_
  refine Go.ite (fun c1 => ?_) (fun c1 => ?_)
  · iterate 4 refine Go.step rfl ?_
    refine Go.ret rfl ⟨?_, by rw [if_pos c1]⟩
    rw [decide_eq_true c1]
    rfl
  · iterate 2 refine Go.step rfl ?_
    refine Go.idiv rfl c1 ?_
    refine Go.ret rfl ⟨?_, by rw [if_neg c1]⟩
    rw [decide_eq_false c1]
    unfold prI
    rw [show bo false = I 61 2 from hp2.symm, vu_self, vu_self]
    rfl
theorem say_p0 (xs : Nat → Int32) (K : Nat) (m k : Int32) (q : Nat) (hq : q = 0 ∨ q = 2 ∨ q = 5 ∨ q = 6) (I : AI) (T : AT) (c dep : Nat) (x : Int32) (hV : VC xs I K m k) (hc : I 61 1 = nI c) (hp2 : I 61 2 = 0) (h30 : c < 30) (hdep : dep ≤ 39) : Ct 2 y_Voices_say [.ref 61, .int (nI q), .int (nI 3), .int x, .int (nI dep)] (hp I T) (fun r h' => h' = hp (prI (bgI I c 13) (bo (decide (m - k = 0)))) T ∧ r = some (.int (if m - k = 0 then 0 else x / (m - k)))) := by
  have hb := hV.bg c 13
  have hb2 : bgI I c 13 61 2 = 0 := by unfold bgI; rw [vu_same, va_up_ne _ _ (by decide)]; exact hp2
  rcases hq with rfl | rfl | rfl | rfl
  all_goals
    refine x_say_pre xs I T hV.1 _ 3 13 c dep 2 x (-1) (by decide) (by decide) rfl rfl (by decide) hc h30 (by omega) (by decide) _ ?_
    iterate 2 refine Go.step rfl ?_
    iterate 2 refine Go.step rfl ?_
    refine Go.cal (x_voPart xs (bgI I c 13) T K m k hb.1 hb2 x) (by decide) rfl ?_
    rintro _ _ ⟨rfl, rfl⟩
    exact Go.ret rfl ⟨rfl, rfl⟩
/-- what the voices' object holds behind parts -/
def PO (I : AI) (c : Nat) (L : List Nat) (z : Bool) (I' : AI) : Prop := (∀ a, a ≠ 61 → a ≠ 62 → I' a = I a) ∧ I' 62 = tw (I 62) c L ∧ I' 61 1 = nI (c + L.length) ∧ I' 61 2 = bo z
def pvl (K : Nat) (m k : Int32) (q : Nat) (x : Int32) : Int32 := if m - k = 0 then 0 else if q = 1 ∨ q = 3 ∨ q = 4 then x / (m - k) + tvl K m k K 1 else x / (m - k)
def ptl (K q : Nat) (z : Bool) : List Nat := if q = 1 ∨ q = 3 ∨ q = 4 then (if z = true then [21, 13] else 21 :: 13 :: ttl K K) else [13]
theorem x_partAndTake (xs : Nat → Int32) (I : AI) (T : AT) (K : Nat) (hK : K < 7) (m k : Int32) (hV : VC xs I K m k) (c dep : Nat) (hc : I 61 1 = nI c) (hp2 : I 61 2 = 0) (h30 : c + 7 ≤ 30) (hdep : dep ≤ 34) (x : Int32) : Ct 8 y_Voices_partAndTake [.ref 61, .int (nI 0), .int x, .int (nI dep)] (hp I T) (fun r h' => ∃ I', h' = hp I' T ∧ PO I c (if decide (m - k = 0) = true then [13] else 13 :: ttl K K) (decide (m - k = 0)) I' ∧ r = some (.int (if m - k = 0 then 0 else x / (m - k) + tvl K m k K 1))) := by
  have hb := hV.bg c 13
  have hlen := ttl_len K K
  have e61 : ∀ z, prI (bgI I c 13) z 61 2 = z := fun z => by unfold prI; rw [vu_same, vu_same]
  iterate 5 refine Go.step rfl ?_
  refine Go.cal (say_p0 xs K m k 0 (by decide) I T c dep x hV hc hp2 (by omega) (by omega)) (by decide) rfl ?_
  rintro _ _ ⟨rfl, rfl⟩
  iterate 3 refine Go.step rfl ?_
  rw [e61]
  refine Go.step rfl ?_
  refine Go.ifz (fun c1 => ?_) (fun c1 => ?_)
  · have d1 := of_decide_eq_false c1
    have hV2 : VC xs (prI (bgI I c 13) 0) K m k := by
      obtain ⟨v1, v2, v3, v4⟩ := hb.1
      unfold prI
      exact ⟨fun z j => by rw [va_up_ne _ _ (by omega)]; exact v1 z j, by rw [vu_same, va_up_ne _ _ (by decide)]; exact v2, by rw [vu_same, va_up_ne _ _ (by decide)]; exact v3, by rw [vu_same, va_up_ne _ _ (by decide)]; exact v4⟩
    have hc2 : prI (bgI I c 13) 0 61 1 = nI (c + 1) := by unfold prI; rw [vu_same, va_up_ne _ _ (by decide)]; exact hb.2
    rw [c1, if_neg d1, if_neg d1, if_neg (by decide)]
    show Go _ _ _ _ _ (hp (prI (bgI I c 13) 0) T) _
    iterate 4 refine Go.step rfl ?_
    rw [show prI (bgI I c 13) 0 61 3 = nI K from hV2.2.1]
    iterate 3 refine Go.step rfl ?_
    refine Go.cal (say_t xs K hK m k K hK (prI (bgI I c 13) 0) T (c + 1) dep 1 hV2 hc2 (by omega) (by omega)) (by decide) rfl ?_
    rintro _ _ ⟨rfl, rfl⟩
    refine Go.step rfl ?_
    have ht := VC.tr (ttl K K) (c + 1) hV2 hc2
    refine Go.ret rfl ⟨_, rfl, ⟨fun a h1 h2 => ?_, ?_, ?_, ?_⟩, rfl⟩
    · rw [trI_ne _ _ _ _ h1 h2]
      unfold prI bgI
      rw [va_up_ne _ _ h1, va_up_ne _ _ h1, va_up_ne _ _ h2]
    · rw [trI_62, tw_cons]
      unfold prI bgI
      rw [va_up_ne _ _ (by decide), va_up_ne _ _ (by decide), vu_same]
    · rw [ht.2, List.length_cons, show c + 1 + (ttl K K).length = c + ((ttl K K).length + 1) by omega]
    · rw [trI_61 _ _ _ _ (by decide), e61]; rfl
  · have d1 := of_decide_eq_true c1
    rw [c1, if_pos d1, if_pos d1, if_pos rfl]
    iterate 2 refine Go.step rfl ?_
    refine Go.ret rfl ⟨_, rfl, ⟨fun a h1 h2 => ?_, ?_, ?_, ?_⟩, rfl⟩
    · unfold prI bgI
      rw [va_up_ne _ _ h1, va_up_ne _ _ h1, va_up_ne _ _ h2]
    · unfold prI bgI
      rw [va_up_ne _ _ (by decide), va_up_ne _ _ (by decide), vu_same]
      rfl
    · unfold prI
      rw [vu_same, va_up_ne _ _ (by decide)]
      exact hb.2
    · exact e61 _
theorem say_p (xs : Nat → Int32) (I : AI) (T : AT) (K : Nat) (hK : K < 7) (m k : Int32) (hV : VC xs I K m k) (c dep : Nat) (hc : I 61 1 = nI c) (hp2 : I 61 2 = 0) (h30 : c + 8 ≤ 30) (hdep : dep ≤ 33) (q : Nat) (hq : q < 7) (x : Int32) : Ct 9 y_Voices_say [.ref 61, .int (nI q), .int (nI 3), .int x, .int (nI dep)] (hp I T) (fun r h' => ∃ I', h' = hp I' T ∧ PO I c (ptl K q (decide (m - k = 0))) (decide (m - k = 0)) I' ∧ r = some (.int (pvl K m k q x))) := by
  have hb := hV.bg c 21
  have hb2 : bgI I c 21 61 2 = 0 := by unfold bgI; rw [vu_same, va_up_ne _ _ (by decide)]; exact hp2
  by_cases z : q = 1 ∨ q = 3 ∨ q = 4
  · have eL : ptl K q (decide (m - k = 0)) = 21 :: (if decide (m - k = 0) = true then [13] else 13 :: ttl K K) := by
      unfold ptl; rw [if_pos z]; split <;> rfl
    have eV : pvl K m k q x = if m - k = 0 then 0 else x / (m - k) + tvl K m k K 1 := by
      unfold pvl; rw [if_pos z]
    rw [eL, eV]
    rcases z with rfl | rfl | rfl
    all_goals
      refine x_say_pre xs I T hV.1 _ 3 21 c dep 9 x (nI 0) (by decide) (by decide) rfl rfl (by decide) hc (by omega) (by omega) (by decide) _ ?_
      iterate 2 refine Go.step rfl ?_
      iterate 4 refine Go.step rfl ?_
      refine Go.cal (x_partAndTake xs (bgI I c 21) T K hK m k hb.1 (c + 1) (dep + 1) hb.2 hb2 (by omega) (by omega) x) (by decide) rfl ?_
      rintro _ _ ⟨I', rfl, ⟨p1, p2, p3, p4⟩, rfl⟩
      refine Go.ret rfl ⟨I', rfl, ⟨fun a h1 h2 => ?_, ?_, ?_, p4⟩, rfl⟩
      · rw [p1 a h1 h2]; unfold bgI; rw [va_up_ne _ _ h1, va_up_ne _ _ h2]
      · rw [p2, tw_cons]; unfold bgI; rw [va_up_ne _ _ (by decide), vu_same]
      · rw [p3, List.length_cons]; congr 1; omega
  · have eL : ptl K q (decide (m - k = 0)) = [13] := by unfold ptl; rw [if_neg z]
    have eV : pvl K m k q x = if m - k = 0 then 0 else x / (m - k) := by
      unfold pvl; rw [if_neg z]
    rw [eL, eV]
    refine Go.up (by decide) (Go.mono (say_p0 xs K m k q (by omega) I T c dep x hV hc hp2 (by omega) (by omega)) ?_)
    rintro r h' ⟨rfl, rfl⟩
    refine ⟨_, rfl, ⟨fun a h1 h2 => ?_, ?_, ?_, ?_⟩, rfl⟩
    · unfold prI bgI
      rw [va_up_ne _ _ h1, va_up_ne _ _ h1, va_up_ne _ _ h2]
    · unfold prI bgI
      rw [va_up_ne _ _ (by decide), va_up_ne _ _ (by decide), vu_same]
      rfl
    · unfold prI
      rw [vu_same, va_up_ne _ _ (by decide)]
      exact (hV.bg c 13).2
    · unfold prI; rw [vu_same, vu_same]
def vL (K v : Nat) (z : Bool) : List Nat := if v = 0 then svt K else if v = 1 then ttl K K else if v = 2 then otl K K else ptl K K z
def vV (K : Nat) (m k : Int32) (v : Nat) (x : Int32) : Int32 := if v = 0 then svl k K x else if v = 1 then tvl K m k K x else if v = 2 then ovl K m k K x else pvl K m k K x
def vP (v : Nat) (m k : Int32) : Bool := decide (v = 3 ∧ m - k = 0)
theorem vL_len (K v : Nat) (z : Bool) : (vL K v z).length ≤ 8 := by
  have := svt_len K
  have h1 := ttl_len K K
  have := otl_len K K
  unfold vL
  split
  · omega
  · split
    · omega
    · split
      · omega
      · unfold ptl
        split
        · split
          · decide
          · simp only [List.length_cons]; omega
        · decide
theorem x_speak (xs : Nat → Int32) (I : AI) (T : AT) (hC : XCon xs I) (K : Nat) (hK : K < 7) (m : Int32) (b v : Nat) (hb8 : b < 8) (hv : v < 4) (e0 : I (1 + 8 + b) 0 = nI K) (e1 : I (1 + 8 + b) 1 = m) (k x : Int32) : Ct 10 y_Voices_speak [.ref 61, .ref (1 + 8 + b), .int k, .int (nI v), .int x] (hp I T) (fun r h' => ∃ I', h' = hp I' T ∧ PO I 0 (vL K v (vP v m k)) (vP v m k) I' ∧ r = some (.int (vV K m k v x))) := by
  have hSb : sS T.2.2.2.2.2.2 T.2.2.2.1 (1 + 8 + b) = (10, 9) := sS_boat _ _ (B := 1) (Or.inl rfl) hb8
  iterate 8 refine Go.step rfl ?_
  refine Go.geti rfl hSb (Or.inl rfl) ?_
  rw [va_up_ne _ _ (by omega), va_up_ne _ _ (by omega), e0]
  iterate 3 refine Go.step rfl ?_
  refine Go.geti rfl hSb (Or.inl rfl) ?_
  rw [va_up_ne _ _ (by omega), va_up_ne _ _ (by omega), va_up_ne _ _ (by omega), e1]
  iterate 4 refine Go.step rfl ?_
  simp only [vu_idem, vu_same]
  generalize hI0 : va_up I 61 _ = I0
  have i3 : I0 61 3 = nI K := by rw [← hI0, vu_same]; rfl
  have i1 : I0 61 1 = nI 0 := by rw [← hI0, vu_same]; rfl
  have i2 : I0 61 2 = 0 := by rw [← hI0, vu_same]; rfl
  have i4 : I0 61 4 = m := by rw [← hI0, vu_same]; rfl
  have i5 : I0 61 5 = k := by rw [← hI0, vu_same]; rfl
  have ia : ∀ a, a ≠ 61 → I0 a = I a := fun a ha => by rw [← hI0]; exact va_up_ne _ _ ha
  have hV : VC xs I0 K m k := ⟨fun z j => by rw [ia _ (by omega)]; exact hC z j, i3, i4, i5⟩
  iterate 3 refine Go.step rfl ?_
  rw [i3]
  iterate 3 refine Go.step rfl ?_
  have plain : ∀ (L : List Nat), (∀ a, a ≠ 61 → a ≠ 62 → trI I0 0 L a = I a) ∧ trI I0 0 L 62 = tw (I 62) 0 L ∧ trI I0 0 L 61 1 = nI (0 + L.length) ∧ trI I0 0 L 61 2 = bo false := fun L =>
    ⟨fun a h1 h2 => by rw [trI_ne _ _ _ _ h1 h2]; exact ia a h1, by rw [trI_62, ia 62 (by decide)], (VC.tr L 0 hV i1).2, by rw [trI_61 _ _ _ _ (by decide)]; exact i2⟩
  have h1 := svt_len K
  have h2 := ttl_len K K
  have h3 := otl_len K K
  rcases (show v = 0 ∨ v = 1 ∨ v = 2 ∨ v = 3 by omega) with rfl | rfl | rfl | rfl
  · refine Go.cal (say_s xs K m k K hK I0 T 0 0 x hV i1 (by omega) (by decide)) (by decide) rfl ?_
    rintro _ _ ⟨rfl, rfl⟩
    exact Go.ret rfl ⟨_, rfl, plain _, rfl⟩
  · refine Go.cal (say_t xs K hK m k K hK I0 T 0 0 x hV i1 (by omega) (by decide)) (by decide) rfl ?_
    rintro _ _ ⟨rfl, rfl⟩
    exact Go.ret rfl ⟨_, rfl, plain _, rfl⟩
  · refine Go.cal (say_o xs K hK m k K hK I0 T 0 0 x hV i1 (by omega) (by decide)) (by decide) rfl ?_
    rintro _ _ ⟨rfl, rfl⟩
    exact Go.ret rfl ⟨_, rfl, plain _, rfl⟩
  · refine Go.cal (say_p xs I0 T K hK m k hV 0 0 i1 i2 (by decide) (by decide) K hK x) (by decide) rfl ?_
    rintro _ _ ⟨I', rfl, ⟨p1, p2, p3, p4⟩, rfl⟩
    have eP : vP 3 m k = decide (m - k = 0) := by
      unfold vP
      congr 1
      exact propext ⟨fun q => q.2, fun q => ⟨rfl, q⟩⟩
    rw [eP]
    exact Go.ret rfl ⟨I', rfl, ⟨fun a h1 h2 => by rw [p1 a h1 h2]; exact ia a h1, by rw [p2, ia 62 (by decide)]; rfl, p3, p4⟩, rfl⟩
/-- only voices have changed -/
theorem XG.voi {xs : Nat → Int32} {I I' : AI} {T : AT} {J J' : AI} (h : XG xs I T J) (hI : ∀ a, a ≠ 61 → a ≠ 62 → I' a = I a) (hJ : ∀ a, a ≠ 73 → a ≠ 86 → J' a = J a) (h3 : J' 73 3 = J 73 3) (hX : XVoi I' J') : XG xs I' T J' := by
  obtain ⟨h1, h2, hd, h4, h5, h6, h7, h8, h9⟩ := h
  have e74 := hJ 74 (by decide) (by decide)
  refine ⟨by rw [e74]; exact h1, by rw [e74]; exact h2.kept (fun a ha => hI a (by omega) (by omega)), by rw [e74]; exact hd.kept (fun a g1 g2 => hI a (by omega) (by omega)), ?_, by rw [h3, hI 0 (by omega) (by omega)]; exact h5, fun k g1 g2 => by rw [hI 64 (by omega) (by omega), hJ 77 (by decide) (by decide)]; exact h6 k g1 g2, h7.kept (fun a g1 g2 => hI a (by omega) (by omega)) (fun a g1 g2 => hJ a (by omega) (by omega)), hX, fun c j => by rw [hI _ (by omega) (by omega)]; exact h9 c j⟩
  rw [h3, hJ 75 (by decide) (by decide)]
  intro q
  obtain ⟨k1, k2, k3⟩ := h4 q
  exact ⟨k1, k2.kept (fun a ha => hI a (by omega) (by omega)), k3.kept (fun a g1 g2 => hI a (by omega) (by omega))⟩
def voJ (J : AI) (L : List Nat) : AI := va_up (va_up J 86 (tw (J 86) 0 L)) 73 (va_up (J 73) 18 (nI L.length))
theorem voJ_ne (J : AI) (L : List Nat) {a : Nat} (h1 : a ≠ 73) (h2 : a ≠ 86) : voJ J L a = J a := by unfold voJ; rw [va_up_ne _ _ h1, va_up_ne _ _ h2]
theorem voJ_86 (J : AI) (L : List Nat) : voJ J L 86 = tw (J 86) 0 L := by unfold voJ; rw [va_up_ne _ _ (by decide), vu_same]
theorem voJ_73 (J : AI) (L : List Nat) : voJ J L 73 = va_up (J 73) 18 (nI L.length) := by unfold voJ; rw [vu_same]
def sp_voice (J : AI) (b v x : Int32) : AI × Int32 := bif win b 0 (J 74 0 - 1) && win v 0 3 then (bif vP (cl v) (J 74 (58 + 8 * cl b + 1)) b then (er (voJ J (vL (cl (J 74 (58 + 8 * cl b))) (cl v) (vP (cl v) (J 74 (58 + 8 * cl b + 1)) b))) 6, LO 6) else (voJ J (vL (cl (J 74 (58 + 8 * cl b))) (cl v) (vP (cl v) (J 74 (58 + 8 * cl b + 1)) b)), vV (cl (J 74 (58 + 8 * cl b))) (J 74 (58 + 8 * cl b + 1)) b (cl v) x)) else (er J 1, LO 1)
theorem PO.xvoi {I I' J : AI} {L : List Nat} {z : Bool} (h : PO I 0 L z I') (hL : L.length ≤ 8) : XVoi I' (voJ J L) := by
  obtain ⟨p1, p2, p3, p4⟩ := h
  have e18 : voJ J L 73 18 = nI L.length := by rw [voJ_73, vu_same]
  refine ⟨by rw [p3, e18, Nat.zero_add], by rw [e18]; exact rg_nI (by omega), fun i hi => ?_⟩
  rw [e18, show cl (nI L.length) = L.length from nI_clamp (by omega)] at hi
  rw [p2, voJ_86]
  exact tw_at L _ _ 0 i (by omega) (by omega)
theorem x_voice (xs : Nat → Int32) (I : AI) (T : AT) (J : AI) (hG : XG xs I T J) (b v x : Int32) : Ct 11 y_X_voice [.ref 0, .int b, .int v, .int x] (hp I T) (XP xs I T (sp_voice J b v x)) := by
  have hs := id hG.1
  have x2 := hG.2.1.2.1
  have x5 := hG.2.1.2.2.2.2.1
  have hr : rg (I 1 1) 8 := by rw [x2]; exact hs.1
  have bad : ∀ t4 : Value, (win b 0 (J 74 0 - 1) && win v 0 3) = false → Go 11 y_X_voice 24 [some (.ref 0), some (.int b), some (.int v), some (.int x), some t4, none] [] (hp I T) (XP xs I T (sp_voice J b v x)) := by
    intro t4 hq
    iterate 2 refine Go.step rfl ?_
    exact x_err (k := 1) hG (by decide) (by decide) (by rw [sp_voice, hq]; rfl) rfl rfl rfl (by decide)
  iterate 3 refine Go.step rfl ?_
  refine Go.cal (x_find I T 1 (Or.inl rfl) b hr) (by decide) rfl ?_
  rintro _ _ ⟨rfl, ⟨c1, rfl⟩ | ⟨c1, rfl⟩⟩
  · rw [x2] at c1
    iterate 6 refine Go.step rfl ?_
    refine Go.cal (x_within _ v 0 3) (by decide) rfl ?_
    rintro _ _ ⟨rfl, rfl⟩
    refine Go.step rfl ?_
    refine Go.ifz (fun c2 => ?_) (fun c2 => ?_)
    · exact bad _ (by rw [c2, Bool.and_false])
    · obtain ⟨j, hj, hj8, rfl⟩ := boat_of_win hs.1 c1
      obtain ⟨w, hw4, rfl⟩ := nI_of_win (N := 3) (by decide) c2
      have hcl : cl (nI j) = j := nI_clamp (by omega)
      have hclw : cl (nI w) = w := nI_clamp (by omega)
      obtain ⟨eK, hK⟩ := (hs.2.2.2.2.2.2.2 j hj).1.eq (by decide)
      have f0 : I (1 + 8 + j) 0 = nI (cl (J 74 (58 + 8 * j))) := (x5 j 0 hj hj8 (by decide)).trans eK
      have f1 : I (1 + 8 + j) 1 = J 74 (58 + 8 * j + 1) := x5 j 1 hj hj8 (by decide)
      rw [sp_voice, c1, c2, hcl, hclw]
      show Go _ _ _ _ _ _ (XP xs I T (bif vP w (J 74 (58 + 8 * j + 1)) (nI j) then (er (voJ J (vL (cl (J 74 (58 + 8 * j))) w (vP w (J 74 (58 + 8 * j + 1)) (nI j)))) 6, LO 6) else (voJ J (vL (cl (J 74 (58 + 8 * j))) w (vP w (J 74 (58 + 8 * j + 1)) (nI j))), vV (cl (J 74 (58 + 8 * j))) (J 74 (58 + 8 * j + 1)) (nI j) w x)))
      iterate 6 refine Go.step rfl ?_
      refine Go.cal (x_speak xs I T hG.2.2.2.2.2.2.2.2 (cl (J 74 (58 + 8 * j))) (by omega) (J 74 (58 + 8 * j + 1)) j w hj8 (by omega) f0 f1 (nI j) x) (by decide) rfl ?_
      rintro _ _ ⟨I', rfl, hP, rfl⟩
      have hlen := vL_len (cl (J 74 (58 + 8 * j))) w (vP w (J 74 (58 + 8 * j + 1)) (nI j))
      have hX : XG xs I' T (voJ J (vL (cl (J 74 (58 + 8 * j))) w (vP w (J 74 (58 + 8 * j + 1)) (nI j)))) := hG.voi hP.1 (fun a g1 g2 => voJ_ne J _ g1 g2) (by rw [voJ_73, va_up_ne _ _ (by decide)]) (hP.xvoi hlen)
      iterate 4 refine Go.step rfl ?_
      rw [hP.2.2.2]
      refine Go.step rfl ?_
      refine Go.ifz (fun c3 => ?_) (fun c3 => ?_)
      · rw [c3] at hX ⊢
        refine Go.step rfl ?_
        exact Go.ret rfl ⟨I', rfl, fun a g1 g2 => hP.1 a (by omega) (by omega), hX, rfl⟩
      · rw [c3] at hX ⊢
        iterate 2 refine Go.step rfl ?_
        refine Go.cal (x_refuse I' T 6 (by decide) (by decide)) (by decide) rfl ?_
        rintro _ _ ⟨rfl, rfl⟩
        refine Go.step rfl ?_
        exact Go.ret rfl ⟨_, rfl, fun a g1 g2 => by rw [va_up_ne _ _ (by omega)]; exact hP.1 a (by omega) (by omega), hX.err (by decide) (by decide), rfl⟩
  · rw [x2] at c1
    iterate 3 refine Go.step rfl ?_
    exact bad _ (by rw [c1]; rfl)
