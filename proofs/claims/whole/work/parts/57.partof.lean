/-! PAIRS: boatIs, blows, gone, lee -/
theorem XG.scr {xs : Nat → Int32} {I I' : AI} {T : AT} {J : AI} (h : XG xs I T J) (hI : ∀ a, a < 1 + 5 ∨ 1 + 15 < a → I' a = I a) (hb : ∀ b f, b < 8 → f < 8 → I' (1 + 8 + b) f = I (1 + 8 + b) f) : XG xs I' T J := by
  have := h.sea (I' := I') (s' := J 74) (fun a ha => hI a (by omega)) h.1 (h.2.1.scr (by decide) hI hb) (fun _ _ => rfl)
  rw [show sps J (J 74) = J from vu_self _ _] at this
  exact this
theorem JE.scr {I I' : AI} (h : ∀ a, a < 79 ∨ 83 < a → I' a = I a) : JE I I' :=
  ⟨by rw [h 73 (by decide)], by rw [h 73 (by decide)], (h _ (by decide)).symm, (h _ (by decide)).symm, (h _ (by decide)).symm, (h _ (by decide)).symm, (h _ (by decide)).symm, (h _ (by decide)).symm, (h _ (by decide)).symm⟩
theorem m_errq {d y nx pc : Nat} {ls : ALS} {I : AI} {T : AT} {k : Nat} {v : Int32} {ops : List Nat} {o : AI × Int32} (hk : k < 7) (ho : o = (er I k, LO k)) (e : (cd y pc).bind (fun e => (am_call e [.int (nI k), .ref 73] (hp I T)).map (fun q => (e.2.1, q, am_step e (mrt y) ls [.int (nI k), .ref 73] (hp I T)))) = some (nx, (y_M_error, [.ref 73, .int (nI k)], []), none)) (e2 : cd y nx = some (.ireturn, nx + 1, v, ops)) (hr : mrt y = 0) (hd : 0 < d) : Go d y pc ls [.int (nI k), .ref 73] (hp I T) (MQ2 I T o) :=
  Go.mono (m_err hk ho e e2 hr hd) (fun r h' h => h.q (fun a ha => by rw [ho]; exact er_out I k ha))
def prt (s : Nat → Int32) (b f : Nat) : Int32 := if f = 8 then tk s 255 b else if f = 9 then bo (furd s b) else s (58 + 8 * b + f)
theorem x_partOf_1 (I : AI) (T : AT) (s : Nat → Int32) (hs : sOK s) (hX : XSea I T 1 0 s) (b f : Nat) (hb : b < cl (s 0)) (hf : f ≤ 9) : Ct 5 y_Sea_partOf [.ref 1, .int (nI b), .int (nI f)] (hp I T) (fun r h' => ∃ I', h' = hp I' T ∧ (∀ a, a < 1 + 5 ∨ 1 + 15 < a → I' a = I a) ∧ (∀ b f, b < 8 → f < 8 → I' (1 + 8 + b) f = I (1 + 8 + b) f) ∧ r = some (.int (prt s b f))) := by
  have hb8 : b < 8 := Nat.lt_of_lt_of_le hb (cl_le hs.1)
  have hSb : sS T.2.2.2.2.2.2 T.2.2.2.1 ((1 + 8) + b) = (10, 9) := sS_boat _ _ (B := 1) (Or.inl rfl) hb8
  have hcl : cl (nI b) = b := nI_clamp (by omega)
  have hr : rg (I 1 1) 8 := by rw [hX.2.1]; exact hs.1
  iterate 2 refine Go.step rfl ?_
  refine Go.cal (x_find I T 1 (Or.inl rfl) (nI b) hr) (by decide) rfl ?_
  rintro _ _ ⟨rfl, ⟨c1, rfl⟩ | ⟨c1, rfl⟩⟩
  · rw [hcl]
    iterate 3 refine Go.step rfl ?_
    iterate 3 refine Go.step rfl ?_
    refine Go.ite (fun c2 => ?_) (fun c2 => ?_)
    · have hf8 : f = 8 := (nI_eq (a := f) (b := 8) (by omega) (by decide)).mp c2
      iterate 2 refine Go.step rfl ?_
      refine Go.cal (x_take_1 I T s hs hX 255) (by decide) rfl ?_
      rintro _ _ ⟨I', rfl, ⟨k1, k2, k3, k4⟩, rfl⟩
      refine Go.step rfl ?_
      refine Go.geti rfl hSb (Or.inl rfl) ?_
      rw [k3 b hb]
      refine Go.ret rfl ⟨I', rfl, k1, k2, ?_⟩
      unfold prt
      rw [if_pos hf8]
    · have hf8 : ¬ f = 8 := fun q => c2 (by rw [q]; rfl)
      iterate 3 refine Go.step rfl ?_
      refine Go.ite (fun c3 => ?_) (fun c3 => ?_)
      · have hf9 : f = 9 := (nI_eq (a := f) (b := 9) (by omega) (by decide)).mp c3
        have ep : prt s b f = bo (furd s b) := by unfold prt; rw [if_neg hf8, if_pos hf9]
        rw [ep]
        iterate 2 refine Go.step rfl ?_
        refine Go.cal (x_isFurled_1 I T s hs hX b hb hb8) (by decide) rfl ?_
        rintro _ _ ⟨rfl, rfl⟩
        refine Go.step rfl ?_
        refine Go.ifz (fun c4 => ?_) (fun c4 => ?_)
        · refine Go.step rfl ?_
          refine Go.ret rfl ⟨I, rfl, fun _ _ => rfl, fun _ _ _ _ => rfl, ?_⟩
          rw [c4]; rfl
        · iterate 2 refine Go.step rfl ?_
          refine Go.ret rfl ⟨I, rfl, fun _ _ => rfl, fun _ _ _ _ => rfl, ?_⟩
          rw [c4]; rfl
      · have hf9 : ¬ f = 9 := fun q => c3 (by rw [q]; rfl)
        iterate 2 refine Go.step rfl ?_
        refine Go.calv (x_part I T ((1 + 8) + b) f 9 (by omega) hSb) (by decide) rfl rfl hSb rfl ?_
        rintro _ _ ⟨rfl, rfl⟩
        refine Go.ret rfl ⟨I, rfl, fun _ _ => rfl, fun _ _ _ _ => rfl, ?_⟩
        unfold prt
        rw [if_neg hf8, if_neg hf9, show I ((1 + 8) + b) f = s (58 + 8 * b + f) from hX.2.2.2.2.1 b f hb hb8 (by omega)]
  · rw [hX.2.1, win_of_boat hs.1 hb] at c1
    cases c1
theorem x_partOf_17 (I : AI) (T : AT) (s : Nat → Int32) (hs : sOK s) (hX : XSea I T 17 1 s) (b f : Nat) (hb : b < cl (s 0)) (hf : f ≤ 9) : Ct 5 y_Sea_partOf [.ref 17, .int (nI b), .int (nI f)] (hp I T) (fun r h' => ∃ I', h' = hp I' T ∧ (∀ a, a < 17 + 5 ∨ 17 + 15 < a → I' a = I a) ∧ (∀ b f, b < 8 → f < 8 → I' (17 + 8 + b) f = I (17 + 8 + b) f) ∧ r = some (.int (prt s b f))) := by
  have hb8 : b < 8 := Nat.lt_of_lt_of_le hb (cl_le hs.1)
  have hSb : sS T.2.2.2.2.2.2 T.2.2.2.1 ((17 + 8) + b) = (10, 9) := sS_boat _ _ (B := 17) (Or.inr (Or.inl rfl)) hb8
  have hcl : cl (nI b) = b := nI_clamp (by omega)
  have hr : rg (I 17 1) 8 := by rw [hX.2.1]; exact hs.1
  iterate 2 refine Go.step rfl ?_
  refine Go.cal (x_find I T 17 (Or.inr (Or.inl rfl)) (nI b) hr) (by decide) rfl ?_
  rintro _ _ ⟨rfl, ⟨c1, rfl⟩ | ⟨c1, rfl⟩⟩
  · rw [hcl]
    iterate 3 refine Go.step rfl ?_
    iterate 3 refine Go.step rfl ?_
    refine Go.ite (fun c2 => ?_) (fun c2 => ?_)
    · have hf8 : f = 8 := (nI_eq (a := f) (b := 8) (by omega) (by decide)).mp c2
      iterate 2 refine Go.step rfl ?_
      refine Go.cal (x_take_17 I T s hs hX 255) (by decide) rfl ?_
      rintro _ _ ⟨I', rfl, ⟨k1, k2, k3, k4⟩, rfl⟩
      refine Go.step rfl ?_
      refine Go.geti rfl hSb (Or.inl rfl) ?_
      rw [k3 b hb]
      refine Go.ret rfl ⟨I', rfl, k1, k2, ?_⟩
      unfold prt
      rw [if_pos hf8]
    · have hf8 : ¬ f = 8 := fun q => c2 (by rw [q]; rfl)
      iterate 3 refine Go.step rfl ?_
      refine Go.ite (fun c3 => ?_) (fun c3 => ?_)
      · have hf9 : f = 9 := (nI_eq (a := f) (b := 9) (by omega) (by decide)).mp c3
        have ep : prt s b f = bo (furd s b) := by unfold prt; rw [if_neg hf8, if_pos hf9]
        rw [ep]
        iterate 2 refine Go.step rfl ?_
        refine Go.cal (x_isFurled_17 I T s hs hX b hb hb8) (by decide) rfl ?_
        rintro _ _ ⟨rfl, rfl⟩
        refine Go.step rfl ?_
        refine Go.ifz (fun c4 => ?_) (fun c4 => ?_)
        · refine Go.step rfl ?_
          refine Go.ret rfl ⟨I, rfl, fun _ _ => rfl, fun _ _ _ _ => rfl, ?_⟩
          rw [c4]; rfl
        · iterate 2 refine Go.step rfl ?_
          refine Go.ret rfl ⟨I, rfl, fun _ _ => rfl, fun _ _ _ _ => rfl, ?_⟩
          rw [c4]; rfl
      · have hf9 : ¬ f = 9 := fun q => c3 (by rw [q]; rfl)
        iterate 2 refine Go.step rfl ?_
        refine Go.calv (x_part I T ((17 + 8) + b) f 9 (by omega) hSb) (by decide) rfl rfl hSb rfl ?_
        rintro _ _ ⟨rfl, rfl⟩
        refine Go.ret rfl ⟨I, rfl, fun _ _ => rfl, fun _ _ _ _ => rfl, ?_⟩
        unfold prt
        rw [if_neg hf8, if_neg hf9, show I ((17 + 8) + b) f = s (58 + 8 * b + f) from hX.2.2.2.2.1 b f hb hb8 (by omega)]
  · rw [hX.2.1, win_of_boat hs.1 hb] at c1
    cases c1
theorem m_toldBoat (I : AI) (T : AT) (hs : sOK (I 74)) (ht : tOK (I 74) 0) (b f : Nat) (hb : b < cl (I 74 0)) (hf : f ≤ 9) : Ct 5 y_M_toldBoat [.ref 73, .int (nI b), .int (nI f)] (hp I T) (fun r h' => ∃ I', h' = hp I' T ∧ (∀ a, a < 79 ∨ 83 < a → I' a = I a) ∧ r = some (.int (prt (I 74) b f))) := by
  have hb8 : b < 8 := Nat.lt_of_lt_of_le hb (cl_le hs.1)
  iterate 3 refine Go.step rfl ?_
  refine Go.ite (fun c2 => ?_) (fun c2 => ?_)
  · have hf8 : f = 8 := (nI_eq (a := f) (b := 8) (by omega) (by decide)).mp c2
    iterate 2 refine Go.step rfl ?_
    refine Go.cal (m_all I T) (by decide) rfl ?_
    rintro _ _ ⟨rfl, rfl⟩
    refine Go.cal (m_blow I T hs ht (alm (I 74))) (by decide) rfl ?_
    rintro _ _ ⟨I', rfl, hB, rfl⟩
    iterate 3 refine Go.step rfl ?_
    refine Go.iald rfl rfl (am_in_nI hb8 (by decide)) ?_
    rw [nI_clamp (by omega), hB.2.1 b hb, tk_congr (alm_bit hs) hb]
    refine Go.ret rfl ⟨I', rfl, hB.1, ?_⟩
    unfold prt
    rw [if_pos hf8]
  · have hf8 : ¬ f = 8 := fun q => c2 (by rw [q]; rfl)
    iterate 3 refine Go.step rfl ?_
    refine Go.ite (fun c3 => ?_) (fun c3 => ?_)
    · have hf9 : f = 9 := (nI_eq (a := f) (b := 9) (by omega) (by decide)).mp c3
      have ep : prt (I 74) b f = bo (furd (I 74) b) := by unfold prt; rw [if_neg hf8, if_pos hf9]
      rw [ep]
      obtain ⟨hc, ec⟩ := cel_lt hs hb
      iterate 2 refine Go.step rfl ?_
      refine Go.cal (m_isFurled I T b (cel (I 74) b) hb8 ec hc) (by decide) rfl ?_
      rintro _ _ ⟨rfl, rfl⟩
      refine Go.step rfl ?_
      refine Go.ifz (fun c4 => ?_) (fun c4 => ?_)
      · iterate 2 refine Go.step rfl ?_
        refine Go.ret rfl ⟨I, rfl, fun _ _ => rfl, ?_⟩
        rw [show furd (I 74) b = false from c4]; rfl
      · iterate 2 refine Go.step rfl ?_
        refine Go.ret rfl ⟨I, rfl, fun _ _ => rfl, ?_⟩
        rw [show furd (I 74) b = true from c4]; rfl
    · have hf9 : ¬ f = 9 := fun q => c3 (by rw [q]; rfl)
      iterate 3 refine Go.step rfl ?_
      refine Go.cal (m_its I T b f hb8 (by omega)) (by decide) rfl ?_
      rintro _ _ ⟨rfl, rfl⟩
      refine Go.ret rfl ⟨I, rfl, fun _ _ => rfl, ?_⟩
      unfold prt
      rw [if_neg hf8, if_neg hf9]
def sp_boatIs (J : AI) (b w : Int32) : AI × Int32 := bif win b 0 (J 74 0 - 1) && win w 0 9 then (J, prt (J 74) (cl b) (cl w)) else (er J 1, LO 1)
theorem x_boatIs (xs : Nat → Int32) (I : AI) (T : AT) (J : AI) (hG : XG xs I T J) (b w : Int32) : Ct 6 y_X_boatIs [.ref 0, .int b, .int w] (hp I T) (XP xs I T (sp_boatIs J b w)) := by
  have hs := id hG.1
  have x2 := hG.2.1.2.1
  have hr : rg (I 1 1) 8 := by rw [x2]; exact hs.1
  have bad : (win b 0 (J 74 0 - 1) && win w 0 9) = false → Go 6 y_X_boatIs 21 [some (.ref 0), some (.int b), some (.int w)] [] (hp I T) (XP xs I T (sp_boatIs J b w)) := by
    intro hq
    iterate 2 refine Go.step rfl ?_
    exact x_err (k := 1) hG (by decide) (by decide) (by rw [sp_boatIs, hq]; rfl) rfl rfl rfl (by decide)
  iterate 3 refine Go.step rfl ?_
  refine Go.cal (x_find I T 1 (Or.inl rfl) b hr) (by decide) rfl ?_
  rintro _ _ ⟨rfl, ⟨c1, rfl⟩ | ⟨c1, rfl⟩⟩
  · rw [x2] at c1
    iterate 4 refine Go.step rfl ?_
    refine Go.cal (x_within _ w 0 9) (by decide) rfl ?_
    rintro _ _ ⟨rfl, rfl⟩
    refine Go.step rfl ?_
    refine Go.ifz (fun c2 => ?_) (fun c2 => ?_)
    · exact bad (by rw [c2, Bool.and_false])
    · obtain ⟨j, hj, hj8, rfl⟩ := boat_of_win hs.1 c1
      obtain ⟨f, hf, rfl⟩ := nI_of_win (N := 9) (by decide) c2
      iterate 4 refine Go.step rfl ?_
      refine Go.cal (x_partOf_1 I T _ hs hG.2.1 j f hj hf) (by decide) rfl ?_
      rintro _ _ ⟨I', rfl, k1, k2, rfl⟩
      refine Go.ret rfl ?_
      rw [sp_boatIs, c1, c2, show cl (nI j) = j from nI_clamp (by omega), show cl (nI f) = f from nI_clamp (by omega)]
      exact ⟨I', rfl, fun a g1 g2 => k1 a (by omega), hG.scr k1 k2, rfl⟩
  · rw [x2] at c1
    refine Go.step rfl ?_
    exact bad (by rw [c1]; rfl)
theorem m_boatIs (I : AI) (T : AT) (hs : sOK (I 74)) (ht : tOK (I 74) 0) (b w : Int32) : Ct 6 y_M_boatIs [.ref 73, .int b, .int w] (hp I T) (MQ2 I T (sp_boatIs I b w)) := by
  have bad : (win b 0 (I 74 0 - 1) && win w 0 9) = false → Go 6 y_M_boatIs 27 [some (.ref 73), some (.int b), some (.int w)] [] (hp I T) (MQ2 I T (sp_boatIs I b w)) := by
    intro hq
    iterate 2 refine Go.step rfl ?_
    exact m_errq (k := 1) (by decide) (by rw [sp_boatIs, hq]; rfl) rfl rfl rfl (by decide)
  iterate 2 refine Go.step rfl ?_
  refine Go.cal (m_isBoat I T b) (by decide) rfl ?_
  rintro _ _ ⟨rfl, rfl⟩
  refine Go.step rfl ?_
  refine Go.ifz (fun c1 => ?_) (fun c1 => ?_)
  · exact bad (by rw [c1]; rfl)
  · iterate 3 refine Go.step rfl ?_
    refine Go.cal (m_in _ w 0 9) (by decide) rfl ?_
    rintro _ _ ⟨rfl, rfl⟩
    refine Go.step rfl ?_
    refine Go.ifz (fun c2 => ?_) (fun c2 => ?_)
    · exact bad (by rw [c2, Bool.and_false])
    · obtain ⟨j, hj, hj8, rfl⟩ := boat_of_win hs.1 c1
      obtain ⟨f, hf, rfl⟩ := nI_of_win (N := 9) (by decide) c2
      iterate 3 refine Go.step rfl ?_
      refine Go.cal (m_toldBoat I T hs ht j f hj hf) (by decide) rfl ?_
      rintro _ _ ⟨I', rfl, k1, rfl⟩
      refine Go.step rfl ?_
      refine Go.ret rfl ?_
      rw [sp_boatIs, c1, c2, show cl (nI j) = j from nI_clamp (by omega), show cl (nI f) = f from nI_clamp (by omega)]
      exact ⟨I', rfl, fun a ha => k1 a (by omega), JE.scr k1, rfl⟩
theorem op_new {yx ym : Nat} {args : List Value} {sp : AI → AI × Int32} {dx dm : Nat} (hx : ∀ xs I T J, XG xs I T J → Ct dx yx (.ref 0 :: args) (hp I T) (XP xs I T (sp J))) (hm : ∀ xs I0 T0 I T, XG xs I0 T0 I → Ct dm ym (.ref 73 :: args) (hp I T) (MQ2 I T (sp I))) (hdx : dx ≤ 200) (hdm : dm ≤ 200) (hC : SpC sp) (hH : SpH sp) : OpOK yx ym args :=
  op_of (fun xs I T J L c hG hT _ => Go.up hdx (Go.mono (hx xs I T J hG.1) (fun r h' h => h.q hT))) (fun xs I0 T0 I T hG => Go.up hdm (hm xs I0 T0 I T hG.1)) hC hH
theorem XG.tok {xs : Nat → Int32} {I : AI} {T : AT} {J : AI} (h : XG xs I T J) {u : Nat} (hu : u < 2) : tOK (J 74) u := h.2.1.tok hu
theorem op_boatIs (a b : Int32) : OpOK y_X_boatIs y_M_boatIs [.int a, .int b] := by
  refine op_new (sp := fun J => sp_boatIs J a b) (fun xs I T J h => x_boatIs xs I T J h a b) (fun xs I0 T0 I T h => m_boatIs I T h.1 (h.tok (by decide)) a b) (by decide) (by decide) ?_ ?_
  · unfold sp_boatIs; exact SpC.bif2 (fun J J' e => by rw [e.2.2.1]) (SpC.ans (fun J J' e => by rw [e.2.2.1])) (SpC.err 1)
  · unfold sp_boatIs; exact SpH.bif2 SpH.ans (SpH.err 1)
/-! gone -/
theorem x_hasLine_1 (I : AI) (T : AT) (s : Nat → Int32) (hs : sOK s) (hX : XSea I T 1 0 s) (l : Int32) : Ct 3 y_Sea_hasLine [.ref 1, .int l] (hp I T) (fun r h' => h' = hp I T ∧ r = some (.int (bo (win l 0 (nI (nln (wyn s)) - 1))))) := by
  obtain ⟨hw, ew⟩ := wyn_lt hs
  iterate 3 refine Go.step rfl ?_
  refine Go.cal (x_way_1 I T s hs hX) (by decide) rfl ?_
  rintro _ _ ⟨rfl, rfl⟩
  rw [ew]
  iterate 2 refine Go.step rfl ?_
  rw [show irm (nI (wyn s)) 2 = nI (wyn s % 2) from irm_nI (b := 2) (by omega) (by decide)]
  generalize wyn s = w at hw
  rcases (show w = 0 ∨ w = 1 ∨ w = 2 ∨ w = 3 by omega) with rfl | rfl | rfl | rfl
  all_goals
    repeat refine Go.step rfl ?_
    refine Go.cal (x_within _ l 0 _) (by decide) rfl ?_
    rintro _ _ ⟨rfl, rfl⟩
    exact Go.zret rfl rfl (bo_01 _) ⟨rfl, rfl⟩
def sp_gone (J : AI) (l : Int32) : AI × Int32 := bif win l 0 (nI (nln (wyn (J 74))) - 1) then (J, lf (J 74) 255 (cl l) 48) else (er J 1, LO 1)
theorem line_of_win {w : Nat} {l : Int32} (h : win l 0 (nI (nln w) - 1) = true) : ∃ j, j < nln w ∧ j < 6 ∧ l = nI j := by
  have h2 := (nln_le w).1
  have h3 : nln w = nln w - 1 + 1 := by unfold nln; split <;> rfl
  rw [h3, nI_pred] at h
  obtain ⟨j, hj, e⟩ := nI_of_win (by omega) h
  exact ⟨j, by omega, by omega, e⟩
theorem x_gone (xs : Nat → Int32) (I : AI) (T : AT) (J : AI) (hG : XG xs I T J) (l : Int32) : Ct 6 y_X_gone [.ref 0, .int l] (hp I T) (XP xs I T (sp_gone J l)) := by
  have hs := id hG.1
  iterate 3 refine Go.step rfl ?_
  refine Go.cal (x_hasLine_1 I T _ hs hG.2.1 l) (by decide) rfl ?_
  rintro _ _ ⟨rfl, rfl⟩
  refine Go.step rfl ?_
  refine Go.ifz (fun c1 => ?_) (fun c1 => ?_)
  · iterate 2 refine Go.step rfl ?_
    exact x_err (k := 1) hG (by decide) (by decide) (by rw [sp_gone, c1]; rfl) rfl rfl rfl (by decide)
  · obtain ⟨j, hj, hj6, rfl⟩ := line_of_win c1
    iterate 3 refine Go.step rfl ?_
    refine Go.cal (x_take_1 I T _ hs hG.2.1 255) (by decide) rfl ?_
    rintro _ _ ⟨I', rfl, ⟨k1, k2, k3, k4⟩, rfl⟩
    iterate 4 refine Go.step rfl ?_
    refine Go.iald rfl rfl (am_in_nI hj6 (by decide)) ?_
    rw [nI_clamp (by omega), show I' 6 j = lf (J 74) 255 j 48 from k4 j hj6]
    refine Go.ret rfl ?_
    rw [sp_gone, c1, show cl (nI j) = j from nI_clamp (by omega)]
    exact ⟨I', rfl, fun a g1 g2 => k1 a (by omega), hG.scr k1 k2, rfl⟩
theorem m_gone (I : AI) (T : AT) (hs : sOK (I 74)) (ht : tOK (I 74) 0) (l : Int32) : Ct 6 y_M_gone [.ref 73, .int l] (hp I T) (MQ2 I T (sp_gone I l)) := by
  iterate 3 refine Go.step rfl ?_
  refine Go.cal (m_lines I T hs) (by decide) rfl ?_
  rintro _ _ ⟨rfl, rfl⟩
  iterate 2 refine Go.step rfl ?_
  refine Go.cal (m_in _ l 0 _) (by decide) rfl ?_
  rintro _ _ ⟨rfl, rfl⟩
  refine Go.step rfl ?_
  refine Go.ifz (fun c1 => ?_) (fun c1 => ?_)
  · iterate 2 refine Go.step rfl ?_
    exact m_errq (k := 1) (by decide) (by rw [sp_gone, c1]; rfl) rfl rfl rfl (by decide)
  · obtain ⟨j, hj, hj6, rfl⟩ := line_of_win c1
    iterate 2 refine Go.step rfl ?_
    refine Go.cal (m_all I T) (by decide) rfl ?_
    rintro _ _ ⟨rfl, rfl⟩
    refine Go.cal (m_blow I T hs ht (alm (I 74))) (by decide) rfl ?_
    rintro _ _ ⟨I', rfl, hB, rfl⟩
    iterate 3 refine Go.step rfl ?_
    refine Go.iald rfl rfl (am_in_nI hj6 (by decide)) ?_
    rw [nI_clamp (by omega), hB.2.2.2 j hj, lf_congr (alm_bit hs)]
    refine Go.ret rfl ?_
    rw [sp_gone, c1, show cl (nI j) = j from nI_clamp (by omega)]
    exact ⟨I', rfl, fun a ha => hB.1 a (by omega), JE.scr hB.1, rfl⟩
theorem op_gone (a : Int32) : OpOK y_X_gone y_M_gone [.int a] := by
  refine op_new (sp := fun J => sp_gone J a) (fun xs I T J h => x_gone xs I T J h a) (fun xs I0 T0 I T h => m_gone I T h.1 (h.tok (by decide)) a) (by decide) (by decide) ?_ ?_
  · unfold sp_gone; exact SpC.bif2 (fun J J' e => by rw [e.2.2.1]) (SpC.ans (fun J J' e => by rw [e.2.2.1])) (SpC.err 1)
  · unfold sp_gone; exact SpH.bif2 SpH.ans (SpH.err 1)
