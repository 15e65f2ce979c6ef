/-! PAIRS: feed -/
theorem sh_byte (x : BitVec 64) (n : Nat) (hn : n ≤ 56) : (x >>> n).setWidth 32 &&& 255#32 = ((x.sshiftRight n) &&& 255#64).setWidth 32 := by
  apply BitVec.eq_of_getLsbD_eq
  intro i hi
  simp only [BitVec.getLsbD_and, BitVec.getLsbD_setWidth, BitVec.getLsbD_ushiftRight, BitVec.getLsbD_sshiftRight]
  by_cases h8 : i < 8
  · have h1 : n + i < 64 := by omega
    have h2 : ¬ 64 ≤ i := by omega
    have e1 : (255#32).getLsbD i = true := by
      rcases (show i = 0 ∨ i = 1 ∨ i = 2 ∨ i = 3 ∨ i = 4 ∨ i = 5 ∨ i = 6 ∨ i = 7 by omega) with rfl | rfl | rfl | rfl | rfl | rfl | rfl | rfl <;> decide
    have e2 : (255#64).getLsbD i = true := by
      rcases (show i = 0 ∨ i = 1 ∨ i = 2 ∨ i = 3 ∨ i = 4 ∨ i = 5 ∨ i = 6 ∨ i = 7 by omega) with rfl | rfl | rfl | rfl | rfl | rfl | rfl | rfl <;> decide
    rw [e1, e2]
    simp [hi, h1, h2]
  · have e1 : (255#32).getLsbD i = false := by
      have : ∀ i, i < 32 → ¬ i < 8 → (255#32).getLsbD i = false := by decide
      exact this i hi h8
    have e2 : (255#64).getLsbD i = false := by
      have : ∀ i, i < 32 → ¬ i < 8 → (255#64).getLsbD i = false := by decide
      exact this i hi h8
    rw [e1, e2]
    simp
def fb (w : Int64) (k : Nat) : Int32 := ((w >>> ((8 * nI k).toInt64 &&& 63)) &&& Int64.ofNat 255).toInt32
theorem fb_eq (w : Int64) : ∀ k, k < 8 → ((w.toUInt64 >>> ((8 * nI k).toInt64.toUInt64 &&& Int64.toUInt64 63)).toInt64).toInt32 &&& 255 = fb w k := by
  intro k hk
  have ha : ∀ k, k < 8 → (((BitVec.signExtend 64 (8#32 * (nI k).toBitVec)).toNat &&& 63) % 64) = 8 * k := by decide +kernel
  have hb : ∀ k, k < 8 → ((BitVec.signExtend 64 (8#32 * (nI k).toBitVec) &&& 63#64).smod 64#64).toNat = 8 * k := by decide +kernel
  unfold fb
  apply Int32.toBitVec_inj.mp
  have := sh_byte w.toBitVec (8 * k) (by omega)
  simp
  rw [ha k hk, hb k hk, BitVec.signExtend_eq_setWidth_of_le _ (by decide), BitVec.signExtend_eq_setWidth_of_le _ (by decide), this]
  simp
def fdS (s : Nat → Int32) (w : Int64) : Nat → Nat → Int32
  | 0 => s
  | k + 1 => va_up (va_up (fdS s w k) (372 + (cl (s 2) + k)) (fb w k)) 2 (nI (cl (s 2) + (k + 1)))
theorem fdS_2 {s : Nat → Int32} (hs : sOK s) (w : Int64) : ∀ k, fdS s w k 2 = nI (cl (s 2) + k) := by
  intro k
  cases k with
  | zero => exact (hs.2.2.1.eq (by decide)).1
  | succ k => rw [fdS, vu_same]
theorem fdS_off (s : Nat → Int32) (w : Int64) {j : Nat} (h2 : j ≠ 2) (h : j < 372 ∨ 432 ≤ j) : ∀ k, cl (s 2) + k ≤ 60 → fdS s w k j = s j := by
  intro k
  induction k with
  | zero => intro _; rfl
  | succ k ih => intro hk; rw [fdS, va_up_ne _ _ h2, va_up_ne _ _ (by omega)]; exact ih (by omega)
theorem fdS_ok {s : Nat → Int32} (hs : sOK s) (w : Int64) : ∀ k, cl (s 2) + k ≤ 60 → sOK (fdS s w k) := by
  intro k
  induction k with
  | zero => intro _; exact hs
  | succ k ih =>
    intro hk
    exact ((ih (by omega)).up (by omega) (okv_free _ (by omega))).up (by decide) (okv_low (fun q => by omega) (fun _ => rg_nI (by omega)) (fun q => by omega) (by decide))
def sp_feed (J : AI) (w : Int64) (n : Int32) : AI × Int32 := bif win n 1 8 then (if J 74 2 + n ≤ 60 then (sps J (fdS (J 74) w (cl n)), nI (cl (J 74 2) + cl n)) else (er J 4, LO 4)) else (er J 1, LO 1)
theorem feed_le {s1 n : Int32} {h k : Nat} (hs : s1 = nI h) (hh : h ≤ 60) (hn : n = nI k) (hk : k ≤ 8) (q : s1 + n ≤ 60) : h + k ≤ 60 := by
  subst hs; subst hn
  rw [nI_add] at q
  exact (nI_leI (a := h + k) (b := 60) (by omega) (by decide)).mp q
theorem x_addByte (I : AI) (T : AT) (t : Nat) (ht : I 49 2 = nI t) (h60 : t < 60) (v : Int32) : Ct 0 y_Desk_addByte [.ref 49, .int v] (hp I T) (fun r h' => h' = hp (va_up (va_up I 50 (va_up (I 50) t v)) 49 (va_up (I 49) 2 (nI (t + 1)))) T ∧ r = none) := by
  iterate 2 refine Go.step rfl ?_
  rw [ht]
  iterate 2 refine Go.step rfl ?_
  refine Go.ifn (nI_ge (a := t) (b := 60) h60 (by decide)) ?_
  iterate 4 refine Go.step rfl ?_
  rw [ht]
  refine Go.step rfl ?_
  refine Go.iast rfl rfl (am_in_nI h60 (by decide)) ?_
  rw [nI_clamp (by omega)]
  iterate 6 refine Go.step rfl ?_
  refine Go.ret rfl ⟨?_, rfl⟩
  rw [va_up_ne _ _ (show 49 ≠ 50 by decide), ht, nI_1]
  rfl
theorem x_feed (xs : Nat → Int32) (I : AI) (T : AT) (J : AI) (hG : XG xs I T J) (w : Int64) (n : Int32) : Ct 2 y_X_feed [.ref 0, .long w, .int n] (hp I T) (XP xs I T (sp_feed J w n)) := by
  have hs := id hG.1
  obtain ⟨d1, d2, d3, d4, d5⟩ := hG.2.2.1
  obtain ⟨et, ht⟩ := hs.2.2.1.eq (by decide)
  iterate 3 refine Go.step rfl ?_
  refine Go.cal (x_within _ n 1 8) (by decide) rfl ?_
  rintro _ _ ⟨rfl, rfl⟩
  refine Go.step rfl ?_
  refine Go.ifz (fun c1 => ?_) (fun c1 => ?_)
  · iterate 2 refine Go.step rfl ?_
    exact x_err (k := 1) hG (by decide) (by decide) (by rw [sp_feed, c1]; rfl) rfl rfl rfl (by decide)
  · iterate 3 refine Go.step rfl ?_
    rw [show I 49 2 = J 74 2 from d1]
    iterate 4 refine Go.step rfl ?_
    refine Go.ite (fun c2 => ?_) (fun c2 => ?_)
    · obtain ⟨k, hk1, hk2, rfl⟩ := win_lo (a := 1) (b := 8) (by decide) (by decide) c1
      have hcl : cl (nI k) = k := nI_clamp (by omega)
      have hle := feed_le et ht rfl hk2 c2
      have esp : sp_feed J w (nI k) = (sps J (fdS (J 74) w k), nI (cl (J 74 2) + k)) := by
        rw [sp_feed, c1]
        simp only [cond_true]
        rw [if_pos c2, hcl]
      rw [esp]
      have loop : ∀ m i, i + m = k → ∀ (I' : AI), (∀ a, a < 49 ∨ 50 < a → I' a = I a) → (∀ f, f ≠ 2 → I' 49 f = I 49 f) → I' 49 2 = nI (cl (J 74 2) + i) → (∀ j, j < cl (J 74 2) + i → I' 50 j = fdS (J 74) w i (372 + j)) → Go 2 y_X_feed 39 [some (.ref 0), some (.long w), none, some (.int (nI k)), some (.int (nI i))] [] (hp I' T) (XP xs I T (sps J (fdS (J 74) w k), nI (cl (J 74 2) + k))) := by
        intro m
        induction m with
        | zero =>
          intro i hi I' q1 q2 q3 q4
          have : i = k := by omega
          subst this
          iterate 3 refine Go.step rfl ?_
          refine Go.ifp (Int32.le_refl _) ?_
          iterate 3 refine Go.step rfl ?_
          have e2 := fdS_2 hs w i
          refine Go.ret rfl ⟨I', rfl, fun a g1 g2 => q1 a (by omega), hG.desk (fun a ha => q1 a (by omega)) (fdS_ok hs w i hle) ⟨?_, ?_, ?_, fun j hj => ?_, fun j hj => ?_⟩ (fun j hj => fdS_off _ _ (by omega) (by omega) _ hle), ?_⟩
          · rw [q3, e2]
          · rw [q2 3 (by decide), fdS_off _ _ (by decide) (by decide) _ hle]; exact d2
          · rw [q2 4 (by decide), fdS_off _ _ (by decide) (by decide) _ hle]; exact d3
          · rw [e2, show cl (nI (cl (J 74 2) + i)) = cl (J 74 2) + i from nI_clamp (by omega)] at hj
            exact q4 j hj
          · rw [fdS_off _ _ (by decide) (by decide) _ hle] at hj
            have := (hs.2.2.2.1.eq (by decide)).2
            rw [q1 _ (by omega), fdS_off _ _ (by omega) (by omega) _ hle]; exact d5 j hj
          · show some (Value.int (I' 49 2)) = _
            rw [q3]
        | succ m ih =>
          intro i hi I' q1 q2 q3 q4
          iterate 3 refine Go.step rfl ?_
          refine Go.ifn (nI_ge (a := i) (b := k) (by omega) (by omega)) ?_
          iterate 10 refine Go.step rfl ?_
          rw [fb_eq w i (by omega)]
          refine Go.cal (x_addByte I' T (cl (J 74 2) + i) q3 (by omega) _) (by decide) rfl ?_
          rintro _ _ ⟨rfl, rfl⟩
          iterate 2 refine Go.step rfl ?_
          rw [show nI i + 1 = nI (i + 1) from nI_1 i]
          refine ih (i + 1) (by omega) _ (fun a ha => by rw [va_up_ne _ _ (by omega), va_up_ne _ _ (by omega)]; exact q1 a ha) (fun f hf => by rw [vu_same, va_up_ne _ _ hf]; exact q2 f hf) (by rw [vu_same, vu_same]; rfl) (fun j hj => ?_)
          rw [va_up_ne _ _ (by decide), vu_same, fdS, va_up_ne _ _ (show 372 + j ≠ 2 by omega)]
          by_cases q : j = cl (J 74 2) + i
          · subst q; rw [vu_same, vu_same]
          · rw [va_up_ne _ _ q, va_up_ne _ _ (by omega)]; exact q4 j (by omega)
      iterate 2 refine Go.step rfl ?_
      exact loop k 0 (by omega) I (fun _ _ => rfl) (fun _ _ => rfl) (d1.trans et) d4
    · iterate 2 refine Go.step rfl ?_
      exact x_err (k := 4) hG (by decide) (by decide) (by rw [sp_feed, c1]; simp only [cond_true]; rw [if_neg c2]) rfl rfl rfl (by decide)
theorem m_feed (I : AI) (T : AT) (hs : sOK (I 74)) (w : Int64) (n : Int32) : Ct 2 y_M_feed [.ref 73, .long w, .int n] (hp I T) (MQ2 I T (sp_feed I w n)) := by
  obtain ⟨et, ht⟩ := hs.2.2.1.eq (by decide)
  iterate 3 refine Go.step rfl ?_
  refine Go.cal (m_in _ n 1 8) (by decide) rfl ?_
  rintro _ _ ⟨rfl, rfl⟩
  refine Go.step rfl ?_
  refine Go.ifz (fun c1 => ?_) (fun c1 => ?_)
  · iterate 2 refine Go.step rfl ?_
    exact m_errq (k := 1) (by decide) (by rw [sp_feed, c1]; rfl) rfl rfl rfl (by decide)
  · iterate 8 refine Go.step rfl ?_
    refine Go.ite (fun c2 => ?_) (fun c2 => ?_)
    · replace c2 : I 74 2 + n ≤ 60 := c2
      obtain ⟨k, hk1, hk2, rfl⟩ := win_lo (a := 1) (b := 8) (by decide) (by decide) c1
      have hcl : cl (nI k) = k := nI_clamp (by omega)
      have hle := feed_le et ht rfl hk2 c2
      have esp : sp_feed I w (nI k) = (sps I (fdS (I 74) w k), nI (cl (I 74 2) + k)) := by
        rw [sp_feed, c1]
        simp only [cond_true]
        rw [if_pos c2, hcl]
      rw [esp]
      have loop : ∀ m i, i + m = k → Go 2 y_M_feed 38 [some (.ref 73), some (.long w), none, some (.int (nI k)), some (.int (nI i))] [] (hp (va_up I 74 (fdS (I 74) w i)) T) (MQ2 I T (sps I (fdS (I 74) w k), nI (cl (I 74 2) + k))) := by
        intro m
        induction m with
        | zero =>
          intro i hi
          have : i = k := by omega
          subst this
          iterate 3 refine Go.step rfl ?_
          refine Go.ifp (Int32.le_refl _) ?_
          iterate 4 refine Go.step rfl ?_
          refine Go.ret rfl ⟨_, rfl, fun a ha => va_up_ne _ _ (by omega), JE.rf _, ?_⟩
          show some (Value.int (va_up I 74 (fdS (I 74) w i) 74 2)) = _
          rw [vu_same, fdS_2 hs]
        | succ m ih =>
          intro i hi
          have e2 := fdS_2 hs w i
          iterate 3 refine Go.step rfl ?_
          refine Go.ifn (nI_ge (a := i) (b := k) (by omega) (by omega)) ?_
          iterate 7 refine Go.step rfl ?_
          rw [vu_same, show fdS (I 74) w i (Int32.toNatClampNeg 2) = nI (cl (I 74 2) + i) from e2]
          refine Go.step rfl ?_
          rw [show (372 : Int32) + nI (cl (I 74 2) + i) = nI (372 + (cl (I 74 2) + i)) from nI_add 372 _]
          iterate 8 refine Go.step rfl ?_
          refine Go.iast rfl rfl (am_in_nI (by omega) (by decide)) ?_
          rw [nI_clamp (by omega), vu_same, vu_idem]
          iterate 10 refine Go.step rfl ?_
          have hi := ih (i + 1) (by omega)
          rw [show nI i + 1 = nI (i + 1) from nI_1 i]
          have e : va_up (va_up I 74 (va_up (fdS (I 74) w i) (372 + (cl (I 74 2) + i)) (fb w i))) 74 (va_up (va_up I 74 (va_up (fdS (I 74) w i) (372 + (cl (I 74 2) + i)) (fb w i)) 74) (Int32.toNatClampNeg 2) (va_up I 74 (va_up (fdS (I 74) w i) (372 + (cl (I 74 2) + i)) (fb w i)) 74 (Int32.toNatClampNeg 2) + 1)) = va_up I 74 (fdS (I 74) w (i + 1)) := by
            rw [vu_idem, vu_same, show Int32.toNatClampNeg 2 = 2 from rfl, va_up_ne _ _ (show 2 ≠ 372 + (cl (I 74 2) + i) by omega), e2, nI_1]
            rfl
          show Go 2 y_M_feed 38 _ _ (hp (va_up (va_up I 74 (va_up (fdS (I 74) w i) (372 + (cl (I 74 2) + i)) (fb w i))) 74 (va_up (va_up I 74 (va_up (fdS (I 74) w i) (372 + (cl (I 74 2) + i)) (fb w i)) 74) (Int32.toNatClampNeg 2) (va_up I 74 (va_up (fdS (I 74) w i) (372 + (cl (I 74 2) + i)) (fb w i)) 74 (Int32.toNatClampNeg 2) + 1))) T) _
          rw [e]
          exact hi
      iterate 2 refine Go.step rfl ?_
      have := loop k 0 (by omega)
      rw [show fdS (I 74) w 0 = I 74 from rfl, vu_self] at this
      exact this
    · replace c2 : ¬ I 74 2 + n ≤ 60 := c2
      iterate 2 refine Go.step rfl ?_
      exact m_errq (k := 4) (by decide) (by rw [sp_feed, c1]; simp only [cond_true]; rw [if_neg c2]) rfl rfl rfl (by decide)
theorem and255 (v : Int32) : rg (v &&& 255) 255 := by
  refine ⟨(v &&& 255).toBitVec.toNat, ?_, ?_⟩
  · have : (v &&& 255).toBitVec = v.toBitVec &&& 255#32 := rfl
    rw [this, BitVec.toNat_and]
    exact Nat.and_le_right
  · apply Int32.toBitVec_inj.mp
    apply BitVec.eq_of_toNat_eq
    have h : (v &&& 255).toBitVec.toNat < 2 ^ 32 := (v &&& 255).toBitVec.isLt
    show _ = (BitVec.ofNat 32 _).toNat
    rw [BitVec.toNat_ofNat, Nat.mod_eq_of_lt h]
theorem fb_rg (w : Int64) {k : Nat} (hk : k < 8) : rg (fb w k) 255 := by
  rw [← fb_eq w k hk]; exact and255 _
theorem fdS_tb {s : Nat → Int32} (h : TB s) (w : Int64) : ∀ k, k ≤ 8 → TB (fdS s w k) := by
  intro k
  induction k with
  | zero => intro _; exact h
  | succ k ih =>
    intro hk j hj
    rw [fdS, va_up_ne _ _ (by omega)]
    by_cases q : 372 + j = 372 + (cl (s 2) + k)
    · rw [q, vu_same]; exact fb_rg w (by omega)
    · rw [va_up_ne _ _ q]; exact ih (by omega) j hj
theorem op_feed (w : Int64) (a : Int32) : OpOK y_X_feed y_M_feed [.long w, .int a] := by
  refine op_new (sp := fun J => sp_feed J w a) (fun xs I T J h => x_feed xs I T J h w a) (fun xs I0 T0 I T h => m_feed I T h.1 w a) (by decide) (by decide) ?_ ?_
  · unfold sp_feed; exact SpC.bif2 (fun J J' e => rfl) (SpC.ite2 (fun J J' e => by rw [e.2.2.1]) (SpC.row (fun J J' e => by rw [e.2.2.1] <;> exact ⟨rfl, rfl⟩)) (SpC.err 4)) (SpC.err 1)
  · intro xs I T J hG
    show HB (sp_feed J w a).1
    unfold sp_feed
    cases c1 : win a 1 8 with
    | false => exact hG.2.er1 1
    | true =>
      simp only [cond_true]
      split
      · rename_i c2
        obtain ⟨et, ht⟩ := hG.1.1.2.2.1.eq (by decide)
        obtain ⟨k, hk1, hk2, rfl⟩ := win_lo (a := 1) (b := 8) (by decide) (by decide) c1
        have hcl : cl (nI k) = k := nI_clamp (by omega)
        have hle := feed_le et ht rfl hk2 c2
        exact hG.2.spsB (by rw [hcl, fdS_off _ _ (by decide) (by decide) _ hle]; exact hG.2.1) (by rw [hcl]; exact fdS_tb hG.2.2.2 w k hk2)
      · exact hG.2.er1 4
