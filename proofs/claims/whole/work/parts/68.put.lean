/-! PAIRS: put, move -/
def nar (b v : Int32) : Int32 := if b = 8 then v.toInt8.toInt32 else if b = 16 then v.toInt16.toInt32 else v
theorem bv8 (x : BitVec 32) : (x <<< 24).sshiftRight 24 = (x.setWidth 8).signExtend 32 := by
  apply BitVec.eq_of_getLsbD_eq
  intro i hi
  simp only [BitVec.getLsbD_sshiftRight, BitVec.getLsbD_shiftLeft, BitVec.getLsbD_signExtend, BitVec.getLsbD_setWidth, BitVec.msb_eq_getLsbD_last]
  by_cases h8 : i < 8
  · have h1 : 24 + i < 32 := by omega
    simp [hi, h1, h8, show ¬ 32 ≤ i by omega, show ¬ 24 + i < 24 by omega]
  · have h1 : ¬ 24 + i < 32 := by omega
    simp [hi, h1, h8]
theorem bv16 (x : BitVec 32) : (x <<< 16).sshiftRight 16 = (x.setWidth 16).signExtend 32 := by
  apply BitVec.eq_of_getLsbD_eq
  intro i hi
  simp only [BitVec.getLsbD_sshiftRight, BitVec.getLsbD_shiftLeft, BitVec.getLsbD_signExtend, BitVec.getLsbD_setWidth, BitVec.msb_eq_getLsbD_last]
  by_cases h8 : i < 16
  · have h1 : 16 + i < 32 := by omega
    simp [hi, h1, h8, show ¬ 32 ≤ i by omega, show ¬ 16 + i < 16 by omega]
  · have h1 : ¬ 16 + i < 32 := by omega
    simp [hi, h1, h8]
theorem nar_eq {b v : Int32} (hb : b = 8 ∨ b = 16 ∨ b = 32) : (v <<< ((32 - b) &&& 31)) >>> ((32 - b) &&& 31) = nar b v := by
  rcases hb with rfl | rfl | rfl
  · show (v <<< (((32 : Int32) - 8) &&& 31)) >>> (((32 : Int32) - 8) &&& 31) = v.toInt8.toInt32
    rw [show ((32 : Int32) - 8) &&& 31 = 24 by decide]
    apply Int32.toBitVec_inj.mp
    have := bv8 v.toBitVec
    simp
    rw [BitVec.signExtend_eq_setWidth_of_le v.toBitVec (show 8 ≤ 32 by decide)]
    exact this
  · show (v <<< (((32 : Int32) - 16) &&& 31)) >>> (((32 : Int32) - 16) &&& 31) = v.toInt16.toInt32
    rw [show ((32 : Int32) - 16) &&& 31 = 16 by decide]
    apply Int32.toBitVec_inj.mp
    have := bv16 v.toBitVec
    simp
    rw [BitVec.signExtend_eq_setWidth_of_le v.toBitVec (show 16 ≤ 32 by decide)]
    exact this
  · show (v <<< (((32 : Int32) - 32) &&& 31)) >>> (((32 : Int32) - 32) &&& 31) = v
    rw [show ((32 : Int32) - 32) &&& 31 = 0 by decide, Int32.shiftLeft_zero, Int32.shiftRight_zero]
def nbJ (J : AI) (f : Nat → Int32) : AI := va_up J 89 f
theorem nbJ_ne (J : AI) (f : Nat → Int32) {a : Nat} (h3 : a ≠ 89) : nbJ J f a = J a := va_up_ne _ _ h3
theorem nbJ_89 (J : AI) (f : Nat → Int32) : nbJ J f 89 = f := vu_same _ _ _
theorem JE.nb {J J' : AI} (e : JE J J') (f : Nat → Int32) : JE (nbJ J f) (nbJ J' f) :=
  e.sht (fun a _ _ g3 => nbJ_ne J f g3) (fun a _ _ g3 => nbJ_ne J' f g3) (by rw [nbJ_ne _ _ (by decide), nbJ_ne _ _ (by decide)]; exact e.2.2.2.2.2.2.1) (by rw [nbJ_ne _ _ (by decide), nbJ_ne _ _ (by decide)]; exact e.2.2.2.2.2.2.2.1) (by rw [nbJ_89, nbJ_89])
theorem SpC.nb {f : AI → Nat → Int32} {v : Int32} (h : ∀ J J', JE J J' → f J = f J') : SpC (fun J => (nbJ J (f J), v)) := fun J J' e => by
  refine ⟨?_, rfl⟩
  show JE (nbJ J (f J)) (nbJ J' (f J'))
  rw [h J J' e]; exact e.nb _
theorem SpH.nb {f : AI → Nat → Int32} {v : Int32} : SpH (fun J => (nbJ J (f J), v)) := fun xs I T J h => h.2.sht (fun a g1 g2 g3 => nbJ_ne J (f J) g3)
def sp_put (J : AI) (k i v : Int32) : AI × Int32 := bif win k 0 3 then (if J 87 (cl k) = 0 then (er J 2, LO 2) else bif win i 0 (J 88 (cl k) - 1) then (nbJ J (va_up (J 89) (24 * cl k + cl i) (nar (J 87 (cl k)) v)), 1) else (er J 1, LO 1)) else (er J 1, LO 1)
theorem x_write (I : AI) (T : AT) (j : Nat) (hj : j < 4) (i : Nat) (hi : i < 24) (v : Int32) (hw : win (nI i) 0 (I (65 + 2 * j) 2 - 1) = true) : Ct 1 y_Sheet_write [.ref (65 + 2 * j), .int (nI i), .int v] (hp I T) (fun r h' => h' = hp (va_up I (66 + 2 * j) (va_up (I (66 + 2 * j)) i (nar (I (65 + 2 * j) 1) v))) T ∧ r = none) := by
  have hS := (sS_sheet T.2.2.2.2.2.2 T.2.2.2.1 hj)
  have fin : ∀ x : Int32, x = nar (I (65 + 2 * j) 1) v → Go 1 y_Sheet_write 48 [some (.ref (65 + 2 * j)), some (.int (nI i)), some (.int v)] [.int x, .int (nI i), .ref (66 + 2 * j)] (hp I T) (fun r h' => h' = hp (va_up I (66 + 2 * j) (va_up (I (66 + 2 * j)) i (nar (I (65 + 2 * j) 1) v))) T ∧ r = none) := by
    intro x hx
    refine Go.iast rfl hS.2 (am_in_nI hi (by decide)) ?_
    rw [nI_clamp (by omega), hx]
    exact Go.ret rfl ⟨rfl, rfl⟩
  iterate 3 refine Go.step rfl ?_
  refine Go.geti rfl hS.1 (Or.inl rfl) ?_
  iterate 2 refine Go.step rfl ?_
  refine Go.cal (x_within _ (nI i) 0 (I (65 + 2 * j) 2 - 1)) (by decide) rfl ?_
  rintro _ _ ⟨rfl, rfl⟩
  refine Go.step rfl ?_
  refine Go.ifz (fun c1 => ?_) (fun c1 => ?_)
  · rw [hw] at c1; cases c1
  · refine Go.step rfl ?_
    refine Go.getr rfl hS.1 rfl (sP_sheet T hj).2 ?_
    iterate 2 refine Go.step rfl ?_
    refine Go.geti rfl hS.1 (Or.inl rfl) ?_
    iterate 2 refine Go.step rfl ?_
    refine Go.ite (fun c2 => ?_) (fun c2 => ?_)
    · iterate 3 refine Go.step rfl ?_
      exact fin _ (by unfold nar; rw [if_pos c2])
    · refine Go.step rfl ?_
      refine Go.geti rfl hS.1 (Or.inl rfl) ?_
      iterate 2 refine Go.step rfl ?_
      refine Go.ite (fun c3 => ?_) (fun c3 => ?_)
      · iterate 3 refine Go.step rfl ?_
        exact fin _ (by unfold nar; rw [if_neg c2, if_pos c3])
      · refine Go.step rfl ?_
        exact fin _ (by unfold nar; rw [if_neg c2, if_neg c3])
/-- numbers of one sheet have changed -/
theorem XSht.nums {I J : AI} (h : XSht I J) {j : Nat} (hj : j < 4) {g f : Nat → Int32} (hg : ∀ i, i < 24 → g i = f (24 * j + i)) (ho : ∀ y, y < 24 * j ∨ 24 * j + 24 ≤ y → f y = J 89 y) : XSht (va_up I (66 + 2 * j) g) (nbJ J f) := by
  intro k hk
  obtain ⟨h1, h2, h3, h4, h5⟩ := h k hk
  rw [nbJ_89, nbJ_ne _ _ (show 87 ≠ 89 by decide), nbJ_ne _ _ (show 88 ≠ 89 by decide)]
  refine ⟨by rw [va_up_ne _ _ (by omega)]; exact h1, by rw [va_up_ne _ _ (by omega)]; exact h2, fun i hi => ?_, h4, h5⟩
  by_cases q : k = j
  · subst q; rw [vu_same]; exact hg i hi
  · rw [va_up_ne _ _ (by omega), ho _ (by omega)]; exact h3 i hi
theorem x_put (xs : Nat → Int32) (I : AI) (T : AT) (J : AI) (hG : XG xs I T J) (k i v : Int32) : Ct 2 y_X_put [.ref 0, .int k, .int i, .int v] (hp I T) (XP xs I T (sp_put J k i v)) := by
  have hsh := hG.2.2.2.2.2.2.1
  iterate 2 refine Go.step rfl ?_
  refine Go.cal (x_findSheet I T k) (by decide) rfl ?_
  rintro _ _ ⟨rfl, ⟨j, hj, rfl, c1, rfl⟩ | ⟨c1, rfl⟩⟩
  · have hcl : cl (nI j) = j := nI_clamp (by omega)
    have hS := (sS_sheet T.2.2.2.2.2.2 T.2.2.2.1 hj).1
    obtain ⟨h1, h2, h3, h4, h5⟩ := hsh j hj
    have esp : sp_put J (nI j) i v = if J 87 j = 0 then (er J 2, LO 2) else bif win i 0 (J 88 j - 1) then (nbJ J (va_up (J 89) (24 * j + cl i) (nar (J 87 j) v)), 1) else (er J 1, LO 1) := by rw [sp_put, c1, hcl]; rfl
    rw [esp]
    iterate 4 refine Go.step rfl ?_
    refine Go.calv (x_isMissing I T (65 + 2 * j) 3 hS) (by decide) rfl rfl hS rfl ?_
    rintro _ _ ⟨rfl, rfl⟩
    rw [h1]
    refine Go.step rfl ?_
    refine Go.ifz (fun c2 => ?_) (fun c2 => ?_)
    · rw [if_neg (of_decide_eq_false c2)]
      iterate 3 refine Go.step rfl ?_
      refine Go.geti rfl hS (Or.inl rfl) ?_
      rw [h2]
      iterate 2 refine Go.step rfl ?_
      refine Go.cal (x_within _ i 0 _) (by decide) rfl ?_
      rintro _ _ ⟨rfl, rfl⟩
      refine Go.step rfl ?_
      refine Go.ifz (fun c3 => ?_) (fun c3 => ?_)
      · iterate 2 refine Go.step rfl ?_
        exact x_err (k := 1) hG (by decide) (by decide) (by rw [c3]; rfl) rfl rfl rfl (by decide)
      · obtain ⟨y, hy, hy24, rfl⟩ := small_of_win (N := 24) (by decide) h5 c3
        iterate 3 refine Go.step rfl ?_
        refine Go.calv (x_write I T j hj y hy24 v (by rw [h2]; exact c3)) (by decide) rfl rfl hS rfl ?_
        rintro _ _ ⟨rfl, rfl⟩
        refine Go.step rfl ?_
        refine Go.ret rfl ?_
        rw [c3, h1, show cl (nI y) = y from nI_clamp (by omega)]
        refine ⟨_, rfl, fun a g1 g2 => va_up_ne _ _ (by omega), hG.sheet (fun a ha => va_up_ne _ _ (by omega)) (fun a g1 g2 g3 => nbJ_ne _ _ g3) (hsh.nums hj (fun z hz => ?_) (fun z hz => va_up_ne _ _ (by omega))), rfl⟩
        by_cases q : z = y
        · subst q; rw [vu_same, vu_same]
        · rw [va_up_ne _ _ q, va_up_ne _ _ (by omega)]; exact h3 z hz
    · rw [if_pos (of_decide_eq_true c2)]
      iterate 3 refine Go.step rfl ?_
      refine Go.step rfl ?_
      exact x_err (k := 2) hG (by decide) (by decide) rfl rfl rfl rfl (by decide)
  · iterate 3 refine Go.step rfl ?_
    iterate 5 refine Go.step rfl ?_
    exact x_err (k := 1) hG (by decide) (by decide) (by rw [sp_put, c1]; rfl) rfl rfl rfl (by decide)
theorem m_put (I : AI) (T : AT) (hb : ∀ j, j < 4 → I 87 j = 0 ∨ I 87 j = 8 ∨ I 87 j = 16 ∨ I 87 j = 32) (hr : ∀ j, j < 4 → rg (I 88 j) 24) (k i v : Int32) : Ct 2 y_M_put [.ref 73, .int k, .int i, .int v] (hp I T) (MQ2 I T (sp_put I k i v)) := by
  refine Go.step rfl ?_
  refine Go.cal (m_isSheet _ k) (by decide) rfl ?_
  rintro _ _ ⟨rfl, rfl⟩
  refine Go.step rfl ?_
  refine Go.ifz (fun c1 => ?_) (fun c1 => ?_)
  · iterate 2 refine Go.step rfl ?_
    exact m_errq (k := 1) (by decide) (by rw [sp_put, c1]; rfl) rfl rfl rfl (by decide)
  · obtain ⟨j, hj, rfl⟩ := nI_of_win (N := 3) (by decide) c1
    have hcl : cl (nI j) = j := nI_clamp (by omega)
    have hj4 : j < 4 := by omega
    have esp : sp_put I (nI j) i v = if I 87 j = 0 then (er I 2, LO 2) else bif win i 0 (I 88 j - 1) then (nbJ I (va_up (I 89) (24 * j + cl i) (nar (I 87 j) v)), 1) else (er I 1, LO 1) := by rw [sp_put, c1, hcl]; rfl
    rw [esp]
    iterate 3 refine Go.step rfl ?_
    refine Go.iald rfl rfl (am_in_nI hj4 (by decide)) ?_
    rw [nI_clamp (by omega)]
    refine Go.step rfl ?_
    refine Go.ite (fun c2 => ?_) (fun c2 => ?_)
    · rw [if_pos c2]
      iterate 2 refine Go.step rfl ?_
      exact m_errq (k := 2) (by decide) rfl rfl rfl rfl (by decide)
    · rw [if_neg c2]
      iterate 5 refine Go.step rfl ?_
      refine Go.iald rfl rfl (am_in_nI hj4 (by decide)) ?_
      rw [nI_clamp (by omega)]
      iterate 2 refine Go.step rfl ?_
      refine Go.cal (m_in _ i 0 _) (by decide) rfl ?_
      rintro _ _ ⟨rfl, rfl⟩
      refine Go.step rfl ?_
      refine Go.ifz (fun c3 => ?_) (fun c3 => ?_)
      · iterate 2 refine Go.step rfl ?_
        exact m_errq (k := 1) (by decide) (by rw [c3]; rfl) rfl rfl rfl (by decide)
      · obtain ⟨y, hy, hy24, rfl⟩ := small_of_win (N := 24) (by decide) (hr j hj4) c3
        iterate 4 refine Go.step rfl ?_
        refine Go.iald rfl rfl (am_in_nI hj4 (by decide)) ?_
        rw [nI_clamp (by omega)]
        iterate 7 refine Go.step rfl ?_
        rw [show (24 : Int32) * nI j = nI (24 * j) from nI_mul 24 j]
        iterate 2 refine Go.step rfl ?_
        rw [nI_add]
        iterate 5 refine Go.step rfl ?_
        rw [nar_eq (Or.resolve_left (hb j hj4) c2)]
        refine Go.iast rfl rfl (am_in_nI (by omega) (by decide)) ?_
        rw [nI_clamp (by omega)]
        refine Go.step rfl ?_
        refine Go.ret rfl ?_
        rw [c3, show cl (nI y) = y from nI_clamp (by omega)]
        exact ⟨_, rfl, fun a ha => va_up_ne _ _ (by omega), JE.rf _, rfl⟩
theorem XG.bits {xs : Nat → Int32} {I : AI} {T : AT} {J : AI} (h : XG xs I T J) : (∀ j, j < 4 → J 87 j = 0 ∨ J 87 j = 8 ∨ J 87 j = 16 ∨ J 87 j = 32) ∧ ∀ j, j < 4 → rg (J 88 j) 24 :=
  ⟨fun j hj => (h.2.2.2.2.2.2.1 j hj).2.2.2.1, fun j hj => (h.2.2.2.2.2.2.1 j hj).2.2.2.2⟩
theorem op_put (a b c : Int32) : OpOK y_X_put y_M_put [.int a, .int b, .int c] := by
  refine op_new (sp := fun J => sp_put J a b c) (fun xs I T J h => x_put xs I T J h a b c) (fun xs I0 T0 I T h => m_put I T h.bits.1 h.bits.2 a b c) (by decide) (by decide) ?_ ?_
  · unfold sp_put; exact SpC.bif2 (fun J J' e => rfl) (SpC.ite2 (fun J J' e => by rw [e.2.2.2.2.2.2.1]) (SpC.err 2) (SpC.bif2 (fun J J' e => by rw [e.2.2.2.2.2.2.2.1]) (SpC.nb (fun J J' e => by rw [e.2.2.2.2.2.2.1, e.2.2.2.2.2.2.2.2])) (SpC.err 1))) (SpC.err 1)
  · unfold sp_put; exact SpH.bif2 (SpH.ite2 (SpH.err 2) (SpH.bif2 SpH.nb (SpH.err 1))) (SpH.err 1)
