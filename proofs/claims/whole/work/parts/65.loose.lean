/-! PAIRS: loose -/
def zz (z : Int32) : Int32 := z * 1103515245 + 12345
def ush (z : Int32) : Int32 := (z.toUInt32 >>> ((8 : Int32).toUInt32 &&& Int32.toUInt32 31)).toInt32
def ls1 (s : Nat → Int32) : Nat → Int32 := va_up (va_up s 4 (zz (s 4))) (10 + hod s) (hel (kn s + (irm (ush (zz (s 4))) 7 - 3)) 0 40)
def lss (s : Nat → Int32) : Nat → Nat → Int32
  | 0 => s
  | k + 1 => hr (ls1 (lss s k)) 1
theorem ls1_off {s : Nat → Int32} {j : Nat} (h4 : j ≠ 4) (h : j < 10 ∨ 34 ≤ j) : ls1 s j = s j := by
  have := hod_lt s
  unfold ls1; rw [va_up_ne _ _ (by omega), va_up_ne _ _ h4]
theorem okv_wind {j : Nat} {v : Int32} (hj : j < 24) (h : rg v 40) : okv (10 + j) v := by
  refine ⟨fun q => by omega, fun q => by omega, fun q => by omega, fun q h1 h2 => by omega, fun _ _ _ => h, fun q h1 h2 => by omega, fun b hb => ⟨fun q => by omega, fun q => by omega, fun q => by omega, fun q => by omega, fun q => by omega, fun q => by omega, fun q => by omega, fun q => by omega⟩⟩
theorem hel_rg (v : Int32) (N : Nat) (hN : N < 2 ^ 31) : rg (hel v 0 (nI N)) N := by
  have := hel_in (v := v) (a := 0) (b := nI N) (nI_pos' hN)
  exact rg_of_le hN this.1 this.2
theorem ls1_ok {s : Nat → Int32} (hs : sOK s) : sOK (ls1 s) :=
  (hs.up (i := 4) (v := zz (s 4)) (by decide) (okv_free _ (by decide))).up (by omega) (okv_wind (hod_lt s) (hel_rg _ 40 (by decide)))
theorem lss_ok {s : Nat → Int32} (hs : sOK s) : ∀ k, cl (s 1) + k ≤ 11000 → sOK (lss s k) ∧ lss s k 1 = nI (cl (s 1) + k) := by
  intro k
  induction k with
  | zero => intro _; exact ⟨hs, (hs.2.1.eq (by decide)).1⟩
  | succ k ih =>
    intro h
    obtain ⟨h1, h2⟩ := ih (by omega)
    have e : cl (ls1 (lss s k) 1) = cl (s 1) + k := by rw [ls1_off (by decide) (by decide), h2]; exact nI_clamp (by omega)
    have := hr_ok (ls1_ok h1) 1 (by omega)
    rw [e] at this
    exact this
theorem lss_off {s : Nat → Int32} {j : Nat} (h : j = 0 ∨ j = 2 ∨ j = 3 ∨ 122 ≤ j) : ∀ k, lss s k j = s j := by
  intro k
  induction k with
  | zero => rfl
  | succ k ih => rw [lss, hr_off _ _ (by omega) (by omega), ls1_off (by omega) (by omega)]; exact ih
theorem lss_4 {s : Nat → Int32} (k : Nat) : lss s (k + 1) 4 = zz (lss s k 4) := by
  have := hod_lt (lss s k)
  rw [lss, hr_off _ _ (by omega) (by omega)]
  unfold ls1
  rw [va_up_ne _ _ (by omega), vu_same]
theorem XSea.wind {I : AI} {T : AT} {B i j : Nat} {s : Nat → Int32} {v : Int32} (h : XSea I T B i s) (hj : j < 24) (hB : B + 16 ≤ 91) : XSea (va_up I (B + 1) (va_up (I (B + 1)) j (10 * v + s (34 + j)))) T B i (va_up s (10 + j) v) := by
  obtain ⟨h1, h2, h3, h4, h5, h6⟩ := h
  refine ⟨by rw [va_up_ne _ _ (by omega), va_up_ne _ _ (by omega)]; exact h1, by rw [va_up_ne _ _ (by omega), va_up_ne _ _ (by omega)]; exact h2, fun k hk => ?_, fun q hq => by rw [va_up_ne _ _ (by omega), va_up_ne _ _ (by omega)]; exact h4 q hq, fun b' f' g1 g2 g3 => by rw [va_up_ne _ _ (by omega)] at g1; rw [va_up_ne _ _ (by omega), va_up_ne _ _ (by omega)]; exact h5 b' f' g1 g2 g3, fun u hu => (h6 u hu).kept (fun a ha => va_up_ne _ _ (by omega)) (fun j g1 g2 => va_up_ne _ _ (by omega)) hu⟩
  rw [vu_same, va_up_ne _ _ (show 34 + k ≠ 10 + j by omega)]
  by_cases q : k = j
  · subst q; rw [vu_same, vu_same]
  · rw [va_up_ne _ _ q, va_up_ne _ _ (by omega)]; exact h3 k hk
theorem x_loosen (I : AI) (T : AT) (s : Nat → Int32) (hs : sOK s) (hX : XSea I T 1 0 s) (w : Int32) : Ct 3 y_Sea_loosen [.ref 1, .int w] (hp I T) (fun r h' => h' = hp (va_up I 2 (va_up (I 2) (hod s) (10 * hel (kn s + w) 0 40 + wy s))) T ∧ r = none) := by
  obtain ⟨eh, hh⟩ := hs.2.1.eq (by decide)
  have hl := hod_lt s
  iterate 4 refine Go.step rfl ?_
  rw [show I 1 0 = nI (cl (s 1)) from hX.1.trans eh]
  refine Go.step rfl ?_
  refine Go.cal (j_floorMod _ (cl (s 1)) 24 (by omega) (by decide) (by decide)) (by decide) rfl ?_
  rintro _ _ ⟨rfl, rfl⟩
  iterate 2 refine Go.step rfl ?_
  refine Go.cal (x_knots_1 I T s hs hX) (by decide) rfl ?_
  rintro _ _ ⟨rfl, rfl⟩
  iterate 4 refine Go.step rfl ?_
  refine Go.cal (x_held _ _ _ _ (by decide)) (by decide) rfl ?_
  rintro _ _ ⟨rfl, rfl⟩
  iterate 2 refine Go.step rfl ?_
  refine Go.cal (x_way_1 I T s hs hX) (by decide) rfl ?_
  rintro _ _ ⟨rfl, rfl⟩
  refine Go.step rfl ?_
  refine Go.iast rfl rfl (am_in_nI hl (by decide)) ?_
  rw [show (nI (cl (s 1) % 24)).toNatClampNeg = hod s from nI_clamp (by omega)]
  exact Go.ret rfl ⟨rfl, rfl⟩
theorem x_draw (I : AI) (T : AT) : Ct 0 y_Desk_draw [.ref 49] (hp I T) (fun r h' => h' = hp (va_up I 49 (va_up (I 49) 4 (zz (I 49 4)))) T ∧ r = some (.int (ush (zz (I 49 4))))) := by
  iterate 12 refine Go.step rfl ?_
  refine Go.ret rfl ⟨rfl, ?_⟩
  rw [vu_same, vu_same]
  rfl
/-- the sea of now, the desk and the row have changed -/
theorem XG.full {xs : Nat → Int32} {I I' : AI} {T : AT} {J : AI} {s' : Nat → Int32} (h : XG xs I T J) (hI : ∀ a, a < 1 ∨ (17 ≤ a ∧ (a < 49 ∨ 51 < a)) → I' a = I a) (hs : sOK s') (hX : XSea I' T 1 0 s') (hD : XDesk I' 49 s') : XG xs I' T (sps J s') := by
  obtain ⟨h1, h2, h3, h4, h5, h6, h7, h8, h9⟩ := h
  have e74 : sps J s' 74 = s' := vu_same _ _ _
  have eJ : ∀ a, a ≠ 74 → sps J s' a = J a := fun a ha => va_up_ne _ _ ha
  refine ⟨by rw [e74]; exact hs, by rw [e74]; exact hX, by rw [e74]; exact hD, ?_, ?_, ?_, h7.kept (fun a g1 g2 => hI a (by omega)) (fun a g1 g2 => eJ a (by omega)), h8.kept (fun a g1 g2 => hI a (by omega)) (by rw [eJ 73 (by omega)]) (eJ 86 (by omega)), fun c j => by rw [hI _ (by omega)]; exact h9 c j⟩
  · rw [eJ 73 (by omega), eJ 75 (by omega)]
    intro q
    obtain ⟨k1, k2, k3⟩ := h4 q
    exact ⟨k1, k2.kept (fun a ha => hI a (by omega)), k3.kept (fun a g1 g2 => hI a (by omega))⟩
  · rw [eJ 73 (by omega), hI 0 (by omega)]; exact h5
  · intro k g1 g2
    rw [eJ 77 (by omega), hI 64 (by omega)]; exact h6 k g1 g2
def sp_loose (J : AI) (n : Int32) : AI × Int32 := bif win n 1 240 then (if J 74 1 + n ≤ 9999 then (sps J (lss (J 74) (cl n)), sm (lss (J 74) (cl n)) 5 (cl (J 74 0))) else (er J 3, LO 3)) else (er J 1, LO 1)
theorem x_loose (xs : Nat → Int32) (I : AI) (T : AT) (J : AI) (hG : XG xs I T J) (n : Int32) : Ct 6 y_X_loose [.ref 0, .int n] (hp I T) (XP xs I T (sp_loose J n)) := by
  have hs := id hG.1
  have x1 : I 1 0 = J 74 1 := hG.2.1.1
  obtain ⟨eh, hh⟩ := hs.2.1.eq (by decide)
  iterate 2 refine Go.step rfl ?_
  refine Go.cal (x_errorOfHours I T n) (by decide) rfl ?_
  rintro _ _ ⟨rfl, rfl⟩
  rw [x1]
  cases c1 : win n 1 240 with
  | false =>
    iterate 5 refine Go.step rfl ?_
    exact x_err (k := 1) hG (by decide) (by decide) (by rw [sp_loose, c1]; rfl) rfl rfl rfl (by decide)
  | true =>
    simp only [cond_true]
    by_cases c2 : J 74 1 + n ≤ 9999
    · rw [if_pos c2]
      obtain ⟨k, hk1, hk2, rfl⟩ := win_lo (a := 1) (b := 240) (by decide) (by decide) c1
      have hcl : cl (nI k) = k := nI_clamp (by omega)
      have hle := hours_le eh hh rfl hk2 c2
      have esp : sp_loose J (nI k) = (sps J (lss (J 74) k), sm (lss (J 74) k) 5 (cl (J 74 0))) := by
        rw [sp_loose, c1]
        simp only [cond_true]
        rw [if_pos c2, hcl]
      rw [esp]
      have loop : ∀ m i, i + m = k → ∀ (I' : AI) (t2 : Value), XSea I' T 1 0 (lss (J 74) i) → (∀ a, a < 1 ∨ (17 ≤ a ∧ a ≠ 49) → I' a = I a) → I' 49 = va_up (I 49) 4 (lss (J 74) i 4) → Go 6 y_X_loose 18 [some (.ref 0), some (.int (nI k)), some t2, some (.int (nI i))] [] (hp I' T) (XP xs I T (sps J (lss (J 74) k), sm (lss (J 74) k) 5 (cl (J 74 0)))) := by
        intro m
        induction m with
        | zero =>
          intro i hi I' t2 q1 q2 q3
          have : i = k := by omega
          subst this
          have hok := lss_ok hs i (by omega)
          obtain ⟨d1, d2, d3, d4, d5⟩ := hG.2.2.1
          iterate 3 refine Go.step rfl ?_
          refine Go.ifp (Int32.le_refl _) ?_
          iterate 2 refine Go.step rfl ?_
          refine Go.cal (x_owed_1 I' T _ hok.1 q1) (by decide) rfl ?_
          rintro _ _ ⟨rfl, rfl⟩
          rw [lss_off (Or.inl rfl)]
          refine Go.ret rfl ⟨I', rfl, fun a g1 g2 => q2 a (by omega), hG.full (fun a ha => q2 a (by omega)) hok.1 q1 ⟨?_, ?_, ?_, fun j hj => ?_, fun j hj => ?_⟩, rfl⟩
          · rw [q3, va_up_ne _ _ (by decide), lss_off (by omega)]; exact d1
          · rw [q3, va_up_ne _ _ (by decide), lss_off (by omega)]; exact d2
          · rw [q3, vu_same]
          · rw [lss_off (by omega)] at hj
            rw [q2 _ (by omega), lss_off (by omega)]; exact d4 j hj
          · rw [lss_off (by omega)] at hj
            rw [q2 _ (by omega), lss_off (by omega)]; exact d5 j hj
        | succ m ih =>
          intro i hi I' t2 q1 q2 q3
          have hok := lss_ok hs i (by omega)
          have hl := hod_lt (lss (J 74) i)
          iterate 3 refine Go.step rfl ?_
          refine Go.ifn (nI_ge (a := i) (b := k) (by omega) (by omega)) ?_
          iterate 4 refine Go.step rfl ?_
          refine Go.cal (x_draw I' T) (by decide) rfl ?_
          rintro _ _ ⟨rfl, rfl⟩
          rw [show I' 49 4 = lss (J 74) i 4 by rw [q3, vu_same]]
          have hX1 : XSea (va_up I' 49 (va_up (I' 49) 4 (zz (lss (J 74) i 4)))) T 1 0 (lss (J 74) i) := q1.kept (fun a ha => va_up_ne _ _ (by omega))
          iterate 4 refine Go.step rfl ?_
          refine Go.cal (x_loosen _ T _ hok.1 hX1 _) (by decide) rfl ?_
          rintro _ _ ⟨rfl, rfl⟩
          have hX2 := (XSea.wind (j := hod (lss (J 74) i)) (v := hel (kn (lss (J 74) i) + (irm (ush (zz (lss (J 74) i 4))) 7 - 3)) 0 40) (hX1.other (k := 4) (v := zz (lss (J 74) i 4)) (by omega)) hl (by decide))
          rw [va_up_ne _ _ (show 34 + hod (lss (J 74) i) ≠ 4 by omega)] at hX2
          replace hX2 : XSea (va_up (va_up I' 49 (va_up (I' 49) 4 (zz (lss (J 74) i 4)))) 2 (va_up (va_up I' 49 (va_up (I' 49) 4 (zz (lss (J 74) i 4))) 2) (hod (lss (J 74) i)) (10 * hel (kn (lss (J 74) i) + (irm (ush (zz (lss (J 74) i 4))) 7 - 3)) 0 40 + wy (lss (J 74) i)))) T 1 0 (ls1 (lss (J 74) i)) := hX2
          have e1 : cl (ls1 (lss (J 74) i) 1) = cl (J 74 1) + i := by rw [ls1_off (by decide) (by decide), hok.2]; exact nI_clamp (by omega)
          iterate 4 refine Go.step rfl ?_
          refine Go.cal (x_goBy_1 xs _ T _ (ls1_ok hok.1) hX2 (fun z y => by rw [va_up_ne _ _ (by omega), va_up_ne _ _ (by omega), q2 _ (by omega)]; exact hG.2.2.2.2.2.2.2.2 z y) true 1 (by omega)) (by decide) rfl ?_
          rintro _ _ ⟨I3, rfl, r1, r2, rfl⟩
          iterate 2 refine Go.step rfl ?_
          rw [show nI i + 1 = nI (i + 1) from nI_1 i]
          refine ih (i + 1) (by omega) I3 _ r2 (fun a ha => by rw [r1 a (by omega), va_up_ne _ _ (by omega), va_up_ne _ _ (by omega)]; exact q2 a ha) ?_
          rw [r1 49 (by omega), va_up_ne _ _ (by decide), vu_same, q3, vu_idem, lss_4]
      iterate 5 refine Go.step rfl ?_
      exact loop k 0 (by omega) I _ hG.2.1 (fun _ _ => rfl) (by rw [show lss (J 74) 0 4 = I 49 4 from hG.2.2.1.2.2.1.symm, vu_self])
    · rw [if_neg c2]
      iterate 5 refine Go.step rfl ?_
      exact x_err (k := 3) hG (by decide) (by decide) (by rw [sp_loose, c1]; simp only [cond_true]; rw [if_neg c2]) rfl rfl rfl (by decide)
theorem m_draw (I : AI) (T : AT) : Ct 0 y_M_draw [.ref 73] (hp I T) (fun r h' => h' = hp (va_up I 74 (va_up (I 74) 4 (zz (I 74 4)))) T ∧ r = some (.int (ush (zz (I 74 4))))) := by
  iterate 18 refine Go.step rfl ?_
  refine Go.ret rfl ⟨rfl, ?_⟩
  rw [vu_same, show Int32.toNatClampNeg 4 = 4 from rfl, vu_same]
  rfl
theorem m_loose (I : AI) (T : AT) (hs : sOK (I 74)) (ht0 : tOK (I 74) 0) (ht1 : tOK (I 74) 1) (n : Int32) : Ct 7 y_M_loose [.ref 73, .int n] (hp I T) (MQ2 I T (sp_loose I n)) := by
  obtain ⟨eh, hh⟩ := hs.2.1.eq (by decide)
  iterate 3 refine Go.step rfl ?_
  refine Go.cal (m_in _ n 1 240) (by decide) rfl ?_
  rintro _ _ ⟨rfl, rfl⟩
  refine Go.step rfl ?_
  refine Go.ifz (fun c1 => ?_) (fun c1 => ?_)
  · iterate 2 refine Go.step rfl ?_
    exact m_errq (k := 1) (by decide) (by rw [sp_loose, c1]; rfl) rfl rfl rfl (by decide)
  · iterate 8 refine Go.step rfl ?_
    refine Go.ite (fun c2 => ?_) (fun c2 => ?_)
    · replace c2 : I 74 1 + n ≤ 9999 := c2
      obtain ⟨k, hk1, hk2, rfl⟩ := win_lo (a := 1) (b := 240) (by decide) (by decide) c1
      have hcl : cl (nI k) = k := nI_clamp (by omega)
      have hle := hours_le eh hh rfl hk2 c2
      have esp : sp_loose I (nI k) = (sps I (lss (I 74) k), sm (lss (I 74) k) 5 (cl (I 74 0))) := by
        rw [sp_loose, c1]
        simp only [cond_true]
        rw [if_pos c2, hcl]
      rw [esp]
      have loop : ∀ m i, i + m = k → ∀ (I' : AI) (t3 : Option Value), MK I I' → I' 74 = lss (I 74) i → Go 7 y_M_loose 39 [some (.ref 73), some (.int (nI k)), some (.int (nI i)), t3] [] (hp I' T) (MQ2 I T (sps I (lss (I 74) k), sm (lss (I 74) k) 5 (cl (I 74 0)))) := by
        intro m
        induction m with
        | zero =>
          intro i hi I' t3 q1 q2
          have : i = k := by omega
          subst this
          have hok := lss_ok hs i (by omega)
          iterate 3 refine Go.step rfl ?_
          refine Go.ifp (Int32.le_refl _) ?_
          iterate 2 refine Go.step rfl ?_
          refine Go.cal (m_allOf I' T (by rw [q2]; exact hok.1) 5 (by decide)) (by decide) rfl ?_
          rintro _ _ ⟨rfl, rfl⟩
          rw [q2, lss_off (Or.inl rfl)]
          exact Go.ret rfl ⟨I', rfl, fun a ha => q1 a (by omega) (by omega), JE.row q1 q2, rfl⟩
        | succ m ih =>
          intro i hi I' t3 q1 q2
          have hok := lss_ok hs i (by omega)
          have hl := hod_lt (lss (I 74) i)
          have e1 : cl (lss (I 74) i 1) = cl (I 74 1) + i := by rw [hok.2]; exact nI_clamp (by omega)
          iterate 3 refine Go.step rfl ?_
          refine Go.ifn (nI_ge (a := i) (b := k) (by omega) (by omega)) ?_
          iterate 2 refine Go.step rfl ?_
          refine Go.cal (m_hourOfDay I' T (cl (lss (I 74) i 1)) (by rw [q2]; exact (hok.1.2.1.eq (by decide)).1) (by omega)) (by decide) rfl ?_
          rintro _ _ ⟨rfl, rfl⟩
          refine Go.step rfl ?_
          rw [show (10 : Int32) + nI (cl (lss (I 74) i 1) % 24) = nI (10 + hod (lss (I 74) i)) from nI_add 10 _]
          iterate 7 refine Go.step rfl ?_
          refine Go.iald rfl rfl (am_in_nI (by omega) (by decide)) ?_
          rw [nI_clamp (by omega), q2]
          refine Go.step rfl ?_
          refine Go.cal (m_draw I' T) (by decide) rfl ?_
          rintro _ _ ⟨rfl, rfl⟩
          rw [q2]
          iterate 7 refine Go.step rfl ?_
          refine Go.cal (m_held _ _ _ _) (by decide) rfl ?_
          rintro _ _ ⟨rfl, rfl⟩
          refine Go.iast rfl rfl (am_in_nI (by omega) (by decide)) ?_
          rw [nI_clamp (by omega), vu_same, vu_idem]
          have ev : lss (I 74) i (10 + hod (lss (I 74) i)) + irm (ush (zz (lss (I 74) i 4))) 7 - 3 = kn (lss (I 74) i) + (irm (ush (zz (lss (I 74) i 4))) 7 - 3) := by
            rw [Int32.sub_eq_add_neg, Int32.add_assoc, ← Int32.sub_eq_add_neg]; rfl
          rw [ev]
          have e74 : va_up I' 74 (ls1 (lss (I 74) i)) 74 = ls1 (lss (I 74) i) := vu_same _ _ _
          have tk : ∀ u, u < 2 → tOK (I 74) u → tOK (ls1 (lss (I 74) i)) u := fun u hu h => h.congr hu (fun j h1 h2 => by rw [ls1_off (by omega) (by omega), lss_off (by omega)])
          iterate 2 refine Go.step rfl ?_
          refine Go.cal (m_hour (va_up I' 74 (ls1 (lss (I 74) i))) T (by rw [e74]; exact ls1_ok hok.1) (by rw [e74]; exact tk 0 (by decide) ht0) (by rw [e74]; exact tk 1 (by decide) ht1) 1) (by decide) rfl ?_
          rintro _ _ ⟨I2, rfl, r1, r2, rfl⟩
          iterate 2 refine Go.step rfl ?_
          rw [show nI i + 1 = nI (i + 1) from nI_1 i]
          exact ih (i + 1) (by omega) I2 _ (fun a g1 g2 => by rw [r1 a g1 g2, va_up_ne _ _ g1]; exact q1 a g1 g2) (by rw [r2, e74]; rfl)
      iterate 2 refine Go.step rfl ?_
      exact loop k 0 (by omega) I _ (fun _ _ _ => rfl) rfl
    · replace c2 : ¬ I 74 1 + n ≤ 9999 := c2
      iterate 2 refine Go.step rfl ?_
      exact m_errq (k := 3) (by decide) (by rw [sp_loose, c1]; simp only [cond_true]; rw [if_neg c2]) rfl rfl rfl (by decide)
theorem op_loose (a : Int32) : OpOK y_X_loose y_M_loose [.int a] := by
  refine op_new (sp := fun J => sp_loose J a) (fun xs I T J h => x_loose xs I T J h a) (fun xs I0 T0 I T h => m_loose I T h.1 (h.tok (by decide)) (h.tok (by decide)) a) (by decide) (by decide) ?_ ?_
  · unfold sp_loose; exact SpC.bif2 (fun J J' e => rfl) (SpC.ite2 (fun J J' e => by rw [e.2.2.1]) (SpC.row (fun J J' e => by rw [e.2.2.1] <;> exact ⟨rfl, rfl⟩)) (SpC.err 3)) (SpC.err 1)
  · intro xs I T J hG
    show HB (sp_loose J a).1
    unfold sp_loose
    cases c1 : win a 1 240 with
    | false => exact hG.2.er1 1
    | true =>
      simp only [cond_true]
      split
      · rename_i c2
        obtain ⟨eh, hh⟩ := hG.1.1.2.1.eq (by decide)
        obtain ⟨k, hk1, hk2, rfl⟩ := win_lo (a := 1) (b := 240) (by decide) (by decide) c1
        have hcl : cl (nI k) = k := nI_clamp (by omega)
        have hle := hours_le eh hh rfl hk2 c2
        have hok := lss_ok hG.1.1 k (by omega)
        exact hG.2.spsB (by rw [hcl, hok.2]; exact rg_nI hle) (hG.2.2.2.congr (fun j hj => lss_off (by omega) _))
      · exact hG.2.er1 3
