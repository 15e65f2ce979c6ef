/-! the reference's reader -/
/-- where it is: place p, o open, k steps f -/
def MD (t : Nat → Int32) (n u : Nat) (I : AI) (p o k : Nat) (f : Nat → Int32) : Prop := I 73 5 = nI p ∧ I 73 6 = nI o ∧ I 73 7 = nI k ∧ I 73 8 = nI u ∧ I 74 2 = nI n ∧ (∀ j, j < n → I 74 (372 + j) = t j) ∧ ∀ i, i < k → (I 78 (2 * i), I 78 (2 * i + 1)) = tok u (f i)
/-- what stays -/
def MKr (I I' : AI) : Prop := (∀ a, a ≠ 73 → a ≠ 78 → I' a = I a) ∧ ∀ j, j ≠ 5 → j ≠ 6 → j ≠ 7 → I' 73 j = I 73 j
theorem MKr.rf (I : AI) : MKr I I := ⟨fun _ _ _ => rfl, fun _ _ _ _ => rfl⟩
theorem MKr.tr {I I1 I2 : AI} (h : MKr I I1) (h2 : MKr I1 I2) : MKr I I2 := ⟨fun a g1 g2 => (h2.1 a g1 g2).trans (h.1 a g1 g2), fun j g1 g2 g3 => (h2.2 j g1 g2 g3).trans (h.2 j g1 g2 g3)⟩
def ME (t : Nat → Int32) (n u o : Nat) (I : AI) (r : PR) (I' : AI) : Prop := MKr I I' ∧ (r.1 = true → MD t n u I' r.2.1 o r.2.2.1 r.2.2.2) ∧ (r.1 = false → I' 73 5 = nI r.2.1)
theorem ME.tr {t : Nat → Int32} {n u o : Nat} {I I1 I2 : AI} {r : PR} (h : MKr I I1) (h2 : ME t n u o I1 r I2) : ME t n u o I r I2 := ⟨h.tr h2.1, h2.2⟩
theorem ME.ok {t : Nat → Int32} {n u o p k : Nat} {f : Nat → Int32} {I I' : AI} (hI : MKr I I') (h : MD t n u I' p o k f) : ME t n u o I (true, p, k, f) I' := ⟨hI, fun _ => h, fun q => absurd (show true = false from q) (by decide)⟩
theorem ME.no {t : Nat → Int32} {n u o p : Nat} {x : Nat × (Nat → Int32)} {I I' : AI} (hI : MKr I I') (h : I' 73 5 = nI p) : ME t n u o I (false, p, x) I' := ⟨hI, fun q => absurd (show false = true from q) (by decide), fun _ => h⟩
theorem ME.fail {t : Nat → Int32} {n u o o' : Nat} {r : PR} {I I' : AI} (hr : r.1 = false) (h : ME t n u o I r I') : ME t n u o' I (false, r.2) I' := ⟨h.1, fun q => absurd (show false = true from q) (by decide), fun _ => h.2.2 hr⟩
def MPq (t : Nat → Int32) (n u o : Nat) (I : AI) (T : AT) (r : PR) : Option Value → AH → Prop := fun v h' => (∃ I', h' = hp I' T ∧ ME t n u o I r I') ∧ v = some (.int (bo r.1))
theorem MPq.tr {t : Nat → Int32} {n u o : Nat} {I I1 : AI} {T : AT} {r : PR} (h : MKr I I1) (v : Option Value) (h' : AH) (q : MPq t n u o I1 T r v h') : MPq t n u o I T r v h' := by
  obtain ⟨⟨I', e, hr⟩, ev⟩ := q
  exact ⟨⟨I', e, hr.tr h⟩, ev⟩
theorem m_look (t : Nat → Int32) (n : Nat) (hn : n ≤ 60) (I : AI) (T : AT) (p : Nat) (hp60 : p ≤ 60) (h5 : I 73 5 = nI p) (h2 : I 74 2 = nI n) (ht : ∀ j, j < n → I 74 (372 + j) = t j) : Ct 0 y_M_look [.ref 73] (hp I T) (fun r h' => h' = hp I T ∧ r = some (.int (lk t n p))) := by
  iterate 2 refine Go.step rfl ?_
  rw [h5]
  iterate 4 refine Go.step rfl ?_
  rw [show I 74 (2 : Int32).toNatClampNeg = nI n from h2]
  refine Go.step rfl ?_
  by_cases q : p < n
  · refine Go.ifn (nI_ge (a := p) (b := n) q (by omega)) ?_
    iterate 5 refine Go.step rfl ?_
    rw [h5]
    refine Go.step rfl ?_
    rw [show (372 : Int32) + nI p = nI (372 + p) from nI_add 372 p]
    refine Go.iald rfl rfl (am_in_nI (show 372 + p < 456 by omega) (by decide)) ?_
    rw [nI_clamp (by omega), ht p q]
    refine Go.step rfl ?_
    exact Go.ret rfl ⟨rfl, by rw [lk_at q]⟩
  · refine Go.ifp (nI_le (a := n) (b := p) (by omega) (by omega)) ?_
    refine Go.step rfl ?_
    exact Go.ret rfl ⟨rfl, by unfold lk; rw [if_neg q]⟩
theorem MD.look {t : Nat → Int32} {n u : Nat} {I : AI} {p o k : Nat} {f : Nat → Int32} (h : MD t n u I p o k f) (hn : n ≤ 60) (hp60 : p ≤ 60) (T : AT) : Ct 0 y_M_look [.ref 73] (hp I T) (fun r h' => h' = hp I T ∧ r = some (.int (lk t n p))) := m_look t n hn I T p hp60 h.1 h.2.2.2.2.1 h.2.2.2.2.2.1
theorem m_isName (I : AI) (T : AT) (u : Nat) (hu : u < 2) (h8 : I 73 8 = nI u) (b : Int32) : Ct 0 y_M_isName [.ref 73, .int b] (hp I T) (fun r h' => h' = hp I T ∧ r = some (.int (bo (nmB u b)))) := by
  iterate 2 refine Go.step rfl ?_
  rw [h8]
  refine Go.step rfl ?_
  rcases (show u = 0 ∨ u = 1 by omega) with rfl | rfl
  · refine Go.ifp rfl ?_
    iterate 3 refine Go.step rfl ?_
    refine Go.ite (fun c1 => ?_) (fun c1 => ?_)
    · iterate 2 refine Go.step rfl ?_
      exact Go.ret rfl ⟨rfl, by rw [c1]; rfl⟩
    · iterate 3 refine Go.step rfl ?_
      refine Go.ite (fun c2 => ?_) (fun c2 => ?_)
      · iterate 2 refine Go.step rfl ?_
        exact Go.ret rfl ⟨rfl, by rw [c2]; rfl⟩
      · iterate 3 refine Go.step rfl ?_
        refine Go.ite (fun c3 => ?_) (fun c3 => ?_)
        · iterate 2 refine Go.step rfl ?_
          exact Go.ret rfl ⟨rfl, by rw [c3]; rfl⟩
        · iterate 2 refine Go.step rfl ?_
          exact Go.ret rfl ⟨rfl, by unfold nmB; rw [if_pos rfl, decide_eq_false c1, decide_eq_false c2, decide_eq_false c3]; rfl⟩
  · refine Go.ifn (by decide) ?_
    iterate 3 refine Go.step rfl ?_
    refine Go.ite (fun c1 => ?_) (fun c1 => ?_)
    · iterate 2 refine Go.step rfl ?_
      exact Go.ret rfl ⟨rfl, by rw [c1]; rfl⟩
    · iterate 3 refine Go.step rfl ?_
      refine Go.ite (fun c2 => ?_) (fun c2 => ?_)
      · iterate 2 refine Go.step rfl ?_
        exact Go.ret rfl ⟨rfl, by rw [c2]; rfl⟩
      · iterate 3 refine Go.step rfl ?_
        refine Go.ite (fun c3 => ?_) (fun c3 => ?_)
        · iterate 2 refine Go.step rfl ?_
          exact Go.ret rfl ⟨rfl, by rw [c3]; rfl⟩
        · refine Go.step rfl ?_
          exact Go.ret rfl ⟨rfl, by unfold nmB; rw [if_neg (by decide), decide_eq_false c1, decide_eq_false c2, decide_eq_false c3]; rfl⟩
def laI (I : AI) (k : Nat) (x y : Int32) : AI := va_up (va_up I 78 (va_up (va_up (I 78) (2 * k) x) (2 * k + 1) y)) 73 (va_up (I 73) 7 (nI (k + 1)))
theorem m_laysT (I : AI) (T : AT) (k : Nat) (hk : k < 60) (h7 : I 73 7 = nI k) (x y : Int32) : Ct 0 y_M_lays [.ref 73, .int x, .int y] (hp I T) (fun r h' => h' = hp (laI I k x y) T ∧ r = none) := by
  iterate 5 refine Go.step rfl ?_
  rw [h7]
  iterate 2 refine Go.step rfl ?_
  rw [show (2 : Int32) * nI k = nI (2 * k) from nI_mul 2 k]
  refine Go.iast rfl rfl (am_in_nI (show 2 * k < 124 by omega) (by decide)) ?_
  rw [nI_clamp (by omega)]
  iterate 5 refine Go.step rfl ?_
  rw [va_up_ne _ _ (show 73 ≠ 78 by decide), h7]
  iterate 4 refine Go.step rfl ?_
  rw [show (2 : Int32) * nI k = nI (2 * k) from nI_mul 2 k, nI_1]
  refine Go.iast rfl rfl (am_in_nI (show 2 * k + 1 < 124 by omega) (by decide)) ?_
  rw [nI_clamp (by omega)]
  iterate 6 refine Go.step rfl ?_
  refine Go.ret rfl ⟨?_, rfl⟩
  rw [va_up_ne _ _ (show 73 ≠ 78 by decide), va_up_ne _ _ (show 73 ≠ 78 by decide), h7, nI_1, vu_same, vu_idem]
  rfl
theorem m_opens (I : AI) (T : AT) (p o : Nat) (ho : o ≤ 5) (h5 : I 73 5 = nI p) (h6 : I 73 6 = nI o) : Ct 0 y_M_opens [.ref 73] (hp I T) (fun r h' => (o = 5 ∧ h' = hp I T ∧ r = some (.int (bo false))) ∨ (o < 5 ∧ h' = hp (va_up I 73 (va_up (va_up (I 73) 6 (nI (o + 1))) 5 (nI (p + 1)))) T ∧ r = some (.int (bo true)))) := by
  iterate 2 refine Go.step rfl ?_
  rw [h6]
  iterate 2 refine Go.step rfl ?_
  by_cases q : o = 5
  · refine Go.ifp (by rw [q]; rfl) ?_
    refine Go.step rfl ?_
    exact Go.ret rfl (Or.inl ⟨q, rfl, rfl⟩)
  · refine Go.ifn (fun z => q ((nI_eq (a := o) (b := 5) (by omega) (by decide)).mp z)) ?_
    iterate 3 refine Go.step rfl ?_
    rw [h6]
    iterate 10 refine Go.step rfl ?_
    refine Go.ret rfl (Or.inr ⟨by omega, ?_, rfl⟩)
    rw [vu_same, vu_idem, va_up_ne _ _ (show 5 ≠ 6 by decide), h5, nI_1, nI_1]
    rfl
/-- a step on -/
def plI (I : AI) (p : Nat) : AI := va_up I 73 (va_up (I 73) 5 (nI p))
def opI (I : AI) (o : Nat) : AI := va_up I 73 (va_up (I 73) 6 (nI o))
theorem MKr.at (I : AI) {j : Nat} {v : Int32} (hj : j = 5 ∨ j = 6 ∨ j = 7) : MKr I (va_up I 73 (va_up (I 73) j v)) :=
  ⟨fun a g1 _ => va_up_ne _ _ g1, fun i g1 g2 g3 => by rw [vu_same]; exact va_up_ne _ _ (by omega)⟩
theorem MKr.pl (I : AI) (p : Nat) : MKr I (plI I p) := MKr.at I (by omega)
theorem MKr.op (I : AI) (o : Nat) : MKr I (opI I o) := MKr.at I (by omega)
theorem MKr.la (I : AI) (k : Nat) (x y : Int32) : MKr I (laI I k x y) := by
  unfold laI
  exact ⟨fun a g1 g2 => by rw [va_up_ne _ _ g1, va_up_ne _ _ g2], fun j g1 g2 g3 => by rw [vu_same, va_up_ne _ _ g3]⟩
theorem MD.pl {t : Nat → Int32} {n u : Nat} {I : AI} {p o k : Nat} {f : Nat → Int32} (h : MD t n u I p o k f) (p' : Nat) : MD t n u (plI I p') p' o k f := by
  obtain ⟨h1, h2, h3, h4, h5, h6, h7⟩ := h
  unfold plI
  have q : ∀ a, a ≠ 73 → va_up I 73 (va_up (I 73) 5 (nI p')) a = I a := fun a ha => va_up_ne _ _ ha
  exact ⟨by rw [vu_same, vu_same], by rw [vu_same, va_up_ne _ _ (by decide)]; exact h2, by rw [vu_same, va_up_ne _ _ (by decide)]; exact h3, by rw [vu_same, va_up_ne _ _ (by decide)]; exact h4, by rw [q 74 (by decide)]; exact h5, fun j hj => by rw [q 74 (by decide)]; exact h6 j hj, fun i hi => by rw [q 78 (by decide)]; exact h7 i hi⟩
theorem MD.op {t : Nat → Int32} {n u : Nat} {I : AI} {p o k : Nat} {f : Nat → Int32} (h : MD t n u I p o k f) (o' : Nat) : MD t n u (opI I o') p o' k f := by
  obtain ⟨h1, h2, h3, h4, h5, h6, h7⟩ := h
  unfold opI
  have q : ∀ a, a ≠ 73 → va_up I 73 (va_up (I 73) 6 (nI o')) a = I a := fun a ha => va_up_ne _ _ ha
  exact ⟨by rw [vu_same, va_up_ne _ _ (by decide)]; exact h1, by rw [vu_same, vu_same], by rw [vu_same, va_up_ne _ _ (by decide)]; exact h3, by rw [vu_same, va_up_ne _ _ (by decide)]; exact h4, by rw [q 74 (by decide)]; exact h5, fun j hj => by rw [q 74 (by decide)]; exact h6 j hj, fun i hi => by rw [q 78 (by decide)]; exact h7 i hi⟩
theorem MD.la {t : Nat → Int32} {n u : Nat} {I : AI} {p o k : Nat} {f : Nat → Int32} (h : MD t n u I p o k f) {w x y : Int32} (hw : tok u w = (x, y)) : MD t n u (laI I k x y) p o (k + 1) (va_up f k w) := by
  obtain ⟨h1, h2, h3, h4, h5, h6, h7⟩ := h
  have q : ∀ a, a ≠ 73 → a ≠ 78 → laI I k x y a = I a := (MKr.la I k x y).1
  have q3 : ∀ j, j ≠ 7 → laI I k x y 73 j = I 73 j := fun j hj => by unfold laI; rw [vu_same, va_up_ne _ _ hj]
  have q8 : laI I k x y 78 = va_up (va_up (I 78) (2 * k) x) (2 * k + 1) y := by unfold laI; rw [va_up_ne _ _ (by decide), vu_same]
  refine ⟨by rw [q3 5 (by decide)]; exact h1, by rw [q3 6 (by decide)]; exact h2, by unfold laI; rw [vu_same, vu_same], by rw [q3 8 (by decide)]; exact h4, by rw [q 74 (by decide) (by decide)]; exact h5, fun j hj => by rw [q 74 (by decide) (by decide)]; exact h6 j hj, fun i hi => ?_⟩
  rw [q8]
  by_cases e : i = k
  · subst e
    rw [vu_same, vu_same, va_up_ne _ _ (by omega), vu_same]; exact hw.symm
  · rw [va_up_ne _ _ (by omega), va_up_ne _ _ (by omega), va_up_ne _ _ (by omega), va_up_ne _ _ (by omega), va_up_ne _ _ e]
    exact h7 i (by omega)
theorem tok_nm {u : Nat} (hu : u < 2) {b : Int32} (h : nmB u b = true) : tok u (nmW b) = (1, b) := by
  rcases (show u = 0 ∨ u = 1 by omega) with rfl | rfl
  · unfold nmB at h
    rw [if_pos rfl] at h
    simp only [Bool.or_eq_true, decide_eq_true_eq] at h
    rcases h with (h | h) | h <;> subst h <;> decide
  · unfold nmB at h
    rw [if_neg (by decide)] at h
    simp only [Bool.or_eq_true, decide_eq_true_eq] at h
    rcases h with (h | h) | h <;> subst h <;> decide
theorem tok_sg {u lv : Nat} {b : Int32} (h : sgB lv b = true) : tok u (20000 + b) = (3, b) := by
  rcases sg_or h with q | q | q | q | q | q | q | q | q | q <;> subst q <;> rfl
theorem tok_nr {u : Nat} {w : Nat} (h : w < 10000) : tok u (nI w) = (0, nI w) := by
  unfold tok
  rw [if_pos (show nI w < 10000 from nI_lt (a := w) (b := 10000) h (by decide))]
theorem nm_dg {u : Nat} {b : Int32} (h : nmB u b = true) : dgB b = false := by
  rcases nm_or h with q | q | q | q | q | q <;> subst q <;> decide
