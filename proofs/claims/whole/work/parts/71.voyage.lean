/-! PAIRS: voyage -/
def hw (s : Nat → Int32) (h : Nat) : Nat := (cl (s 1) + h) % 24
theorem hw_lt (s : Nat → Int32) (h : Nat) : hw s h < 24 := Nat.mod_lt _ (by decide)
def cst (s : Nat → Int32) (h c w : Nat) : Nat := if 6 ≤ cl (s (10 + hw s h)) ∧ ¬ cl (s (34 + hw s h)) = w then min 2 (3 * cl (s (5 + c / 6))) else 2
theorem cst_le (s : Nat → Int32) (h c w : Nat) : cst s h c w ≤ 2 := by unfold cst; split <;> omega
/-- ways taken one by one; 1000 stands for what can't be reached -/
def stE (s : Nat → Int32) (h : Nat) (D : Nat → Nat) : Nat → Nat → Nat
  | 0 => D
  | i + 1 => if ¬ bes (i / 4) (i % 4) = -1 ∧ D (i / 4) < 1000 then va_up (stE s h D i) (cl (bes (i / 4) (i % 4))) (min (stE s h D i (cl (bes (i / 4) (i % 4)))) (D (i / 4) + cst s h (i / 4) (i % 4))) else stE s h D i
def vD (s : Nat → Int32) (f : Nat) : Nat → Nat → Nat
  | 0 => fun c => if c = f then 0 else 1000
  | h + 1 => stE s h (vD s f h) 96
/-- coins that are so many, or none -/
def cOK (D : Nat → Nat) (b : Nat) : Prop := ∀ c, D c = 1000 ∨ D c ≤ b
theorem stE_ok {s : Nat → Int32} {h : Nat} {D : Nat → Nat} {b : Nat} (hD : cOK D b) : ∀ i, cOK (stE s h D i) (b + 2) := by
  intro i
  induction i with
  | zero => intro c; rcases hD c with q | q
            · exact Or.inl q
            · exact Or.inr (by show D c ≤ b + 2; omega)
  | succ i ih =>
    intro c
    rw [stE]
    split
    · rename_i q
      by_cases z : c = cl (bes (i / 4) (i % 4))
      · rw [← z, vu_same]
        have h1 := cst_le s h (i / 4) (i % 4)
        have h2 := hD (i / 4)
        right
        omega
      · rw [va_up_ne _ _ z]; exact ih c
    · exact ih c
theorem vD_ok (s : Nat → Int32) (f : Nat) : ∀ h, cOK (vD s f h) (2 * h) := by
  intro h
  induction h with
  | zero =>
    intro c
    show (if c = f then 0 else 1000) = 1000 ∨ (if c = f then 0 else 1000) ≤ 0
    split
    · exact Or.inr (Nat.le_refl 0)
    · exact Or.inl rfl
  | succ h ih => exact stE_ok ih 96
theorem stE_skip {s : Nat → Int32} {h : Nat} {D : Nat → Nat} {c : Nat} (hc : ¬ D c < 1000) : stE s h D (4 * c + 4) = stE s h D (4 * c) := by
  have e : ∀ w, w < 4 → stE s h D (4 * c + w + 1) = stE s h D (4 * c + w) := by
    intro w hw
    rw [stE, if_neg (fun q => hc (by have := q.2; rw [show (4 * c + w) / 4 = c by omega] at this; exact this))]
  rw [show 4 * c + 4 = 4 * c + 3 + 1 from rfl, e 3 (by decide), show 4 * c + 3 = 4 * c + 2 + 1 from rfl, e 2 (by decide), show 4 * c + 2 = 4 * c + 1 + 1 from rfl, e 1 (by decide), show 4 * c + 1 = 4 * c + 0 + 1 from rfl, e 0 (by decide)]
  rfl
def fz (F : Int32) (x : Nat) : Int32 := if x = 1000 then F else nI x
theorem fz_far {F : Int32} {x : Nat} (h : x = 1000) : fz F x = F := if_pos h
theorem fz_near {F : Int32} {x : Nat} (h : ¬ x = 1000) : fz F x = nI x := if_neg h
theorem fz_min {F : Int32} {N x v : Nat} (hF : F = nI N) (hN : 1000 < N) (hN2 : N < 2 ^ 31) (hx : x = 1000 ∨ x ≤ 100) (hv : v ≤ 100) : (nI v < fz F x ↔ v < x) ∧ fz F (min x v) = if v < x then nI v else fz F x := by
  have h1 : nI v < fz F x ↔ v < x := by
    rcases hx with rfl | hx
    · rw [fz_far rfl, hF, nI_ltI (by omega) hN2]; omega
    · rw [fz_near (by omega), nI_ltI (by omega) (by omega)]
  refine ⟨h1, ?_⟩
  by_cases q : v < x
  · rw [if_pos q, show min x v = v by omega, fz_near (by omega)]
  · rw [if_neg q, show min x v = x by omega]
theorem bes_nI {c w : Nat} (hc : c < 24) (h : ¬ bes c w = -1) : bes c w = nI (cl (bes c w)) ∧ cl (bes c w) < 24 := by
  rcases bes_rg (c := c) (h := w) hc with q | ⟨q, -⟩
  · exact absurd q h
  · have := q.eq (by decide)
    exact ⟨this.1, by omega⟩
theorem x_leave (I : AI) (T : AT) (s : Nat → Int32) (hs : sOK s) (h : Nat) (D : Nat → Nat) (b : Nat) (hb : b ≤ 90) (hD : cOK D b) (c : Nat) (hc : c < 24) (hDc : D c < 1000) (k1 : ∀ y, y < 24 → I 59 y = fz 1000000 (D y)) (k2 : ∀ y, y < 24 → I 60 y = fz 1000000 (stE s h D (4 * c) y)) : Ct 2 y_Voyage_leave [.ref 58, .int (nI c), .int (s (5 + c / 6)), .int (10 * s (10 + hw s h) + s (34 + hw s h))] (hp I T) (fun r h' => ∃ I', h' = hp I' T ∧ (∀ a, a ≠ 60 → I' a = I a) ∧ (∀ y, y < 24 → I' 60 y = fz 1000000 (stE s h D (4 * c + 4) y)) ∧ r = none) := by
  obtain ⟨eP, hP⟩ := (hs.2.2.2.2.1 (c / 6) (by omega)).eq (by decide)
  obtain ⟨eK, hK⟩ := (hs.2.2.2.2.2.1 _ (hw_lt s h)).eq (by decide)
  obtain ⟨eW, hW⟩ := (hs.2.2.2.2.2.2.1 _ (hw_lt s h)).eq (by decide)
  have hDb : D c ≤ b := by rcases hD c with q | q <;> omega
  have loop : ∀ m w, w + m = 4 → ∀ (I' : AI) (t5 t6 t7 : Option Value), (∀ a, a ≠ 60 → I' a = I a) → (∀ y, y < 24 → I' 60 y = fz 1000000 (stE s h D (4 * c + w) y)) → Go 2 y_Voyage_leave 3 [some (.ref 58), some (.int (nI c)), some (.int (s (5 + c / 6))), some (.int (10 * s (10 + hw s h) + s (34 + hw s h))), some (.int (nI w)), t5, t6, t7] [] (hp I' T) (fun r h' => ∃ I', h' = hp I' T ∧ (∀ a, a ≠ 60 → I' a = I a) ∧ (∀ y, y < 24 → I' 60 y = fz 1000000 (stE s h D (4 * c + 4) y)) ∧ r = none) := by
    intro m
    induction m with
    | zero =>
      intro w hw' I' t5 t6 t7 q1 q2
      have : w = 4 := by omega
      subst this
      iterate 3 refine Go.step rfl ?_
      refine Go.ifp (nI_lt (a := 3) (b := 4) (by decide) (by decide)) ?_
      exact Go.ret rfl ⟨I', rfl, q1, q2, rfl⟩
    | succ m ih =>
      intro w hw' I' t5 t6 t7 q1 q2
      have e4 : (4 * c + w) / 4 = c := by omega
      have e5 : (4 * c + w) % 4 = w := by omega
      have hcs := cst_le s h c w
      have last : ∀ (t6 : Option Value), Go 2 y_Voyage_leave 58 [some (.ref 58), some (.int (nI c)), some (.int (s (5 + c / 6))), some (.int (10 * s (10 + hw s h) + s (34 + hw s h))), some (.int (nI w)), some (.int (bes c w)), t6, t7] [.int (nI (cst s h c w))] (hp I' T) (fun r h' => ∃ I', h' = hp I' T ∧ (∀ a, a ≠ 60 → I' a = I a) ∧ (∀ y, y < 24 → I' 60 y = fz 1000000 (stE s h D (4 * c + 4) y)) ∧ r = none) := by
        intro t6
        iterate 4 refine Go.step rfl ?_
        refine Go.cal (x_within _ (bes c w) 0 23) (by decide) rfl ?_
        rintro _ _ ⟨rfl, rfl⟩
        refine Go.step rfl ?_
        refine Go.ifz (fun c1 => ?_) (fun c1 => ?_)
        · have hno : bes c w = -1 := by
            rcases bes_rg (c := c) (h := w) hc with q | ⟨q, -⟩
            · exact q
            · obtain ⟨y, hy, ey⟩ := q
              rw [ey, show win (nI y) 0 23 = true from win_of_le (N := 23) hy (by decide)] at c1
              cases c1
          iterate 2 refine Go.step rfl ?_
          rw [show nI w + 1 = nI (w + 1) from nI_1 w]
          refine ih (w + 1) (by omega) I' _ _ _ q1 (fun y hy => ?_)
          rw [← Nat.add_assoc, stE, e4, e5, if_neg (fun q => q.1 hno)]
          exact q2 y hy
        · have hyes : ¬ bes c w = -1 := by
            intro q
            rw [q] at c1
            exact absurd c1 (by decide)
          obtain ⟨eB, hB⟩ := bes_nI hc hyes
          have eS : stE s h D (4 * c + w + 1) = va_up (stE s h D (4 * c + w)) (cl (bes c w)) (min (stE s h D (4 * c + w) (cl (bes c w))) (D c + cst s h c w)) := by rw [stE, e4, e5, if_pos ⟨hyes, hDc⟩]
          have hx := stE_ok (s := s) (h := h) hD (4 * c + w) (cl (bes c w))
          have hm := fz_min (F := 1000000) (N := 1000000) (x := stE s h D (4 * c + w) (cl (bes c w))) (v := D c + cst s h c w) rfl (by decide) (by decide) (by omega) (by omega)
          rw [eB]
          iterate 6 refine Go.step rfl ?_
          refine Go.iald rfl rfl (am_in_nI hB (by decide)) ?_
          rw [nI_clamp (by omega), q2 _ hB]
          iterate 3 refine Go.step rfl ?_
          refine Go.iald rfl rfl (am_in_nI hc (by decide)) ?_
          rw [nI_clamp (by omega), q1 59 (by decide), k1 c hc, fz_near (show ¬ D c = 1000 by omega)]
          iterate 2 refine Go.step rfl ?_
          rw [nI_add]
          refine Go.cal (j_min _ _ _) (by decide) rfl ?_
          rintro _ _ ⟨rfl, rfl⟩
          refine Go.iast rfl rfl (am_in_nI hB (by decide)) ?_
          rw [nI_clamp (by omega)]
          iterate 2 refine Go.step rfl ?_
          rw [show nI w + 1 = nI (w + 1) from nI_1 w]
          refine ih (w + 1) (by omega) _ _ _ _ (fun a ha => by rw [va_up_ne _ _ ha]; exact q1 a ha) (fun y hy => ?_)
          rw [vu_same, ← Nat.add_assoc, eS]
          by_cases z : y = cl (bes c w)
          · rw [z, vu_same, vu_same, hm.2]
            by_cases zz : D c + cst s h c w < stE s h D (4 * c + w) (cl (bes c w))
            · rw [if_pos zz, if_pos (hm.1.mpr zz)]
            · rw [if_neg zz, if_neg (fun x => zz (hm.1.mp x))]
          · rw [va_up_ne _ _ z, va_up_ne _ _ z]; exact q2 y hy
      iterate 3 refine Go.step rfl ?_
      refine Go.ifn (nI_nlt (a := 3) (b := w) (by omega) (by decide)) ?_
      iterate 2 refine Go.step rfl ?_
      refine Go.cal (x_cellBeside _ c w hc (by omega)) (by decide) rfl ?_
      rintro _ _ ⟨rfl, rfl⟩
      iterate 4 refine Go.step rfl ?_
      rw [kw_div hs (hw_lt s h), eK]
      iterate 2 refine Go.step rfl ?_
      have cheap : ∀ t6 : Option Value, ¬ (6 ≤ cl (s (10 + hw s h)) ∧ ¬ cl (s (34 + hw s h)) = w) → Go 2 y_Voyage_leave 57 [some (.ref 58), some (.int (nI c)), some (.int (s (5 + c / 6))), some (.int (10 * s (10 + hw s h) + s (34 + hw s h))), some (.int (nI w)), some (.int (bes c w)), t6, t7] [] (hp I' T) (fun r h' => ∃ I', h' = hp I' T ∧ (∀ a, a ≠ 60 → I' a = I a) ∧ (∀ y, y < 24 → I' 60 y = fz 1000000 (stE s h D (4 * c + 4) y)) ∧ r = none) := by
        intro t6 hq
        have := last t6
        rw [show cst s h c w = 2 by unfold cst; rw [if_neg hq]] at this
        refine Go.step rfl ?_
        exact this
      by_cases g6 : 6 ≤ cl (s (10 + hw s h))
      · refine Go.ifn (nI_nlt (a := cl (s (10 + hw s h))) (b := 6) g6 (by omega)) ?_
        rw [← eK]
        iterate 4 refine Go.step rfl ?_
        rw [kw_rem hs (hw_lt s h), eW]
        refine Go.step rfl ?_
        by_cases gw : cl (s (34 + hw s h)) = w
        · refine Go.ifp (by rw [gw]) ?_
          rw [← eW]
          iterate 4 refine Go.step rfl ?_
          exact cheap _ (fun q => q.2 gw)
        · refine Go.ifn (fun q => gw ((nI_eq (by omega) (by omega)).mp q.symm)) ?_
          rw [← eW]
          iterate 5 refine Go.step rfl ?_
          iterate 4 refine Go.step rfl ?_
          rw [eP, show (3 : Int32) * nI (cl (s (5 + c / 6))) = nI (3 * cl (s (5 + c / 6))) from nI_mul 3 _]
          refine Go.cal (j_min _ _ _) (by decide) rfl ?_
          rintro _ _ ⟨rfl, rfl⟩
          refine Go.step rfl ?_
          have la := last (some (.int 1))
          have ec : (if nI (3 * cl (s (5 + c / 6))) < 2 then nI (3 * cl (s (5 + c / 6))) else 2) = nI (cst s h c w) := by
            have e1 : cst s h c w = min 2 (3 * cl (s (5 + c / 6))) := by unfold cst; rw [if_pos ⟨g6, gw⟩]
            have e2 : nI (3 * cl (s (5 + c / 6))) < 2 ↔ 3 * cl (s (5 + c / 6)) < 2 := nI_ltI (b := 2) (by omega) (by decide)
            rw [e1]
            by_cases q : 3 * cl (s (5 + c / 6)) < 2
            · rw [if_pos (e2.mpr q), show min 2 (3 * cl (s (5 + c / 6))) = 3 * cl (s (5 + c / 6)) by omega]
            · rw [if_neg (fun x => q (e2.mp x)), show min 2 (3 * cl (s (5 + c / 6))) = 2 by omega]; rfl
          rw [ec, ← eP]
          exact la
      · refine Go.ifp (nI_lt (a := cl (s (10 + hw s h))) (b := 6) (by omega) (by decide)) ?_
        rw [← eK]
        iterate 4 refine Go.step rfl ?_
        exact cheap _ (fun q => g6 q.1)
  iterate 2 refine Go.step rfl ?_
  exact loop 4 0 (by decide) I _ _ _ (fun _ _ => rfl) k2
theorem x_fewest (I : AI) (T : AT) (s : Nat → Int32) (hs : sOK s) (hX : XSea I T 1 0 s) (f t n : Nat) (hf : f < 24) (ht : t < 24) (hn : n ≤ 24) : Ct 3 y_Voyage_fewest [.ref 58, .ref 1, .int (nI f), .int (nI t), .int (nI n)] (hp I T) (fun r h' => ∃ I', h' = hp I' T ∧ (∀ a, a ≠ 59 → a ≠ 60 → I' a = I a) ∧ r = some (.int (fz 1000000 (vD s f n t)))) := by
  have hXk : ∀ I' : AI, (∀ a, a ≠ 59 → a ≠ 60 → I' a = I a) → XSea I' T 1 0 s := fun I' q => hX.kept (fun a ha => q a (by omega) (by omega))
  have hours : ∀ m h, h + m = n → ∀ (I' : AI) (t6 : Option Value), (∀ a, a ≠ 59 → a ≠ 60 → I' a = I a) → (∀ y, y < 24 → I' 59 y = fz 1000000 (vD s f h y)) → Go 3 y_Voyage_fewest 42 [some (.ref 58), some (.ref 1), some (.int (nI f)), some (.int (nI t)), some (.int (nI n)), some (.int (nI h)), t6] [] (hp I' T) (fun r h' => ∃ I', h' = hp I' T ∧ (∀ a, a ≠ 59 → a ≠ 60 → I' a = I a) ∧ r = some (.int (fz 1000000 (vD s f n t)))) := by
    intro m
    induction m with
    | zero =>
      intro h hh I' t6 q1 q2
      have : h = n := by omega
      subst this
      iterate 3 refine Go.step rfl ?_
      refine Go.ifp (Int32.le_refl _) ?_
      iterate 3 refine Go.step rfl ?_
      refine Go.iald rfl rfl (am_in_nI ht (by decide)) ?_
      rw [nI_clamp (by omega), q2 t ht]
      exact Go.ret rfl ⟨I', rfl, q1, rfl⟩
    | succ m ih =>
      intro h hh I' t6 q1 q2
      have hD := vD_ok s f h
      have cells : ∀ d c, c + d = 24 → ∀ I2 : AI, (∀ a, a ≠ 59 → a ≠ 60 → I2 a = I a) → (∀ y, y < 24 → I2 59 y = fz 1000000 (vD s f h y)) → (∀ y, y < 24 → I2 60 y = fz 1000000 (stE s h (vD s f h) (4 * c) y)) → Go 3 y_Voyage_fewest 67 [some (.ref 58), some (.ref 1), some (.int (nI f)), some (.int (nI t)), some (.int (nI n)), some (.int (nI h)), some (.int (nI c))] [] (hp I2 T) (fun r h' => ∃ I', h' = hp I' T ∧ (∀ a, a ≠ 59 → a ≠ 60 → I' a = I a) ∧ r = some (.int (fz 1000000 (vD s f n t)))) := by
        intro d
        induction d with
        | zero =>
          intro c hc I2 r1 r2 r3
          have : c = 24 := by omega
          subst this
          iterate 3 refine Go.step rfl ?_
          refine Go.ifp (Int32.le_refl _) ?_
          iterate 10 refine Go.step rfl ?_
          rw [show nI h + 1 = nI (h + 1) from nI_1 h]
          refine ih (h + 1) (by omega) _ _ (fun a g1 g2 => by rw [va_up_ne _ _ g1]; exact r1 a g1 g2) (fun y hy => ?_)
          rw [vu_same]
          show (if 0 ≤ y ∧ y < 0 + 24 then I2 60 (0 + (y - 0)) else _) = _
          rw [if_pos ⟨by omega, by omega⟩, show 0 + (y - 0) = y by omega]
          exact r3 y hy
        | succ d ihd =>
          intro c hc I2 r1 r2 r3
          have next : ∀ I3 : AI, (∀ a, a ≠ 59 → a ≠ 60 → I3 a = I a) → (∀ y, y < 24 → I3 59 y = fz 1000000 (vD s f h y)) → (∀ y, y < 24 → I3 60 y = fz 1000000 (stE s h (vD s f h) (4 * c + 4) y)) → Go 3 y_Voyage_fewest 104 [some (.ref 58), some (.ref 1), some (.int (nI f)), some (.int (nI t)), some (.int (nI n)), some (.int (nI h)), some (.int (nI c))] [] (hp I3 T) (fun r h' => ∃ I', h' = hp I' T ∧ (∀ a, a ≠ 59 → a ≠ 60 → I' a = I a) ∧ r = some (.int (fz 1000000 (vD s f n t)))) := by
            intro I3 z1 z2 z3
            iterate 2 refine Go.step rfl ?_
            rw [show nI c + 1 = nI (c + 1) from nI_1 c]
            exact ihd (c + 1) (by omega) I3 z1 z2 (by rw [show 4 * (c + 1) = 4 * c + 4 by omega]; exact z3)
          iterate 3 refine Go.step rfl ?_
          refine Go.ifn (nI_ge (a := c) (b := 24) (by omega) (by decide)) ?_
          iterate 3 refine Go.step rfl ?_
          refine Go.iald rfl rfl (am_in_nI (show c < 24 by omega) (by decide)) ?_
          rw [nI_clamp (by omega), r2 c (by omega)]
          iterate 2 refine Go.step rfl ?_
          have hDc := hD c
          by_cases q : vD s f h c = 1000
          · refine Go.ifp (by rw [fz_far q]; exact Int32.le_refl _) ?_
            exact next I2 r1 r2 (by rw [stE_skip (by omega)]; exact r3)
          · refine Go.ifn (by rw [fz_near q]; exact nI_ge (a := vD s f h c) (b := 1000000) (by omega) (by decide)) ?_
            iterate 4 refine Go.step rfl ?_
            refine Go.cal (x_priceIn_1 I2 T s (hXk I2 r1) c (by omega)) (by decide) rfl ?_
            rintro _ _ ⟨rfl, rfl⟩
            iterate 2 refine Go.step rfl ?_
            refine Go.cal (x_windLater_1 I2 T s hs (hXk I2 r1) h (by omega)) (by decide) rfl ?_
            rintro _ _ ⟨rfl, rfl⟩
            refine Go.cal (x_leave I2 T s hs h (vD s f h) (2 * h) (by omega) hD c (by omega) (by omega) r2 r3) (by decide) rfl ?_
            rintro _ _ ⟨I3, rfl, z1, z2, rfl⟩
            exact next I3 (fun a g1 g2 => by rw [z1 a g2]; exact r1 a g1 g2) (fun y hy => by rw [z1 59 (by decide)]; exact r2 y hy) z2
      iterate 3 refine Go.step rfl ?_
      refine Go.ifn (nI_ge (a := h) (b := n) (by omega) (by omega)) ?_
      iterate 10 refine Go.step rfl ?_
      refine cells 24 0 (by decide) _ (fun a g1 g2 => by rw [va_up_ne _ _ g2]; exact q1 a g1 g2) (fun y hy => by rw [va_up_ne _ _ (by decide)]; exact q2 y hy) (fun y hy => ?_)
      rw [vu_same]
      show (if 0 ≤ y ∧ y < 0 + 24 then I' 59 (0 + (y - 0)) else _) = _
      rw [if_pos ⟨by omega, by omega⟩, show 0 + (y - 0) = y by omega]
      exact q2 y hy
  iterate 3 refine Go.step rfl ?_
  refine Go.cal (x_within _ (nI f) 0 23) (by decide) rfl ?_
  rintro _ _ ⟨rfl, rfl⟩
  refine Go.step rfl ?_
  have wf : win (nI f) 0 23 = true := win_of_le (N := 23) (by omega) (by decide)
  have wt : win (nI t) 0 23 = true := win_of_le (N := 23) (by omega) (by decide)
  refine Go.ifz (fun c1 => by rw [wf] at c1; cases c1) (fun c1 => ?_)
  iterate 3 refine Go.step rfl ?_
  refine Go.cal (x_within _ (nI t) 0 23) (by decide) rfl ?_
  rintro _ _ ⟨rfl, rfl⟩
  refine Go.step rfl ?_
  refine Go.ifz (fun c2 => by rw [wt] at c2; cases c2) (fun c2 => ?_)
  iterate 3 refine Go.step rfl ?_
  refine Go.cal (j_fill _ _ _ _ _ 59 24 1000000 rfl (by decide)) (by decide) rfl ?_
  rintro _ _ ⟨rfl, rfl⟩
  iterate 4 refine Go.step rfl ?_
  refine Go.iast rfl rfl (am_in_nI hf (by decide)) ?_
  rw [nI_clamp (by omega), vu_same, vu_idem]
  iterate 2 refine Go.step rfl ?_
  refine hours n 0 (by omega) _ _ (fun a g1 g2 => va_up_ne _ _ g1) (fun y hy => ?_)
  rw [vu_same]
  by_cases q : y = f
  · subst q
    rw [vu_same]
    show 0 = fz 1000000 (if y = y then 0 else 1000)
    rw [if_pos rfl, fz_near (by decide)]; rfl
  · rw [va_up_ne _ _ q, cpy_at hy]
    show 1000000 = fz 1000000 (if y = f then 0 else 1000)
    rw [if_neg q, fz_far rfl]
def sp_voyage (J : AI) (f t n : Int32) : AI × Int32 := bif win f 0 23 && win t 0 23 && win n 0 24 then (if vD (J 74) (cl f) (cl n) (cl t) = 1000 then (er J 2, LO 2) else (J, nI (vD (J 74) (cl f) (cl n) (cl t)))) else (er J 1, LO 1)
/-- only the voyage's rows have changed -/
theorem XG.route {xs : Nat → Int32} {I I' : AI} {T : AT} {J : AI} (h : XG xs I T J) (hI : ∀ a, a ≠ 59 → a ≠ 60 → I' a = I a) : XG xs I' T J := by
  obtain ⟨h1, h2, h3, h4, h5, h6, h7, h8, h9⟩ := h
  exact ⟨h1, h2.kept (fun a ha => hI a (by omega) (by omega)), h3.kept (fun a g1 g2 => hI a (by omega) (by omega)), fun q => ⟨(h4 q).1, (h4 q).2.1.kept (fun a ha => hI a (by omega) (by omega)), (h4 q).2.2.kept (fun a g1 g2 => hI a (by omega) (by omega))⟩, by rw [hI 0 (by omega) (by omega)]; exact h5, fun k g1 g2 => by rw [hI 64 (by omega) (by omega)]; exact h6 k g1 g2, h7.kept (fun a g1 g2 => hI a (by omega) (by omega)) (fun _ _ _ => rfl), h8.kept (fun a g1 g2 => hI a (by omega) (by omega)) rfl rfl, fun c j => by rw [hI _ (by omega) (by omega)]; exact h9 c j⟩
theorem x_voyage (xs : Nat → Int32) (I : AI) (T : AT) (J : AI) (hG : XG xs I T J) (f t n : Int32) : Ct 4 y_X_voyage [.ref 0, .int f, .int t, .int n] (hp I T) (XP xs I T (sp_voyage J f t n)) := by
  have hs := id hG.1
  have bad : (win f 0 23 && win t 0 23 && win n 0 24) = false → Go 4 y_X_voyage 30 [some (.ref 0), some (.int f), some (.int t), some (.int n), none] [] (hp I T) (XP xs I T (sp_voyage J f t n)) := by
    intro hq
    iterate 2 refine Go.step rfl ?_
    exact x_err (k := 1) hG (by decide) (by decide) (by rw [sp_voyage, hq]; rfl) rfl rfl rfl (by decide)
  iterate 3 refine Go.step rfl ?_
  refine Go.cal (x_within _ f 0 23) (by decide) rfl ?_
  rintro _ _ ⟨rfl, rfl⟩
  refine Go.step rfl ?_
  refine Go.ifz (fun c1 => ?_) (fun c1 => ?_)
  · exact bad (by rw [c1]; rfl)
  · iterate 3 refine Go.step rfl ?_
    refine Go.cal (x_within _ t 0 23) (by decide) rfl ?_
    rintro _ _ ⟨rfl, rfl⟩
    refine Go.step rfl ?_
    refine Go.ifz (fun c2 => ?_) (fun c2 => ?_)
    · exact bad (by rw [c2, Bool.and_false]; rfl)
    · iterate 3 refine Go.step rfl ?_
      refine Go.cal (x_within _ n 0 24) (by decide) rfl ?_
      rintro _ _ ⟨rfl, rfl⟩
      refine Go.step rfl ?_
      refine Go.ifz (fun c3 => ?_) (fun c3 => ?_)
      · exact bad (by rw [c3, Bool.and_false])
      · obtain ⟨a, ha, rfl⟩ := nI_of_win (N := 23) (by decide) c1
        obtain ⟨b, hb, rfl⟩ := nI_of_win (N := 23) (by decide) c2
        obtain ⟨k, hk, rfl⟩ := nI_of_win (N := 24) (by decide) c3
        have esp : sp_voyage J (nI a) (nI b) (nI k) = if vD (J 74) a k b = 1000 then (er J 2, LO 2) else (J, nI (vD (J 74) a k b)) := by rw [sp_voyage, c1, c2, c3, show cl (nI a) = a from nI_clamp (by omega), show cl (nI b) = b from nI_clamp (by omega), show cl (nI k) = k from nI_clamp (by omega)]; rfl
        rw [esp]
        iterate 7 refine Go.step rfl ?_
        refine Go.cal (x_fewest I T _ hs hG.2.1 a b k (by omega) (by omega) hk) (by decide) rfl ?_
        rintro _ _ ⟨I', rfl, q1, rfl⟩
        have hG' := hG.route q1
        have hok := vD_ok (J 74) a k b
        iterate 4 refine Go.step rfl ?_
        by_cases q : vD (J 74) a k b = 1000
        · rw [if_pos q]
          refine Go.ifp (by rw [fz_far q]; exact Int32.le_refl _) ?_
          iterate 2 refine Go.step rfl ?_
          refine Go.cal (x_refuse I' T 2 (by decide) (by decide)) (by decide) rfl ?_
          rintro _ _ ⟨rfl, rfl⟩
          exact Go.ret rfl ⟨_, rfl, fun z g1 g2 => by rw [va_up_ne _ _ (by omega)]; exact q1 z (by omega) (by omega), hG'.err (by decide) (by decide), rfl⟩
        · rw [if_neg q, fz_near q]
          refine Go.ifn (nI_ge (a := vD (J 74) a k b) (b := 1000000) (by omega) (by decide)) ?_
          iterate 2 refine Go.step rfl ?_
          exact Go.ret rfl ⟨I', rfl, fun z g1 g2 => q1 z (by omega) (by omega), hG', rfl⟩
