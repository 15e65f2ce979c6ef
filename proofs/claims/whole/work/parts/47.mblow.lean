/-! the reference's blow -/
theorem met_same {s : Nat → Int32} (hs : sOK s) {l i b b' : Nat} (hb : b < cl (s 0)) (hb' : b' < cl (s 0)) (h : ¬ (b' = b ∧ lno (wyn s) (cel s b) = l ∧ ahd (wyn s) (cel s b) = i)) : met s l (8 * i + b + 1) b' = met s l (8 * i + b) b' := by
  unfold met
  congr 1
  have hk := key_inj hs (i := i) hb hb'
  apply propext
  constructor
  · rintro (q | ⟨q1, q2⟩)
    · exact Or.inl q
    · refine Or.inr ⟨q1, ?_⟩
      rcases Nat.lt_or_ge (key s b') (8 * i + b) with h1 | h1
      · exact h1
      · obtain ⟨e1, e2⟩ := hk.mp (by omega)
        subst e1
        exact absurd ⟨rfl, q1, e2⟩ h
  · rintro (q | ⟨q1, q2⟩)
    · exact Or.inl q
    · exact Or.inr ⟨q1, by omega⟩
theorem hit_at {s : Nat → Int32} {set : Int32} {l i b : Nat} (hb8 : b < 8) : hit s set l (8 * i + b) = decide (b < cl (s 0) ∧ lno (wyn s) (cel s b) = l ∧ ahd (wyn s) (cel s b) = i ∧ bit set b = true) := by
  unfold hit
  rw [show (8 * i + b) % 8 = b by omega, show (8 * i + b) / 8 = i by omega]
theorem blow_b (I : AI) (T : AT) (hs : sOK (I 74)) (ht : tOK (I 74) 0) (set : Int32) (al : Value) (l i : Nat) (hl : l < nln (wyn (I 74))) (hi : i < nal (wyn (I 74))) (Q : Option Value → AH → Prop) (K : ∀ I', BI I set l (8 * i + cl (I 74 0)) (i + 1) I' → Go 4 y_M_blow 153 [some (.ref 73), some (.int set), some al, some (.int (nI l)), some (.int (lf (I 74) set l (8 * i + cl (I 74 0)))), some (.int (nI i)), some (.int (nI (cof (wyn (I 74)) l i))), some (.int (nI (cl (I 74 0))))] [] (hp I' T) Q) : ∀ m b, b + m = cl (I 74 0) → ∀ I', BI I set l (8 * i + b) (i + 1) I' → Go 4 y_M_blow 87 [some (.ref 73), some (.int set), some al, some (.int (nI l)), some (.int (lf (I 74) set l (8 * i + b))), some (.int (nI i)), some (.int (nI (cof (wyn (I 74)) l i))), some (.int (nI b))] [] (hp I' T) Q := by
  obtain ⟨en, hn⟩ := hs.1.eq (by decide)
  obtain ⟨hw, ew⟩ := wyn_lt hs
  intro m
  induction m with
  | zero =>
    intro b hb I' hB
    have e0 : I' 74 = I 74 := hB.1 74 (by omega)
    have : b = cl (I 74 0) := by omega
    subst this
    iterate 5 refine Go.step rfl ?_
    rw [e0, show I 74 (Int32.toNatClampNeg 0) = nI (cl (I 74 0)) from en]
    refine Go.step rfl ?_
    refine Go.ifp (Int32.le_refl _) ?_
    exact K I' hB
  | succ m ih =>
    intro b hb I' hB
    have hbn : b < cl (I 74 0) := by omega
    have hb8 : b < 8 := by omega
    have e0 : I' 74 = I 74 := hB.1 74 (by omega)
    obtain ⟨hc, ec⟩ := cel_lt hs hbn
    have hh := hit_at (s := I 74) (set := set) (l := l) (i := i) hb8
    have hx := lf_in hs set l (8 * i + b)
    have next : ∀ I2, BI I set l (8 * i + (b + 1)) (i + 1) I2 → Go 4 y_M_blow 147 [some (.ref 73), some (.int set), some al, some (.int (nI l)), some (.int (lf (I 74) set l (8 * i + (b + 1)))), some (.int (nI i)), some (.int (nI (cof (wyn (I 74)) l i))), some (.int (nI b))] [] (hp I2 T) Q := by
      intro I2 h2
      iterate 2 refine Go.step rfl ?_
      rw [show nI b + 1 = nI (b + 1) from nI_1 b]
      exact ih (b + 1) (by omega) I2 h2
    have stay : hit (I 74) set l (8 * i + b) = false → (cel (I 74) b = cof (wyn (I 74)) l i → bit set b = false) → Go 4 y_M_blow 147 [some (.ref 73), some (.int set), some al, some (.int (nI l)), some (.int (lf (I 74) set l (8 * i + b))), some (.int (nI i)), some (.int (nI (cof (wyn (I 74)) l i))), some (.int (nI b))] [] (hp I' T) Q := by
      intro h1 h3
      have e1 : lf (I 74) set l (8 * i + b) = lf (I 74) set l (8 * i + (b + 1)) := by
        rw [← Nat.add_assoc, lf, h1, if_neg (by decide)]
      rw [e1]
      refine next I' ⟨hB.1, fun b' hb' => ?_, hB.2.2.1, hB.2.2.2⟩
      rw [hB.2.1 b' hb', ← Nat.add_assoc]
      by_cases q : b' = b ∧ lno (wyn (I 74)) (cel (I 74) b) = l ∧ ahd (wyn (I 74)) (cel (I 74) b) = i
      · obtain ⟨rfl, q2, q3⟩ := q
        have hz := h3 ((cof_eq hw hc hl hi).mpr ⟨q2, q3⟩)
        have et : tk (I 74) set b' = 0 := by
          unfold tk; rw [hz, if_neg (by decide)]
        rw [et]
        split <;> split <;> rfl
      · rw [met_same hs hbn hb' q]
    iterate 5 refine Go.step rfl ?_
    rw [e0, show I 74 (Int32.toNatClampNeg 0) = nI (cl (I 74 0)) from en]
    refine Go.step rfl ?_
    refine Go.ifn (nI_ge (a := b) (b := cl (I 74 0)) hbn (by omega)) ?_
    iterate 3 refine Go.step rfl ?_
    refine Go.cal (m_its I' T b 2 hb8 (by decide)) (by decide) rfl ?_
    rintro _ _ ⟨rfl, rfl⟩
    rw [e0, ec]
    iterate 2 refine Go.step rfl ?_
    refine Go.ite (fun c1 => ?_) (fun c1 => ?_)
    · have c1' : cel (I 74) b = cof (wyn (I 74)) l i := (nI_eq (by omega) (by have := cof_lt hw hl hi; omega)).mp c1
      obtain ⟨q1, q2⟩ := (cof_eq hw hc hl hi).mp c1'
      iterate 7 refine Go.step rfl ?_
      refine Go.ite (fun c2 => ?_) (fun c2 => ?_)
      · have hbit : bit set b = true := decide_eq_true c2
        have hht : hit (I 74) set l (8 * i + b) = true := by rw [hh]; exact decide_eq_true ⟨hbn, q1, q2, hbit⟩
        iterate 6 refine Go.step rfl ?_
        refine Go.cal (m_wants I' T (by rw [e0]; exact hs) (by rw [e0]; exact ht) b (by rw [e0]; exact hbn) hb8 _) (by decide) rfl ?_
        rintro _ _ ⟨g, g', rfl, rfl⟩
        rw [e0]
        refine Go.iast rfl rfl (am_in_nI hb8 (by decide)) ?_
        rw [nI_clamp (by omega), va_up_ne _ _ (show 83 ≠ 80 by decide), va_up_ne _ _ (show 83 ≠ 79 by decide)]
        iterate 4 refine Go.step rfl ?_
        refine Go.iald rfl rfl (am_in_nI hb8 (by decide)) ?_
        rw [nI_clamp (by omega), vu_same, vu_same]
        iterate 2 refine Go.step rfl ?_
        have e1 : lf (I 74) set l (8 * i + b) - wan (I 74) b (lf (I 74) set l (8 * i + b)) = lf (I 74) set l (8 * i + (b + 1)) := by
          rw [← Nat.add_assoc, lf, hht, if_pos rfl, show (8 * i + b) % 8 = b by omega]
        rw [e1]
        refine next _ ⟨fun a ha => ?_, fun b' hb' => ?_, fun c' hc' hq => ?_, fun l' hl' => ?_⟩
        · rw [va_up_ne _ _ (by omega), va_up_ne _ _ (by omega), va_up_ne _ _ (by omega)]; exact hB.1 a ha
        · rw [vu_same]
          by_cases qb : b' = b
          · subst qb
            rw [vu_same]
            have hk : key (I 74) b' = 8 * i + b' := by unfold key; rw [q2]
            have hm : met (I 74) l (8 * i + (b' + 1)) b' = true := by
              unfold met; exact decide_eq_true (Or.inr ⟨q1, by omega⟩)
            rw [hm, if_pos rfl]
            unfold tk
            rw [hbit, if_pos rfl, q1, hk]
          · rw [va_up_ne _ _ qb, hB.2.1 b' hb', ← Nat.add_assoc, met_same hs hbn hb' (fun q => qb q.1)]
        · rw [va_up_ne _ _ (by omega), va_up_ne _ _ (by omega), va_up_ne _ _ (by omega)]; exact hB.2.2.1 c' hc' hq
        · rw [va_up_ne _ _ (by omega), va_up_ne _ _ (by omega), va_up_ne _ _ (by omega)]; exact hB.2.2.2 l' hl'
      · have hbit : bit set b = false := decide_eq_false c2
        exact stay (by rw [hh]; exact decide_eq_false (fun q => by rw [hbit] at q; exact absurd q.2.2.2 (by decide))) (fun _ => hbit)
    · have c1' : ¬ cel (I 74) b = cof (wyn (I 74)) l i := fun q => c1 (by rw [q])
      exact stay (by rw [hh]; exact decide_eq_false (fun q => c1' ((cof_eq hw hc hl hi).mpr ⟨q.2.1, q.2.2.1⟩))) (fun q => absurd q c1')
theorem blow_i (I : AI) (T : AT) (hs : sOK (I 74)) (ht : tOK (I 74) 0) (set : Int32) (l : Nat) (hl : l < nln (wyn (I 74))) (Q : Option Value → AH → Prop) (K : ∀ I' t6 t7, BI I set l (8 * nal (wyn (I 74))) (nal (wyn (I 74))) I' → Go 4 y_M_blow 159 [some (.ref 73), some (.int set), some (.int (nI (nal (wyn (I 74))))), some (.int (nI l)), some (.int (lf (I 74) set l (8 * nal (wyn (I 74))))), some (.int (nI (nal (wyn (I 74))))), t6, t7] [] (hp I' T) Q) : ∀ m i, i + m = nal (wyn (I 74)) → ∀ I' t6 t7, BI I set l (8 * i) i I' → Go 4 y_M_blow 60 [some (.ref 73), some (.int set), some (.int (nI (nal (wyn (I 74))))), some (.int (nI l)), some (.int (lf (I 74) set l (8 * i))), some (.int (nI i)), t6, t7] [] (hp I' T) Q := by
  obtain ⟨hw, ew⟩ := wyn_lt hs
  have hna := (nln_le (wyn (I 74))).2
  intro m
  induction m with
  | zero =>
    intro i hi I' t6 t7 hB
    have : i = nal (wyn (I 74)) := by omega
    subst this
    iterate 3 refine Go.step rfl ?_
    refine Go.ifp (Int32.le_refl _) ?_
    exact K I' t6 t7 hB
  | succ m ih =>
    intro i hi I' t6 t7 hB
    have hin : i < nal (wyn (I 74)) := by omega
    have e0 : I' 74 = I 74 := hB.1 74 (by omega)
    have hcl := cof_lt hw hl hin
    iterate 3 refine Go.step rfl ?_
    refine Go.ifn (nI_ge (a := i) (b := nal (wyn (I 74))) hin (by omega)) ?_
    iterate 3 refine Go.step rfl ?_
    refine Go.cal (m_cellOf I' T (by rw [e0]; exact hs) l i (by rw [e0]; exact hl) (by rw [e0]; exact hin)) (by decide) rfl ?_
    rintro _ _ ⟨rfl, rfl⟩
    rw [e0]
    iterate 5 refine Go.step rfl ?_
    refine Go.iast rfl rfl (am_in_nI hcl (by decide)) ?_
    rw [nI_clamp (by omega)]
    iterate 2 refine Go.step rfl ?_
    refine blow_b I T hs ht set _ l i hl hin Q ?_ (cl (I 74 0)) 0 (by omega) _ ?_
    · intro I2 h2
      iterate 2 refine Go.step rfl ?_
      rw [show nI i + 1 = nI (i + 1) from nI_1 i, ← lf_row hs]
      refine ih (i + 1) (by omega) I2 _ _ ⟨h2.1, fun b' hb' => ?_, h2.2.2.1, h2.2.2.2⟩
      rw [h2.2.1 b' hb']
      have e2 : met (I 74) l (8 * i + cl (I 74 0)) b' = met (I 74) l (8 * (i + 1)) b' := by
        have := cl_le hs.1
        unfold met key
        congr 1
        apply propext
        constructor <;> rintro (q | ⟨q1, q2⟩)
        · exact Or.inl q
        · exact Or.inr ⟨q1, by omega⟩
        · exact Or.inl q
        · exact Or.inr ⟨q1, by omega⟩
      rw [e2]
    · refine ⟨fun a ha => by rw [va_up_ne _ _ (by omega)]; exact hB.1 a ha, fun b' hb' => by rw [va_up_ne _ _ (by omega)]; exact hB.2.1 b' hb', fun c hc hq => ?_, fun l' hl' => by rw [va_up_ne _ _ (by omega)]; exact hB.2.2.2 l' hl'⟩
      rw [vu_same]
      by_cases q : c = cof (wyn (I 74)) l i
      · obtain ⟨q1, q2⟩ := (cof_eq hw hc hl hin).mp q
        rw [q, vu_same, ← q, q1, q2]
      · rw [va_up_ne _ _ q]
        refine hB.2.2.1 c hc ?_
        rcases hq with hq | ⟨hq1, hq2⟩
        · exact Or.inl hq
        · refine Or.inr ⟨hq1, ?_⟩
          rcases Nat.lt_or_ge (ahd (wyn (I 74)) c) i with z | z
          · exact z
          · exact absurd ((cof_eq hw hc hl hin).mpr ⟨hq1, by omega⟩) q
/-- what blow leaves behind -/
def BO (I : AI) (set : Int32) (I' : AI) : Prop := (∀ a, a < 79 ∨ 83 < a → I' a = I a) ∧ (∀ b, b < cl (I 74 0) → I' 83 b = tk (I 74) set b) ∧ (∀ c, c < 24 → I' 81 c = lf (I 74) set (lno (wyn (I 74)) c) (8 * ahd (wyn (I 74)) c)) ∧ (∀ l, l < nln (wyn (I 74)) → I' 82 l = lf (I 74) set l 48)
theorem blow_l (I : AI) (T : AT) (hs : sOK (I 74)) (ht : tOK (I 74) 0) (set : Int32) : ∀ m l, l + m = nln (wyn (I 74)) → ∀ I' t4 t5 t6 t7, BI I set l 0 0 I' → Go 4 y_M_blow 43 [some (.ref 73), some (.int set), some (.int (nI (nal (wyn (I 74))))), some (.int (nI l)), t4, t5, t6, t7] [] (hp I' T) (fun r h' => ∃ I', h' = hp I' T ∧ BO I set I' ∧ r = none) := by
  obtain ⟨hw, ew⟩ := wyn_lt hs
  obtain ⟨hnl, hna⟩ := nln_le (wyn (I 74))
  obtain ⟨eh, hh⟩ := hs.2.1.eq (by decide)
  intro m
  induction m with
  | zero =>
    intro l hl I' t4 t5 t6 t7 hB
    have : l = nln (wyn (I 74)) := by omega
    subst this
    have e0 : I' 74 = I 74 := hB.1 74 (by omega)
    iterate 2 refine Go.step rfl ?_
    refine Go.cal (m_lines I' T (by rw [e0]; exact hs)) (by decide) rfl ?_
    rintro _ _ ⟨rfl, rfl⟩
    rw [e0]
    refine Go.step rfl ?_
    refine Go.ifp (Int32.le_refl _) ?_
    refine Go.ret rfl ⟨I', rfl, ⟨hB.1, fun b hb => ?_, fun c hc => hB.2.2.1 c hc (Or.inl (lno_lt hw hc).1), hB.2.2.2⟩, rfl⟩
    have hm : met (I 74) (nln (wyn (I 74))) 0 b = true := decide_eq_true (Or.inl (lno_lt hw (cel_lt hs hb).1).1)
    rw [hB.2.1 b hb, hm, if_pos rfl]
  | succ m ih =>
    intro l hl I' t4 t5 t6 t7 hB
    have hln : l < nln (wyn (I 74)) := by omega
    have e0 : I' 74 = I 74 := hB.1 74 (by omega)
    iterate 2 refine Go.step rfl ?_
    refine Go.cal (m_lines I' T (by rw [e0]; exact hs)) (by decide) rfl ?_
    rintro _ _ ⟨rfl, rfl⟩
    rw [e0]
    refine Go.step rfl ?_
    refine Go.ifn (nI_ge (a := l) (b := nln (wyn (I 74))) hln (by omega)) ?_
    refine Go.step rfl ?_
    refine Go.cal (m_knots I' T (cl (I 74 1)) (by rw [e0]; exact eh) (by omega)) (by decide) rfl ?_
    rintro _ _ ⟨rfl, rfl⟩
    rw [e0]
    iterate 3 refine Go.step rfl ?_
    refine blow_i I T hs ht set l hln _ ?_ (nal (wyn (I 74))) 0 (by omega) I' t6 t7 hB
    intro I2 t6 t7 h2
    iterate 4 refine Go.step rfl ?_
    refine Go.iast rfl rfl (am_in_nI (by omega) (by decide)) ?_
    rw [nI_clamp (by omega)]
    iterate 2 refine Go.step rfl ?_
    rw [show nI l + 1 = nI (l + 1) from nI_1 l]
    refine ih (l + 1) (by omega) _ _ _ _ _ ⟨fun a ha => by rw [va_up_ne _ _ (by omega)]; exact h2.1 a ha, fun b' hb' => ?_, fun c hc hq => ?_, fun l' hl' => ?_⟩
    · rw [va_up_ne _ _ (by decide), h2.2.1 b' hb']
      have hkl := (key_lt hs (i := nal (wyn (I 74))) hb').mpr (lno_lt hw (cel_lt hs hb').1).2
      have e2 : met (I 74) l (8 * nal (wyn (I 74))) b' = met (I 74) (l + 1) 0 b' := by
        unfold met
        congr 1
        apply propext
        constructor
        · rintro (q | ⟨q1, q2⟩)
          · exact Or.inl (by omega)
          · exact Or.inl (by omega)
        · rintro (q | ⟨q1, q2⟩)
          · rcases Nat.lt_or_ge (lno (wyn (I 74)) (cel (I 74) b')) l with z | z
            · exact Or.inl z
            · exact Or.inr ⟨by omega, hkl⟩
          · omega
      rw [e2]
    · rw [va_up_ne _ _ (by decide)]
      refine h2.2.2.1 c hc ?_
      have := (lno_lt hw hc).2
      rcases hq with hq | ⟨hq1, hq2⟩
      · rcases Nat.lt_or_ge (lno (wyn (I 74)) c) l with z | z
        · exact Or.inl z
        · exact Or.inr ⟨by omega, this⟩
      · omega
    · rw [vu_same]
      by_cases q : l' = l
      · subst q; rw [vu_same]; exact (lf_end hs).symm
      · rw [va_up_ne _ _ q]; exact h2.2.2.2 l' (by omega)
theorem m_blow (I : AI) (T : AT) (hs : sOK (I 74)) (ht : tOK (I 74) 0) (set : Int32) : Ct 4 y_M_blow [.ref 73, .int set] (hp I T) (fun r h' => ∃ I', h' = hp I' T ∧ BO I set I' ∧ r = none) := by
  obtain ⟨en, hn⟩ := hs.1.eq (by decide)
  obtain ⟨hw, ew⟩ := wyn_lt hs
  obtain ⟨hnl, hna⟩ := nln_le (wyn (I 74))
  have rest : ∀ (I' : AI) (t2 : Option Value), (∀ a, a ≠ 83 → I' a = I a) → (∀ b, b < cl (I 74 0) → I' 83 b = 0) → Go 4 y_M_blow 25 [some (.ref 73), some (.int set), t2, none, none, none, none, none] [] (hp I' T) (fun r h' => ∃ I', h' = hp I' T ∧ BO I set I' ∧ r = none) := by
    intro I' t2 h1 h2
    have e0 : I' 74 = I 74 := h1 74 (by decide)
    refine Go.step rfl ?_
    refine Go.cal (m_lines I' T (by rw [e0]; exact hs)) (by decide) rfl ?_
    rintro _ _ ⟨rfl, rfl⟩
    rw [e0]
    have hB : BI I set 0 0 0 I' := by
      refine ⟨fun a ha => h1 a (by omega), fun b hb => ?_, fun c hc hq => by omega, fun l hl => by omega⟩
      rw [h2 b hb]
      have : met (I 74) 0 0 b = false := decide_eq_false (by omega)
      rw [this, if_neg (by decide)]
    have hl := blow_l I T hs ht set (nln (wyn (I 74))) 0 (by omega) I' none none none none hB
    have e9 : nal (wyn (I 74)) = if nln (wyn (I 74)) = 6 then 4 else 6 := by
      unfold nal nln; split <;> rfl
    have e8 : nln (wyn (I 74)) = 6 ∨ nln (wyn (I 74)) = 4 := by unfold nln; split <;> omega
    generalize nal (wyn (I 74)) = na at hl e9
    generalize nln (wyn (I 74)) = nl at e8 e9
    rcases e8 with rfl | rfl
    · have : na = 4 := e9
      subst this
      iterate 7 refine Go.step rfl ?_
      exact hl
    · have : na = 6 := e9
      subst this
      iterate 6 refine Go.step rfl ?_
      exact hl
  have loop : ∀ m b, b + m = cl (I 74 0) → ∀ I' : AI, (∀ a, a ≠ 83 → I' a = I a) → (∀ b', b' < b → I' 83 b' = 0) → Go 4 y_M_blow 2 [some (.ref 73), some (.int set), some (.int (nI b)), none, none, none, none, none] [] (hp I' T) (fun r h' => ∃ I', h' = hp I' T ∧ BO I set I' ∧ r = none) := by
    intro m
    induction m with
    | zero =>
      intro b hb I' h1 h2
      have e0 : I' 74 = I 74 := h1 74 (by decide)
      have : b = cl (I 74 0) := by omega
      subst this
      iterate 5 refine Go.step rfl ?_
      rw [e0, show I 74 (Int32.toNatClampNeg 0) = nI (cl (I 74 0)) from en]
      refine Go.step rfl ?_
      refine Go.ifp (Int32.le_refl _) ?_
      exact rest I' _ h1 h2
    | succ m ih =>
      intro b hb I' h1 h2
      have e0 : I' 74 = I 74 := h1 74 (by decide)
      iterate 5 refine Go.step rfl ?_
      rw [e0, show I 74 (Int32.toNatClampNeg 0) = nI (cl (I 74 0)) from en]
      refine Go.step rfl ?_
      refine Go.ifn (nI_ge (a := b) (b := cl (I 74 0)) (by omega) (by omega)) ?_
      iterate 4 refine Go.step rfl ?_
      refine Go.iast rfl rfl (am_in_nI (by omega) (by decide)) ?_
      rw [nI_clamp (by omega)]
      iterate 2 refine Go.step rfl ?_
      rw [show nI b + 1 = nI (b + 1) from nI_1 b]
      refine ih (b + 1) (by omega) _ (fun a ha => by rw [va_up_ne _ _ ha]; exact h1 a ha) (fun b' hb' => ?_)
      rw [vu_same]
      by_cases q : b' = b
      · subst q; rw [vu_same]
      · rw [va_up_ne _ _ q]; exact h2 b' (by omega)
  iterate 2 refine Go.step rfl ?_
  exact loop (cl (I 74 0)) 0 (by omega) I (fun _ _ => rfl) (fun b' hb' => by omega)
