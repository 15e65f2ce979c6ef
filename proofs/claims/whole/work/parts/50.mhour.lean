/-! AN HOUR: what it makes of the row; the reference's hour -/
def alm (s : Nat → Int32) : Int32 := (1 <<< (s 0 &&& 31)) - 1
theorem bit_all : ∀ n, n ≤ 8 → ∀ b, b < n → bit ((1 <<< (nI n &&& 31)) - 1) b = true ∧ bit 255 b = true := by decide +kernel
theorem hit_congr {s : Nat → Int32} {x y : Int32} (h : ∀ b, b < cl (s 0) → bit x b = bit y b) (l m : Nat) : hit s x l m = hit s y l m := by
  unfold hit
  congr 1
  apply propext
  constructor
  · rintro ⟨h1, h2, h3, h4⟩; exact ⟨h1, h2, h3, by rw [← h _ h1]; exact h4⟩
  · rintro ⟨h1, h2, h3, h4⟩; exact ⟨h1, h2, h3, by rw [h _ h1]; exact h4⟩
theorem lf_congr {s : Nat → Int32} {x y : Int32} (h : ∀ b, b < cl (s 0) → bit x b = bit y b) (l : Nat) : ∀ m, lf s x l m = lf s y l m := by
  intro m
  induction m with
  | zero => rfl
  | succ m ih => rw [lf, lf, ih, hit_congr h]
theorem tk_congr {s : Nat → Int32} {x y : Int32} (h : ∀ b, b < cl (s 0) → bit x b = bit y b) {b : Nat} (hb : b < cl (s 0)) : tk s x b = tk s y b := by
  unfold tk; rw [h b hb, lf_congr h]
theorem alm_bit {s : Nat → Int32} (hs : sOK s) : ∀ b, b < cl (s 0) → bit (alm s) b = bit 255 b := by
  intro b hb
  obtain ⟨en, hn⟩ := hs.1.eq (by decide)
  have := bit_all (cl (s 0)) hn b hb
  unfold alm
  rw [en, this.2]
  exact this.1
theorem m_all (I : AI) (T : AT) : Ct 0 y_M_all [.ref 73] (hp I T) (fun r h' => h' = hp I T ∧ r = some (.int (alm (I 74)))) := by
  repeat refine Go.step rfl ?_
  exact Go.ret rfl ⟨rfl, rfl⟩
def usd (s : Nat → Int32) (b : Nat) : Int32 := hel (s (58 + 8 * b + 6) + tk s 255 b) 0 999999
def bil (s : Nat → Int32) (b : Nat) : Int32 := hel (bl0 s (tk s 255 b) (s (5 + cel s b / 6)) (kn s)) (-9999) 9999
def ow1 (s : Nat → Int32) (b : Nat) : Int32 := if s (58 + 8 * b + 7) = 0 ∧ 0 < tk s 255 b then owd (s (58 + 8 * b + 5)) (bil s b) else s (58 + 8 * b + 5)
def ow2 (s : Nat → Int32) (b : Nat) : Int32 := if kn s = 0 ∧ s (58 + 8 * b) = 4 then owd (ow1 s b) (- s (58 + 8 * b + 1)) else ow1 s b
def gob (s : Nat → Int32) (b : Nat) : Bool := goesB (s (58 + 8 * b)) (tk s 255 b) (s (58 + 8 * b + 3)) (wy s)
def ow3 (s : Nat → Int32) (bread : Int32) (b : Nat) : Int32 := if rowsB (s (58 + 8 * b)) = true then owd (ow2 s b) bread else ow2 s b
def bsb (s : Nat → Int32) (b : Nat) : Int32 := bes (cel s b) (cl (s (58 + 8 * b + 3)))
def cl3 (s : Nat → Int32) (b : Nat) : Int32 := if gob s b = true ∧ ¬ bsb s b = -1 then bsb s b else s (58 + 8 * b + 2)
def hd3 (s : Nat → Int32) (b : Nat) : Int32 := if gob s b = true ∧ bsb s b = -1 then irm (s (58 + 8 * b + 3) + 2) 4 else s (58 + 8 * b + 3)
def F3 (s : Nat → Int32) (bread : Int32) (b f : Nat) : Int32 := if f = 5 then ow3 s bread b else if f = 2 then cl3 s b else hd3 s b
def hr1 (s : Nat → Int32) (k : Nat) : Nat → Int32 := ft s (fun b _ => usd s b) (fun b f => decide (f = 6 ∧ b < k))
def hr2 (s : Nat → Int32) (k : Nat) : Nat → Int32 := ft (hr1 s (cl (s 0))) (fun b _ => ow2 s b) (fun b f => decide (f = 5 ∧ b < k))
def hr3 (s : Nat → Int32) (bread : Int32) (k : Nat) : Nat → Int32 := ft (hr2 s (cl (s 0))) (F3 s bread) (fun b f => decide ((f = 5 ∨ f = 2 ∨ f = 3) ∧ b < k))
def hr (s : Nat → Int32) (bread : Int32) : Nat → Int32 := va_up (hr3 s bread (cl (s 0))) 1 (s 1 + 1)
theorem hr1_at (s : Nat → Int32) (k : Nat) {b f : Nat} (hb : b < 8) (hf : f < 8) : hr1 s k (58 + 8 * b + f) = if f = 6 ∧ b < k then usd s b else s (58 + 8 * b + f) := by
  unfold hr1; rw [ft_at _ _ _ hb hf]; simp only [decide_eq_true_eq]
theorem hr2_at (s : Nat → Int32) (k : Nat) {b f : Nat} (hb : b < 8) (hf : f < 8) : hr2 s k (58 + 8 * b + f) = if f = 5 ∧ b < k then ow2 s b else if f = 6 ∧ b < cl (s 0) then usd s b else s (58 + 8 * b + f) := by
  unfold hr2; rw [ft_at _ _ _ hb hf, hr1_at _ _ hb hf]; simp only [decide_eq_true_eq]
theorem hr3_at (s : Nat → Int32) (bread : Int32) (k : Nat) {b f : Nat} (hb : b < 8) (hf : f < 8) : hr3 s bread k (58 + 8 * b + f) = if (f = 5 ∨ f = 2 ∨ f = 3) ∧ b < k then F3 s bread b f else if f = 5 ∧ b < cl (s 0) then ow2 s b else if f = 6 ∧ b < cl (s 0) then usd s b else s (58 + 8 * b + f) := by
  unfold hr3; rw [ft_at _ _ _ hb hf, hr2_at _ _ hb hf]; simp only [decide_eq_true_eq]
theorem hr1_off (s : Nat → Int32) (k : Nat) {j : Nat} (h : j < 58 ∨ 122 ≤ j) : hr1 s k j = s j := ft_off _ _ _ h
theorem hr2_off (s : Nat → Int32) (k : Nat) {j : Nat} (h : j < 58 ∨ 122 ≤ j) : hr2 s k j = s j := (ft_off _ _ _ h).trans (hr1_off _ _ h)
theorem hr3_off (s : Nat → Int32) (bread : Int32) (k : Nat) {j : Nat} (h : j < 58 ∨ 122 ≤ j) : hr3 s bread k j = s j := (ft_off _ _ _ h).trans (hr2_off _ _ h)
theorem tOK.congr {s r : Nat → Int32} {u : Nat} (h : tOK s u) (hu : u < 2) (hr : ∀ j, 122 ≤ j → j < 372 → r j = s j) : tOK r u := by
  rcases h with h | ⟨f, len, h1, h2, h3⟩
  · exact Or.inl (by rw [hr _ (by omega) (by omega)]; exact h)
  · have := h1.2.1
    exact Or.inr ⟨f, len, h1, by rw [hr _ (by omega) (by omega)]; exact h2, fun k hk => by rw [hr _ (by omega) (by omega), hr _ (by omega) (by omega)]; exact h3 k hk⟩
theorem tev_congr {s r : Nat → Int32} {u : Nat} (h : tOK s u) (hu : u < 2) (hn : ¬ s (122 + 125 * u) = 0) (hr : ∀ j, 122 ≤ j → j < 372 → r j = s j) (a1 a2 a3 : Int32) : tev r u a1 a2 a3 = tev s u a1 a2 a3 := by
  rcases h with h | ⟨f, len, h1, h2, h3⟩
  · exact absurd h hn
  · have := h1.2.1
    rw [tev_eq hu h1 h2 h3, tev_eq hu h1 (by rw [hr _ (by omega) (by omega)]; exact h2) (fun k hk => by rw [hr _ (by omega) (by omega), hr _ (by omega) (by omega)]; exact h3 k hk)]
theorem bl0_congr {s r : Nat → Int32} (h : tOK s 1) (hr : ∀ j, 122 ≤ j → j < 372 → r j = s j) (t p k : Int32) : bl0 r t p k = bl0 s t p k := by
  unfold bl0
  rw [hr 247 (by omega) (by omega)]
  by_cases q : s 247 = 0
  · rw [if_pos q, if_pos q]
  · rw [if_neg q, if_neg q, tev_congr h (by decide) q hr]
/-- where the reference is in an hour: the row r, what boats took -/
def MH (I : AI) (r : Nat → Int32) (I' : AI) : Prop := (∀ a, a ≠ 74 → a < 79 ∨ 83 < a → I' a = I a) ∧ I' 74 = r ∧ ∀ b, b < cl (I 74 0) → I' 83 b = tk (I 74) 255 b
theorem MH.row {I I' : AI} {r r' : Nat → Int32} (h : MH I r I') : MH I r' (va_up I' 74 r') :=
  ⟨fun a h1 h2 => by rw [va_up_ne _ _ h1]; exact h.1 a h1 h2, vu_same _ _ _, fun b hb => by rw [va_up_ne _ _ (by decide)]; exact h.2.2 b hb⟩
theorem MH.scr {I I' : AI} {r : Nat → Int32} (h : MH I r I') (g g' : Nat → Int32) : MH I r (va_up (va_up I' 79 g) 80 g') :=
  ⟨fun a h1 h2 => by rw [va_up_ne _ _ (by omega), va_up_ne _ _ (by omega)]; exact h.1 a h1 h2, by rw [va_up_ne _ _ (by decide), va_up_ne _ _ (by decide)]; exact h.2.1, fun b hb => by rw [va_up_ne _ _ (by decide), va_up_ne _ _ (by decide)]; exact h.2.2 b hb⟩
def MHQ (I : AI) (T : AT) (bread : Int32) : Option Value → AH → Prop := fun r h' => ∃ I', h' = hp I' T ∧ (∀ a, a ≠ 74 → a < 79 ∨ 83 < a → I' a = I a) ∧ I' 74 = hr (I 74) bread ∧ r = none
theorem gs_step (s r : Nat → Int32) (bread : Int32) (b : Nat) (hbn : b < cl (s 0)) (hb8 : b < 8) (hr' : r = hr3 s bread b) : gs r (tk s 255 b) (wy s) bread b = hr3 s bread (b + 1) := by
  have rd : ∀ f, f < 8 → r (58 + 8 * b + f) = if f = 5 then ow2 s b else if f = 6 then usd s b else s (58 + 8 * b + f) := by
    intro f hf
    rw [hr', hr3_at _ _ _ hb8 hf, if_neg (by omega)]
    simp only [hbn, and_true]
  have k0 : r (58 + 8 * b) = s (58 + 8 * b) := (rd 0 (by decide)).trans ((if_neg (by decide)).trans (if_neg (by decide)))
  have k2 : r (58 + 8 * b + 2) = s (58 + 8 * b + 2) := (rd 2 (by decide)).trans ((if_neg (by decide)).trans (if_neg (by decide)))
  have k3 : r (58 + 8 * b + 3) = s (58 + 8 * b + 3) := (rd 3 (by decide)).trans ((if_neg (by decide)).trans (if_neg (by decide)))
  have k5 : r (58 + 8 * b + 5) = ow2 s b := (rd 5 (by decide)).trans (if_pos rfl)
  have hg : goesB (s (58 + 8 * b)) (tk s 255 b) (s (58 + 8 * b + 3)) (wy s) = gob s b := rfl
  have hb0 : bes (cl (s (58 + 8 * b + 2))) (cl (s (58 + 8 * b + 3))) = bsb s b := rfl
  unfold gs
  rw [k0, k2, k3, k5, hg, hb0]
  -- the rowing
  have hrow : goesB (s (58 + 8 * b)) (tk s 255 b) (s (58 + 8 * b + 3)) (wy s) = false → rowsB (s (58 + 8 * b)) = false := by
    intro q
    unfold goesB at q
    unfold rowsB
    cases hu : und (s (58 + 8 * b)) 2 with
    | false => rfl
    | true => rw [hu, Bool.or_true] at q; cases q
  rw [hg] at hrow
  refine row_ext (fun j hj => ?_) (fun b' f hb' hf => ?_)
  · rw [hr3_off _ _ _ hj]
    have h0 : r j = s j := by rw [hr', hr3_off _ _ _ hj]
    split
    · split
      · rw [va_up_ne _ _ (by omega)]
        split
        · rw [va_up_ne _ _ (by omega)]; exact h0
        · exact h0
      · rw [va_up_ne _ _ (by omega)]
        split
        · rw [va_up_ne _ _ (by omega)]; exact h0
        · exact h0
    · exact h0
  · by_cases hbb : b' = b
    · subst hbb
      rw [hr3_at _ _ _ hb8 hf]
      have hro : (if rowsB (s (58 + 8 * b')) = true then va_up (r) (58 + 8 * b' + 5) (owd (ow2 s b') bread) else r) (58 + 8 * b' + f) = if f = 5 then ow3 s bread b' else r (58 + 8 * b' + f) := by
        by_cases q : rowsB (s (58 + 8 * b')) = true
        · rw [if_pos q]
          rw [rva_at _ _ (by decide) hf]
          unfold ow3
          rw [if_pos q]
          simp only [true_and]
        · rw [if_neg q]
          unfold ow3
          rw [if_neg q]
          by_cases q5 : f = 5
          · subst q5; rw [if_pos rfl]; exact k5
          · rw [if_neg q5]
      have r0 := rd f hf
      by_cases hgo : gob s b' = true
      · rw [if_pos hgo]
        by_cases hbe : bsb s b' = -1
        · rw [if_pos hbe, rva_at _ _ (by decide) hf, hro, r0]
          unfold F3 cl3 hd3
          simp only [hgo, hbe, true_and, hbn]
          by_cases f5 : f = 5
          · subst f5; simp
          · by_cases f2 : f = 2
            · subst f2; simp
            · by_cases f3 : f = 3
              · subst f3; simp
              · simp [f5, f2, f3]
        · rw [if_neg hbe, rva_at _ _ (by decide) hf, hro, r0]
          unfold F3 cl3 hd3
          simp only [hgo, hbe, true_and, hbn]
          by_cases f5 : f = 5
          · subst f5; simp
          · by_cases f2 : f = 2
            · subst f2; simp
            · by_cases f3 : f = 3
              · subst f3; simp
              · simp [f5, f2, f3]
      · rw [if_neg hgo, r0]
        have hr0 := hrow (by simpa using hgo)
        unfold F3 cl3 hd3 ow3
        rw [hr0]
        simp only [hgo, false_and, hbn]
        by_cases f5 : f = 5
        · subst f5; simp
        · by_cases f2 : f = 2
          · subst f2; simp
          · by_cases f3 : f = 3
            · subst f3; simp
            · simp [f5, f2, f3]
    · rw [hr3_at _ _ _ hb' hf]
      have h0 : r (58 + 8 * b' + f) = if (f = 5 ∨ f = 2 ∨ f = 3) ∧ b' < b + 1 then F3 s bread b' f else if f = 5 ∧ b' < cl (s 0) then ow2 s b' else if f = 6 ∧ b' < cl (s 0) then usd s b' else s (58 + 8 * b' + f) := by
        rw [hr', hr3_at _ _ _ hb' hf]
        have e : (b' < b) = (b' < b + 1) := propext ⟨fun h => by omega, fun h => by omega⟩
        simp only [e]
      rw [← h0]
      split
      · split
        · rw [va_up_ne _ _ (by omega)]
          split
          · rw [va_up_ne _ _ (by omega)]
          · rfl
        · rw [va_up_ne _ _ (by omega)]
          split
          · rw [va_up_ne _ _ (by omega)]
          · rfl
      · rfl
theorem hour_3 (I : AI) (T : AT) (hs : sOK (I 74)) (bread : Int32) : ∀ m b, b + m = cl (I 74 0) → ∀ I', MH I (hr3 (I 74) bread b) I' → Go 5 y_M_hour 131 [some (.ref 73), some (.int bread), some (.int (nI b))] [] (hp I' T) (MHQ I T bread) := by
  obtain ⟨en, hn⟩ := hs.1.eq (by decide)
  obtain ⟨eh, hh⟩ := hs.2.1.eq (by decide)
  intro m
  induction m with
  | zero =>
    intro b hb I' hM
    have : b = cl (I 74 0) := by omega
    subst this
    have e0 : I' 74 0 = nI (cl (I 74 0)) := by rw [hM.2.1, hr3_off _ _ _ (by omega)]; exact en
    iterate 5 refine Go.step rfl ?_
    rw [show I' 74 (Int32.toNatClampNeg 0) = nI (cl (I 74 0)) from e0]
    refine Go.step rfl ?_
    refine Go.ifp (Int32.le_refl _) ?_
    iterate 8 refine Go.step rfl ?_
    refine Go.ret rfl ⟨_, rfl, fun a h1 h2 => by rw [va_up_ne _ _ h1]; exact hM.1 a h1 h2, ?_, rfl⟩
    rw [vu_same]
    show va_up (I' 74) 1 (I' 74 1 + 1) = _
    rw [hM.2.1, hr3_off _ _ _ (by omega)]
    rfl
  | succ m ih =>
    intro b hb I' hM
    have hbn : b < cl (I 74 0) := by omega
    have hb8 : b < 8 := by omega
    have e0 : I' 74 0 = nI (cl (I 74 0)) := by rw [hM.2.1, hr3_off _ _ _ (by omega)]; exact en
    obtain ⟨hc, ec⟩ := cel_lt hs hbn
    obtain ⟨ed, hd⟩ := (hs.2.2.2.2.2.2.2 b hbn).2.2.2.1.eq (by decide)
    have rd : ∀ f, f < 8 → I' 74 (58 + 8 * b + f) = if f = 5 then ow2 (I 74) b else if f = 6 then usd (I 74) b else I 74 (58 + 8 * b + f) := by
      intro f hf
      rw [hM.2.1, hr3_at _ _ _ hb8 hf, if_neg (by omega)]
      simp only [hbn, and_true]
    iterate 5 refine Go.step rfl ?_
    rw [show I' 74 (Int32.toNatClampNeg 0) = nI (cl (I 74 0)) from e0]
    refine Go.step rfl ?_
    refine Go.ifn (nI_ge (a := b) (b := cl (I 74 0)) hbn (by omega)) ?_
    iterate 3 refine Go.step rfl ?_
    refine Go.cal (m_goes I' T b (cel (I 74) b) (cl (I 74 (58 + 8 * b + 3))) (cl (I 74 1)) bread hb8 hc (by omega) ((rd 2 (by decide)).trans ec) ((rd 3 (by decide)).trans ed) (by rw [hM.2.1, hr3_off _ _ _ (by omega)]; exact eh) (by omega)) (by decide) rfl ?_
    rintro _ _ ⟨rfl, rfl⟩
    iterate 2 refine Go.step rfl ?_
    rw [show nI b + 1 = nI (b + 1) from nI_1 b]
    refine ih (b + 1) (by omega) _ ?_
    have ew : I' 74 (34 + cl (I 74 1) % 24) = wy (I 74) := by rw [hM.2.1, hr3_off _ _ _ (by omega)]; rfl
    rw [hM.2.2 b hbn, ew]
    rw [gs_step (I 74) (I' 74) bread b hbn hb8 hM.2.1]
    exact hM.row
theorem hour_2 (I : AI) (T : AT) (hs : sOK (I 74)) (ht : tOK (I 74) 1) (bread : Int32) : ∀ m b, b + m = cl (I 74 0) → ∀ I', MH I (hr2 (I 74) b) I' → Go 5 y_M_hour 55 [some (.ref 73), some (.int bread), some (.int (nI b))] [] (hp I' T) (MHQ I T bread) := by
  obtain ⟨en, hn⟩ := hs.1.eq (by decide)
  obtain ⟨eh, hh⟩ := hs.2.1.eq (by decide)
  intro m
  induction m with
  | zero =>
    intro b hb I' hM
    have : b = cl (I 74 0) := by omega
    subst this
    have e0 : I' 74 0 = nI (cl (I 74 0)) := by rw [hM.2.1, hr2_off _ _ (by omega)]; exact en
    iterate 5 refine Go.step rfl ?_
    rw [show I' 74 (Int32.toNatClampNeg 0) = nI (cl (I 74 0)) from e0]
    refine Go.step rfl ?_
    refine Go.ifp (Int32.le_refl _) ?_
    iterate 2 refine Go.step rfl ?_
    refine hour_3 I T hs bread (cl (I 74 0)) 0 (by omega) I' ?_
    have : hr3 (I 74) bread 0 = hr2 (I 74) (cl (I 74 0)) := by
      refine row_ext (fun j hj => by rw [hr3_off _ _ _ hj, hr2_off _ _ hj]) (fun b f hb hf => ?_)
      rw [hr3_at _ _ _ hb hf, hr2_at _ _ hb hf, if_neg (by omega)]
    rw [this]; exact hM
  | succ m ih =>
    intro b hb I' hM
    have hbn : b < cl (I 74 0) := by omega
    have hb8 : b < 8 := by omega
    have e0 : I' 74 0 = nI (cl (I 74 0)) := by rw [hM.2.1, hr2_off _ _ (by omega)]; exact en
    obtain ⟨hc, ec⟩ := cel_lt hs hbn
    have rd : ∀ f, f < 8 → ¬ f = 6 → I' 74 (58 + 8 * b + f) = I 74 (58 + 8 * b + f) := by
      intro f hf h6
      rw [hM.2.1, hr2_at _ _ hb8 hf, if_neg (by omega), if_neg (by omega)]
    have next : ∀ I2, MH I (va_up (hr2 (I 74) b) (58 + 8 * b + 5) (ow2 (I 74) b)) I2 → Go 5 y_M_hour 123 [some (.ref 73), some (.int bread), some (.int (nI b))] [] (hp I2 T) (MHQ I T bread) := by
      intro I2 h2
      iterate 2 refine Go.step rfl ?_
      rw [show nI b + 1 = nI (b + 1) from nI_1 b]
      refine ih (b + 1) (by omega) I2 ?_
      have : va_up (hr2 (I 74) b) (58 + 8 * b + 5) (ow2 (I 74) b) = hr2 (I 74) (b + 1) := by
        refine row_ext (fun j hj => by rw [va_up_ne _ _ (by omega), hr2_off _ _ hj, hr2_off _ _ hj]) (fun b' f hb' hf => ?_)
        rw [rva_at _ _ (by decide) hf, hr2_at _ _ hb' hf, hr2_at _ _ hb' hf]
        by_cases q : b' = b ∧ f = 5
        · obtain ⟨rfl, rfl⟩ := q
          rw [if_pos ⟨rfl, rfl⟩, if_pos (by omega)]
        · rw [if_neg q]
          have e : (f = 5 ∧ b' < b) = (f = 5 ∧ b' < b + 1) := propext ⟨fun h => by omega, fun h => by omega⟩
          simp only [e]
      rw [← this]; exact h2
    have mid : ∀ I2, MH I (va_up (hr2 (I 74) b) (58 + 8 * b + 5) (ow1 (I 74) b)) I2 → Go 5 y_M_hour 94 [some (.ref 73), some (.int bread), some (.int (nI b))] [] (hp I2 T) (MHQ I T bread) := by
      intro I2 h2
      have rd2 : ∀ f, f < 5 → I2 74 (58 + 8 * b + f) = I 74 (58 + 8 * b + f) := by
        intro f hf
        rw [h2.2.1, va_up_ne _ _ (by omega), ← hM.2.1]
        exact rd f (by omega) (by omega)
      refine Go.step rfl ?_
      refine Go.cal (m_knots I2 T (cl (I 74 1)) (by rw [h2.2.1, va_up_ne _ _ (by omega), hr2_off _ _ (by omega)]; exact eh) (by omega)) (by decide) rfl ?_
      rintro _ _ ⟨rfl, rfl⟩
      rw [show I2 74 (10 + cl (I 74 1) % 24) = kn (I 74) by rw [h2.2.1, va_up_ne _ _ (by omega), hr2_off _ _ (by omega)]; rfl]
      refine Go.step rfl ?_
      refine Go.ite (fun c1 => ?_) (fun c1 => ?_)
      · iterate 3 refine Go.step rfl ?_
        refine Go.cal (m_its I2 T b 0 hb8 (by decide)) (by decide) rfl ?_
        rintro _ _ ⟨rfl, rfl⟩
        rw [rd2 0 (by decide)]
        iterate 2 refine Go.step rfl ?_
        refine Go.ite (fun c2 => ?_) (fun c2 => ?_)
        · iterate 5 refine Go.step rfl ?_
          refine Go.cal (m_its I2 T b 1 hb8 (by decide)) (by decide) rfl ?_
          rintro _ _ ⟨rfl, rfl⟩
          rw [rd2 1 (by decide)]
          refine Go.step rfl ?_
          refine Go.cal (m_owes I2 T b _ hb8) (by decide) rfl ?_
          rintro _ _ ⟨rfl, rfl⟩
          refine next _ ?_
          rw [h2.2.1, vu_same, vu_idem]
          rw [show owd (ow1 (I 74) b) (- I 74 (58 + 8 * b + 1)) = ow2 (I 74) b by unfold ow2; rw [if_pos ⟨c1, c2⟩]]
          exact h2.row
        · refine next I2 ?_
          rw [show ow2 (I 74) b = ow1 (I 74) b by unfold ow2; rw [if_neg (fun q => c2 q.2)]]
          exact h2
      · refine next I2 ?_
        rw [show ow2 (I 74) b = ow1 (I 74) b by unfold ow2; rw [if_neg (fun q => c1 q.1)]]
        exact h2
    have skip : ¬ (I 74 (58 + 8 * b + 7) = 0 ∧ 0 < tk (I 74) 255 b) → MH I (va_up (hr2 (I 74) b) (58 + 8 * b + 5) (ow1 (I 74) b)) I' := by
      intro q
      have e : ow1 (I 74) b = hr2 (I 74) b (58 + 8 * b + 5) := by
        unfold ow1
        rw [if_neg q, ← hM.2.1, rd 5 (by decide) (by decide)]
      rw [e, vu_self]
      exact hM
    iterate 5 refine Go.step rfl ?_
    rw [show I' 74 (Int32.toNatClampNeg 0) = nI (cl (I 74 0)) from e0]
    refine Go.step rfl ?_
    refine Go.ifn (nI_ge (a := b) (b := cl (I 74 0)) hbn (by omega)) ?_
    iterate 3 refine Go.step rfl ?_
    refine Go.cal (m_its I' T b 7 hb8 (by decide)) (by decide) rfl ?_
    rintro _ _ ⟨rfl, rfl⟩
    rw [rd 7 (by decide) (by decide)]
    refine Go.step rfl ?_
    refine Go.ite (fun c1 => ?_) (fun c1 => ?_)
    · iterate 3 refine Go.step rfl ?_
      refine Go.iald rfl rfl (am_in_nI hb8 (by decide)) ?_
      rw [nI_clamp (by omega), hM.2.2 b hbn]
      refine Go.step rfl ?_
      refine Go.ite (fun c2 => ?_) (fun c2 => ?_)
      · exact mid I' (skip (fun q => absurd q.2 (Int32.not_lt.mpr c2)))
      · iterate 4 refine Go.step rfl ?_
        have htr : ∀ j, 122 ≤ j → j < 372 → I' 74 j = I 74 j := fun j h1 h2 => by rw [hM.2.1, hr2_off _ _ (by omega)]
        refine Go.cal (m_bill I' T b (cel (I 74) b) (cl (I 74 1)) hb8 hc ((rd 2 (by decide) (by decide)).trans ec) (by rw [hM.2.1, hr2_off _ _ (by omega)]; exact eh) (by omega) (ht.congr (by decide) htr)) (by decide) rfl ?_
        rintro _ _ ⟨g, g', rfl, rfl⟩
        have eb : hel (bl0 (I' 74) (I' 83 b) (I' 74 (5 + cel (I 74) b / 6)) (I' 74 (10 + cl (I 74 1) % 24))) (-9999) 9999 = bil (I 74) b := by
          rw [bl0_congr ht htr, hM.2.2 b hbn, show I' 74 (5 + cel (I 74) b / 6) = I 74 (5 + cel (I 74) b / 6) by rw [hM.2.1, hr2_off _ _ (by omega)], show I' 74 (10 + cl (I 74 1) % 24) = I 74 (10 + cl (I 74 1) % 24) by rw [hM.2.1, hr2_off _ _ (by omega)]]
          rfl
        rw [eb]
        have hM2 := hM.scr g g'
        generalize va_up (va_up I' 79 g) 80 g' = I2 at hM2
        refine Go.cal (m_owes I2 T b _ hb8) (by decide) rfl ?_
        rintro _ _ ⟨rfl, rfl⟩
        refine mid _ ?_
        have e5 : I2 74 (58 + 8 * b + 5) = I 74 (58 + 8 * b + 5) := by rw [hM2.2.1, ← hM.2.1]; exact rd 5 (by decide) (by decide)
        rw [e5, hM2.2.1]
        rw [show owd (I 74 (58 + 8 * b + 5)) (bil (I 74) b) = ow1 (I 74) b by unfold ow1; rw [if_pos ⟨c1, Int32.not_le.mp c2⟩]]
        exact hM2.row
    · exact mid I' (skip (fun q => c1 q.1))
theorem hour_1 (I : AI) (T : AT) (hs : sOK (I 74)) (ht : tOK (I 74) 1) (bread : Int32) : ∀ m b, b + m = cl (I 74 0) → ∀ I', MH I (hr1 (I 74) b) I' → Go 5 y_M_hour 10 [some (.ref 73), some (.int bread), some (.int (nI b))] [] (hp I' T) (MHQ I T bread) := by
  obtain ⟨en, hn⟩ := hs.1.eq (by decide)
  intro m
  induction m with
  | zero =>
    intro b hb I' hM
    have : b = cl (I 74 0) := by omega
    subst this
    have e0 : I' 74 0 = nI (cl (I 74 0)) := by rw [hM.2.1, hr1_off _ _ (by omega)]; exact en
    iterate 5 refine Go.step rfl ?_
    rw [show I' 74 (Int32.toNatClampNeg 0) = nI (cl (I 74 0)) from e0]
    refine Go.step rfl ?_
    refine Go.ifp (Int32.le_refl _) ?_
    iterate 2 refine Go.step rfl ?_
    refine hour_2 I T hs ht bread (cl (I 74 0)) 0 (by omega) I' ?_
    have : hr2 (I 74) 0 = hr1 (I 74) (cl (I 74 0)) := by
      refine row_ext (fun j hj => by rw [hr2_off _ _ hj, hr1_off _ _ hj]) (fun b f hb hf => ?_)
      rw [hr2_at _ _ hb hf, hr1_at _ _ hb hf, if_neg (by omega)]
    rw [this]; exact hM
  | succ m ih =>
    intro b hb I' hM
    have hbn : b < cl (I 74 0) := by omega
    have hb8 : b < 8 := by omega
    have e0 : I' 74 0 = nI (cl (I 74 0)) := by rw [hM.2.1, hr1_off _ _ (by omega)]; exact en
    iterate 5 refine Go.step rfl ?_
    rw [show I' 74 (Int32.toNatClampNeg 0) = nI (cl (I 74 0)) from e0]
    refine Go.step rfl ?_
    refine Go.ifn (nI_ge (a := b) (b := cl (I 74 0)) hbn (by omega)) ?_
    iterate 6 refine Go.step rfl ?_
    refine Go.cal (m_its I' T b 6 hb8 (by decide)) (by decide) rfl ?_
    rintro _ _ ⟨rfl, rfl⟩
    rw [show I' 74 (58 + 8 * b + 6) = I 74 (58 + 8 * b + 6) by rw [hM.2.1, hr1_at _ _ hb8 (by decide), if_neg (by omega)]]
    iterate 3 refine Go.step rfl ?_
    refine Go.iald rfl rfl (am_in_nI hb8 (by decide)) ?_
    rw [nI_clamp (by omega), hM.2.2 b hbn]
    iterate 3 refine Go.step rfl ?_
    refine Go.cal (m_held _ _ _ _) (by decide) rfl ?_
    rintro _ _ ⟨rfl, rfl⟩
    refine Go.cal (m_lays1 I' T b 6 _ hb8 (by decide)) (by decide) rfl ?_
    rintro _ _ ⟨rfl, rfl⟩
    iterate 2 refine Go.step rfl ?_
    rw [show nI b + 1 = nI (b + 1) from nI_1 b]
    refine ih (b + 1) (by omega) _ ?_
    have : va_up (I' 74) (58 + 8 * b + 6) (hel (I 74 (58 + 8 * b + 6) + tk (I 74) 255 b) 0 999999) = hr1 (I 74) (b + 1) := by
      rw [hM.2.1]
      refine row_ext (fun j hj => by rw [va_up_ne _ _ (by omega), hr1_off _ _ hj, hr1_off _ _ hj]) (fun b' f hb' hf => ?_)
      rw [rva_at _ _ (by decide) hf, hr1_at _ _ hb' hf, hr1_at _ _ hb' hf]
      by_cases q : b' = b ∧ f = 6
      · obtain ⟨rfl, rfl⟩ := q
        rw [if_pos ⟨rfl, rfl⟩, if_pos (by omega)]; rfl
      · rw [if_neg q]
        have e : (f = 6 ∧ b' < b) = (f = 6 ∧ b' < b + 1) := propext ⟨fun h => by omega, fun h => by omega⟩
        simp only [e]
    rw [this]
    exact hM.row
theorem m_hour (I : AI) (T : AT) (hs : sOK (I 74)) (ht0 : tOK (I 74) 0) (ht : tOK (I 74) 1) (bread : Int32) : Ct 5 y_M_hour [.ref 73, .int bread] (hp I T) (MHQ I T bread) := by
  iterate 2 refine Go.step rfl ?_
  refine Go.cal (m_all I T) (by decide) rfl ?_
  rintro _ _ ⟨rfl, rfl⟩
  refine Go.cal (m_blow I T hs ht0 (alm (I 74))) (by decide) rfl ?_
  rintro _ _ ⟨I', rfl, hB, rfl⟩
  iterate 2 refine Go.step rfl ?_
  refine hour_1 I T hs ht bread (cl (I 74 0)) 0 (by omega) I' ?_
  have : hr1 (I 74) 0 = I 74 := by
    refine row_ext (fun j hj => hr1_off _ _ hj) (fun b f hb hf => ?_)
    rw [hr1_at _ _ hb hf, if_neg (by omega)]
  refine ⟨fun a h1 h2 => hB.1 a h2, by rw [this]; exact hB.1 74 (by omega), fun b hb => ?_⟩
  rw [hB.2.1 b hb, tk_congr (alm_bit hs) hb]
