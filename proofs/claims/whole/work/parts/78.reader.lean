/-! the class's reader -/
/-- where the reader is: place p, k words f, faulty or not -/
def RD (t : Nat → Int32) (n : Nat) (I : AI) (p k : Nat) (f : Nat → Int32) : Prop := I 55 3 = nI n ∧ I 55 5 = nI p ∧ I 55 4 = nI k ∧ I 55 6 = 0 ∧ (∀ i, i < k → I 57 i = f i) ∧ ∀ j, j < n → I 56 j = t j
/-- what a reading leaves behind -/
def RE (t : Nat → Int32) (n : Nat) (I : AI) (r : PR) (I' : AI) : Prop := (∀ a, a ≠ 55 → a ≠ 57 → I' a = I a) ∧ (r.1 = true → RD t n I' r.2.1 r.2.2.1 r.2.2.2) ∧ (r.1 = false → I' 55 3 = nI n ∧ I' 55 5 = nI r.2.1 ∧ I' 55 6 = 1)
theorem RE.tr {t : Nat → Int32} {n : Nat} {I I1 I2 : AI} {r : PR} (h : ∀ a, a ≠ 55 → a ≠ 57 → I1 a = I a) (h2 : RE t n I1 r I2) : RE t n I r I2 :=
  ⟨fun a g1 g2 => by rw [h2.1 a g1 g2]; exact h a g1 g2, h2.2.1, h2.2.2⟩
theorem x_peek (t : Nat → Int32) (n : Nat) (hn : n ≤ 60) (I : AI) (T : AT) (p : Nat) (hp60 : p ≤ 60) (h3 : I 55 3 = nI n) (h5 : I 55 5 = nI p) (ht : ∀ j, j < n → I 56 j = t j) : Ct 1 y_Reader_peek [.ref 55] (hp I T) (fun r h' => h' = hp I T ∧ r = some (.int (lk t n p))) := by
  iterate 2 refine Go.step rfl ?_
  rw [h5]
  iterate 3 refine Go.step rfl ?_
  rw [h3]
  iterate 2 refine Go.step rfl ?_
  refine Go.cal (x_within _ (nI p) 0 (nI n - 1)) (by decide) rfl ?_
  rintro _ _ ⟨rfl, rfl⟩
  refine Go.step rfl ?_
  by_cases q : p < n
  · obtain ⟨m, rfl⟩ : ∃ m, n = m + 1 := ⟨n - 1, by omega⟩
    rw [nI_pred, show win (nI p) 0 (nI m) = true from win_of_le (by omega) (by omega)]
    refine Go.ifz (fun c1 => by cases c1) (fun _ => ?_)
    iterate 4 refine Go.step rfl ?_
    rw [h5]
    refine Go.iald rfl rfl (am_in_nI (show p < 60 by omega) (by decide)) ?_
    rw [nI_clamp (by omega), ht p q]
    refine Go.step rfl ?_
    exact Go.ret rfl ⟨rfl, by rw [lk_at q]⟩
  · have hw : win (nI p) 0 (nI n - 1) = false := by
      cases n with
      | zero =>
        have z : ¬ nI p ≤ nI 0 - 1 := fun z => absurd (Int32.le_trans (nI_pos' (n := p) (by omega)) (show nI p ≤ -1 from z)) (by decide)
        unfold win
        rw [decide_eq_false z, Bool.and_false]
      | succ n =>
        rw [nI_pred]
        unfold win
        rw [decide_eq_false (nI_ge (a := n) (b := p) (by omega) (by omega)), Bool.and_false]
    rw [hw]
    refine Go.ifz (fun _ => ?_) (fun c1 => by cases c1)
    refine Go.step rfl ?_
    exact Go.ret rfl ⟨rfl, by unfold lk; rw [if_neg q]⟩
theorem RD.peek {t : Nat → Int32} {n : Nat} {I : AI} {p k : Nat} {f : Nat → Int32} (h : RD t n I p k f) (hn : n ≤ 60) (hp60 : p ≤ 60) (T : AT) : Ct 1 y_Reader_peek [.ref 55] (hp I T) (fun r h' => h' = hp I T ∧ r = some (.int (lk t n p))) := x_peek t n hn I T p hp60 h.1 h.2.1 h.2.2.2.2.2
/-- a word more -/
def wrI (I : AI) (k : Nat) (w : Int32) : AI := va_up (va_up I 57 (va_up (I 57) k w)) 55 (va_up (I 55) 4 (nI (k + 1)))
theorem x_rwrite (t : Nat → Int32) (n : Nat) (I : AI) (T : AT) (p k : Nat) (f : Nat → Int32) (h : RD t n I p k f) (hk : k < 60) (w : Int32) : Ct 0 y_Reader_write [.ref 55, .int w] (hp I T) (fun r h' => h' = hp (wrI I k w) T ∧ r = none) := by
  iterate 2 refine Go.step rfl ?_
  rw [h.2.2.2.1]
  refine Go.step rfl ?_
  iterate 2 refine Go.step rfl ?_
  rw [h.2.2.1]
  iterate 4 refine Go.step rfl ?_
  refine Go.ifn (nI_ge (a := k) (b := 60) hk (by decide)) ?_
  iterate 4 refine Go.step rfl ?_
  rw [h.2.2.1]
  refine Go.step rfl ?_
  refine Go.iast rfl rfl (am_in_nI hk (by decide)) ?_
  rw [nI_clamp (by omega)]
  iterate 6 refine Go.step rfl ?_
  refine Go.ret rfl ⟨?_, rfl⟩
  rw [va_up_ne _ _ (show 55 ≠ 57 by decide), h.2.2.1, nI_1]
  rfl
theorem RD.wr {t : Nat → Int32} {n : Nat} {I : AI} {p k : Nat} {f : Nat → Int32} (h : RD t n I p k f) (w : Int32) : RD t n (wrI I k w) p (k + 1) (va_up f k w) := by
  obtain ⟨h1, h2, h3, h4, h5, h6⟩ := h
  unfold wrI
  refine ⟨by rw [vu_same, va_up_ne _ _ (by decide)]; exact h1, by rw [vu_same, va_up_ne _ _ (by decide)]; exact h2, by rw [vu_same, vu_same], by rw [vu_same, va_up_ne _ _ (by decide)]; exact h4, fun i hi => ?_, fun j hj => by rw [va_up_ne _ _ (by decide), va_up_ne _ _ (by decide)]; exact h6 j hj⟩
  rw [va_up_ne _ _ (by decide), vu_same]
  by_cases q : i = k
  · subst q; rw [vu_same, vu_same]
  · rw [va_up_ne _ _ q, va_up_ne _ _ q]; exact h5 i (by omega)
theorem wrI_ne (I : AI) (k : Nat) (w : Int32) {a : Nat} (h1 : a ≠ 55) (h2 : a ≠ 57) : wrI I k w a = I a := by
  unfold wrI; rw [va_up_ne _ _ h1, va_up_ne _ _ h2]
/-- a step on -/
def onI (I : AI) (p : Nat) : AI := va_up I 55 (va_up (I 55) 5 (nI p))
theorem RD.on {t : Nat → Int32} {n : Nat} {I : AI} {p k : Nat} {f : Nat → Int32} (h : RD t n I p k f) (p' : Nat) : RD t n (onI I p') p' k f := by
  obtain ⟨h1, h2, h3, h4, h5, h6⟩ := h
  unfold onI
  exact ⟨by rw [vu_same, va_up_ne _ _ (by decide)]; exact h1, by rw [vu_same, vu_same], by rw [vu_same, va_up_ne _ _ (by decide)]; exact h3, by rw [vu_same, va_up_ne _ _ (by decide)]; exact h4, fun i hi => by rw [va_up_ne _ _ (by decide)]; exact h5 i hi, fun j hj => by rw [va_up_ne _ _ (by decide)]; exact h6 j hj⟩
theorem onI_ne (I : AI) (p : Nat) {a : Nat} (h1 : a ≠ 55) : onI I p a = I a := va_up_ne _ _ h1
/-- the fault -/
def faI (I : AI) : AI := va_up I 55 (va_up (I 55) 6 1)
theorem faI_fail {t : Nat → Int32} {n : Nat} {I0 I : AI} {p : Nat} {x : Nat × (Nat → Int32)} (h3 : I 55 3 = nI n) (h5 : I 55 5 = nI p) (hI : ∀ a, a ≠ 55 → a ≠ 57 → I a = I0 a) : RE t n I0 (false, p, x) (faI I) := by
  unfold faI
  exact ⟨fun a g1 g2 => by rw [va_up_ne _ _ g1]; exact hI a g1 g2, fun q => absurd (show false = true from q) (by decide), fun _ => ⟨by rw [vu_same, va_up_ne _ _ (by decide)]; exact h3, by rw [vu_same, va_up_ne _ _ (by decide)]; exact h5, by rw [vu_same, vu_same]⟩⟩
theorem x_isDigit (h : AH) (b : Int32) : Ct 1 y_Reader_isDigit [.int b] h (fun r h' => h' = h ∧ r = some (.int (bo (dgB b)))) := by
  obtain ⟨I, P, S, n, sl⟩ := h
  iterate 3 refine Go.step rfl ?_
  refine Go.cal (x_within _ b 48 57) (by decide) rfl ?_
  rintro _ _ ⟨rfl, rfl⟩
  exact Go.zret rfl rfl (bo_01 _) ⟨rfl, rfl⟩
theorem x_readNumber (t : Nat → Int32) (n : Nat) (hn : n ≤ 60) (I : AI) (T : AT) (p k : Nat) (f : Nat → Int32) (h : RD t n I p k f) (hpn : p ≤ n) (hk : k < 60) : Ct 2 y_Reader_readNumber [.ref 55] (hp I T) (fun r h' => ∃ I', h' = hp I' T ∧ RE t n I (true, (nbr t n 4 p 0).1, k + 1, va_up f k (nbr t n 4 p 0).2) I' ∧ r = none) := by
  have loop : ∀ c p v I1, c ≤ 4 → nbr t n c p v = nbr t n 4 p 0 ∨ True → p ≤ n → RD t n I1 p k f → (∀ a, a ≠ 55 → a ≠ 57 → I1 a = I a) → Go 2 y_Reader_readNumber 4 [some (.ref 55), some (.int v), some (.int (nI (4 - c)))] [] (hp I1 T) (fun r h' => ∃ I', h' = hp I' T ∧ RE t n I (true, (nbr t n c p v).1, k + 1, va_up f k (nbr t n c p v).2) I' ∧ r = none) := by
    intro c
    induction c with
    | zero =>
      intro p v I1 hc _ hp1 hR hI
      iterate 3 refine Go.step rfl ?_
      refine Go.ifp (Int32.le_refl _) ?_
      iterate 2 refine Go.step rfl ?_
      refine Go.cal (x_rwrite t n I1 T p k f hR hk v) (by decide) rfl ?_
      rintro _ _ ⟨rfl, rfl⟩
      exact Go.ret rfl ⟨_, rfl, ⟨fun a g1 g2 => by rw [wrI_ne _ _ _ g1 g2]; exact hI a g1 g2, fun _ => hR.wr v, fun q => absurd (show true = false from q) (by decide)⟩, rfl⟩
    | succ c ih =>
      intro p v I1 hc _ hp1 hR hI
      iterate 3 refine Go.step rfl ?_
      refine Go.ifn (nI_ge (a := 4 - (c + 1)) (b := 4) (by omega) (by decide)) ?_
      refine Go.step rfl ?_
      refine Go.cal (hR.peek hn (by omega) T) (by decide) rfl ?_
      rintro _ _ ⟨rfl, rfl⟩
      refine Go.cal (x_isDigit _ (lk t n p)) (by decide) rfl ?_
      rintro _ _ ⟨rfl, rfl⟩
      refine Go.step rfl ?_
      refine Go.ifz (fun c1 => ?_) (fun c1 => ?_)
      · rw [show nbr t n (c + 1) p v = (p, v) by rw [nbr, if_neg (by rw [c1]; decide)]]
        iterate 2 refine Go.step rfl ?_
        refine Go.cal (x_rwrite t n I1 T p k f hR hk v) (by decide) rfl ?_
        rintro _ _ ⟨rfl, rfl⟩
        exact Go.ret rfl ⟨_, rfl, ⟨fun a g1 g2 => by rw [wrI_ne _ _ _ g1 g2]; exact hI a g1 g2, fun _ => hR.wr v, fun q => absurd (show true = false from q) (by decide)⟩, rfl⟩
      · have hlt := dg_lt c1
        rw [show nbr t n (c + 1) p v = nbr t n c (p + 1) (10 * v + lk t n p - 48) by rw [nbr, if_pos c1]]
        iterate 4 refine Go.step rfl ?_
        refine Go.cal (hR.peek hn (by omega) T) (by decide) rfl ?_
        rintro _ _ ⟨rfl, rfl⟩
        iterate 7 refine Go.step rfl ?_
        rw [hR.2.1]
        iterate 5 refine Go.step rfl ?_
        rw [show nI p + 1 = nI (p + 1) from nI_1 p, show nI (4 - (c + 1)) + 1 = nI (4 - c) by rw [nI_1, show 4 - (c + 1) + 1 = 4 - c by omega], Int32.mul_comm v 10]
        exact ih (p + 1) _ (onI I1 (p + 1)) (by omega) (Or.inr trivial) hlt (hR.on (p + 1)) (fun a g1 g2 => by rw [onI_ne _ _ g1]; exact hI a g1 g2)
  iterate 4 refine Go.step rfl ?_
  exact loop 4 p 0 I (Nat.le_refl 4) (Or.inr trivial) hpn h (fun _ _ _ => rfl)
