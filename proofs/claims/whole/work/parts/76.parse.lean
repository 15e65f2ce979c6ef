/-! TEXTS as they are read: bytes t, n of them, the use u -/
def lk (t : Nat → Int32) (n p : Nat) : Int32 := if p < n then t p else -1
def dgB (b : Int32) : Bool := win b 48 57
def sgB (lv : Nat) (b : Int32) : Bool := if lv = 0 then decide (b = 124) else if lv = 1 then decide (b = 38) else if lv = 2 then decide (b = 60) || decide (b = 61) || decide (b = 62) else if lv = 3 then decide (b = 43) || decide (b = 45) else decide (b = 42) || decide (b = 47) || decide (b = 37)
def nmB (u : Nat) (b : Int32) : Bool := if u = 0 then decide (b = 98) || decide (b = 104) || decide (b = 109) else decide (b = 116) || decide (b = 112) || decide (b = 107)
def nmW (b : Int32) : Int32 := if b = 98 ∨ b = 116 then 10000 else if b = 104 ∨ b = 112 then 10001 else 10002
def nbr (t : Nat → Int32) (n : Nat) : Nat → Nat → Int32 → Nat × Int32
  | 0, p, v => (p, v)
  | c + 1, p, v => if dgB (lk t n p) = true then nbr t n c (p + 1) (10 * v + lk t n p - 48) else (p, v)
abbrev PR : Type := Bool × Nat × Nat × (Nat → Int32)
def pp (t : Nat → Int32) (n u : Nat) : Nat → Nat → Nat → Nat → Nat → (Nat → Int32) → Option PR
  | 0, _, _, _, _, _ => none
  | F + 1, m, o, p, k, f =>
    if m = 5 then
      (if dgB (lk t n p) = true then some (true, (nbr t n 4 p 0).1, k + 1, va_up f k (nbr t n 4 p 0).2)
      else if nmB u (lk t n p) = true then some (true, p + 1, k + 1, va_up f k (nmW (lk t n p)))
      else if lk t n p = 33 ∧ o < 5 then (pp t n u F 5 (o + 1) (p + 1) k f).bind (fun r => if r.1 = true then some (true, r.2.1, r.2.2.1 + 1, va_up r.2.2.2 r.2.2.1 20033) else some (false, r.2))
      else if lk t n p = 40 ∧ o < 5 then (pp t n u F 0 (o + 1) (p + 1) k f).bind (fun r => if r.1 = true then (if lk t n r.2.1 = 41 then some (true, r.2.1 + 1, r.2.2) else some (false, r.2)) else some (false, r.2))
      else some (false, p, k, f))
    else if m < 5 then (pp t n u F (m + 1) o p k f).bind (fun r => if r.1 = true then pp t n u F (10 + m) o r.2.1 r.2.2.1 r.2.2.2 else some (false, r.2))
    else if sgB (m - 10) (lk t n p) = true then (pp t n u F (m - 9) o (p + 1) k f).bind (fun r => if r.1 = true then (if m = 12 then some (true, r.2.1, r.2.2.1 + 1, va_up r.2.2.2 r.2.2.1 (20000 + lk t n p)) else pp t n u F m o r.2.1 (r.2.2.1 + 1) (va_up r.2.2.2 r.2.2.1 (20000 + lk t n p))) else some (false, r.2))
    else some (true, p, k, f)
/-- a word that a text may have -/
def wok (w : Int32) : Prop := (0 ≤ w ∧ w < 10003) ∨ w = 20033 ∨ w = 20124 ∨ w = 20038 ∨ w = 20060 ∨ w = 20061 ∨ w = 20062 ∨ w = 20043 ∨ w = 20045 ∨ w = 20042 ∨ w = 20047 ∨ w = 20037
theorem lk_lt {t : Nat → Int32} {n p : Nat} {c : Int32} (h : lk t n p = c) (hc : c ≠ -1) : p < n := by
  unfold lk at h
  by_cases q : p < n
  · exact q
  · rw [if_neg q] at h; exact absurd h.symm hc
theorem lk_at {t : Nat → Int32} {n p : Nat} (h : p < n) : lk t n p = t p := if_pos h
theorem dg_nI {b : Int32} (h : dgB b = true) : ∃ d, d ≤ 9 ∧ b = nI (48 + d) := by
  obtain ⟨j, h1, h2, rfl⟩ := win_lo (a := 48) (b := 57) (by decide) (by decide) h
  exact ⟨j - 48, by omega, by rw [show 48 + (j - 48) = j by omega]⟩
theorem dg_lt {t : Nat → Int32} {n p : Nat} (h : dgB (lk t n p) = true) : p < n := by
  obtain ⟨d, hd, e⟩ := dg_nI h
  exact lk_lt e (fun q => nI_pos (n := 48 + d) (by omega) (by rw [q]; decide))
theorem sg_or {lv : Nat} {b : Int32} (h : sgB lv b = true) : b = 124 ∨ b = 38 ∨ b = 60 ∨ b = 61 ∨ b = 62 ∨ b = 43 ∨ b = 45 ∨ b = 42 ∨ b = 47 ∨ b = 37 := by
  unfold sgB at h
  split at h
  · exact Or.inl (of_decide_eq_true h)
  · split at h
    · exact Or.inr (Or.inl (of_decide_eq_true h))
    · split at h
      · simp only [Bool.or_eq_true, decide_eq_true_eq] at h
        rcases h with (h | h) | h <;> simp [h]
      · split at h
        · simp only [Bool.or_eq_true, decide_eq_true_eq] at h
          rcases h with h | h <;> simp [h]
        · simp only [Bool.or_eq_true, decide_eq_true_eq] at h
          rcases h with (h | h) | h <;> simp [h]
theorem sg_lt {t : Nat → Int32} {n p lv : Nat} (h : sgB lv (lk t n p) = true) : p < n := by
  rcases sg_or h with q | q | q | q | q | q | q | q | q | q <;> exact lk_lt q (by decide)
theorem sg_word {lv : Nat} {b : Int32} (h : sgB lv b = true) : wok (20000 + b) ∧ ¬ (20000 + b) < 20000 ∧ ¬ 20000 + b = 20033 := by
  rcases sg_or h with q | q | q | q | q | q | q | q | q | q <;> subst q <;> (refine ⟨?_, by decide, by decide⟩; unfold wok; decide)
theorem nm_or {u : Nat} {b : Int32} (h : nmB u b = true) : b = 98 ∨ b = 104 ∨ b = 109 ∨ b = 116 ∨ b = 112 ∨ b = 107 := by
  unfold nmB at h
  split at h <;> simp only [Bool.or_eq_true, decide_eq_true_eq] at h <;> rcases h with (h | h) | h <;> simp [h]
theorem nm_lt {t : Nat → Int32} {n p u : Nat} (h : nmB u (lk t n p) = true) : p < n := by
  rcases nm_or h with q | q | q | q | q | q <;> exact lk_lt q (by decide)
theorem nm_word {u : Nat} {b : Int32} (h : nmB u b = true) : wok (nmW b) ∧ nmW b < 20000 := by
  rcases nm_or h with q | q | q | q | q | q <;> subst q <;> (refine ⟨?_, by decide⟩; unfold wok; decide)
theorem nbr_ok (t : Nat → Int32) (n : Nat) : ∀ c p v, (∃ w, w < 10 ^ (4 - c) ∧ v = nI w) → c ≤ 4 → p ≤ n → p ≤ (nbr t n c p v).1 ∧ (nbr t n c p v).1 ≤ n ∧ ∃ w, w < 10000 ∧ (nbr t n c p v).2 = nI w := by
  intro c
  induction c with
  | zero =>
    rintro p v ⟨w, hw, rfl⟩ _ hp
    exact ⟨Nat.le_refl p, hp, w, hw, rfl⟩
  | succ c ih =>
    rintro p v ⟨w, hw, rfl⟩ hc hp
    rw [nbr]
    split
    · rename_i q
      obtain ⟨d, hd, e⟩ := dg_nI q
      have hlt := dg_lt q
      have e4 : 10 ^ (4 - c) = 10 * 10 ^ (4 - (c + 1)) := by
        rw [show 4 - c = (4 - (c + 1)) + 1 by omega, Nat.pow_succ, Nat.mul_comm]
      have ih' := ih (p + 1) (10 * nI w + lk t n p - 48) ⟨10 * w + d, by omega, by
        rw [e, show (10 : Int32) = nI 10 from rfl, nI_mul, nI_add, show (48 : Int32) = nI 48 from rfl, nI_sub (by omega), show 10 * w + (48 + d) - 48 = 10 * w + d by omega]⟩ (by omega) hlt
      exact ⟨by omega, ih'.2.1, ih'.2.2⟩
    · refine ⟨Nat.le_refl p, hp, w, ?_, rfl⟩
      have : 10 ^ (4 - (c + 1)) ≤ 10 ^ 4 := Nat.pow_le_pow_right (by decide) (by omega)
      omega
theorem nbr_pos {t : Nat → Int32} {n p : Nat} (h : dgB (lk t n p) = true) (v : Int32) : (nbr t n 4 p v).1 = (nbr t n 3 (p + 1) (10 * v + lk t n p - 48)).1 ∧ (nbr t n 4 p v).2 = (nbr t n 3 (p + 1) (10 * v + lk t n p - 48)).2 := by
  rw [nbr, if_pos h]; exact ⟨rfl, rfl⟩
/-- what the reading from (p, k, f) leaves: (p', k', f') -/
def RQ (n m p k : Nat) (f : Nat → Int32) (r : PR) : Prop := p ≤ r.2.1 ∧ r.2.1 ≤ n ∧ (r.1 = true → (m < 10 → p < r.2.1) ∧ k ≤ r.2.2.1 ∧ r.2.2.1 + p ≤ r.2.1 + k ∧ (m < 10 → k < r.2.2.1) ∧ (∀ i, i < k → r.2.2.2 i = f i) ∧ (∀ i, k ≤ i → i < r.2.2.1 → wok (r.2.2.2 i)) ∧ ∀ d, deps f k = some d → (10 ≤ m → 1 ≤ d) → deps r.2.2.2 r.2.2.1 = some (if m < 10 then d + 1 else d) ∧ ∀ j, k ≤ j → j ≤ r.2.2.1 → ∃ e, deps r.2.2.2 j = some e)
theorem deps_push {f : Nat → Int32} {k : Nat} (w : Int32) : deps (va_up f k w) (k + 1) = (deps f k).bind (dep w) ∧ deps (va_up f k w) k = deps f k := by
  have h : deps (va_up f k w) k = deps f k := deps_congr (fun j hj => va_up_ne _ _ (by omega))
  refine ⟨?_, h⟩
  rw [deps, h, vu_same]
/-- one word more -/
theorem RQ.word {n p p' k : Nat} {f : Nat → Int32} {w : Int32} (hp : p < p') (hp' : p' ≤ n) (hw : wok w) (hd : w < 20000) : RQ n 5 p k f (true, p', k + 1, va_up f k w) := by
  refine ⟨by show p ≤ p'; omega, hp', fun _ => ⟨fun _ => hp, by show k ≤ k + 1; omega, by show k + 1 + p ≤ p' + k; omega, fun _ => by show k < k + 1; omega, fun i hi => va_up_ne _ _ (by omega), fun i h1 h2 => ?_, fun d e1 _ => ?_⟩⟩
  · have : i = k := by have : i < k + 1 := h2; omega
    subst this
    show wok (va_up f i w i)
    rw [vu_same]; exact hw
  · have := deps_push (f := f) (k := k) w
    have e : deps (va_up f k w) (k + 1) = some (d + 1) := by rw [this.1, e1]; simp [dep, hd]
    refine ⟨by rw [if_pos (by decide)]; exact e, fun j h1 h2 => ?_⟩
    have h2' : j ≤ k + 1 := h2
    by_cases q : j = k
    · subst q; exact ⟨d, by show deps (va_up f j w) j = _; rw [this.2]; exact e1⟩
    · have : j = k + 1 := by omega
      subst this; exact ⟨d + 1, e⟩
/-- a sign behind what was read -/
theorem RQ.sign {n m m' p p1 k : Nat} {f : Nat → Int32} {r : PR} {w : Int32} (h : RQ n m' p1 k f r) (hr : r.1 = true) (hm' : m' < 10) (hp1 : p1 = p + 1) (hw : wok w) (hd : ¬ w < 20000) (h33 : ¬ w = 20033) (hm : 10 ≤ m) : RQ n m p k f (true, r.2.1, r.2.2.1 + 1, va_up r.2.2.2 r.2.2.1 w) := by
  obtain ⟨a1, a2, a3⟩ := h
  obtain ⟨b1, b2, b3, b4, b5, b6, b7⟩ := a3 hr
  refine ⟨by show p ≤ r.2.1; omega, a2, fun _ => ⟨fun q => by omega, by show k ≤ r.2.2.1 + 1; omega, by show r.2.2.1 + 1 + p ≤ r.2.1 + k; omega, fun q => by omega, fun i hi => ?_, fun i h1 h2 => ?_, fun d e1 e2 => ?_⟩⟩
  · show va_up r.2.2.2 r.2.2.1 w i = f i
    rw [va_up_ne _ _ (by omega)]; exact b5 i hi
  · show wok (va_up r.2.2.2 r.2.2.1 w i)
    have h2' : i < r.2.2.1 + 1 := h2
    by_cases q : i = r.2.2.1
    · rw [q, vu_same]; exact hw
    · rw [va_up_ne _ _ q]; exact b6 i h1 (by omega)
  · have hd1 := e2 hm
    obtain ⟨c1, c2⟩ := b7 d e1 (fun q => by omega)
    rw [if_pos hm'] at c1
    have := deps_push (f := r.2.2.2) (k := r.2.2.1) w
    have e : deps (va_up r.2.2.2 r.2.2.1 w) (r.2.2.1 + 1) = some d := by
      rw [this.1, c1]
      simp only [Option.bind_some, dep]
      rw [if_neg hd, if_neg h33, if_pos (by omega)]; rfl
    refine ⟨by rw [if_neg (by omega)]; exact e, fun j h1 h2 => ?_⟩
    have h2' : j ≤ r.2.2.1 + 1 := h2
    show ∃ e, deps (va_up r.2.2.2 r.2.2.1 w) j = some e
    by_cases q : j = r.2.2.1 + 1
    · rw [q]; exact ⟨d, e⟩
    · obtain ⟨e', he'⟩ := c2 j h1 (by omega)
      refine ⟨e', ?_⟩
      rw [deps_congr (g := r.2.2.2) (fun i hi => va_up_ne _ _ (by omega))]; exact he'
/-- a reading behind a reading -/
theorem RQ.then {n m m1 m2 p k : Nat} {f : Nat → Int32} {r r2 : PR} (h : RQ n m1 p k f r) (hr : r.1 = true) (h2 : RQ n m2 r.2.1 r.2.2.1 r.2.2.2 r2) (hm2 : 10 ≤ m2) (hm : (m < 10 ∧ m1 < 10) ∨ (10 ≤ m ∧ 10 ≤ m1)) : RQ n m p k f r2 := by
  obtain ⟨a1, a2, a3⟩ := h
  obtain ⟨b1, b2, b3, b4, b5, b6, b7⟩ := a3 hr
  obtain ⟨c1, c2, c3⟩ := h2
  refine ⟨by omega, c2, fun hr2 => ?_⟩
  obtain ⟨d1, d2, d3, d4, d5, d6, d7⟩ := c3 hr2
  refine ⟨fun q => ?_, by omega, by omega, fun q => ?_, fun i hi => ?_, fun i g1 g2 => ?_, fun d e1 e2 => ?_⟩
  · have := b1 (by omega); omega
  · have := b4 (by omega); omega
  · rw [d5 i (by omega)]; exact b5 i hi
  · by_cases q : i < r.2.2.1
    · rw [d5 i q]; exact b6 i g1 q
    · exact d6 i (by omega) g2
  · obtain ⟨f1, f2⟩ := b7 d e1 (fun q => e2 (by omega))
    have hd : 1 ≤ (if m1 < 10 then d + 1 else d) := by
      split
      · omega
      · exact e2 (by omega)
    obtain ⟨g1, g2⟩ := d7 _ f1 (fun _ => hd)
    rw [if_neg (by omega)] at g1
    refine ⟨?_, fun j h1 h2 => ?_⟩
    · rw [g1]
      rcases hm with ⟨x1, x2⟩ | ⟨x1, x2⟩
      · rw [if_pos x1, if_pos x2]
      · rw [if_neg (by omega), if_neg (by omega)]
    · by_cases q : j ≤ r.2.2.1
      · obtain ⟨e', he'⟩ := f2 j h1 q
        exact ⟨e', by rw [deps_congr (g := r.2.2.2) (fun i hi => d5 i (by omega))]; exact he'⟩
      · exact g2 j (by omega) h2
theorem RQ.fail {n m p k : Nat} {f : Nat → Int32} {x : Nat × Nat × (Nat → Int32)} (h1 : p ≤ x.1) (h2 : x.1 ≤ n) : RQ n m p k f (false, x) := ⟨h1, h2, fun q => absurd (show false = true from q) (by decide)⟩
theorem pp_rq (t : Nat → Int32) (n u : Nat) : ∀ F m o p k f r, p ≤ n → (m ≤ 5 ∨ (10 ≤ m ∧ m ≤ 14)) → pp t n u F m o p k f = some r → RQ n m p k f r := by
  intro F
  induction F with
  | zero => intro m o p k f r hp hm h; cases h
  | succ F ih =>
    intro m o p k f r hp hm h
    rw [pp] at h
    by_cases m5 : m = 5
    · subst m5
      rw [if_pos rfl] at h
      split at h
      · rename_i q
        cases h
        have hlt := dg_lt q
        obtain ⟨e1, e2⟩ := nbr_pos q 0
        obtain ⟨d, hd, ed⟩ := dg_nI q
        have hn := nbr_ok t n 3 (p + 1) (10 * 0 + lk t n p - 48) ⟨d, by omega, by rw [ed, show (10 : Int32) * 0 = nI 0 from rfl, nI_add, show (48 : Int32) = nI 48 from rfl, nI_sub (by omega), show 0 + (48 + d) - 48 = d by omega]⟩ (by decide) hlt
        rw [e1, e2]
        obtain ⟨n1, n2, w, hw, ew⟩ := hn
        rw [ew]
        refine RQ.word (by omega) n2 (Or.inl ⟨nI_pos' (by omega), nI_lt (a := w) (b := 10003) (by omega) (by decide)⟩) (nI_lt (a := w) (b := 20000) (by omega) (by decide))
      · split at h
        · rename_i q
          cases h
          have hlt := nm_lt q
          have hw := nm_word q
          exact RQ.word (by omega) hlt hw.1 hw.2
        · split at h
          · rename_i q
            have hlt := lk_lt q.1 (by decide)
            cases hr : pp t n u F 5 (o + 1) (p + 1) k f with
            | none => rw [hr] at h; cases h
            | some r1 =>
              rw [hr] at h
              have hq := ih _ _ _ _ _ _ hlt (by decide) hr
              simp only [Option.bind_some] at h
              split at h
              · rename_i hb
                cases h
                obtain ⟨a1, a2, a3⟩ := hq
                obtain ⟨b1, b2, b3, b4, b5, b6, b7⟩ := a3 hb
                refine ⟨by show p ≤ r1.2.1; omega, a2, fun _ => ⟨fun _ => by show p < r1.2.1; omega, by show k ≤ r1.2.2.1 + 1; omega, by show r1.2.2.1 + 1 + p ≤ r1.2.1 + k; omega, fun _ => by show k < r1.2.2.1 + 1; omega, fun i hi => ?_, fun i h1 h2 => ?_, fun d e1 e2 => ?_⟩⟩
                · show va_up r1.2.2.2 r1.2.2.1 20033 i = f i
                  rw [va_up_ne _ _ (by omega)]; exact b5 i hi
                · show wok (va_up r1.2.2.2 r1.2.2.1 20033 i)
                  have h2' : i < r1.2.2.1 + 1 := h2
                  by_cases q2 : i = r1.2.2.1
                  · rw [q2, vu_same]; exact Or.inr (Or.inl rfl)
                  · rw [va_up_ne _ _ q2]; exact b6 i h1 (by omega)
                · obtain ⟨c1, c2⟩ := b7 d e1 (fun q => by omega)
                  rw [if_pos (by decide)] at c1
                  have := deps_push (f := r1.2.2.2) (k := r1.2.2.1) 20033
                  have e : deps (va_up r1.2.2.2 r1.2.2.1 20033) (r1.2.2.1 + 1) = some (d + 1) := by
                    rw [this.1, c1]
                    simp only [Option.bind_some, dep]
                    rw [if_neg (by decide), if_pos trivial, if_pos (by omega)]
                  refine ⟨by rw [if_pos (by decide)]; exact e, fun j h1 h2 => ?_⟩
                  have h2' : j ≤ r1.2.2.1 + 1 := h2
                  show ∃ e, deps (va_up r1.2.2.2 r1.2.2.1 20033) j = some e
                  by_cases q2 : j = r1.2.2.1 + 1
                  · rw [q2]; exact ⟨d + 1, e⟩
                  · obtain ⟨e', he'⟩ := c2 j h1 (by omega)
                    refine ⟨e', ?_⟩
                    rw [deps_congr (g := r1.2.2.2) (fun i hi => va_up_ne _ _ (by omega))]; exact he'
              · cases h
                exact RQ.fail (by have := hq.1; omega) hq.2.1
          · split at h
            · rename_i q
              have hlt := lk_lt q.1 (by decide)
              cases hr : pp t n u F 0 (o + 1) (p + 1) k f with
              | none => rw [hr] at h; cases h
              | some r1 =>
                rw [hr] at h
                have hq := ih _ _ _ _ _ _ hlt (by decide) hr
                simp only [Option.bind_some] at h
                split at h
                · rename_i hb
                  split at h
                  · rename_i hc
                    cases h
                    have hl2 := lk_lt hc (by decide)
                    obtain ⟨a1, a2, a3⟩ := hq
                    obtain ⟨b1, b2, b3, b4, b5, b6, b7⟩ := a3 hb
                    exact ⟨by show p ≤ r1.2.1 + 1; omega, by show r1.2.1 + 1 ≤ n; omega, fun _ => ⟨fun _ => by show p < r1.2.1 + 1; omega, b2, by show r1.2.2.1 + p ≤ r1.2.1 + 1 + k; omega, fun _ => b4 (by decide), b5, b6, fun d e1 e2 => b7 d e1 (fun q => by omega)⟩⟩
                  · cases h
                    exact RQ.fail (by have := hq.1; omega) hq.2.1
                · cases h
                  exact RQ.fail (by have := hq.1; omega) hq.2.1
            · cases h
              exact RQ.fail (Nat.le_refl p) hp
    · rw [if_neg m5] at h
      by_cases ml : m < 5
      · rw [if_pos ml] at h
        cases hr : pp t n u F (m + 1) o p k f with
        | none => rw [hr] at h; cases h
        | some r1 =>
          rw [hr] at h
          have hq := ih _ _ _ _ _ _ hp (by omega) hr
          simp only [Option.bind_some] at h
          split at h
          · rename_i hb
            have hq2 := ih _ _ _ _ _ _ hq.2.1 (by omega) h
            exact RQ.then hq hb hq2 (by omega) (Or.inl ⟨by omega, by omega⟩)
          · cases h
            exact RQ.fail hq.1 hq.2.1
      · rw [if_neg ml] at h
        split at h
        · rename_i q
          have hlt := sg_lt q
          have hw := sg_word q
          cases hr : pp t n u F (m - 9) o (p + 1) k f with
          | none => rw [hr] at h; cases h
          | some r1 =>
            rw [hr] at h
            by_cases hm5 : m - 9 ≤ 5 ∨ (10 ≤ m - 9 ∧ m - 9 ≤ 14)
            · have hq := ih _ _ _ _ _ _ hlt hm5 hr
              simp only [Option.bind_some] at h
              split at h
              · rename_i hb
                have hs := RQ.sign (m := m) (p := p) hq hb (by omega) rfl hw.1 hw.2.1 hw.2.2 (by omega)
                split at h
                · cases h; exact hs
                · have hq2 := ih _ _ _ _ _ _ hq.2.1 (by omega) h
                  exact RQ.then hs rfl hq2 (by omega) (Or.inr ⟨by omega, by omega⟩)
              · cases h
                exact RQ.fail (by have := hq.1; omega) hq.2.1
            · omega
        · cases h
          refine ⟨Nat.le_refl p, hp, fun _ => ⟨fun q => by omega, Nat.le_refl k, by show k + p ≤ p + k; omega, fun q => by omega, fun i hi => rfl, fun i h1 h2 => ?_, fun d e1 e2 => ⟨by rw [if_neg (by omega)]; exact e1, fun j h1 h2 => ?_⟩⟩⟩
          · have : i < k := h2; omega
          · have h2' : j ≤ k := h2
            have : j = k := by omega
            subst this; exact ⟨d, e1⟩
def need (m p : Nat) : Nat := 20 * (61 - p) + (if m ≤ 5 then 6 - m else 8)
theorem pp_fuel (t : Nat → Int32) (n u : Nat) (hn : n ≤ 60) : ∀ F m o p k f, p ≤ n → (m ≤ 5 ∨ (10 ≤ m ∧ m ≤ 14)) → need m p ≤ F → ∃ r, pp t n u F m o p k f = some r := by
  intro F
  induction F with
  | zero => intro m o p k f hp hm h; unfold need at h; omega
  | succ F ih =>
    intro m o p k f hp hm h
    unfold need at h ih
    rw [pp]
    by_cases m5 : m = 5
    · subst m5
      rw [if_pos rfl]
      split
      · exact ⟨_, rfl⟩
      · split
        · exact ⟨_, rfl⟩
        · split
          · rename_i q
            have hlt := lk_lt q.1 (by decide)
            obtain ⟨r1, hr⟩ := ih 5 (o + 1) (p + 1) k f hlt (by decide) (by rw [if_pos (by decide)] at h ⊢; omega)
            rw [hr]
            simp only [Option.bind_some]
            split <;> exact ⟨_, rfl⟩
          · split
            · rename_i q
              have hlt := lk_lt q.1 (by decide)
              obtain ⟨r1, hr⟩ := ih 0 (o + 1) (p + 1) k f hlt (by decide) (by rw [if_pos (by decide)] at h ⊢; omega)
              rw [hr]
              simp only [Option.bind_some]
              split
              · split <;> exact ⟨_, rfl⟩
              · exact ⟨_, rfl⟩
            · exact ⟨_, rfl⟩
    · rw [if_neg m5]
      by_cases ml : m < 5
      · rw [if_pos ml]
        obtain ⟨r1, hr⟩ := ih (m + 1) o p k f hp (by omega) (by rw [if_pos (by omega)] at h ⊢; omega)
        have hq := pp_rq t n u _ _ _ _ _ _ _ hp (by omega) hr
        rw [hr]
        simp only [Option.bind_some]
        split
        · rename_i hb
          have := (hq.2.2 hb).1 (by omega)
          have := hq.2.1
          exact ih (10 + m) o _ _ _ hq.2.1 (by omega) (by rw [if_neg (by omega)]; rw [if_pos (by omega)] at h; omega)
        · exact ⟨_, rfl⟩
      · rw [if_neg ml]
        split
        · rename_i q
          have hlt := sg_lt q
          obtain ⟨r1, hr⟩ := ih (m - 9) o (p + 1) k f hlt (by omega) (by rw [if_pos (by omega)]; rw [if_neg (by omega)] at h; omega)
          have hq := pp_rq t n u _ _ _ _ _ _ _ hlt (by omega) hr
          rw [hr]
          simp only [Option.bind_some]
          split
          · rename_i hb
            have := (hq.2.2 hb).1 (by omega)
            have := hq.2.1
            split
            · exact ⟨_, rfl⟩
            · exact ih m o _ _ _ hq.2.1 (by omega) (by rw [if_neg (by omega)] at h ⊢; omega)
          · exact ⟨_, rfl⟩
        · exact ⟨_, rfl⟩
