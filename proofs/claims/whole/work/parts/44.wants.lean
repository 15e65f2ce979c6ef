/-! what a boat wants: the reference -/
/-- the word that a step of the row stands for -/
def utok (u : Nat) (p : Int32 × Int32) : Int32 := if p.1 = 0 then p.2 else if p.1 = 1 then (if p.2 = nI (nmc u 0) then 10000 else if p.2 = nI (nmc u 1) then 10001 else 10002) else if p.1 = 2 then 20033 else p.2 + 20000
theorem utok_tok {u : Nat} (hu : u < 2) {f : Nat → Int32} {len k : Nat} (h : wfT f len) (hk : k < len) : utok u (tok u (f k)) = f k := by
  obtain ⟨-, -, h3⟩ := wf_word h hk
  rcases h3 with ⟨q1, q2, q3, q4⟩ | ⟨q1, q2, q3, q4⟩ | ⟨q1, q2, q3, q4, q5⟩ | ⟨q1, q2, q3, q4, q5, q6⟩
  · rw [tok, if_pos q1]; rfl
  · rcases (show u = 0 ∨ u = 1 by omega) with rfl | rfl <;> rcases q3 with q3 | q3 | q3 <;> rw [q3] <;> rfl
  · rw [q3]; rfl
  · rw [tok, if_neg q1, if_neg q2, if_neg q3]
    show f k - 20000 + 20000 = f k
    exact Int32.sub_add_cancel _ _
def wrd (s : Nat → Int32) (u k : Nat) : Int32 := utok u (s (123 + 125 * u + 2 * k), s (124 + 125 * u + 2 * k))
def tev (s : Nat → Int32) (u : Nat) (a1 a2 a3 : Int32) : Int32 := evT (wrd s u) (cl (s (122 + 125 * u))) a1 a2 a3
def tOK (s : Nat → Int32) (u : Nat) : Prop := s (122 + 125 * u) = 0 ∨ ∃ f len, wfT f len ∧ s (122 + 125 * u) = nI len ∧ ∀ k, k < len → (s (123 + 125 * u + 2 * k), s (124 + 125 * u + 2 * k)) = tok u (f k)
theorem deps_congr {f g : Nat → Int32} : ∀ {k : Nat}, (∀ j, j < k → f j = g j) → deps f k = deps g k := by
  intro k
  induction k with
  | zero => intro _; rfl
  | succ k ih => intro h; rw [deps, deps, ih (fun j hj => h j (by omega)), h k (by omega)]
theorem evA_congr {f g : Nat → Int32} {a1 a2 a3 : Int32} : ∀ {k : Nat}, (∀ j, j < k → f j = g j) → evA f a1 a2 a3 k = evA g a1 a2 a3 k := by
  intro k
  induction k with
  | zero => intro _; rfl
  | succ k ih =>
    intro h
    have h1 : dp f k = dp g k := by unfold dp; rw [deps_congr (fun j hj => h j (by omega))]
    rw [evA, evA, ih (fun j hj => h j (by omega)), h k (by omega), h1]
theorem tev_eq {s : Nat → Int32} {u : Nat} (hu : u < 2) {f : Nat → Int32} {len : Nat} (h : wfT f len) (hl : s (122 + 125 * u) = nI len) (ht : ∀ k, k < len → (s (123 + 125 * u + 2 * k), s (124 + 125 * u + 2 * k)) = tok u (f k)) (a1 a2 a3 : Int32) : tev s u a1 a2 a3 = evT f len a1 a2 a3 := by
  have hlen := h.2.1
  unfold tev evT
  rw [hl, show cl (nI len) = len from nI_clamp (by omega)]
  rw [evA_congr (f := wrd s u) (g := f) (fun j hj => by unfold wrd; rw [ht j hj]; exact utok_tok hu h hj)]
def hod (s : Nat → Int32) : Nat := cl (s 1) % 24
def wish (s : Nat → Int32) (b : Nat) (x : Int32) : Int32 := if s (58 + 8 * b) = 1 then x / 2 else if s (58 + 8 * b) = 3 then x / 2 + s (58 + 8 * b + 1) else if s (58 + 8 * b) = 4 then (if x / 2 < s (58 + 8 * b + 1) then x / 2 else s (58 + 8 * b + 1)) else if s (58 + 8 * b) = 5 then x / 4 else if s (58 + 8 * b) = 6 then (if s 122 = 0 then x / 3 else tev s 0 x (nI (hod s)) (s (58 + 8 * b + 1))) else 0
def furd (s : Nat → Int32) (b : Nat) : Bool := fur (s (58 + 8 * b + 7)) (s (5 + cl (s (58 + 8 * b + 2)) / 6)) (s (58 + 8 * b + 4))
def wan (s : Nat → Int32) (b : Nat) (x : Int32) : Int32 := if furd s b = true then 0 else hel (wish s b x) 0 x
theorem wan_in {s : Nat → Int32} {b : Nat} {x : Int32} (hx : 0 ≤ x) : 0 ≤ wan s b x ∧ wan s b x ≤ x := by
  unfold wan
  split
  · exact ⟨Int32.le_refl 0, hx⟩
  · exact hel_in hx
theorem m_hasText' (I : AI) (T : AT) (u : Nat) (hu : u < 2) : Ct 0 y_M_hasText [.ref 73, .int (nI u)] (hp I T) (fun r h' => h' = hp I T ∧ r = some (.int (bo (decide (0 < I 74 (122 + 125 * u)))))) := by
  have eB : (122 : Int32) + 125 * nI u = nI (122 + 125 * u) := by
    show nI 122 + nI 125 * nI u = _
    rw [nI_mul, nI_add]
  iterate 7 refine Go.step rfl ?_
  rw [eB]
  refine Go.iald rfl rfl (am_in_nI (by omega) (by decide)) ?_
  rw [nI_clamp (by omega)]
  refine Go.step rfl ?_
  refine Go.ite (fun c1 => ?_) (fun c1 => ?_)
  · repeat refine Go.step rfl ?_
    exact Go.ret rfl ⟨rfl, by rw [decide_eq_false (Int32.not_lt.mpr c1)]; rfl⟩
  · repeat refine Go.step rfl ?_
    exact Go.ret rfl ⟨rfl, by rw [decide_eq_true (Int32.not_le.mp c1)]; rfl⟩
theorem tOK_pos {s : Nat → Int32} {u : Nat} (h : tOK s u) : 0 < s (122 + 125 * u) ↔ ¬ s (122 + 125 * u) = 0 := by
  rcases h with h | ⟨f, len, h1, h2, h3⟩
  · rw [h]; simp
  · rw [h2]
    have := h1.1
    have := h1.2.1
    exact ⟨fun _ => nI_ne0 (by omega) (by omega), fun _ => nI_lt (a := 0) (b := len) (by omega) (by omega)⟩
theorem m_grinds (I : AI) (T : AT) (hs : sOK (I 74)) (ht : tOK (I 74) 0) (b : Nat) (hb : b < 8) (x : Int32) : Ct 2 y_M_grinds [.ref 73, .int (nI b), .int x] (hp I T) (fun r h' => ∃ g g', h' = hp (va_up (va_up I 79 g) 80 g') T ∧ r = some (.int (if I 74 122 = 0 then x / 3 else tev (I 74) 0 x (nI (hod (I 74))) (I 74 (58 + 8 * b + 1))))) := by
  iterate 2 refine Go.step rfl ?_
  refine Go.cal (m_hasText' I T 0 (by decide)) (by decide) rfl ?_
  rintro _ _ ⟨rfl, rfl⟩
  refine Go.step rfl ?_
  have hp0 := tOK_pos ht
  refine Go.ifz (fun c1 => ?_) (fun c1 => ?_)
  · have c2 : I 74 122 = 0 := Decidable.byContradiction (fun q => of_decide_eq_false c1 (hp0.mpr q))
    repeat refine Go.step rfl ?_
    refine Go.ret rfl ⟨I 79, I 80, ?_, by rw [if_pos c2]⟩
    rw [vu_self, vu_self]
  · have c2 : ¬ I 74 122 = 0 := hp0.mp (of_decide_eq_true c1)
    rcases ht with ht | ⟨f, len, h1, h2, h3⟩
    · exact absurd ht c2
    obtain ⟨eh, hh⟩ := hs.2.1.eq (by decide)
    iterate 9 refine Go.step rfl ?_
    refine Go.cal (m_hourOfDay _ T (cl (I 74 1)) (by rw [va_up_ne _ _ (by decide)]; exact eh) (by omega)) (by decide) rfl ?_
    rintro _ _ ⟨rfl, rfl⟩
    iterate 7 refine Go.step rfl ?_
    refine Go.cal (m_its _ T b 1 hb (by decide)) (by decide) rfl ?_
    rintro _ _ ⟨rfl, rfl⟩
    iterate 3 refine Go.step rfl ?_
    simp only [vu_idem, vu_same]
    refine Go.cal (m_worked _ T 0 (by decide) f len h1 (by rw [va_up_ne _ _ (by decide)]; exact h2) (fun k hk => by rw [va_up_ne _ _ (by decide)]; exact h3 k hk) x (nI (hod (I 74))) (I 74 (58 + 8 * b + 1)) ?_ ?_ ?_) (by decide) rfl ?_
    · rw [vu_same]; rfl
    · rw [vu_same]; rfl
    · rw [vu_same]; rfl
    · rintro _ _ ⟨g, rfl, rfl⟩
      refine Go.ret rfl ⟨_, g, rfl, ?_⟩
      rw [if_neg c2, tev_eq (by decide) h1 h2 h3]
theorem wish_of {s : Nat → Int32} {b : Nat} {x : Int32} {k : Int32} (h : s (58 + 8 * b) = k) : wish s b x = if k = 1 then x / 2 else if k = 3 then x / 2 + s (58 + 8 * b + 1) else if k = 4 then (if x / 2 < s (58 + 8 * b + 1) then x / 2 else s (58 + 8 * b + 1)) else if k = 5 then x / 4 else if k = 6 then (if s 122 = 0 then x / 3 else tev s 0 x (nI (hod s)) (s (58 + 8 * b + 1))) else 0 := by
  subst h; rfl
theorem m_wants_fin (I : AI) (T : AT) (hs : sOK (I 74)) (b : Nat) (hb : b < cl (I 74 0)) (hb8 : b < 8) (x : Int32) : ∀ (v : Int32) (g g' : Nat → Int32) (t3 : Option Value), v = wish (I 74) b x → Go 3 y_M_wants 112 [some (.ref 73), some (.int (nI b)), some (.int x), t3, some (.int v)] [] (hp (va_up (va_up I 79 g) 80 g') T) (fun r h' => ∃ g g', h' = hp (va_up (va_up I 79 g) 80 g') T ∧ r = some (.int (wan (I 74) b x))) := by
  obtain ⟨o0, o1, o2, o3, o4, o5, o6, o7⟩ := hs.2.2.2.2.2.2.2 b hb
  obtain ⟨ec, hc⟩ := o2.eq (by decide)
  intro v g g' t3 hv
  have e74 : va_up (va_up I 79 g) 80 g' 74 = I 74 := by rw [va_up_ne _ _ (by decide), va_up_ne _ _ (by decide)]
  iterate 2 refine Go.step rfl ?_
  refine Go.cal (m_isFurled _ T b (cl (I 74 (58 + 8 * b + 2))) hb8 (by rw [e74]; exact ec) (by omega)) (by decide) rfl ?_
  rintro _ _ ⟨rfl, rfl⟩
  rw [e74]
  refine Go.step rfl ?_
  refine Go.ifz (fun c1 => ?_) (fun c1 => ?_)
  · iterate 3 refine Go.step rfl ?_
    refine Go.cal (m_held _ _ _ _) (by decide) rfl ?_
    rintro _ _ ⟨rfl, rfl⟩
    refine Go.ret rfl ⟨g, g', rfl, ?_⟩
    have e9 : wan (I 74) b x = hel v 0 x := by
      unfold wan
      rw [show furd (I 74) b = false from c1, if_neg (by decide), hv]
    rw [e9]
  · repeat refine Go.step rfl ?_
    refine Go.ret rfl ⟨g, g', rfl, ?_⟩
    have e9 : wan (I 74) b x = 0 := by
      unfold wan
      rw [show furd (I 74) b = true from c1, if_pos rfl]
    rw [e9]
theorem m_wants (I : AI) (T : AT) (hs : sOK (I 74)) (ht : tOK (I 74) 0) (b : Nat) (hb : b < cl (I 74 0)) (hb8 : b < 8) (x : Int32) : Ct 3 y_M_wants [.ref 73, .int (nI b), .int x] (hp I T) (fun r h' => ∃ g g', h' = hp (va_up (va_up I 79 g) 80 g') T ∧ r = some (.int (wan (I 74) b x))) := by
  obtain ⟨o0, o1, o2, o3, o4, o5, o6, o7⟩ := hs.2.2.2.2.2.2.2 b hb
  have fin := m_wants_fin I T hs b hb hb8 x
  have fin0 : ∀ (v : Int32) (t3 : Option Value), v = wish (I 74) b x → Go 3 y_M_wants 112 [some (.ref 73), some (.int (nI b)), some (.int x), t3, some (.int v)] [] (hp I T) (fun r h' => ∃ g g', h' = hp (va_up (va_up I 79 g) 80 g') T ∧ r = some (.int (wan (I 74) b x))) := by
    intro v t3 hv
    have := fin v (I 79) (I 80) t3 hv
    rw [vu_self, vu_self] at this
    exact this
  iterate 3 refine Go.step rfl ?_
  refine Go.cal (m_its I T b 1 hb8 (by decide)) (by decide) rfl ?_
  rintro _ _ ⟨rfl, rfl⟩
  iterate 6 refine Go.step rfl ?_
  refine Go.cal (m_its I T b 0 hb8 (by decide)) (by decide) rfl ?_
  rintro _ _ ⟨rfl, rfl⟩
  obtain ⟨k, hk, ek⟩ := o0
  rw [show I 74 (58 + 8 * b + 0) = nI k from ek]
  rcases (show k = 0 ∨ k = 1 ∨ k = 2 ∨ k = 3 ∨ k = 4 ∨ k = 5 ∨ k = 6 by omega) with rfl | rfl | rfl | rfl | rfl | rfl | rfl
  · refine Go.step rfl ?_
    exact fin0 _ _ (by rw [wish_of ek]; rfl)
  · iterate 6 refine Go.step rfl ?_
    exact fin0 _ _ (by rw [wish_of ek]; rfl)
  · refine Go.step rfl ?_
    exact fin0 _ _ (by rw [wish_of ek]; rfl)
  · iterate 8 refine Go.step rfl ?_
    exact fin0 _ _ (by rw [wish_of ek]; rfl)
  · iterate 6 refine Go.step rfl ?_
    refine Go.ite (fun c1 => ?_) (fun c1 => ?_)
    · iterate 3 refine Go.step rfl ?_
      refine fin0 _ _ ?_
      rw [wish_of ek, if_neg (by decide), if_neg (by decide), if_pos (by decide), if_neg (Int32.not_lt.mpr c1)]
    · iterate 6 refine Go.step rfl ?_
      refine fin0 _ _ ?_
      rw [wish_of ek, if_neg (by decide), if_neg (by decide), if_pos (by decide), if_pos (Int32.not_le.mp c1)]
  · iterate 6 refine Go.step rfl ?_
    exact fin0 _ _ (by rw [wish_of ek]; rfl)
  · iterate 4 refine Go.step rfl ?_
    refine Go.cal (m_grinds I T hs ht b hb8 x) (by decide) rfl ?_
    rintro _ _ ⟨g, g', rfl, rfl⟩
    iterate 2 refine Go.step rfl ?_
    exact fin _ g g' _ (by rw [wish_of ek]; rfl)
