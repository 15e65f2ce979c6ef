/-! THE WIND goes through the lines: what is left on a line behind so many places, what each boat takes; the reference's way there -/
def lno (w c : Nat) : Nat := if w % 2 = 0 then c % 6 else c / 6
def ahd (w c : Nat) : Nat := if w = 0 then c / 6 else if w = 1 then 5 - c % 6 else if w = 2 then 3 - c / 6 else c % 6
def cof (w l i : Nat) : Nat := if w = 0 then 6 * i + l else if w = 1 then 6 * l + 5 - i else if w = 2 then 6 * (3 - i) + l else 6 * l + i
def nln (w : Nat) : Nat := if w % 2 = 0 then 6 else 4
def nal (w : Nat) : Nat := if w % 2 = 0 then 4 else 6
theorem lno_lt {w c : Nat} (hw : w < 4) (hc : c < 24) : lno w c < nln w ∧ ahd w c < nal w := by
  rcases (show w = 0 ∨ w = 1 ∨ w = 2 ∨ w = 3 by omega) with rfl | rfl | rfl | rfl <;> simp [lno, ahd, nln, nal] <;> omega
theorem cof_eq {w c l i : Nat} (hw : w < 4) (hc : c < 24) (hl : l < nln w) (hi : i < nal w) : c = cof w l i ↔ (lno w c = l ∧ ahd w c = i) := by
  rcases (show w = 0 ∨ w = 1 ∨ w = 2 ∨ w = 3 by omega) with rfl | rfl | rfl | rfl <;> simp [lno, ahd, cof, nln, nal] at hl hi ⊢ <;> omega
theorem cof_lt {w l i : Nat} (hw : w < 4) (hl : l < nln w) (hi : i < nal w) : cof w l i < 24 := by
  rcases (show w = 0 ∨ w = 1 ∨ w = 2 ∨ w = 3 by omega) with rfl | rfl | rfl | rfl <;> simp [cof, nln, nal] at hl hi ⊢ <;> omega
theorem nln_le (w : Nat) : nln w ≤ 6 ∧ nal w ≤ 6 := by
  unfold nln nal; split <;> omega
def bit (set : Int32) (b : Nat) : Bool := decide (set >>> (nI b &&& 31) &&& 1 = 1)
def cel (s : Nat → Int32) (b : Nat) : Nat := cl (s (58 + 8 * b + 2))
def wyn (s : Nat → Int32) : Nat := cl (wy s)
def hit (s : Nat → Int32) (set : Int32) (l m : Nat) : Bool := decide (m % 8 < cl (s 0) ∧ lno (wyn s) (cel s (m % 8)) = l ∧ ahd (wyn s) (cel s (m % 8)) = m / 8 ∧ bit set (m % 8) = true)
def lf (s : Nat → Int32) (set : Int32) (l : Nat) : Nat → Int32
  | 0 => kn s
  | m + 1 => if hit s set l m = true then lf s set l m - wan s (m % 8) (lf s set l m) else lf s set l m
def key (s : Nat → Int32) (b : Nat) : Nat := 8 * ahd (wyn s) (cel s b) + b
def tk (s : Nat → Int32) (set : Int32) (b : Nat) : Int32 := if bit set b = true then wan s b (lf s set (lno (wyn s) (cel s b)) (key s b)) else 0
theorem sub_in {x y : Int32} (h0 : 0 ≤ y) (h : y ≤ x) : 0 ≤ x - y ∧ x - y ≤ x := by
  rw [Int32.le_iff_toInt_le] at h0 h
  rw [Int32.le_iff_toInt_le, Int32.le_iff_toInt_le, Int32.toInt_sub]
  have h1 := Int32.toInt_lt x
  have h2 := Int32.le_toInt x
  have h3 := Int32.toInt_lt y
  have e0 : (0 : Int32).toInt = 0 := by decide
  rw [e0] at h0 ⊢
  rw [Int.bmod_eq_of_le (by omega) (by omega)]
  omega
theorem hod_lt (s : Nat → Int32) : hod s < 24 := Nat.mod_lt _ (by decide)
theorem kn_in {s : Nat → Int32} (hs : sOK s) : 0 ≤ kn s ∧ kn s ≤ 40 := by
  obtain ⟨k, hk, ek⟩ := hs.2.2.2.2.2.1 _ (hod_lt s)
  unfold kn
  rw [ek]
  exact ⟨nI_pos' (by omega), nI_le (a := k) (b := 40) hk (by decide)⟩
theorem wyn_lt {s : Nat → Int32} (hs : sOK s) : wyn s < 4 ∧ wy s = nI (wyn s) := by
  obtain ⟨e, h⟩ := (hs.2.2.2.2.2.2.1 _ (hod_lt s)).eq (by decide)
  exact ⟨Nat.lt_succ_of_le h, e⟩
theorem lf_in {s : Nat → Int32} (hs : sOK s) (set : Int32) (l : Nat) : ∀ m, 0 ≤ lf s set l m ∧ lf s set l m ≤ 40 := by
  intro m
  induction m with
  | zero => exact kn_in hs
  | succ m ih =>
    rw [lf]
    split
    · have h1 := wan_in (s := s) (b := m % 8) ih.1
      have h2 := sub_in h1.1 h1.2
      exact ⟨h2.1, Int32.le_trans h2.2 ih.2⟩
    · exact ih
theorem cel_lt {s : Nat → Int32} (hs : sOK s) {b : Nat} (hb : b < cl (s 0)) : cel s b < 24 ∧ s (58 + 8 * b + 2) = nI (cel s b) := by
  obtain ⟨e, h⟩ := (hs.2.2.2.2.2.2.2 b hb).2.2.1.eq (by decide)
  exact ⟨Nat.lt_succ_of_le h, e⟩
/-- places without a boat change nothing -/
theorem lf_stay {s : Nat → Int32} {set : Int32} {l m : Nat} : ∀ {k : Nat}, (∀ j, m ≤ j → j < m + k → ¬ hit s set l j = true) → lf s set l (m + k) = lf s set l m := by
  intro k
  induction k with
  | zero => intro _; rfl
  | succ k ih =>
    intro h
    rw [← Nat.add_assoc, lf, if_neg (h (m + k) (by omega) (by omega))]
    exact ih (fun j h1 h2 => h j h1 (by omega))
theorem lf_end {s : Nat → Int32} (hs : sOK s) {set : Int32} {l : Nat} : lf s set l 48 = lf s set l (8 * nal (wyn s)) := by
  have hn := (nln_le (wyn s)).2
  rw [show 48 = 8 * nal (wyn s) + (48 - 8 * nal (wyn s)) by omega]
  refine lf_stay (fun j h1 h2 hh => ?_)
  obtain ⟨q1, q2, q3, q4⟩ := of_decide_eq_true hh
  have := (lno_lt (wyn_lt hs).1 (cel_lt hs q1).1).2
  omega
/-- boats at this place and behind: nothing more -/
theorem lf_row {s : Nat → Int32} (hs : sOK s) {set : Int32} {l i : Nat} : lf s set l (8 * (i + 1)) = lf s set l (8 * i + cl (s 0)) := by
  have hn := cl_le hs.1
  rw [show 8 * (i + 1) = 8 * i + cl (s 0) + (8 - cl (s 0)) by omega]
  refine lf_stay (fun j h1 h2 hh => ?_)
  have := (of_decide_eq_true hh).1
  omega
/-- what the reference's rows hold on the way: boats met are those before (l, i, b) -/
def met (s : Nat → Int32) (l p b' : Nat) : Bool := decide (lno (wyn s) (cel s b') < l ∨ (lno (wyn s) (cel s b') = l ∧ key s b' < p))
def BI (I : AI) (set : Int32) (l p i : Nat) (I' : AI) : Prop := (∀ a, a < 79 ∨ 83 < a → I' a = I a) ∧ (∀ b', b' < cl (I 74 0) → I' 83 b' = if met (I 74) l p b' = true then tk (I 74) set b' else 0) ∧ (∀ c, c < 24 → (lno (wyn (I 74)) c < l ∨ (lno (wyn (I 74)) c = l ∧ ahd (wyn (I 74)) c < i)) → I' 81 c = lf (I 74) set (lno (wyn (I 74)) c) (8 * ahd (wyn (I 74)) c)) ∧ (∀ l', l' < l → I' 82 l' = lf (I 74) set l' 48)
theorem key_lt {s : Nat → Int32} (hs : sOK s) {b i : Nat} (hb : b < cl (s 0)) : key s b < 8 * i ↔ ahd (wyn s) (cel s b) < i := by
  have := cl_le hs.1
  unfold key; omega
theorem key_inj {s : Nat → Int32} (hs : sOK s) {b b' i : Nat} (hb : b < cl (s 0)) (hb' : b' < cl (s 0)) : key s b' = 8 * i + b ↔ (b' = b ∧ ahd (wyn s) (cel s b) = i) := by
  have := cl_le hs.1
  unfold key
  constructor
  · intro h
    have : b' = b := by omega
    subst this
    exact ⟨rfl, by omega⟩
  · rintro ⟨rfl, h⟩; omega
theorem m_lines (I : AI) (T : AT) (hs : sOK (I 74)) : Ct 2 y_M_lines [.ref 73] (hp I T) (fun r h' => h' = hp I T ∧ r = some (.int (nI (nln (wyn (I 74)))))) := by
  obtain ⟨eh, hh⟩ := hs.2.1.eq (by decide)
  obtain ⟨hw, ew⟩ := wyn_lt hs
  refine Go.step rfl ?_
  refine Go.cal (m_way I T (cl (I 74 1)) eh (by omega)) (by decide) rfl ?_
  rintro _ _ ⟨rfl, rfl⟩
  rw [show I 74 (34 + cl (I 74 1) % 24) = nI (wyn (I 74)) from ew]
  iterate 2 refine Go.step rfl ?_
  rw [show irm (nI (wyn (I 74))) 2 = nI (wyn (I 74) % 2) from irm_nI (b := 2) (by omega) (by decide)]
  generalize wyn (I 74) = w at hw
  rcases (show w = 0 ∨ w = 1 ∨ w = 2 ∨ w = 3 by omega) with rfl | rfl | rfl | rfl
  all_goals
    repeat refine Go.step rfl ?_
    exact Go.ret rfl ⟨rfl, rfl⟩
theorem m_cellOf (I : AI) (T : AT) (hs : sOK (I 74)) (l i : Nat) (hl : l < nln (wyn (I 74))) (hi : i < nal (wyn (I 74))) : Ct 2 y_M_cellOf [.ref 73, .int (nI l), .int (nI i)] (hp I T) (fun r h' => h' = hp I T ∧ r = some (.int (nI (cof (wyn (I 74)) l i)))) := by
  obtain ⟨eh, hh⟩ := hs.2.1.eq (by decide)
  obtain ⟨hw, ew⟩ := wyn_lt hs
  refine Go.step rfl ?_
  refine Go.cal (m_way I T (cl (I 74 1)) eh (by omega)) (by decide) rfl ?_
  rintro _ _ ⟨rfl, rfl⟩
  rw [show I 74 (34 + cl (I 74 1) % 24) = nI (wyn (I 74)) from ew]
  generalize wyn (I 74) = w at hw hl hi
  rcases (show w = 0 ∨ w = 1 ∨ w = 2 ∨ w = 3 by omega) with rfl | rfl | rfl | rfl
  · repeat refine Go.step rfl ?_
    refine Go.ret rfl ⟨rfl, ?_⟩
    show some (Value.int (nI 6 * nI i + nI l)) = _
    rw [nI_mul, nI_add]; rfl
  · repeat refine Go.step rfl ?_
    refine Go.ret rfl ⟨rfl, ?_⟩
    show some (Value.int (nI 6 * nI l + nI 6 - 1 - nI i)) = _
    have : i < 6 := hi
    rw [nI_mul, nI_add, show 6 * l + 6 = 6 * l + 5 - i + i + 1 by omega, nI_pred, ← nI_add, Int32.add_sub_cancel]; rfl
  · repeat refine Go.step rfl ?_
    refine Go.ret rfl ⟨rfl, ?_⟩
    show some (Value.int (nI 6 * (nI 3 - nI i) + nI l)) = _
    have : i < 4 := hi
    have e3 : nI 3 - nI i = nI (3 - i) := by
      rw [show nI 3 = nI (3 - i + i) by rw [show 3 - i + i = 3 by omega], ← nI_add, Int32.add_sub_cancel]
    rw [e3, nI_mul, nI_add]; rfl
  · repeat refine Go.step rfl ?_
    refine Go.ret rfl ⟨rfl, ?_⟩
    show some (Value.int (nI 6 * nI l + nI i)) = _
    rw [nI_mul, nI_add]; rfl
