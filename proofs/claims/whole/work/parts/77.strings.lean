/-! the class's reader: what lies in a string -/
def ixf (f : Nat → Int32) (c : Int32) : Nat → Nat → Int32
  | 0, _ => -1
  | m + 1, j => if f j = c then nI j else ixf f c m (j + 1)
theorem j_ioc (I : AI) (T : AT) (w len : Nat) (hS : sS T.2.2.2.2.2.2 T.2.2.2.1 w = (51, len)) (hl : len < 100) (ch : Int32) : Ct 0 y_Lat_indexOfChar [.ref w, .int ch, .int 0, .int (nI len)] (hp I T) (fun r h' => h' = hp I T ∧ r = some (.int (ixf (I w) ch.toInt8.toInt32 len 0))) := by
  have loop : ∀ m j, j + m = len → ixf (I w) ch.toInt8.toInt32 m j = ixf (I w) ch.toInt8.toInt32 len 0 → Go 0 y_Lat_indexOfChar 7 [some (.ref w), some (.int ch), some (.int 0), some (.int (nI len)), some (.int ch.toInt8.toInt32), some (.int (nI j))] [] (hp I T) (fun r h' => h' = hp I T ∧ r = some (.int (ixf (I w) ch.toInt8.toInt32 len 0))) := by
    intro m
    induction m with
    | zero =>
      intro j hj he
      have : j = len := by omega
      subst this
      iterate 3 refine Go.step rfl ?_
      refine Go.ifp (Int32.le_refl _) ?_
      refine Go.step rfl ?_
      exact Go.ret rfl ⟨rfl, by rw [← he]; rfl⟩
    | succ m ih =>
      intro j hj he
      rw [ixf] at he
      iterate 3 refine Go.step rfl ?_
      refine Go.ifn (nI_ge (a := j) (b := len) (by omega) (by omega)) ?_
      iterate 2 refine Go.step rfl ?_
      refine Go.bald rfl hS (am_in_nI (by omega) (by omega)) ?_
      rw [nI_clamp (by omega)]
      iterate 2 refine Go.step rfl ?_
      refine Go.ite (fun c1 => ?_) (fun c1 => ?_)
      · rw [if_pos c1] at he
        refine Go.step rfl ?_
        exact Go.ret rfl ⟨rfl, by rw [← he]⟩
      · rw [if_neg c1] at he
        iterate 2 refine Go.step rfl ?_
        rw [show nI j + 1 = nI (j + 1) from nI_1 j]
        exact ih (j + 1) (by omega) he
  iterate 5 refine Go.step rfl ?_
  exact loop len 0 (by omega) rfl
theorem j_canEncode (h : AH) (b : Nat) (hb : b ≤ 255) : Ct 0 y_Lat_canEncode [.int (nI b)] h (fun r h' => h' = h ∧ r = some (.int 1)) := by
  obtain ⟨I, P, S, n, sl⟩ := h
  iterate 2 refine Go.step rfl ?_
  refine Go.ifn (nI_pos (by omega)) ?_
  iterate 3 refine Go.step rfl ?_
  refine Go.ifn (nI_nlt (a := 255) (b := b) hb (by decide)) ?_
  iterate 2 refine Go.step rfl ?_
  exact Go.ret rfl ⟨rfl, rfl⟩
theorem j_latIndexOf (I : AI) (T : AT) (w len : Nat) (hS : sS T.2.2.2.2.2.2 T.2.2.2.1 w = (51, len)) (hl : len < 100) (hl0 : 0 < len) (b : Nat) (hb : b ≤ 255) : Ct 1 y_Lat_indexOf [.ref w, .int (nI b), .int 0, .int (nI len)] (hp I T) (fun r h' => h' = hp I T ∧ r = some (.int (ixf (I w) (nI b).toInt8.toInt32 len 0))) := by
  refine Go.step rfl ?_
  refine Go.cal (j_canEncode _ b hb) (by decide) rfl ?_
  rintro _ _ ⟨rfl, rfl⟩
  refine Go.step rfl ?_
  iterate 2 refine Go.step rfl ?_
  refine Go.cal (j_max _ 0 0) (by decide) rfl ?_
  rintro _ _ ⟨rfl, rfl⟩
  rw [if_neg (by decide)]
  iterate 3 refine Go.step rfl ?_
  refine Go.alen rfl hS rfl ?_
  refine Go.cal (j_min _ _ _) (by decide) rfl ?_
  rintro _ _ ⟨rfl, rfl⟩
  rw [if_neg Int32.lt_irrefl]
  iterate 4 refine Go.step rfl ?_
  refine Go.ifp (nI_lt (a := 0) (b := len) hl0 (by omega)) ?_
  iterate 4 refine Go.step rfl ?_
  refine Go.cal (j_ioc I T w len hS hl (nI b)) (by decide) rfl ?_
  rintro _ _ ⟨rfl, rfl⟩
  exact Go.ret rfl ⟨rfl, rfl⟩
def lenN (i : Nat) : Nat := am_len.getD i 0
theorem j_indexOf (xs : Nat → Int32) (I : AI) (T : AT) (hC : XCon xs I) (i : Nat) (hi1 : 1 ≤ i) (hi : i < 8) (b : Nat) (hb : b ≤ 255) : Ct 4 y_Str_indexOf_0 [.ref (1010 + i), .int (nI b)] (hp I T) (fun r h' => h' = hp I T ∧ r = some (.int (ixf (I (1030 + i)) (nI b).toInt8.toInt32 (lenN i) 0))) := by
  have hco : I (1010 + i) 1 = 0 := by
    have := hC (10 + i) 1
    rw [show 1000 + (10 + i) = 1010 + i by omega] at this
    rw [this]
    unfold am_cI
    rw [if_neg (by omega), if_neg (by omega), if_neg (by omega), if_neg (by omega), if_neg (by omega)]
  have h1 : ∀ (d : Nat), 0 ≤ d → Ct d y_Str_isLatin1 [.ref (1010 + i)] (hp I T) (fun r h' => h' = hp I T ∧ r = some (.int 1)) := by
    intro d _
    rcases (show i = 1 ∨ i = 2 ∨ i = 3 ∨ i = 4 ∨ i = 5 ∨ i = 6 ∨ i = 7 by omega) with rfl | rfl | rfl | rfl | rfl | rfl | rfl
    all_goals
      iterate 4 refine Go.step rfl ?_
      refine Go.step rfl ?_
      refine Go.ifp hco ?_
      iterate 2 refine Go.step rfl ?_
      exact Go.ret rfl ⟨rfl, rfl⟩
  have h2 : Ct 1 y_Str_length [.ref (1010 + i)] (hp I T) (fun r h' => h' = hp I T ∧ r = some (.int (nI (lenN i)))) := by
    have h3 : Ct 0 y_Str_coder [.ref (1010 + i)] (hp I T) (fun r h' => h' = hp I T ∧ r = some (.int 0)) := by
      rcases (show i = 1 ∨ i = 2 ∨ i = 3 ∨ i = 4 ∨ i = 5 ∨ i = 6 ∨ i = 7 by omega) with rfl | rfl | rfl | rfl | rfl | rfl | rfl
      all_goals
        iterate 2 refine Go.step rfl ?_
        iterate 3 refine Go.step rfl ?_
        rw [hco]
        exact Go.ret rfl ⟨rfl, rfl⟩
    rcases (show i = 1 ∨ i = 2 ∨ i = 3 ∨ i = 4 ∨ i = 5 ∨ i = 6 ∨ i = 7 by omega) with rfl | rfl | rfl | rfl | rfl | rfl | rfl
    all_goals
      iterate 4 refine Go.step rfl ?_
      refine Go.cal h3 (by decide) rfl ?_
      rintro _ _ ⟨rfl, rfl⟩
      refine Go.step rfl ?_
      exact Go.ret rfl ⟨rfl, rfl⟩
  have h4 : Ct 3 y_Str_indexOf_1 [.ref (1010 + i), .int (nI b), .int 0] (hp I T) (fun r h' => h' = hp I T ∧ r = some (.int (ixf (I (1030 + i)) (nI b).toInt8.toInt32 (lenN i) 0))) := by
    rcases (show i = 1 ∨ i = 2 ∨ i = 3 ∨ i = 4 ∨ i = 5 ∨ i = 6 ∨ i = 7 by omega) with rfl | rfl | rfl | rfl | rfl | rfl | rfl
    all_goals
      refine Go.step rfl ?_
      refine Go.cal (h1 0 (by decide)) (by decide) rfl ?_
      rintro _ _ ⟨rfl, rfl⟩
      iterate 2 refine Go.step rfl ?_
      iterate 4 refine Go.step rfl ?_
      refine Go.cal h2 (by decide) rfl ?_
      rintro _ _ ⟨rfl, rfl⟩
      refine Go.cal (j_latIndexOf I T _ (lenN _) rfl (by decide) (by decide) b hb) (by decide) rfl ?_
      rintro _ _ ⟨rfl, rfl⟩
      refine Go.step rfl ?_
      exact Go.ret rfl ⟨rfl, rfl⟩
  rcases (show i = 1 ∨ i = 2 ∨ i = 3 ∨ i = 4 ∨ i = 5 ∨ i = 6 ∨ i = 7 by omega) with rfl | rfl | rfl | rfl | rfl | rfl | rfl
  all_goals
    iterate 3 refine Go.step rfl ?_
    refine Go.cal h4 (by decide) rfl ?_
    rintro _ _ ⟨rfl, rfl⟩
    exact Go.ret rfl ⟨rfl, rfl⟩
/-- what of bytes lies in the string i -/
def inS (i b : Nat) : Bool := if i = 1 then decide (b = 98) || decide (b = 104) || decide (b = 109) else if i = 2 then decide (b = 116) || decide (b = 112) || decide (b = 107) else if i = 3 then decide (b = 124) else if i = 4 then decide (b = 38) else if i = 5 then decide (b = 60) || decide (b = 61) || decide (b = 62) else if i = 6 then decide (b = 43) || decide (b = 45) else decide (b = 42) || decide (b = 47) || decide (b = 37)
theorem ixf_congr {f g : Nat → Int32} {c : Int32} : ∀ m j, (∀ y, j ≤ y → y < j + m → f y = g y) → ixf f c m j = ixf g c m j := by
  intro m
  induction m with
  | zero => intro j h; rfl
  | succ m ih => intro j h; rw [ixf, ixf, h j (Nat.le_refl j) (by omega), ih (j + 1) (fun y h1 h2 => h y (by omega) (by omega))]
def byI (i j : Nat) : Int32 := (am_byt.getD i []).getD j 0
theorem ixf_in : ∀ i, i < 8 → 1 ≤ i → ∀ b, b < 256 → (decide (ixf (byI i) (nI b).toInt8.toInt32 (lenN i) 0 < 0)) = !inS i b := by decide +kernel
theorem ixf_nm : ∀ b, b < 256 → (inS 1 b = true → (10000 : Int32) + ixf (byI 1) (nI b).toInt8.toInt32 (lenN 1) 0 = nmW (nI b)) ∧ (inS 2 b = true → (10000 : Int32) + ixf (byI 2) (nI b).toInt8.toInt32 (lenN 2) 0 = nmW (nI b)) := by decide +kernel
theorem con_by {xs : Nat → Int32} {I : AI} (hC : XCon xs I) (i : Nat) (hi : i < 8) (j : Nat) : I (1030 + i) j = byI i j := by
  have := hC (30 + i) j
  rw [show 1000 + (30 + i) = 1030 + i by omega] at this
  rw [this]
  unfold am_cI byI
  rw [if_neg (by omega), if_neg (by omega), if_neg (by omega), if_neg (by omega), if_pos (by omega), show 30 + i - 30 = i by omega]
theorem i2c_nI : ∀ b, b < 256 → ((nI b).toUInt32 % 65536).toInt32 = nI b := by decide +kernel
/-- a byte as peek gives it -/
def byt (b : Int32) : Prop := b = -1 ∨ ∃ k, k < 256 ∧ b = nI k
def inB (i : Nat) (b : Int32) : Bool := !decide (b = -1) && inS i (cl b)
theorem x_isIn (xs : Nat → Int32) (I : AI) (T : AT) (hC : XCon xs I) (i : Nat) (hi1 : 1 ≤ i) (hi : i < 8) (b : Int32) (hb : byt b) : Ct 5 y_Reader_isIn [.ref (1010 + i), .int b] (hp I T) (fun r h' => h' = hp I T ∧ r = some (.int (bo (inB i b)))) := by
  rcases hb with rfl | ⟨k, hk, rfl⟩
  · iterate 2 refine Go.step rfl ?_
    iterate 2 refine Go.step rfl ?_
    exact Go.ret rfl ⟨rfl, rfl⟩
  · have hne : ¬ nI k = -1 := fun q => nI_pos (n := k) (by omega) (by rw [q]; decide)
    have hcl : cl (nI k) = k := nI_clamp (by omega)
    have ein : inB i (nI k) = inS i k := by unfold inB; rw [decide_eq_false hne, hcl]; rfl
    have hix := ixf_in i hi hi1 k hk
    rw [ixf_congr (f := byI i) (g := I (1030 + i)) _ _ (fun y _ _ => (con_by hC i hi y).symm)] at hix
    rw [ein]
    have hj := j_indexOf xs I T hC i hi1 hi k (by omega)
    iterate 3 refine Go.step rfl ?_
    refine Go.ifn hne ?_
    iterate 3 refine Go.step rfl ?_
    rw [i2c_nI k hk]
    have fin : ∀ v : Int32, decide (v < 0) = !inS i k → Go 5 y_Reader_isIn 11 [some (.ref (1010 + i)), some (.int (nI k))] [.int v] (hp I T) (fun r h' => h' = hp I T ∧ r = some (.int (bo (inS i k)))) := by
      intro v hv
      refine Go.step rfl ?_
      refine Go.ite (fun c1 => ?_) (fun c1 => ?_)
      · rw [decide_eq_true c1] at hv
        refine Go.step rfl ?_
        refine Go.ret rfl ⟨rfl, ?_⟩
        cases h : inS i k with
        | true => rw [h] at hv; cases hv
        | false => rfl
      · rw [decide_eq_false c1] at hv
        iterate 2 refine Go.step rfl ?_
        refine Go.ret rfl ⟨rfl, ?_⟩
        cases h : inS i k with
        | true => rfl
        | false => rw [h] at hv; cases hv
    rcases (show i = 1 ∨ i = 2 ∨ i = 3 ∨ i = 4 ∨ i = 5 ∨ i = 6 ∨ i = 7 by omega) with rfl | rfl | rfl | rfl | rfl | rfl | rfl
    all_goals
      refine Go.cal hj (by decide) rfl ?_
      rintro _ _ ⟨rfl, rfl⟩
      exact fin _ hix
theorem inB_sg {lv : Nat} (hlv : lv < 5) {b : Int32} (hb : byt b) : inB (3 + lv) b = sgB lv b := by
  have key : ∀ lv, lv < 5 → ∀ k, k < 256 → inS (3 + lv) k = sgB lv (nI k) := by decide +kernel
  rcases hb with rfl | ⟨k, hk, rfl⟩
  · rcases (show lv = 0 ∨ lv = 1 ∨ lv = 2 ∨ lv = 3 ∨ lv = 4 by omega) with rfl | rfl | rfl | rfl | rfl <;> decide
  · have hne : ¬ nI k = -1 := fun q => nI_pos (n := k) (by omega) (by rw [q]; decide)
    have hcl : cl (nI k) = k := nI_clamp (by omega)
    unfold inB
    rw [decide_eq_false hne, hcl]
    exact key lv hlv k hk
theorem inB_nm {u : Nat} (hu : u < 2) {b : Int32} (hb : byt b) : inB (1 + u) b = nmB u b := by
  have key : ∀ u, u < 2 → ∀ k, k < 256 → inS (1 + u) k = nmB u (nI k) := by decide +kernel
  rcases hb with rfl | ⟨k, hk, rfl⟩
  · rcases (show u = 0 ∨ u = 1 by omega) with rfl | rfl <;> decide
  · have hne : ¬ nI k = -1 := fun q => nI_pos (n := k) (by omega) (by rw [q]; decide)
    have hcl : cl (nI k) = k := nI_clamp (by omega)
    unfold inB
    rw [decide_eq_false hne, hcl]
    exact key u hu k hk
