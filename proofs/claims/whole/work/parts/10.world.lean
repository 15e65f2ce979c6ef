/-! THE WORLD: an abstract heap's cells on the machine's heap, from the address base on; what was there ahead of it at cs. -/
def am_ad (base : Nat) (cs : Nat → Nat) (k : Nat) : Nat := if k < 1000 then base + k else cs (k - 1000)
def am_v (base : Nat) (cs : Nat → Nat) (v : Value) : Value := match v with
  | .ref k => .ref (am_ad base cs k)
  | v => v
def am_f (base : Nat) (cs : Nat → Nat) (I : AI) (P : AP) (ci len k : Nat) : List Value := (List.range len).map (fun j => if fTy ci j = 1 then va_rf ((P k j).map (am_ad base cs)) else .int (I k j))
def am_el (cA : Nat → ClassId) (base : Nat) (cs : Nat → Nat) (I : AI) (P : AP) (S : AS) (k : Nat) : va_E :=
  if (S k).1 = 0 then .inl (cA 0, (S k).2, .inl (I k)) else if (S k).1 ≤ 3 then .inl (cA (S k).1, (S k).2, .inr (.inr (.inr (.inr (fun j => (P k j).map (am_ad base cs)))))) else .inr ((S k).1 - 10, am_f base cs I P ((S k).1 - 10) (S k).2 k)
def am_ws (cA : Nat → ClassId) (base : Nat) (cs : Nat → Nat) (I : AI) (P : AP) (S : AS) (n : Nat) : va_W := (List.range n).map (fun k => (base + k, am_el cA base cs I P S k))
def am_A (base : Nat) : Nat → Prop := fun q => base ≤ q
def am_len : List Nat := [0, 3, 3, 1, 1, 3, 2, 3]
def am_byt : List (List Int32) := [[], [98, 104, 109], [116, 112, 107], [124], [38], [60, 61, 62], [43, 45], [42, 47, 37]]
def am_kab : List Int32 := [-1, 0, 0, 1, 1, 2, 0]
def am_mos : List Int32 := [6, 9, 23, 3, 99, -1, -1, 1]
def am_bod : List Int32 := [10, 11, 12, 13, 20, 0, 0, 21, 0, 30, 0, 0, 40, 0, 41, 0, 0, 0, 50, 0, 0, 60, 0, 0, 70, 71, 0, 0]
/-- the cells that are there from the start: three tables, the script, texts and their bytes -/
def am_cS (L c : Nat) : Nat × Nat := if c = 0 then (50, 7) else if c = 1 then (50, 8) else if c = 2 then (50, 28) else if c = 3 then (50, L) else if 10 ≤ c ∧ c < 18 then (30, 0) else if 30 ≤ c ∧ c < 38 then (51, am_len.getD (c - 30) 0) else (99, 0)
def am_cP (c j : Nat) : Option Nat := if 10 ≤ c ∧ c < 18 ∧ j = 0 then some (1020 + c) else none
def am_cI (xs : Nat → Int32) (c j : Nat) : Int32 := if c = 0 then am_kab.getD j 0 else if c = 1 then am_mos.getD j 0 else if c = 2 then am_bod.getD j 0 else if c = 3 then xs j else if 30 ≤ c ∧ c < 38 then (am_byt.getD (c - 30) []).getD j 0 else 0
def am_Cs (L : Nat) (xs : Nat → Int32) (I : AI) (P : AP) (S : AS) : Prop := ∀ c, S (1000 + c) = am_cS L c ∧ (∀ j, P (1000 + c) j = am_cP c j) ∧ ∀ j, I (1000 + c) j = am_cI xs c j
/-- what cells may be: rows of ints or of references, objects of the ten classes -/
def am_Sh (S : AS) (n : Nat) : Prop := n ≤ 1000 ∧ (∀ a, n ≤ a → a < 1000 → (S a).1 = 99) ∧ ∀ a, a < n → (S a).1 ≤ 3 ∨ (10 ≤ (S a).1 ∧ (S a).1 < 20 ∧ (S a).2 = fN ((S a).1 - 10))
def am_Hp (D : va_G) (cA : Nat → ClassId) (base : Nat) (cs : Nat → Nat) (L : Nat) (xs : Nat → Int32) (h : AH) (H : Heap) : Prop := match h with
  | (I, P, S, n, _) => va_P D am_cls (am_ws cA base cs I P S n) H ∧ am_Sh S n ∧ am_Cs L xs I P S
def am_tys (cA : Nat → ClassId) : List (ClassId × FieldType) := [(cA 0, .int), (cA 1, .object RX0), (cA 2, .object RX5), (cA 3, .object RX4)]
def am_nst (w : Jvm.Cond) : Bool := match w with
  | .fieldLinkNest .. => true
  | .methodLinkNest .. => true
  | .castable .. => true
  | _ => false
def am_K (D : va_G) (cA : Nat → ClassId) (cs : Nat → Nat) (L : Nat) (xs : Nat → Int32) (A : Nat → Prop) (U : State) (H : Heap) : Prop :=
  va_K D am_cls (am_tys cA) U ∧ (∀ i, i < 3 → va_Z (sC i) (sNm i) "[I" (.ref (cs i)) A U H) ∧ (∀ i, i < 4 → va_T .int (cs i) (am_cS L i).2 (fun j => .int (am_cI xs i j)) A U H) ∧ va_Z "java/lang/String" "COMPACT_STRINGS" "Z" (.int 1) A U H ∧ vk_S 8 am_len am_byt (fun i => cs (10 + i)) (fun i => cs (30 + i)) A U H ∧ (∀ i, i < 8 → vk_R RX2 (sIdx i) (sTx i) (cs (10 + i)) U) ∧ (∀ w ∈ lw_tbl, am_nst w = true → va_Nw w U) ∧ va_AO RX0 U ∧ va_AO RX5 U ∧ va_AO RX4 U
theorem am_K.kept {D : va_G} {cA : Nat → ClassId} {cs : Nat → Nat} {L : Nat} {xs : Nat → Int32} {A : Nat → Prop} {U : State} {H H1 : Heap} (h : am_K D cA cs L xs A U H) (hq : ∀ a : Nat, a < H.size → ¬ A a → H1[a]? = H[a]?) : am_K D cA cs L xs A U H1 := by
  obtain ⟨h1, h2, h3, h4, h5, h6⟩ := h
  exact ⟨h1, fun i hi => (h2 i hi).kept hq, fun i hi => (h3 i hi).kept hq, h4.kept hq, vk_S.kept h5 hq, h6⟩
theorem am_K.warm {D : va_G} {cA : Nat → ClassId} {cs : Nat → Nat} {L : Nat} {xs : Nat → Int32} {A : Nat → Prop} {s U : State} {H : Heap} (hW : s.WarmedH U.vm) (h : am_K D cA cs L xs A s H) : am_K D cA cs L xs A U H := by
  obtain ⟨h1, h2, h3, h4, h5, h6, h7, h8, h9, h10⟩ := h
  refine ⟨va_K.moved hW.alike h1, fun i hi => (h2 i hi).moved hW.alike, fun i hi => (h3 i hi).moved hW.alike, h4.moved hW.alike, vk_S.moved hW.alike h5, fun i hi => (h6 i hi).warm hW, fun w hw hn => ?_, h8.moved hW.alike, h9.moved hW.alike, h10.moved hW.alike⟩
  have hz := h7 w hw hn
  cases w <;> first | exact absurd hn (by decide) | exact va_Nw.warmF hW hz | exact va_Nw.warmM hW hz | exact va_Nw.warmC hW hz | (simp [am_nst] at hn)
theorem am_ws_len {cA : Nat → ClassId} {base : Nat} {cs : Nat → Nat} {I : AI} {P : AP} {S : AS} {n : Nat} : (am_ws cA base cs I P S n).length = n := by simp [am_ws]
theorem am_ws_get {cA : Nat → ClassId} {base : Nat} {cs : Nat → Nat} {I : AI} {P : AP} {S : AS} {n k : Nat} (h : k < n) : (am_ws cA base cs I P S n)[k]? = some (base + k, am_el cA base cs I P S k) := by
  simp [am_ws, List.getElem?_map, List.getElem?_range h]
theorem am_ws_at {cA : Nat → ClassId} {base : Nat} {cs : Nat → Nat} {I : AI} {P : AP} {S : AS} {n k : Nat} {q : Nat × va_E} (h : (am_ws cA base cs I P S n)[k]? = some q) : k < n ∧ q = (base + k, am_el cA base cs I P S k) := by
  have hk : k < n := by
    have := (List.getElem?_eq_some_iff.mp h).1
    rwa [am_ws_len] at this
  rw [am_ws_get hk] at h
  exact ⟨hk, (Option.some.inj h).symm⟩
theorem am_D {cA : Nat → ClassId} {base : Nat} {cs : Nat → Nat} {I : AI} {P : AP} {S : AS} {n : Nat} : va_D (am_A base) (am_ws cA base cs I P S n) := by
  refine ⟨fun i j p q hi hj he => ?_, fun k q hk => ?_⟩
  · obtain ⟨-, rfl⟩ := am_ws_at hi
    obtain ⟨-, rfl⟩ := am_ws_at hj
    simp only at he
    omega
  · obtain ⟨-, rfl⟩ := am_ws_at hk
    exact Nat.le_add_right _ _
/-- one cell changes -/
theorem am_ws_set {cA : Nat → ClassId} {base : Nat} {cs : Nat → Nat} {I I' : AI} {P P' : AP} {S : AS} {n a : Nat} (h : ∀ k, k ≠ a → am_el cA base cs I' P' S k = am_el cA base cs I P S k) : am_ws cA base cs I' P' S n = (am_ws cA base cs I P S n).set a (base + a, am_el cA base cs I' P' S a) := by
  apply List.ext_getElem?
  intro k
  rw [List.getElem?_set, am_ws_len]
  by_cases hk : k < n
  · rw [am_ws_get hk]
    by_cases ha : a = k
    · subst ha
      simp [hk]
    · rw [if_neg ha, am_ws_get hk, h k (fun e => ha e.symm)]
  · rw [List.getElem?_eq_none (by rw [am_ws_len]; omega)]
    by_cases ha : a = k
    · subst ha
      simp [hk]
    · rw [if_neg ha, List.getElem?_eq_none (by rw [am_ws_len]; omega)]
/-- one cell more -/
theorem am_ws_push {cA : Nat → ClassId} {base : Nat} {cs : Nat → Nat} {I I' : AI} {P P' : AP} {S S' : AS} {n : Nat} (h : ∀ k, k < n → am_el cA base cs I' P' S' k = am_el cA base cs I P S k) : am_ws cA base cs I' P' S' (n + 1) = am_ws cA base cs I P S n ++ [(base + n, am_el cA base cs I' P' S' n)] := by
  apply List.ext_getElem?
  intro k
  by_cases hk : k < n
  · rw [List.getElem?_append_left (by rw [am_ws_len]; exact hk), am_ws_get hk, am_ws_get (by omega), h k hk]
  · rw [List.getElem?_append_right (by rw [am_ws_len]; omega), am_ws_len]
    by_cases hn : k = n
    · subst hn
      rw [am_ws_get (by omega)]
      simp
    · rw [List.getElem?_eq_none (by rw [am_ws_len]; omega), List.getElem?_eq_none (by simp; omega)]
theorem am_v_cat (base : Nat) (cs : Nat → Nat) (v : Value) : (am_v base cs v).category = v.category := by cases v <;> rfl
theorem am_cats_eq (base : Nat) (cs : Nat → Nat) (r : List Value) : ((r.map (am_v base cs)).map fun v => v.category).sum = am_cats r := by
  induction r with
  | nil => rfl
  | cons v t ih =>
    simp only [List.map_cons, List.sum_cons, ih, am_v_cat]
    cases v <;> simp [Value.category, am_cats] <;> omega
/-- the locals -/
def am_lv (base : Nat) (cs : Nat → Nat) : Nat → ALS → List (Nat × Value)
  | _, [] => []
  | k, none :: t => am_lv base cs (k + 1) t
  | k, some v :: t => (k, am_v base cs v) :: am_lv base cs (k + 1) t
theorem am_lv_mem {base : Nat} {cs : Nat → Nat} : ∀ {ls : ALS} {k : Nat} {q : Nat × Value}, q ∈ am_lv base cs k ls ↔ ∃ i v, lget ls i = some v ∧ q = (k + i, am_v base cs v) := by
  intro ls
  induction ls with
  | nil => intro k q; simp [am_lv, lget]
  | cons o t ih =>
    intro k q
    cases o with
    | none =>
      simp only [am_lv]
      rw [ih]
      constructor
      · rintro ⟨i, v, h1, h2⟩
        exact ⟨i + 1, v, h1, by rw [h2]; congr 1; omega⟩
      · rintro ⟨i, v, h1, h2⟩
        cases i with
        | zero => simp [lget] at h1
        | succ i => exact ⟨i, v, h1, by rw [h2]; congr 1; omega⟩
    | some w =>
      simp only [am_lv, List.mem_cons]
      rw [ih]
      constructor
      · rintro (h | ⟨i, v, h1, h2⟩)
        · exact ⟨0, w, rfl, h⟩
        · exact ⟨i + 1, v, h1, by rw [h2]; congr 1; omega⟩
      · rintro ⟨i, v, h1, h2⟩
        cases i with
        | zero =>
          left
          simp only [lget, Option.some.injEq] at h1
          subst h1
          exact h2
        | succ i => exact Or.inr ⟨i, v, h1, by rw [h2]; congr 1; omega⟩
theorem am_lput {ls : ALS} {i j : Nat} {x v : Value} (h : lget (lput ls i x) j = some v) : (j = i ∧ v = x) ∨ (j ≠ i ∧ lget ls j = some v) := by
  induction ls generalizing i j with
  | nil => simp [lput, lget] at h
  | cons o t ih =>
    cases i with
    | zero =>
      cases j with
      | zero => simp [lput, lget] at h; exact Or.inl ⟨rfl, h.symm⟩
      | succ j => exact Or.inr ⟨by omega, h⟩
    | succ i =>
      cases j with
      | zero => exact Or.inr ⟨by omega, h⟩
      | succ j =>
        rcases ih (i := i) (j := j) h with ⟨h1, h2⟩ | ⟨h1, h2⟩
        · exact Or.inl ⟨by omega, h2⟩
        · exact Or.inr ⟨by omega, h2⟩
/-- what the locals hold: no wide one but feed's -/
def am_Lg (y : Nat) (ls : ALS) : Prop := ∀ i v, lget ls i = some v → v.category = 1 ∨ (am_feed y = true ∧ i = 1)
theorem am_Lg.put {y i : Nat} {ls : ALS} {x : Value} (h : am_Lg y ls) (hx : x.category = 1) : am_Lg y (lput ls i x) := by
  intro j v hv
  rcases am_lput hv with ⟨-, rfl⟩ | ⟨-, h2⟩
  · exact Or.inl hx
  · exact h j v h2
theorem am_has_put {base : Nat} {cs : Nat → Nat} {y i nL : Nat} {ls : ALS} {x : Value} {lsA : Array Slot} (hg : am_Lg y ls) (hst : am_st y i = true)
    (h : lv_has lsA nL ((i, am_v base cs x) :: (am_lv base cs 0 ls).filter (fun q => !(q.1 == i) && !(q.1 + 1 == i && q.2.category == 2)))) : lv_has lsA nL (am_lv base cs 0 (lput ls i x)) := by
  refine ⟨h.1, h.2.1, fun q hq => ?_⟩
  obtain ⟨j, v, h1, rfl⟩ := am_lv_mem.mp hq
  rcases am_lput h1 with ⟨rfl, rfl⟩ | ⟨h2, h3⟩
  · have := h.2.2 _ (List.mem_cons_self (a := (j, am_v base cs v)))
    simpa using this
  · refine h.2.2 _ (List.mem_cons_of_mem _ (List.mem_filter.mpr ⟨am_lv_mem.mpr ⟨j, v, h3, rfl⟩, ?_⟩))
    have h4 := hg j v h3
    simp only [am_st, Bool.and_eq_true, Bool.not_eq_true', Bool.and_eq_false_iff] at hst
    simp only [Nat.zero_add, am_v_cat, Bool.and_eq_true, Bool.not_eq_true', beq_eq_false_iff_ne, Bool.and_eq_false_iff]
    refine ⟨h2, ?_⟩
    rcases h4 with h4 | ⟨h4, h5⟩
    · exact Or.inr (by rw [h4]; decide)
    · left
      rcases hst.2 with h6 | h6
      · rw [h4] at h6; cases h6
      · intro h7
        have : ¬ i ≤ 2 := fun q => by rw [Nat.ble_eq_true_of_le q] at h6; cases h6
        omega
theorem am_local {base : Nat} {cs : Nat → Nat} {nL i : Nat} {ls : ALS} {v : Value} {lsA : Array Slot} (h : lv_has lsA nL (am_lv base cs 0 ls)) (hv : lget ls i = some v) : lsA[i]? = some (.val (am_v base cs v)) := by
  have := h.2.2 _ (am_lv_mem.mpr ⟨i, v, hv, rfl⟩)
  simpa using this
