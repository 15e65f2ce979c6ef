/-! the class: boats sorted as the wind meets them, and what they take -/
theorem nI_sub {a b : Nat} (h : b ≤ a) : nI a - nI b = nI (a - b) := by
  rw [show nI a = nI (a - b + b) by rw [Nat.sub_add_cancel h], ← nI_add, Int32.add_sub_cancel]
theorem x_cellsAhead (h : AH) (c w : Nat) (hc : c < 24) (hw : w < 4) : Ct 0 y_Sea_cellsAhead [.int (nI c), .int (nI w)] h (fun r h' => h' = h ∧ r = some (.int (nI (ahd w c)))) := by
  obtain ⟨I, P, S, n, sl⟩ := h
  have e1 : nI c / 6 = nI (c / 6) := nI_div (b := 6) (by omega) (by decide)
  have e2 : irm (nI c) 6 = nI (c % 6) := irm_nI (b := 6) (by omega) (by decide)
  rcases (show w = 0 ∨ w = 1 ∨ w = 2 ∨ w = 3 by omega) with rfl | rfl | rfl | rfl
  · repeat refine Go.step rfl ?_
    exact Go.ret rfl ⟨rfl, by rw [e1]; rfl⟩
  · repeat refine Go.step rfl ?_
    refine Go.ret rfl ⟨rfl, ?_⟩
    rw [e2, show (5 : Int32) = nI 5 from rfl, nI_sub (by omega)]; rfl
  · repeat refine Go.step rfl ?_
    refine Go.ret rfl ⟨rfl, ?_⟩
    rw [e1, show (3 : Int32) = nI 3 from rfl, nI_sub (by omega)]; rfl
  · repeat refine Go.step rfl ?_
    exact Go.ret rfl ⟨rfl, by rw [e2]; rfl⟩
theorem x_lineOf (h : AH) (c w : Nat) (hc : c < 24) (hw : w < 4) : Ct 1 y_Sea_lineOf [.int (nI c), .int (nI w)] h (fun r h' => h' = h ∧ r = some (.int (nI (lno w c)))) := by
  obtain ⟨I, P, S, n, sl⟩ := h
  have e1 : nI c / 6 = nI (c / 6) := nI_div (b := 6) (by omega) (by decide)
  have e2 : irm (nI c) 6 = nI (c % 6) := irm_nI (b := 6) (by omega) (by decide)
  have ev : w % 2 = 0 → Go 1 y_Sea_lineOf 6 [some (.int (nI c)), some (.int (nI w))] [] (I, P, S, n, sl) (fun r h' => h' = (I, P, S, n, sl) ∧ r = some (.int (nI (lno w c)))) := by
    intro q
    iterate 3 refine Go.step rfl ?_
    rw [e2]
    iterate 2 refine Go.step rfl ?_
    refine Go.cal (j_floorMod _ (c % 6) 6 (by omega) (by decide) (by decide)) (by decide) rfl ?_
    rintro _ _ ⟨rfl, rfl⟩
    refine Go.ret rfl ⟨rfl, ?_⟩
    unfold lno
    rw [if_pos q, Nat.mod_mod]
  have od : ¬ w % 2 = 0 → Go 1 y_Sea_lineOf 13 [some (.int (nI c)), some (.int (nI w))] [] (I, P, S, n, sl) (fun r h' => h' = (I, P, S, n, sl) ∧ r = some (.int (nI (lno w c)))) := by
    intro q
    iterate 3 refine Go.step rfl ?_
    rw [e1]
    refine Go.step rfl ?_
    refine Go.cal (j_floorMod _ (c / 6) 6 (by omega) (by decide) (by decide)) (by decide) rfl ?_
    rintro _ _ ⟨rfl, rfl⟩
    refine Go.ret rfl ⟨rfl, ?_⟩
    unfold lno
    rw [if_neg q, Nat.mod_eq_of_lt (by omega)]
  rcases (show w = 0 ∨ w = 1 ∨ w = 2 ∨ w = 3 by omega) with rfl | rfl | rfl | rfl
  · iterate 4 refine Go.step rfl ?_
    exact ev (by decide)
  · iterate 4 refine Go.step rfl ?_
    exact od (by decide)
  · iterate 4 refine Go.step rfl ?_
    exact ev (by decide)
  · iterate 4 refine Go.step rfl ?_
    exact od (by decide)
/-- o lists the keys K 0 .. K (n - 1), rising -/
def Srt (n : Nat) (o K : Nat → Nat) : Prop := (∀ j, j < n → ∃ b, b < n ∧ o j = K b) ∧ (∀ b, b < n → ∃ j, j < n ∧ o j = K b) ∧ ∀ j, j + 1 < n → o j < o (j + 1)
theorem Srt.mono {n : Nat} {o K : Nat → Nat} (h : Srt n o K) {a : Nat} : ∀ {b : Nat}, a < b → b < n → o a < o b := by
  intro b
  induction b with
  | zero => intro h1; omega
  | succ b ih =>
    intro h1 h2
    have h3 := h.2.2 b h2
    rcases Nat.lt_or_ge a b with q | q
    · exact Nat.lt_trans (ih q (by omega)) h3
    · have : a = b := by omega
      subst this; exact h3
/-- a key more, laid in at place j -/
theorem Srt.ins {i j : Nat} {o K : Nat → Nat} (h : Srt i o K) (hj : j ≤ i) (hlo : j = 0 ∨ o (j - 1) < K i) (hhi : ∀ t, j ≤ t → t < i → K i < o t) : Srt (i + 1) (fun t => if t < j then o t else if t = j then K i else o (t - 1)) K := by
  refine ⟨fun t ht => ?_, fun b hb => ?_, fun t ht => ?_⟩
  · by_cases h1 : t < j
    · obtain ⟨b, hb, e⟩ := h.1 t (by omega)
      exact ⟨b, by omega, by simp only [h1, if_true]; exact e⟩
    · by_cases h2 : t = j
      · exact ⟨i, by omega, by simp only [h1, h2, if_true, Nat.lt_irrefl, if_false]⟩
      · obtain ⟨b, hb, e⟩ := h.1 (t - 1) (by omega)
        exact ⟨b, by omega, by simp only [h1, h2, if_false]; exact e⟩
  · by_cases h1 : b = i
    · subst h1
      exact ⟨j, by omega, by simp only [Nat.lt_irrefl, if_false, if_true]⟩
    · obtain ⟨t, ht, e⟩ := h.2.1 b (by omega)
      by_cases h2 : t < j
      · exact ⟨t, by omega, by simp only [h2, if_true]; exact e⟩
      · refine ⟨t + 1, by omega, ?_⟩
        have h3 : ¬ t + 1 < j := by omega
        have h4 : ¬ t + 1 = j := by omega
        simp only [h3, h4, if_false]
        exact e
  · show (if t < j then o t else if t = j then K i else o (t - 1)) < (if t + 1 < j then o (t + 1) else if t + 1 = j then K i else o (t + 1 - 1))
    by_cases h1 : t + 1 < j
    · rw [if_pos (show t < j by omega), if_pos h1]; exact h.2.2 t (by omega)
    · rw [if_neg h1]
      by_cases h2 : t + 1 = j
      · rw [if_pos (show t < j by omega), if_pos h2]
        rcases hlo with q | q
        · omega
        · rw [show t = j - 1 by omega]; exact q
      · rw [if_neg h2, if_neg (show ¬ t < j by omega)]
        by_cases h3 : t = j
        · rw [if_pos h3]
          have := hhi j (by omega) (by omega)
          rw [show t + 1 - 1 = j by omega]; exact this
        · rw [if_neg h3, show t + 1 - 1 = t - 1 + 1 by omega]
          exact h.2.2 (t - 1) (by omega)
theorem and7 : ∀ k, k < 64 → nI k &&& 7 = nI (k % 8) := by decide +kernel
theorem key_b {s : Nat → Int32} {b : Nat} (hb : b < 8) : key s b % 8 = b := by unfold key; omega
theorem key_48 {s : Nat → Int32} (hs : sOK s) {b : Nat} (hb : b < cl (s 0)) : key s b < 48 := by
  have h1 := (lno_lt (wyn_lt hs).1 (cel_lt hs hb).1).2
  have h2 := (nln_le (wyn s)).2
  have h3 := cl_le hs.1
  unfold key; omega
theorem sP_boats (T : AT) {B j : Nat} (hB : B = 1 ∨ B = 17 ∨ B = 33) (hj : j < 8) : sP T.1 T.2.1 T.2.2.1 (B + 3) j = some (B + 8 + j) := by
  rcases hB with rfl | rfl | rfl <;> rcases (show j = 0 ∨ j = 1 ∨ j = 2 ∨ j = 3 ∨ j = 4 ∨ j = 5 ∨ j = 6 ∨ j = 7 by omega) with rfl | rfl | rfl | rfl | rfl | rfl | rfl | rfl <;> rfl
theorem XSea.scr {I I' : AI} {T : AT} {B i : Nat} {s : Nat → Int32} (h : XSea I T B i s) (hB : B + 16 ≤ 91) (hI : ∀ a, a < B + 5 ∨ B + 15 < a → I' a = I a) (hb : ∀ b f, b < 8 → f < 8 → I' (B + 8 + b) f = I (B + 8 + b) f) : XSea I' T B i s := by
  obtain ⟨h1, h2, h3, h4, h5, h6⟩ := h
  exact ⟨by rw [hI _ (by omega)]; exact h1, by rw [hI _ (by omega)]; exact h2, fun j hj => by rw [hI _ (by omega)]; exact h3 j hj, fun q hq => by rw [hI _ (by omega)]; exact h4 q hq, fun b f g1 g2 g3 => by rw [hb b f g2 g3]; exact h5 b f g1 g2 g3, fun u hu => (h6 u hu).kept (fun a ha => hI a (by omega)) (fun _ _ _ => rfl) hu⟩
/-- no boat is met between two of the sorted keys -/
theorem lf_gap {s : Nat → Int32} (hs : sOK s) {set : Int32} {l : Nat} {o : Nat → Nat} (ho : Srt (cl (s 0)) o (key s)) {a b : Nat} (hab : a ≤ b) (h : ∀ j, j < cl (s 0) → o j < a ∨ b ≤ o j) : lf s set l b = lf s set l a := by
  rw [show b = a + (b - a) by omega]
  refine lf_stay (fun m h1 h2 hh => ?_)
  obtain ⟨q1, q2, q3, q4⟩ := of_decide_eq_true hh
  obtain ⟨j, hj, e⟩ := ho.2.1 _ q1
  have : key s (m % 8) = m := by unfold key; omega
  rcases h j hj with q | q <;> omega
/-- what take leaves behind in the sea at B -/
def TO (I : AI) (B : Nat) (s : Nat → Int32) (set : Int32) (I' : AI) : Prop := (∀ a, a < B + 5 ∨ B + 15 < a → I' a = I a) ∧ (∀ b f, b < 8 → f < 8 → I' (B + 8 + b) f = I (B + 8 + b) f) ∧ (∀ b, b < cl (s 0) → I' (B + 8 + b) 8 = tk s set b) ∧ (∀ l, l < 6 → I' (B + 5) l = lf s set l 48)
theorem x_lineUp_1 (I : AI) (T : AT) (s : Nat → Int32) (hs : sOK s) (hX : XSea I T 1 0 s) : Ct 1 y_Sea_lineUp [.ref 1, .int (nI (wyn s))] (hp I T) (fun r h' => ∃ (g : Nat → Int32) (o : Nat → Nat), h' = hp (va_up I 7 g) T ∧ (∀ j, j < cl (s 0) → g j = nI (o j)) ∧ Srt (cl (s 0)) o (key s) ∧ r = none) := by
  obtain ⟨en, hn⟩ := hs.1.eq (by decide)
  obtain ⟨hw, ew⟩ := wyn_lt hs
  have e1 : I 1 1 = nI (cl (s 0)) := hX.2.1.trans en
  have inner : ∀ (i : Nat) (o : Nat → Nat) (Q : Option Value → AH → Prop), i < cl (s 0) → Srt i o (key s) → (∀ g j, j ≤ i → (j = 0 ∨ o (j - 1) < key s i) → (∀ t, j ≤ t → t < i → key s i < o t) → (∀ t, t < j → g t = nI (o t)) → (∀ t, j < t → t ≤ i → g t = nI (o (t - 1))) → Go 1 y_Sea_lineUp 72 [some (.ref 1), some (.int (nI (wyn s))), some (.int (nI i)), some (.int (nI (key s i))), some (.int (nI j))] [] (hp (va_up I 7 g) T) Q) → ∀ j, j ≤ i → ∀ g, (∀ t, j ≤ t → t < i → key s i < o t) → (∀ t, t < j → g t = nI (o t)) → (∀ t, j < t → t ≤ i → g t = nI (o (t - 1))) → Go 1 y_Sea_lineUp 32 [some (.ref 1), some (.int (nI (wyn s))), some (.int (nI i)), some (.int (nI (key s i))), some (.int (nI j))] [] (hp (va_up I 7 g) T) Q := by
    intro i o Q hi ho K j
    have hk48 := key_48 hs hi
    have ok : ∀ t, t < i → o t < 48 ∧ o t ≠ key s i := by
      intro t ht
      obtain ⟨b, hb, e⟩ := ho.1 t ht
      refine ⟨by rw [e]; exact key_48 hs (by omega), fun q => ?_⟩
      have h1 := key_b (s := s) (b := b) (by omega)
      have h2 := key_b (s := s) (b := i) (by omega)
      rw [← e, q, h2] at h1
      omega
    induction j with
    | zero =>
      intro _ g h1 h2 h3
      iterate 2 refine Go.step rfl ?_
      exact K g 0 (by omega) (Or.inl rfl) h1 h2 h3
    | succ j ih =>
      intro hj g h1 h2 h3
      have hoj := ok j (by omega)
      iterate 2 refine Go.step rfl ?_
      refine Go.ifn (nI_nle (by omega) (by omega)) ?_
      iterate 5 refine Go.step rfl ?_
      rw [nI_pred]
      refine Go.iald rfl rfl (am_in_nI (by omega) (by decide)) ?_
      rw [vu_same, nI_clamp (by omega), h2 j (by omega)]
      iterate 2 refine Go.step rfl ?_
      refine Go.ite (fun c1 => ?_) (fun c1 => ?_)
      · rw [nI_leI (by omega) (by omega)] at c1
        exact K g (j + 1) hj (Or.inr (by rw [Nat.add_sub_cancel]; omega)) h1 h2 h3
      · rw [nI_leI (by omega) (by omega)] at c1
        iterate 8 refine Go.step rfl ?_
        rw [nI_pred]
        refine Go.iald rfl rfl (am_in_nI (by omega) (by decide)) ?_
        rw [vu_same, nI_clamp (by omega), h2 j (by omega)]
        refine Go.iast rfl rfl (am_in_nI (by omega) (by decide)) ?_
        rw [vu_idem, vu_same, nI_clamp (by omega)]
        iterate 2 refine Go.step rfl ?_
        rw [nI_m1]
        refine ih (by omega) _ (fun t g1 g2 => ?_) (fun t g1 => ?_) (fun t g1 g2 => ?_)
        · rcases Nat.lt_or_ge j t with q | q
          · exact h1 t (by omega) g2
          · rw [show t = j by omega]; omega
        · rw [va_up_ne _ _ (by omega)]; exact h2 t (by omega)
        · by_cases q : t = j + 1
          · subst q; rw [vu_same, Nat.add_sub_cancel]
          · rw [va_up_ne _ _ q]; exact h3 t (by omega) g2
  have outer : ∀ m i, i + m = cl (s 0) → ∀ (g : Nat → Int32) (o : Nat → Nat) (t3 t4 : Option Value), (∀ j, j < i → g j = nI (o j)) → Srt i o (key s) → Go 1 y_Sea_lineUp 2 [some (.ref 1), some (.int (nI (wyn s))), some (.int (nI i)), t3, t4] [] (hp (va_up I 7 g) T) (fun r h' => ∃ (g : Nat → Int32) (o : Nat → Nat), h' = hp (va_up I 7 g) T ∧ (∀ j, j < cl (s 0) → g j = nI (o j)) ∧ Srt (cl (s 0)) o (key s) ∧ r = none) := by
    intro m
    induction m with
    | zero =>
      intro i hi g o t3 t4 hg ho
      have : i = cl (s 0) := by omega
      subst this
      iterate 3 refine Go.step rfl ?_
      rw [va_up_ne _ _ (by decide), e1]
      refine Go.step rfl ?_
      refine Go.ifp (Int32.le_refl _) ?_
      exact Go.ret rfl ⟨g, o, rfl, hg, ho, rfl⟩
    | succ m ih =>
      intro i hi g o t3 t4 hg ho
      have hin : i < cl (s 0) := by omega
      have hi8 : i < 8 := by omega
      obtain ⟨hc, ec⟩ := cel_lt hs hin
      have hSb : sS T.2.2.2.2.2.2 T.2.2.2.1 ((1 + 8) + i) = (10, 9) := sS_boat _ _ (B := 1) (Or.inl rfl) hi8
      have hk48 := key_48 hs hin
      iterate 3 refine Go.step rfl ?_
      rw [va_up_ne _ _ (by decide), e1]
      refine Go.step rfl ?_
      refine Go.ifn (nI_ge (a := i) (b := cl (s 0)) hin (by omega)) ?_
      iterate 3 refine Go.step rfl ?_
      refine Go.aald rfl rfl rfl (am_in_nI hi8 (by decide)) (by rw [nI_clamp (by omega)]; exact sP_boats T (B := 1) (Or.inl rfl) hi8) ?_
      refine Go.geti rfl hSb (Or.inl rfl) ?_
      rw [va_up_ne _ _ (by omega), show I ((1 + 8) + i) 2 = nI (cel s i) from (hX.2.2.2.2.1 i 2 hin hi8 (by decide)).trans ec]
      refine Go.step rfl ?_
      refine Go.cal (x_cellsAhead _ (cel s i) (wyn s) hc hw) (by decide) rfl ?_
      rintro _ _ ⟨rfl, rfl⟩
      iterate 4 refine Go.step rfl ?_
      rw [show nI (ahd (wyn s) (cel s i)) * 8 + nI i = nI (key s i) by
        rw [show (8 : Int32) = nI 8 from rfl, nI_mul, nI_add]; unfold key; rw [Nat.mul_comm]]
      iterate 3 refine Go.step rfl ?_
      refine inner i o _ hin ho ?_ i (Nat.le_refl i) g (fun t g1 g2 => by omega) hg (fun t g1 g2 => by omega)
      intro g' j hj hlo hhi k1 k2
      iterate 4 refine Go.step rfl ?_
      refine Go.iast rfl rfl (am_in_nI (by omega) (by decide)) ?_
      rw [vu_idem, vu_same, nI_clamp (by omega)]
      iterate 2 refine Go.step rfl ?_
      rw [show nI i + 1 = nI (i + 1) from nI_1 i]
      refine ih (i + 1) (by omega) _ (fun t => if t < j then o t else if t = j then key s i else o (t - 1)) _ _ (fun t ht => ?_) (ho.ins hj hlo hhi)
      by_cases q : t = j
      · subst q
        rw [vu_same]
        simp only [Nat.lt_irrefl, if_false, if_true]
      · rw [va_up_ne _ _ q]
        by_cases q2 : t < j
        · simp only [q2, if_true]; exact k1 t q2
        · simp only [q2, q, if_false]; exact k2 t (by omega) (by omega)
  iterate 2 refine Go.step rfl ?_
  have h1 := outer (cl (s 0)) 0 (by omega) (I 7) (fun _ => 0) none none (fun j hj => by omega) ⟨fun j hj => by omega, fun j hj => by omega, fun j hj => by omega⟩
  rw [vu_self] at h1
  exact h1
theorem x_take_1 (I : AI) (T : AT) (s : Nat → Int32) (hs : sOK s) (hX : XSea I T 1 0 s) (set : Int32) : Ct 4 y_Sea_take [.ref 1, .int set] (hp I T) (fun r h' => ∃ I', h' = hp I' T ∧ TO I 1 s set I' ∧ r = none) := by
  obtain ⟨en, hn⟩ := hs.1.eq (by decide)
  obtain ⟨hw, ew⟩ := wyn_lt hs
  have e1 : I 1 1 = nI (cl (s 0)) := hX.2.1.trans en
  have loop : ∀ (o : Nat → Nat), Srt (cl (s 0)) o (key s) → ∀ m i, i + m = cl (s 0) → ∀ (I' : AI) (p : Nat) (t4 t5 t6 : Option Value), (∀ a, a < 1 + 5 ∨ 1 + 15 < a → I' a = I a) → (∀ b f, b < 8 → f < 8 → I' (1 + 8 + b) f = I (1 + 8 + b) f) → (∀ j, j < cl (s 0) → I' 7 j = nI (o j)) → (∀ l, l < 6 → I' 6 l = lf s set l p) → (∀ j, j < i → o j < p) → (∀ j, i ≤ j → j < cl (s 0) → p ≤ o j) → p ≤ 48 → (∀ j, j < i → I' (1 + 8 + o j % 8) 8 = tk s set (o j % 8)) → Go 4 y_Sea_take 23 [some (.ref 1), some (.int set), some (.int (nI (wyn s))), some (.int (nI i)), t4, t5, t6] [] (hp I' T) (fun r h' => ∃ I', h' = hp I' T ∧ TO I 1 s set I' ∧ r = none) := by
    intro o ho m
    induction m with
    | zero =>
      intro i hi I' p t4 t5 t6 k1 k2 k3 k4 k5 k6 k7 k8
      have : i = cl (s 0) := by omega
      subst this
      iterate 3 refine Go.step rfl ?_
      rw [k1 1 (by omega), e1]
      refine Go.step rfl ?_
      refine Go.ifp (Int32.le_refl _) ?_
      refine Go.ret rfl ⟨I', rfl, ⟨k1, k2, fun b hb => ?_, fun l hl => ?_⟩, rfl⟩
      · obtain ⟨j, hj, e⟩ := ho.2.1 b hb
        have := k8 j hj
        rw [e, key_b (by omega)] at this
        exact this
      · rw [show 1 + 5 = 6 from rfl, k4 l hl]
        exact (lf_gap hs ho k7 (fun j hj => Or.inl (k5 j hj))).symm
    | succ m ih =>
      intro i hi I' p t4 t5 t6 k1 k2 k3 k4 k5 k6 k7 k8
      have hin : i < cl (s 0) := by omega
      obtain ⟨b, hb, eo⟩ := ho.1 i hin
      have hb8 : b < 8 := by omega
      obtain ⟨hc, ec⟩ := cel_lt hs hb
      have hk48 := key_48 hs hb
      have hSb : sS T.2.2.2.2.2.2 T.2.2.2.1 ((1 + 8) + b) = (10, 9) := sS_boat _ _ (B := 1) (Or.inl rfl) hb8
      have hX' : XSea I' T 1 0 s := hX.scr (by decide) k1 k2
      have hll := (lno_lt hw hc).1
      have hl6 : lno (wyn s) (cel s b) < 6 := by have := (nln_le (wyn s)).1; omega
      have hpo : p ≤ o i := k6 i (Nat.le_refl i) hin
      have mono := fun {a b : Nat} => ho.mono (a := a) (b := b)
      have gap : ∀ l, lf s set l (o i) = lf s set l p := fun l => lf_gap hs ho hpo (fun j hj => by
        rcases Nat.lt_or_ge j i with q | q
        · exact Or.inl (k5 j q)
        · rcases Nat.lt_or_ge i j with q2 | q2
          · exact Or.inr (Nat.le_of_lt (mono q2 hj))
          · rw [show j = i by omega]; exact Or.inr (Nat.le_refl _))
      have ek : o i = 8 * ahd (wyn s) (cel s b) + b := eo
      have hhit : ∀ l, hit s set l (o i) = decide (b < cl (s 0) ∧ lno (wyn s) (cel s b) = l ∧ ahd (wyn s) (cel s b) = ahd (wyn s) (cel s b) ∧ bit set b = true) := fun l => by rw [ek]; exact hit_at hb8
      have hx := lf_in hs set (lno (wyn s) (cel s b)) p
      have etk : bit set b = true → wan s b (lf s set (lno (wyn s) (cel s b)) p) = tk s set b := by
        intro q
        unfold tk
        rw [q, if_pos rfl, ← gap, ← eo]
      have enl : lf s set (lno (wyn s) (cel s b)) p - tk s set b = lf s set (lno (wyn s) (cel s b)) (o i + 1) := by
        rw [lf, hhit]
        by_cases q : bit set b = true
        · rw [decide_eq_true ⟨hb, rfl, rfl, q⟩, if_pos rfl, gap, ← etk q, ek, show (8 * ahd (wyn s) (cel s b) + b) % 8 = b by omega]
        · rw [decide_eq_false (fun z => q z.2.2.2), if_neg (by decide), gap]
          unfold tk
          rw [if_neg q, Int32.sub_zero]
      have eother : ∀ l, l ≠ lno (wyn s) (cel s b) → lf s set l (o i + 1) = lf s set l p := by
        intro l hl
        rw [lf, hhit, decide_eq_false (fun z => hl z.2.1.symm), if_neg (by decide), gap]
      have fin : ∀ (I2 : AI), (∀ a, a ≠ 8 → I2 a = I' a) → Go 4 y_Sea_take 91 [some (.ref 1), some (.int set), some (.int (nI (wyn s))), some (.int (nI i)), some (.int (nI b)), some (.ref ((1 + 8) + b)), some (.int (nI (lno (wyn s) (cel s b))))] [.int (tk s set b), .ref ((1 + 8) + b)] (hp I2 T) (fun r h' => ∃ I', h' = hp I' T ∧ TO I 1 s set I' ∧ r = none) := by
        intro I2 h2
        refine Go.puti rfl hSb rfl ?_
        iterate 4 refine Go.step rfl ?_
        refine Go.iald rfl rfl (am_in_nI hl6 (by decide)) ?_
        rw [nI_clamp (by omega), va_up_ne _ _ (by omega), h2 6 (by omega), k4 _ hl6]
        refine Go.step rfl ?_
        refine Go.geti rfl hSb (Or.inl rfl) ?_
        rw [vu_same, vu_same]
        refine Go.step rfl ?_
        rw [enl]
        refine Go.iast rfl rfl (am_in_nI hl6 (by decide)) ?_
        rw [nI_clamp (by omega), va_up_ne _ _ (show 6 ≠ (1 + 8) + b by omega), h2 6 (by omega)]
        iterate 2 refine Go.step rfl ?_
        rw [show nI i + 1 = nI (i + 1) from nI_1 i]
        refine ih (i + 1) (by omega) _ (o i + 1) _ _ _ (fun a ha => ?_) (fun b' f g1 g2 => ?_) (fun j hj => ?_) (fun l hl => ?_) (fun j hj => ?_) (fun j g1 g2 => ?_) (by omega) (fun j hj => ?_)
        · rw [va_up_ne _ _ (by omega), va_up_ne _ _ (by omega), h2 a (by omega)]; exact k1 a ha
        · rw [va_up_ne _ _ (by omega), ← k2 b' f g1 g2]
          by_cases q : b' = b
          · subst q; rw [vu_same, va_up_ne _ _ (by omega), h2 _ (by omega)]
          · rw [va_up_ne _ _ (by omega), h2 _ (by omega)]
        · rw [va_up_ne _ _ (by omega), va_up_ne _ _ (by omega), h2 _ (by omega)]; exact k3 j hj
        · rw [vu_same]
          by_cases q : l = lno (wyn s) (cel s b)
          · rw [q, vu_same]
          · rw [va_up_ne _ _ q, k4 l hl, eother l q]
        · rcases Nat.lt_or_ge j i with q | q
          · have := k5 j q; omega
          · rw [show j = i by omega]; omega
        · have := mono (a := i) (b := j) (by omega) g2; omega
        · rw [va_up_ne _ _ (by omega)]
          rcases Nat.lt_or_ge j i with q | q
          · have hne : o j % 8 ≠ b := by
              intro z
              have h3 := mono (a := j) (b := i) q hin
              obtain ⟨b2, hb2, e2⟩ := ho.1 j (by omega)
              rw [e2, key_b (by omega)] at z
              subst z
              rw [e2, eo] at h3
              omega
            rw [va_up_ne _ _ (by omega), h2 _ (by omega)]
            exact k8 j q
          · rw [show j = i by omega, eo, key_b hb8, vu_same, vu_same]
      iterate 3 refine Go.step rfl ?_
      rw [k1 1 (by omega), e1]
      refine Go.step rfl ?_
      refine Go.ifn (nI_ge (a := i) (b := cl (s 0)) hin (by omega)) ?_
      iterate 3 refine Go.step rfl ?_
      refine Go.iald rfl rfl (am_in_nI (by omega) (by decide)) ?_
      rw [nI_clamp (by omega), k3 i hin]
      iterate 2 refine Go.step rfl ?_
      rw [and7 (o i) (by omega), show o i % 8 = b by rw [eo]; exact key_b hb8]
      iterate 4 refine Go.step rfl ?_
      refine Go.aald rfl rfl rfl (am_in_nI hb8 (by decide)) (by rw [nI_clamp (by omega)]; exact sP_boats T (B := 1) (Or.inl rfl) hb8) ?_
      iterate 2 refine Go.step rfl ?_
      refine Go.geti rfl hSb (Or.inl rfl) ?_
      rw [show I' ((1 + 8) + b) 2 = nI (cel s b) from (hX'.2.2.2.2.1 b 2 hb hb8 (by decide)).trans ec]
      refine Go.step rfl ?_
      refine Go.cal (x_lineOf _ (cel s b) (wyn s) hc hw) (by decide) rfl ?_
      rintro _ _ ⟨rfl, rfl⟩
      iterate 9 refine Go.step rfl ?_
      refine Go.ite (fun c1 => ?_) (fun c1 => ?_)
      · have hbit : bit set b = true := decide_eq_true c1
        iterate 5 refine Go.step rfl ?_
        refine Go.iald rfl rfl (am_in_nI hl6 (by decide)) ?_
        rw [nI_clamp (by omega), k4 _ hl6]
        refine Go.cal (x_wants_1 I' T s hs hX' b hb hb8 _ hx.1) (by decide) rfl ?_
        rintro _ _ ⟨g, rfl, rfl⟩
        rw [etk hbit]
        refine Go.step rfl ?_
        exact fin _ (fun a ha => va_up_ne _ _ ha)
      · have hbit : ¬ bit set b = true := fun q => c1 (of_decide_eq_true q)
        refine Go.step rfl ?_
        have := fin I' (fun a ha => rfl)
        rw [show tk s set b = 0 by unfold tk; rw [if_neg hbit]] at this
        exact this
  refine Go.step rfl ?_
  refine Go.cal (x_way_1 I T s hs hX) (by decide) rfl ?_
  rintro _ _ ⟨rfl, rfl⟩
  rw [ew]
  iterate 3 refine Go.step rfl ?_
  refine Go.cal (x_lineUp_1 I T s hs hX) (by decide) rfl ?_
  rintro _ _ ⟨g, o, rfl, hg, ho, rfl⟩
  have k1 : ∀ a, a < 1 + 5 ∨ 1 + 15 < a → va_up I 7 g a = I a := fun a ha => va_up_ne _ _ (by omega)
  have k2 : ∀ b f, b < 8 → f < 8 → va_up I 7 g (1 + 8 + b) f = I (1 + 8 + b) f := fun b f _ _ => by rw [va_up_ne _ _ (by omega)]
  iterate 3 refine Go.step rfl ?_
  refine Go.cal (x_knots_1 _ T s hs (hX.scr (by decide) k1 k2)) (by decide) rfl ?_
  rintro _ _ ⟨rfl, rfl⟩
  refine Go.cal (j_fill _ _ _ _ _ 6 6 (kn s) rfl (by decide)) (by decide) rfl ?_
  rintro _ _ ⟨rfl, rfl⟩
  iterate 2 refine Go.step rfl ?_
  refine loop o ho (cl (s 0)) 0 (by omega) _ 0 none none none (fun a ha => ?_) (fun b f g1 g2 => ?_) (fun j hj => ?_) (fun l hl => ?_) (fun j hj => by omega) (fun j _ _ => Nat.zero_le _) (by decide) (fun j hj => by omega)
  · rw [va_up_ne _ _ (by omega)]; exact k1 a ha
  · rw [va_up_ne _ _ (by omega)]; exact k2 b f g1 g2
  · rw [va_up_ne _ _ (by omega), vu_same]; exact hg j hj
  · rw [vu_same]
    show (if l < 6 then kn s else _) = _
    rw [if_pos hl]; rfl
theorem x_lineUp_17 (I : AI) (T : AT) (s : Nat → Int32) (hs : sOK s) (hX : XSea I T 17 1 s) : Ct 1 y_Sea_lineUp [.ref 17, .int (nI (wyn s))] (hp I T) (fun r h' => ∃ (g : Nat → Int32) (o : Nat → Nat), h' = hp (va_up I 23 g) T ∧ (∀ j, j < cl (s 0) → g j = nI (o j)) ∧ Srt (cl (s 0)) o (key s) ∧ r = none) := by
  obtain ⟨en, hn⟩ := hs.1.eq (by decide)
  obtain ⟨hw, ew⟩ := wyn_lt hs
  have e1 : I 17 1 = nI (cl (s 0)) := hX.2.1.trans en
  have inner : ∀ (i : Nat) (o : Nat → Nat) (Q : Option Value → AH → Prop), i < cl (s 0) → Srt i o (key s) → (∀ g j, j ≤ i → (j = 0 ∨ o (j - 1) < key s i) → (∀ t, j ≤ t → t < i → key s i < o t) → (∀ t, t < j → g t = nI (o t)) → (∀ t, j < t → t ≤ i → g t = nI (o (t - 1))) → Go 1 y_Sea_lineUp 72 [some (.ref 17), some (.int (nI (wyn s))), some (.int (nI i)), some (.int (nI (key s i))), some (.int (nI j))] [] (hp (va_up I 23 g) T) Q) → ∀ j, j ≤ i → ∀ g, (∀ t, j ≤ t → t < i → key s i < o t) → (∀ t, t < j → g t = nI (o t)) → (∀ t, j < t → t ≤ i → g t = nI (o (t - 1))) → Go 1 y_Sea_lineUp 32 [some (.ref 17), some (.int (nI (wyn s))), some (.int (nI i)), some (.int (nI (key s i))), some (.int (nI j))] [] (hp (va_up I 23 g) T) Q := by
    intro i o Q hi ho K j
    have hk48 := key_48 hs hi
    have ok : ∀ t, t < i → o t < 48 ∧ o t ≠ key s i := by
      intro t ht
      obtain ⟨b, hb, e⟩ := ho.1 t ht
      refine ⟨by rw [e]; exact key_48 hs (by omega), fun q => ?_⟩
      have h1 := key_b (s := s) (b := b) (by omega)
      have h2 := key_b (s := s) (b := i) (by omega)
      rw [← e, q, h2] at h1
      omega
    induction j with
    | zero =>
      intro _ g h1 h2 h3
      iterate 2 refine Go.step rfl ?_
      exact K g 0 (by omega) (Or.inl rfl) h1 h2 h3
    | succ j ih =>
      intro hj g h1 h2 h3
      have hoj := ok j (by omega)
      iterate 2 refine Go.step rfl ?_
      refine Go.ifn (nI_nle (by omega) (by omega)) ?_
      iterate 5 refine Go.step rfl ?_
      rw [nI_pred]
      refine Go.iald rfl rfl (am_in_nI (by omega) (by decide)) ?_
      rw [vu_same, nI_clamp (by omega), h2 j (by omega)]
      iterate 2 refine Go.step rfl ?_
      refine Go.ite (fun c1 => ?_) (fun c1 => ?_)
      · rw [nI_leI (by omega) (by omega)] at c1
        exact K g (j + 1) hj (Or.inr (by rw [Nat.add_sub_cancel]; omega)) h1 h2 h3
      · rw [nI_leI (by omega) (by omega)] at c1
        iterate 8 refine Go.step rfl ?_
        rw [nI_pred]
        refine Go.iald rfl rfl (am_in_nI (by omega) (by decide)) ?_
        rw [vu_same, nI_clamp (by omega), h2 j (by omega)]
        refine Go.iast rfl rfl (am_in_nI (by omega) (by decide)) ?_
        rw [vu_idem, vu_same, nI_clamp (by omega)]
        iterate 2 refine Go.step rfl ?_
        rw [nI_m1]
        refine ih (by omega) _ (fun t g1 g2 => ?_) (fun t g1 => ?_) (fun t g1 g2 => ?_)
        · rcases Nat.lt_or_ge j t with q | q
          · exact h1 t (by omega) g2
          · rw [show t = j by omega]; omega
        · rw [va_up_ne _ _ (by omega)]; exact h2 t (by omega)
        · by_cases q : t = j + 1
          · subst q; rw [vu_same, Nat.add_sub_cancel]
          · rw [va_up_ne _ _ q]; exact h3 t (by omega) g2
  have outer : ∀ m i, i + m = cl (s 0) → ∀ (g : Nat → Int32) (o : Nat → Nat) (t3 t4 : Option Value), (∀ j, j < i → g j = nI (o j)) → Srt i o (key s) → Go 1 y_Sea_lineUp 2 [some (.ref 17), some (.int (nI (wyn s))), some (.int (nI i)), t3, t4] [] (hp (va_up I 23 g) T) (fun r h' => ∃ (g : Nat → Int32) (o : Nat → Nat), h' = hp (va_up I 23 g) T ∧ (∀ j, j < cl (s 0) → g j = nI (o j)) ∧ Srt (cl (s 0)) o (key s) ∧ r = none) := by
    intro m
    induction m with
    | zero =>
      intro i hi g o t3 t4 hg ho
      have : i = cl (s 0) := by omega
      subst this
      iterate 3 refine Go.step rfl ?_
      rw [va_up_ne _ _ (by decide), e1]
      refine Go.step rfl ?_
      refine Go.ifp (Int32.le_refl _) ?_
      exact Go.ret rfl ⟨g, o, rfl, hg, ho, rfl⟩
    | succ m ih =>
      intro i hi g o t3 t4 hg ho
      have hin : i < cl (s 0) := by omega
      have hi8 : i < 8 := by omega
      obtain ⟨hc, ec⟩ := cel_lt hs hin
      have hSb : sS T.2.2.2.2.2.2 T.2.2.2.1 ((17 + 8) + i) = (10, 9) := sS_boat _ _ (B := 17) (Or.inr (Or.inl rfl)) hi8
      have hk48 := key_48 hs hin
      iterate 3 refine Go.step rfl ?_
      rw [va_up_ne _ _ (by decide), e1]
      refine Go.step rfl ?_
      refine Go.ifn (nI_ge (a := i) (b := cl (s 0)) hin (by omega)) ?_
      iterate 3 refine Go.step rfl ?_
      refine Go.aald rfl rfl rfl (am_in_nI hi8 (by decide)) (by rw [nI_clamp (by omega)]; exact sP_boats T (B := 17) (Or.inr (Or.inl rfl)) hi8) ?_
      refine Go.geti rfl hSb (Or.inl rfl) ?_
      rw [va_up_ne _ _ (by omega), show I ((17 + 8) + i) 2 = nI (cel s i) from (hX.2.2.2.2.1 i 2 hin hi8 (by decide)).trans ec]
      refine Go.step rfl ?_
      refine Go.cal (x_cellsAhead _ (cel s i) (wyn s) hc hw) (by decide) rfl ?_
      rintro _ _ ⟨rfl, rfl⟩
      iterate 4 refine Go.step rfl ?_
      rw [show nI (ahd (wyn s) (cel s i)) * 8 + nI i = nI (key s i) by
        rw [show (8 : Int32) = nI 8 from rfl, nI_mul, nI_add]; unfold key; rw [Nat.mul_comm]]
      iterate 3 refine Go.step rfl ?_
      refine inner i o _ hin ho ?_ i (Nat.le_refl i) g (fun t g1 g2 => by omega) hg (fun t g1 g2 => by omega)
      intro g' j hj hlo hhi k1 k2
      iterate 4 refine Go.step rfl ?_
      refine Go.iast rfl rfl (am_in_nI (by omega) (by decide)) ?_
      rw [vu_idem, vu_same, nI_clamp (by omega)]
      iterate 2 refine Go.step rfl ?_
      rw [show nI i + 1 = nI (i + 1) from nI_1 i]
      refine ih (i + 1) (by omega) _ (fun t => if t < j then o t else if t = j then key s i else o (t - 1)) _ _ (fun t ht => ?_) (ho.ins hj hlo hhi)
      by_cases q : t = j
      · subst q
        rw [vu_same]
        simp only [Nat.lt_irrefl, if_false, if_true]
      · rw [va_up_ne _ _ q]
        by_cases q2 : t < j
        · simp only [q2, if_true]; exact k1 t q2
        · simp only [q2, q, if_false]; exact k2 t (by omega) (by omega)
  iterate 2 refine Go.step rfl ?_
  have h1 := outer (cl (s 0)) 0 (by omega) (I 23) (fun _ => 0) none none (fun j hj => by omega) ⟨fun j hj => by omega, fun j hj => by omega, fun j hj => by omega⟩
  rw [vu_self] at h1
  exact h1
theorem x_take_17 (I : AI) (T : AT) (s : Nat → Int32) (hs : sOK s) (hX : XSea I T 17 1 s) (set : Int32) : Ct 4 y_Sea_take [.ref 17, .int set] (hp I T) (fun r h' => ∃ I', h' = hp I' T ∧ TO I 17 s set I' ∧ r = none) := by
  obtain ⟨en, hn⟩ := hs.1.eq (by decide)
  obtain ⟨hw, ew⟩ := wyn_lt hs
  have e1 : I 17 1 = nI (cl (s 0)) := hX.2.1.trans en
  have loop : ∀ (o : Nat → Nat), Srt (cl (s 0)) o (key s) → ∀ m i, i + m = cl (s 0) → ∀ (I' : AI) (p : Nat) (t4 t5 t6 : Option Value), (∀ a, a < 17 + 5 ∨ 17 + 15 < a → I' a = I a) → (∀ b f, b < 8 → f < 8 → I' (17 + 8 + b) f = I (17 + 8 + b) f) → (∀ j, j < cl (s 0) → I' 23 j = nI (o j)) → (∀ l, l < 6 → I' 22 l = lf s set l p) → (∀ j, j < i → o j < p) → (∀ j, i ≤ j → j < cl (s 0) → p ≤ o j) → p ≤ 48 → (∀ j, j < i → I' (17 + 8 + o j % 8) 8 = tk s set (o j % 8)) → Go 4 y_Sea_take 23 [some (.ref 17), some (.int set), some (.int (nI (wyn s))), some (.int (nI i)), t4, t5, t6] [] (hp I' T) (fun r h' => ∃ I', h' = hp I' T ∧ TO I 17 s set I' ∧ r = none) := by
    intro o ho m
    induction m with
    | zero =>
      intro i hi I' p t4 t5 t6 k1 k2 k3 k4 k5 k6 k7 k8
      have : i = cl (s 0) := by omega
      subst this
      iterate 3 refine Go.step rfl ?_
      rw [k1 17 (by omega), e1]
      refine Go.step rfl ?_
      refine Go.ifp (Int32.le_refl _) ?_
      refine Go.ret rfl ⟨I', rfl, ⟨k1, k2, fun b hb => ?_, fun l hl => ?_⟩, rfl⟩
      · obtain ⟨j, hj, e⟩ := ho.2.1 b hb
        have := k8 j hj
        rw [e, key_b (by omega)] at this
        exact this
      · rw [show 17 + 5 = 22 from rfl, k4 l hl]
        exact (lf_gap hs ho k7 (fun j hj => Or.inl (k5 j hj))).symm
    | succ m ih =>
      intro i hi I' p t4 t5 t6 k1 k2 k3 k4 k5 k6 k7 k8
      have hin : i < cl (s 0) := by omega
      obtain ⟨b, hb, eo⟩ := ho.1 i hin
      have hb8 : b < 8 := by omega
      obtain ⟨hc, ec⟩ := cel_lt hs hb
      have hk48 := key_48 hs hb
      have hSb : sS T.2.2.2.2.2.2 T.2.2.2.1 ((17 + 8) + b) = (10, 9) := sS_boat _ _ (B := 17) (Or.inr (Or.inl rfl)) hb8
      have hX' : XSea I' T 17 1 s := hX.scr (by decide) k1 k2
      have hll := (lno_lt hw hc).1
      have hl6 : lno (wyn s) (cel s b) < 6 := by have := (nln_le (wyn s)).1; omega
      have hpo : p ≤ o i := k6 i (Nat.le_refl i) hin
      have mono := fun {a b : Nat} => ho.mono (a := a) (b := b)
      have gap : ∀ l, lf s set l (o i) = lf s set l p := fun l => lf_gap hs ho hpo (fun j hj => by
        rcases Nat.lt_or_ge j i with q | q
        · exact Or.inl (k5 j q)
        · rcases Nat.lt_or_ge i j with q2 | q2
          · exact Or.inr (Nat.le_of_lt (mono q2 hj))
          · rw [show j = i by omega]; exact Or.inr (Nat.le_refl _))
      have ek : o i = 8 * ahd (wyn s) (cel s b) + b := eo
      have hhit : ∀ l, hit s set l (o i) = decide (b < cl (s 0) ∧ lno (wyn s) (cel s b) = l ∧ ahd (wyn s) (cel s b) = ahd (wyn s) (cel s b) ∧ bit set b = true) := fun l => by rw [ek]; exact hit_at hb8
      have hx := lf_in hs set (lno (wyn s) (cel s b)) p
      have etk : bit set b = true → wan s b (lf s set (lno (wyn s) (cel s b)) p) = tk s set b := by
        intro q
        unfold tk
        rw [q, if_pos rfl, ← gap, ← eo]
      have enl : lf s set (lno (wyn s) (cel s b)) p - tk s set b = lf s set (lno (wyn s) (cel s b)) (o i + 1) := by
        rw [lf, hhit]
        by_cases q : bit set b = true
        · rw [decide_eq_true ⟨hb, rfl, rfl, q⟩, if_pos rfl, gap, ← etk q, ek, show (8 * ahd (wyn s) (cel s b) + b) % 8 = b by omega]
        · rw [decide_eq_false (fun z => q z.2.2.2), if_neg (by decide), gap]
          unfold tk
          rw [if_neg q, Int32.sub_zero]
      have eother : ∀ l, l ≠ lno (wyn s) (cel s b) → lf s set l (o i + 1) = lf s set l p := by
        intro l hl
        rw [lf, hhit, decide_eq_false (fun z => hl z.2.1.symm), if_neg (by decide), gap]
      have fin : ∀ (I2 : AI), (∀ a, a ≠ 24 → I2 a = I' a) → Go 4 y_Sea_take 91 [some (.ref 17), some (.int set), some (.int (nI (wyn s))), some (.int (nI i)), some (.int (nI b)), some (.ref ((17 + 8) + b)), some (.int (nI (lno (wyn s) (cel s b))))] [.int (tk s set b), .ref ((17 + 8) + b)] (hp I2 T) (fun r h' => ∃ I', h' = hp I' T ∧ TO I 17 s set I' ∧ r = none) := by
        intro I2 h2
        refine Go.puti rfl hSb rfl ?_
        iterate 4 refine Go.step rfl ?_
        refine Go.iald rfl rfl (am_in_nI hl6 (by decide)) ?_
        rw [nI_clamp (by omega), va_up_ne _ _ (by omega), h2 22 (by omega), k4 _ hl6]
        refine Go.step rfl ?_
        refine Go.geti rfl hSb (Or.inl rfl) ?_
        rw [vu_same, vu_same]
        refine Go.step rfl ?_
        rw [enl]
        refine Go.iast rfl rfl (am_in_nI hl6 (by decide)) ?_
        rw [nI_clamp (by omega), va_up_ne _ _ (show 22 ≠ (17 + 8) + b by omega), h2 22 (by omega)]
        iterate 2 refine Go.step rfl ?_
        rw [show nI i + 1 = nI (i + 1) from nI_1 i]
        refine ih (i + 1) (by omega) _ (o i + 1) _ _ _ (fun a ha => ?_) (fun b' f g1 g2 => ?_) (fun j hj => ?_) (fun l hl => ?_) (fun j hj => ?_) (fun j g1 g2 => ?_) (by omega) (fun j hj => ?_)
        · rw [va_up_ne _ _ (by omega), va_up_ne _ _ (by omega), h2 a (by omega)]; exact k1 a ha
        · rw [va_up_ne _ _ (by omega), ← k2 b' f g1 g2]
          by_cases q : b' = b
          · subst q; rw [vu_same, va_up_ne _ _ (by omega), h2 _ (by omega)]
          · rw [va_up_ne _ _ (by omega), h2 _ (by omega)]
        · rw [va_up_ne _ _ (by omega), va_up_ne _ _ (by omega), h2 _ (by omega)]; exact k3 j hj
        · rw [vu_same]
          by_cases q : l = lno (wyn s) (cel s b)
          · rw [q, vu_same]
          · rw [va_up_ne _ _ q, k4 l hl, eother l q]
        · rcases Nat.lt_or_ge j i with q | q
          · have := k5 j q; omega
          · rw [show j = i by omega]; omega
        · have := mono (a := i) (b := j) (by omega) g2; omega
        · rw [va_up_ne _ _ (by omega)]
          rcases Nat.lt_or_ge j i with q | q
          · have hne : o j % 8 ≠ b := by
              intro z
              have h3 := mono (a := j) (b := i) q hin
              obtain ⟨b2, hb2, e2⟩ := ho.1 j (by omega)
              rw [e2, key_b (by omega)] at z
              subst z
              rw [e2, eo] at h3
              omega
            rw [va_up_ne _ _ (by omega), h2 _ (by omega)]
            exact k8 j q
          · rw [show j = i by omega, eo, key_b hb8, vu_same, vu_same]
      iterate 3 refine Go.step rfl ?_
      rw [k1 17 (by omega), e1]
      refine Go.step rfl ?_
      refine Go.ifn (nI_ge (a := i) (b := cl (s 0)) hin (by omega)) ?_
      iterate 3 refine Go.step rfl ?_
      refine Go.iald rfl rfl (am_in_nI (by omega) (by decide)) ?_
      rw [nI_clamp (by omega), k3 i hin]
      iterate 2 refine Go.step rfl ?_
      rw [and7 (o i) (by omega), show o i % 8 = b by rw [eo]; exact key_b hb8]
      iterate 4 refine Go.step rfl ?_
      refine Go.aald rfl rfl rfl (am_in_nI hb8 (by decide)) (by rw [nI_clamp (by omega)]; exact sP_boats T (B := 17) (Or.inr (Or.inl rfl)) hb8) ?_
      iterate 2 refine Go.step rfl ?_
      refine Go.geti rfl hSb (Or.inl rfl) ?_
      rw [show I' ((17 + 8) + b) 2 = nI (cel s b) from (hX'.2.2.2.2.1 b 2 hb hb8 (by decide)).trans ec]
      refine Go.step rfl ?_
      refine Go.cal (x_lineOf _ (cel s b) (wyn s) hc hw) (by decide) rfl ?_
      rintro _ _ ⟨rfl, rfl⟩
      iterate 9 refine Go.step rfl ?_
      refine Go.ite (fun c1 => ?_) (fun c1 => ?_)
      · have hbit : bit set b = true := decide_eq_true c1
        iterate 5 refine Go.step rfl ?_
        refine Go.iald rfl rfl (am_in_nI hl6 (by decide)) ?_
        rw [nI_clamp (by omega), k4 _ hl6]
        refine Go.cal (x_wants_17 I' T s hs hX' b hb hb8 _ hx.1) (by decide) rfl ?_
        rintro _ _ ⟨g, rfl, rfl⟩
        rw [etk hbit]
        refine Go.step rfl ?_
        exact fin _ (fun a ha => va_up_ne _ _ ha)
      · have hbit : ¬ bit set b = true := fun q => c1 (of_decide_eq_true q)
        refine Go.step rfl ?_
        have := fin I' (fun a ha => rfl)
        rw [show tk s set b = 0 by unfold tk; rw [if_neg hbit]] at this
        exact this
  refine Go.step rfl ?_
  refine Go.cal (x_way_17 I T s hs hX) (by decide) rfl ?_
  rintro _ _ ⟨rfl, rfl⟩
  rw [ew]
  iterate 3 refine Go.step rfl ?_
  refine Go.cal (x_lineUp_17 I T s hs hX) (by decide) rfl ?_
  rintro _ _ ⟨g, o, rfl, hg, ho, rfl⟩
  have k1 : ∀ a, a < 17 + 5 ∨ 17 + 15 < a → va_up I 23 g a = I a := fun a ha => va_up_ne _ _ (by omega)
  have k2 : ∀ b f, b < 8 → f < 8 → va_up I 23 g (17 + 8 + b) f = I (17 + 8 + b) f := fun b f _ _ => by rw [va_up_ne _ _ (by omega)]
  iterate 3 refine Go.step rfl ?_
  refine Go.cal (x_knots_17 _ T s hs (hX.scr (by decide) k1 k2)) (by decide) rfl ?_
  rintro _ _ ⟨rfl, rfl⟩
  refine Go.cal (j_fill _ _ _ _ _ 22 6 (kn s) rfl (by decide)) (by decide) rfl ?_
  rintro _ _ ⟨rfl, rfl⟩
  iterate 2 refine Go.step rfl ?_
  refine loop o ho (cl (s 0)) 0 (by omega) _ 0 none none none (fun a ha => ?_) (fun b f g1 g2 => ?_) (fun j hj => ?_) (fun l hl => ?_) (fun j hj => by omega) (fun j _ _ => Nat.zero_le _) (by decide) (fun j hj => by omega)
  · rw [va_up_ne _ _ (by omega)]; exact k1 a ha
  · rw [va_up_ne _ _ (by omega)]; exact k2 b f g1 g2
  · rw [va_up_ne _ _ (by omega), vu_same]; exact hg j hj
  · rw [vu_same]
    show (if l < 6 then kn s else _) = _
    rw [if_pos hl]; rfl
