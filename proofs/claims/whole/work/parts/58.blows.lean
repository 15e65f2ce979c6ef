/-! PAIRS: blows, lee -/
def ahs (s : Nat → Int32) (l a : Nat) : Nat → Int32
  | 0 => kn s
  | k + 1 => if lno (wyn s) (cel s k) = l ∧ ahd (wyn s) (cel s k) < a then ahs s l a k - tk s 255 k else ahs s l a k
def sgA (s : Nat → Int32) (l a : Nat) : Nat → Int32
  | 0 => 0
  | k + 1 => sgA s l a k + (if k < cl (s 0) ∧ lno (wyn s) (cel s k) = l ∧ ahd (wyn s) (cel s k) < a then tk s 255 k else 0)
def sgE (s : Nat → Int32) (l a : Nat) : Nat → Int32
  | 0 => 0
  | k + 1 => sgE s l a k + (if k < cl (s 0) ∧ lno (wyn s) (cel s k) = l ∧ ahd (wyn s) (cel s k) = a then tk s 255 k else 0)
theorem ahs_eq (s : Nat → Int32) (l a : Nat) : ∀ k, k ≤ cl (s 0) → ahs s l a k = kn s - sgA s l a k := by
  intro k
  induction k with
  | zero => intro _; rw [ahs, sgA, Int32.sub_zero]
  | succ k ih =>
    intro hk
    rw [ahs, sgA, ih (by omega)]
    by_cases q : lno (wyn s) (cel s k) = l ∧ ahd (wyn s) (cel s k) < a
    · rw [if_pos q, if_pos ⟨by omega, q⟩, Int32.sub_sub]
    · rw [if_neg q, if_neg (fun z => q z.2), Int32.add_zero]
theorem sgA_succ (s : Nat → Int32) (l a : Nat) : ∀ k, sgA s l (a + 1) k = sgA s l a k + sgE s l a k := by
  intro k
  induction k with
  | zero => rw [sgA, sgA, sgE, Int32.add_zero]
  | succ k ih =>
    rw [sgA, sgA, sgE, ih]
    by_cases q : k < cl (s 0) ∧ lno (wyn s) (cel s k) = l ∧ ahd (wyn s) (cel s k) < a
    · rw [if_pos q, if_pos ⟨q.1, q.2.1, by omega⟩, if_neg (by omega), Int32.add_zero, Int32.add_assoc, Int32.add_comm (sgE s l a k), Int32.add_assoc]
    · rw [if_neg q, Int32.add_zero]
      by_cases z : k < cl (s 0) ∧ lno (wyn s) (cel s k) = l ∧ ahd (wyn s) (cel s k) = a
      · rw [if_pos z, if_pos ⟨z.1, z.2.1, by omega⟩, Int32.add_assoc]
      · rw [if_neg z, if_neg (fun y => by omega), Int32.add_zero, Int32.add_zero]
theorem sgA_end (s : Nat → Int32) (l a k : Nat) : ∀ m, k = cl (s 0) → sgA s l a (k + m) = sgA s l a k := by
  intro m
  induction m with
  | zero => intro _; rfl
  | succ m ih =>
    intro h
    rw [← Nat.add_assoc, sgA, if_neg (by omega), Int32.add_zero]
    exact ih h
theorem bit255 : ∀ b, b < 8 → bit 255 b = true := by decide +kernel
theorem lf_place {s : Nat → Int32} (hs : sOK s) (l a : Nat) : ∀ k, k ≤ 8 → lf s 255 l (8 * a + k) = lf s 255 l (8 * a) - sgE s l a k := by
  intro k
  induction k with
  | zero => intro _; rw [sgE, Int32.sub_zero]; rfl
  | succ k ih =>
    intro hk
    rw [← Nat.add_assoc, lf, sgE, hit_at (by omega)]
    by_cases q : k < cl (s 0) ∧ lno (wyn s) (cel s k) = l ∧ ahd (wyn s) (cel s k) = a
    · rw [decide_eq_true ⟨q.1, q.2.1, q.2.2, bit255 k (by omega)⟩, if_pos rfl, if_pos q, ← Int32.sub_sub, ← ih (by omega)]
      have e : tk s 255 k = wan s ((8 * a + k) % 8) (lf s 255 l (8 * a + k)) := by
        unfold tk
        rw [bit255 k (by omega), if_pos rfl, q.2.1, show (8 * a + k) % 8 = k by omega, show key s k = 8 * a + k by unfold key; rw [q.2.2]]
      rw [e]
    · rw [decide_eq_false (fun z => q ⟨z.1, z.2.1, z.2.2.1⟩), if_neg (by decide), if_neg q, Int32.add_zero]
      exact ih (by omega)
theorem lf_sum {s : Nat → Int32} (hs : sOK s) (l : Nat) : ∀ a, lf s 255 l (8 * a) = kn s - sgA s l a 8 := by
  intro a
  induction a with
  | zero =>
    have : ∀ k, sgA s l 0 k = 0 := by
      intro k
      induction k with
      | zero => rfl
      | succ k ih => rw [sgA, ih, if_neg (by omega), Int32.add_zero]
    rw [this, Int32.sub_zero]; rfl
  | succ a ih =>
    rw [show 8 * (a + 1) = 8 * a + 8 by omega, lf_place hs l a 8 (by omega), ih, sgA_succ, Int32.sub_sub]
theorem ahs_lf {s : Nat → Int32} (hs : sOK s) (l a : Nat) : ahs s l a (cl (s 0)) = lf s 255 l (8 * a) := by
  have h8 := cl_le hs.1
  rw [ahs_eq s l a _ (Nat.le_refl _), lf_sum hs, show 8 = cl (s 0) + (8 - cl (s 0)) by omega, sgA_end s l a _ _ rfl]
theorem x_blowsIn_1 (I : AI) (T : AT) (s : Nat → Int32) (hs : sOK s) (hX : XSea I T 1 0 s) (c : Nat) (hc : c < 24) : Ct 5 y_Sea_blowsIn [.ref 1, .int (nI c)] (hp I T) (fun r h' => ∃ I', h' = hp I' T ∧ (∀ a, a < 1 + 5 ∨ 1 + 15 < a → I' a = I a) ∧ (∀ b f, b < 8 → f < 8 → I' (1 + 8 + b) f = I (1 + 8 + b) f) ∧ r = some (.int (lf s 255 (lno (wyn s) c) (8 * ahd (wyn s) c)))) := by
  obtain ⟨en, hn⟩ := hs.1.eq (by decide)
  obtain ⟨hw, ew⟩ := wyn_lt hs
  have loop : ∀ (I' : AI), (∀ a, a < 1 + 5 ∨ 1 + 15 < a → I' a = I a) → (∀ b f, b < 8 → f < 8 → I' (1 + 8 + b) f = I (1 + 8 + b) f) → XSea I' T 1 0 s → (∀ b, b < cl (s 0) → I' (1 + 8 + b) 8 = tk s 255 b) → ∀ m k, k + m = cl (s 0) → ∀ t5 : Option Value, Go 5 y_Sea_blowsIn 20 [some (.ref 1), some (.int (nI c)), some (.int (nI (wyn s))), some (.int (ahs s (lno (wyn s) c) (ahd (wyn s) c) k)), some (.int (nI k)), t5] [] (hp I' T) (fun r h' => ∃ I', h' = hp I' T ∧ (∀ a, a < 1 + 5 ∨ 1 + 15 < a → I' a = I a) ∧ (∀ b f, b < 8 → f < 8 → I' (1 + 8 + b) f = I (1 + 8 + b) f) ∧ r = some (.int (lf s 255 (lno (wyn s) c) (8 * ahd (wyn s) c)))) := by
    intro I' k1 k2 hX' k3 m
    induction m with
    | zero =>
      intro k hk t5
      have : k = cl (s 0) := by omega
      subst this
      iterate 3 refine Go.step rfl ?_
      rw [show I' 1 1 = nI (cl (s 0)) from hX'.2.1.trans en]
      refine Go.step rfl ?_
      refine Go.ifp (Int32.le_refl _) ?_
      refine Go.step rfl ?_
      refine Go.ret rfl ⟨I', rfl, k1, k2, ?_⟩
      rw [ahs_lf hs]
    | succ m ih =>
      intro k hk t5
      have hkn : k < cl (s 0) := by omega
      have hk8 : k < 8 := by omega
      obtain ⟨hck, eck⟩ := cel_lt hs hkn
      have hSb : sS T.2.2.2.2.2.2 T.2.2.2.1 ((1 + 8) + k) = (10, 9) := sS_boat _ _ (B := 1) (Or.inl rfl) hk8
      have l1 := (lno_lt hw hck).1
      have l2 := (lno_lt hw hc).1
      have l3 := (lno_lt hw hck).2
      have l4 := (lno_lt hw hc).2
      have l5 := nln_le (wyn s)
      have next : ∀ (v : Int32) (t5 : Option Value), v = ahs s (lno (wyn s) c) (ahd (wyn s) c) (k + 1) → Go 5 y_Sea_blowsIn 82 [some (.ref 1), some (.int (nI c)), some (.int (nI (wyn s))), some (.int v), some (.int (nI k)), t5] [] (hp I' T) (fun r h' => ∃ I', h' = hp I' T ∧ (∀ a, a < 1 + 5 ∨ 1 + 15 < a → I' a = I a) ∧ (∀ b f, b < 8 → f < 8 → I' (1 + 8 + b) f = I (1 + 8 + b) f) ∧ r = some (.int (lf s 255 (lno (wyn s) c) (8 * ahd (wyn s) c)))) := by
        intro v t5 hv
        iterate 2 refine Go.step rfl ?_
        rw [hv, show nI k + 1 = nI (k + 1) from nI_1 k]
        exact ih (k + 1) (by omega) _
      iterate 3 refine Go.step rfl ?_
      rw [show I' 1 1 = nI (cl (s 0)) from hX'.2.1.trans en]
      refine Go.step rfl ?_
      refine Go.ifn (nI_ge (a := k) (b := cl (s 0)) hkn (by omega)) ?_
      iterate 3 refine Go.step rfl ?_
      refine Go.aald rfl rfl rfl (am_in_nI hk8 (by decide)) (by rw [nI_clamp (by omega)]; exact sP_boats T (B := 1) (Or.inl rfl) hk8) ?_
      refine Go.geti rfl hSb (Or.inl rfl) ?_
      rw [show I' ((1 + 8) + k) 2 = nI (cel s k) from (hX'.2.2.2.2.1 k 2 hkn hk8 (by decide)).trans eck]
      iterate 3 refine Go.step rfl ?_
      refine Go.cal (x_lineOf _ (cel s k) (wyn s) hck hw) (by decide) rfl ?_
      rintro _ _ ⟨rfl, rfl⟩
      iterate 2 refine Go.step rfl ?_
      refine Go.cal (x_lineOf _ c (wyn s) hc hw) (by decide) rfl ?_
      rintro _ _ ⟨rfl, rfl⟩
      refine Go.step rfl ?_
      refine Go.ite (fun c1 => ?_) (fun c1 => ?_)
      · have q1 : lno (wyn s) (cel s k) = lno (wyn s) c := (nI_eq (by omega) (by omega)).mp c1
        iterate 2 refine Go.step rfl ?_
        refine Go.cal (x_cellsAhead _ (cel s k) (wyn s) hck hw) (by decide) rfl ?_
        rintro _ _ ⟨rfl, rfl⟩
        iterate 2 refine Go.step rfl ?_
        refine Go.cal (x_cellsAhead _ c (wyn s) hc hw) (by decide) rfl ?_
        rintro _ _ ⟨rfl, rfl⟩
        refine Go.step rfl ?_
        refine Go.ite (fun c2 => ?_) (fun c2 => ?_)
        · rw [nI_leI (by omega) (by omega)] at c2
          exact next _ _ (by rw [ahs, if_neg (fun z => by omega)])
        · rw [nI_leI (by omega) (by omega)] at c2
          iterate 4 refine Go.step rfl ?_
          refine Go.aald rfl rfl rfl (am_in_nI hk8 (by decide)) (by rw [nI_clamp (by omega)]; exact sP_boats T (B := 1) (Or.inl rfl) hk8) ?_
          refine Go.geti rfl hSb (Or.inl rfl) ?_
          rw [k3 k hkn]
          iterate 2 refine Go.step rfl ?_
          exact next _ _ (by rw [ahs, if_pos ⟨q1, by omega⟩])
      · exact next _ _ (by rw [ahs, if_neg (fun z => c1 (by rw [z.1]))])
  iterate 2 refine Go.step rfl ?_
  refine Go.cal (x_take_1 I T s hs hX 255) (by decide) rfl ?_
  rintro _ _ ⟨I', rfl, ⟨k1, k2, k3, k4⟩, rfl⟩
  have hX' : XSea I' T 1 0 s := hX.scr (by decide) k1 k2
  refine Go.step rfl ?_
  refine Go.cal (x_way_1 I' T s hs hX') (by decide) rfl ?_
  rintro _ _ ⟨rfl, rfl⟩
  rw [ew]
  iterate 2 refine Go.step rfl ?_
  refine Go.cal (x_knots_1 I' T s hs hX') (by decide) rfl ?_
  rintro _ _ ⟨rfl, rfl⟩
  iterate 3 refine Go.step rfl ?_
  exact loop I' k1 k2 hX' k3 (cl (s 0)) 0 (by omega) _
def sp_blows (J : AI) (c : Int32) : AI × Int32 := bif win c 0 23 then (J, lf (J 74) 255 (lno (wyn (J 74)) (cl c)) (8 * ahd (wyn (J 74)) (cl c))) else (er J 1, LO 1)
theorem x_blows (xs : Nat → Int32) (I : AI) (T : AT) (J : AI) (hG : XG xs I T J) (c : Int32) : Ct 6 y_X_blows [.ref 0, .int c] (hp I T) (XP xs I T (sp_blows J c)) := by
  have hs := id hG.1
  iterate 3 refine Go.step rfl ?_
  refine Go.cal (x_within _ c 0 23) (by decide) rfl ?_
  rintro _ _ ⟨rfl, rfl⟩
  refine Go.step rfl ?_
  refine Go.ifz (fun c1 => ?_) (fun c1 => ?_)
  · iterate 2 refine Go.step rfl ?_
    exact x_err (k := 1) hG (by decide) (by decide) (by rw [sp_blows, c1]; rfl) rfl rfl rfl (by decide)
  · obtain ⟨j, hj, rfl⟩ := nI_of_win (N := 23) (by decide) c1
    iterate 3 refine Go.step rfl ?_
    refine Go.cal (x_blowsIn_1 I T _ hs hG.2.1 j (by omega)) (by decide) rfl ?_
    rintro _ _ ⟨I', rfl, k1, k2, rfl⟩
    refine Go.step rfl ?_
    refine Go.ret rfl ?_
    rw [sp_blows, c1, show cl (nI j) = j from nI_clamp (by omega)]
    exact ⟨I', rfl, fun a g1 g2 => k1 a (by omega), hG.scr k1 k2, rfl⟩
theorem m_blows (I : AI) (T : AT) (hs : sOK (I 74)) (ht : tOK (I 74) 0) (c : Int32) : Ct 6 y_M_blows [.ref 73, .int c] (hp I T) (MQ2 I T (sp_blows I c)) := by
  refine Go.step rfl ?_
  refine Go.cal (m_isCell _ c) (by decide) rfl ?_
  rintro _ _ ⟨rfl, rfl⟩
  refine Go.step rfl ?_
  refine Go.ifz (fun c1 => ?_) (fun c1 => ?_)
  · iterate 2 refine Go.step rfl ?_
    exact m_errq (k := 1) (by decide) (by rw [sp_blows, c1]; rfl) rfl rfl rfl (by decide)
  · obtain ⟨j, hj, rfl⟩ := nI_of_win (N := 23) (by decide) c1
    iterate 2 refine Go.step rfl ?_
    refine Go.cal (m_all I T) (by decide) rfl ?_
    rintro _ _ ⟨rfl, rfl⟩
    refine Go.cal (m_blow I T hs ht (alm (I 74))) (by decide) rfl ?_
    rintro _ _ ⟨I', rfl, hB, rfl⟩
    iterate 3 refine Go.step rfl ?_
    refine Go.iald rfl rfl (am_in_nI (by omega) (by decide)) ?_
    rw [nI_clamp (by omega), hB.2.2.1 j (by omega), lf_congr (alm_bit hs)]
    refine Go.ret rfl ?_
    rw [sp_blows, c1, show cl (nI j) = j from nI_clamp (by omega)]
    exact ⟨I', rfl, fun a ha => hB.1 a (by omega), JE.scr hB.1, rfl⟩
theorem op_blows (a : Int32) : OpOK y_X_blows y_M_blows [.int a] := by
  refine op_new (sp := fun J => sp_blows J a) (fun xs I T J h => x_blows xs I T J h a) (fun xs I0 T0 I T h => m_blows I T h.1 (h.tok (by decide)) a) (by decide) (by decide) ?_ ?_
  · unfold sp_blows; exact SpC.bif2 (fun J J' e => rfl) (SpC.ans (fun J J' e => by rw [e.2.2.1])) (SpC.err 1)
  · unfold sp_blows; exact SpH.bif2 SpH.ans (SpH.err 1)
/-! lee -/
def lem (o : Int32) : Int32 := (255 : Int32) &&& (((1 : Int32) <<< (o &&& 31)) ^^^ (-1))
theorem lem_bit : ∀ n, n ≤ 8 → ∀ o, o < 8 → ∀ b, b < n → bit ((((1 : Int32) <<< (nI n &&& 31)) - 1) &&& (((1 : Int32) <<< (nI o &&& 31)) ^^^ (-1))) b = bit (lem (nI o)) b := by decide +kernel
def sp_lee (J : AI) (a b : Int32) : AI × Int32 := bif win a 0 (J 74 0 - 1) && win b 0 (J 74 0 - 1) && !decide (a = b) then (J, tk (J 74) (lem b) (cl a) - tk (J 74) 255 (cl a)) else (er J 1, LO 1)
theorem x_lee (xs : Nat → Int32) (I : AI) (T : AT) (J : AI) (hG : XG xs I T J) (a b : Int32) : Ct 6 y_X_lee [.ref 0, .int a, .int b] (hp I T) (XP xs I T (sp_lee J a b)) := by
  have hs := id hG.1
  have x2 := hG.2.1.2.1
  have hr : rg (I 1 1) 8 := by rw [x2]; exact hs.1
  have bad : ∀ t3 : Value, (win a 0 (J 74 0 - 1) && win b 0 (J 74 0 - 1) && !decide (a = b)) = false → Go 6 y_X_lee 29 [some (.ref 0), some (.int a), some (.int b), some t3, none] [] (hp I T) (XP xs I T (sp_lee J a b)) := by
    intro t3 hq
    iterate 2 refine Go.step rfl ?_
    exact x_err (k := 1) hG (by decide) (by decide) (by rw [sp_lee, hq]; rfl) rfl rfl rfl (by decide)
  iterate 3 refine Go.step rfl ?_
  refine Go.cal (x_find I T 1 (Or.inl rfl) a hr) (by decide) rfl ?_
  rintro _ _ ⟨rfl, ⟨c1, rfl⟩ | ⟨c1, rfl⟩⟩
  · rw [x2] at c1
    iterate 6 refine Go.step rfl ?_
    refine Go.cal (x_find I T 1 (Or.inl rfl) b hr) (by decide) rfl ?_
    rintro _ _ ⟨rfl, ⟨c2, rfl⟩ | ⟨c2, rfl⟩⟩
    · rw [x2] at c2
      iterate 4 refine Go.step rfl ?_
      refine Go.ite (fun c3 => ?_) (fun c3 => ?_)
      · exact bad _ (by rw [decide_eq_true c3, Bool.not_true, Bool.and_false])
      · obtain ⟨j, hj, hj8, rfl⟩ := boat_of_win hs.1 c1
        have hcl : cl (nI j) = j := nI_clamp (by omega)
        have hSb : sS T.2.2.2.2.2.2 T.2.2.2.1 (1 + 8 + j) = (10, 9) := sS_boat _ _ (B := 1) (Or.inl rfl) hj8
        rw [hcl]
        iterate 3 refine Go.step rfl ?_
        refine Go.cal (x_take_1 I T _ hs hG.2.1 255) (by decide) rfl ?_
        rintro _ _ ⟨I', rfl, ⟨k1, k2, k3, k4⟩, rfl⟩
        refine Go.step rfl ?_
        refine Go.geti rfl hSb (Or.inl rfl) ?_
        rw [k3 j hj]
        iterate 10 refine Go.step rfl ?_
        refine Go.cal (x_take_1 I' T _ hs (hG.2.1.scr (by decide) k1 k2) (lem b)) (by decide) rfl ?_
        rintro _ _ ⟨I2, rfl, ⟨q1, q2, q3, q4⟩, rfl⟩
        refine Go.step rfl ?_
        refine Go.geti rfl hSb (Or.inl rfl) ?_
        rw [q3 j hj]
        iterate 2 refine Go.step rfl ?_
        refine Go.ret rfl ?_
        rw [sp_lee, c1, c2, decide_eq_false c3, hcl]
        exact ⟨I2, rfl, fun z g1 g2 => by rw [q1 z (by omega)]; exact k1 z (by omega), (hG.scr k1 k2).scr q1 q2, rfl⟩
    · rw [x2] at c2
      refine Go.step rfl ?_
      exact bad _ (by rw [c2, Bool.and_false]; rfl)
  · rw [x2] at c1
    iterate 3 refine Go.step rfl ?_
    exact bad _ (by rw [c1]; rfl)
theorem m_lee (I : AI) (T : AT) (hs : sOK (I 74)) (ht : tOK (I 74) 0) (a b : Int32) : Ct 6 y_M_lee [.ref 73, .int a, .int b] (hp I T) (MQ2 I T (sp_lee I a b)) := by
  have bad : (win a 0 (I 74 0 - 1) && win b 0 (I 74 0 - 1) && !decide (a = b)) = false → Go 6 y_M_lee 21 [some (.ref 73), some (.int a), some (.int b), none] [] (hp I T) (MQ2 I T (sp_lee I a b)) := by
    intro hq
    iterate 2 refine Go.step rfl ?_
    exact m_errq (k := 1) (by decide) (by rw [sp_lee, hq]; rfl) rfl rfl rfl (by decide)
  obtain ⟨en, hn⟩ := hs.1.eq (by decide)
  iterate 2 refine Go.step rfl ?_
  refine Go.cal (m_isBoat I T a) (by decide) rfl ?_
  rintro _ _ ⟨rfl, rfl⟩
  refine Go.step rfl ?_
  refine Go.ifz (fun c1 => ?_) (fun c1 => ?_)
  · exact bad (by rw [c1]; rfl)
  · iterate 2 refine Go.step rfl ?_
    refine Go.cal (m_isBoat I T b) (by decide) rfl ?_
    rintro _ _ ⟨rfl, rfl⟩
    refine Go.step rfl ?_
    refine Go.ifz (fun c2 => ?_) (fun c2 => ?_)
    · exact bad (by rw [c2, Bool.and_false]; rfl)
    · iterate 3 refine Go.step rfl ?_
      refine Go.ite (fun c3 => ?_) (fun c3 => ?_)
      · exact bad (by rw [decide_eq_true c3, Bool.not_true, Bool.and_false])
      · obtain ⟨j, hj, hj8, rfl⟩ := boat_of_win hs.1 c1
        obtain ⟨o, ho, ho8, rfl⟩ := boat_of_win hs.1 c2
        have hcl : cl (nI j) = j := nI_clamp (by omega)
        iterate 2 refine Go.step rfl ?_
        refine Go.cal (m_all I T) (by decide) rfl ?_
        rintro _ _ ⟨rfl, rfl⟩
        refine Go.cal (m_blow I T hs ht (alm (I 74))) (by decide) rfl ?_
        rintro _ _ ⟨I', rfl, hB, rfl⟩
        have e0 : I' 74 = I 74 := hB.1 74 (by decide)
        iterate 3 refine Go.step rfl ?_
        refine Go.iald rfl rfl (am_in_nI hj8 (by decide)) ?_
        rw [nI_clamp (by omega), hB.2.1 j hj, tk_congr (alm_bit hs) hj]
        iterate 3 refine Go.step rfl ?_
        refine Go.cal (m_all I' T) (by decide) rfl ?_
        rintro _ _ ⟨rfl, rfl⟩
        iterate 6 refine Go.step rfl ?_
        refine Go.cal (m_blow I' T (by rw [e0]; exact hs) (by rw [e0]; exact ht) (alm (I' 74) &&& (((1 : Int32) <<< (nI o &&& 31)) ^^^ (-1)))) (by decide) rfl ?_
        rintro _ _ ⟨I2, rfl, hB2, rfl⟩
        iterate 3 refine Go.step rfl ?_
        refine Go.iald rfl rfl (am_in_nI hj8 (by decide)) ?_
        rw [nI_clamp (by omega), hB2.2.1 j (by rw [e0]; exact hj), e0, tk_congr (s := I 74) (x := alm (I 74) &&& (((1 : Int32) <<< (nI o &&& 31)) ^^^ (-1))) (y := lem (nI o)) (fun z hz => by unfold alm; rw [en]; exact lem_bit _ hn o ho8 z hz) hj]
        iterate 2 refine Go.step rfl ?_
        refine Go.ret rfl ?_
        rw [sp_lee, c1, c2, decide_eq_false c3, hcl]
        have hs2 : ∀ z, z < 79 ∨ 83 < z → I2 z = I z := fun z hz => by rw [hB2.1 z hz]; exact hB.1 z hz
        exact ⟨I2, rfl, fun z hz => hs2 z (by omega), JE.scr hs2, rfl⟩
theorem op_lee (a b : Int32) : OpOK y_X_lee y_M_lee [.int a, .int b] := by
  refine op_new (sp := fun J => sp_lee J a b) (fun xs I T J h => x_lee xs I T J h a b) (fun xs I0 T0 I T h => m_lee I T h.1 (h.tok (by decide)) a b) (by decide) (by decide) ?_ ?_
  · unfold sp_lee; exact SpC.bif2 (fun J J' e => by rw [e.2.2.1]) (SpC.ans (fun J J' e => by rw [e.2.2.1])) (SpC.err 1)
  · unfold sp_lee; exact SpH.bif2 SpH.ans (SpH.err 1)
