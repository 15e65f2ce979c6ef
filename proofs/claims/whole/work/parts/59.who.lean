/-! PAIRS: who -/
def wlN (s : Nat → Int32) (l : Nat) : Nat → Nat
  | 0 => 0
  | k + 1 => if lno (wyn s) (cel s k) = l then wlN s l k + 2 ^ k else wlN s l k
theorem wlN_lt (s : Nat → Int32) (l : Nat) : ∀ k, wlN s l k < 2 ^ k := by
  intro k
  induction k with
  | zero => rw [wlN]; decide
  | succ k ih =>
    rw [wlN, Nat.pow_succ]
    split <;> omega
theorem or_bit : ∀ k, k < 8 → ∀ a, a < 2 ^ k → nI a ||| ((1 : Int32) <<< (nI k &&& 31)) = nI (a + 2 ^ k) := by decide +kernel
theorem nI_and (a b : Nat) : nI a &&& nI b = nI (a &&& b) := by
  unfold nI
  apply Int32.toBitVec_inj.mp
  simp [BitVec.ofNat_and]
theorem and_notm {x y : Int32} (h : x &&& (y ^^^ (-1)) = 0) : x &&& y = x := by
  rw [Int32.xor_neg_one] at h
  have h2 := congrArg Int32.toBitVec h
  apply Int32.toBitVec_inj.mp
  simp only [Int32.toBitVec_and, Int32.toBitVec_not] at h2 ⊢
  apply BitVec.eq_of_getLsbD_eq
  intro i hi
  have h3 := congrArg (fun z => BitVec.getLsbD z i) h2
  simp only [BitVec.getLsbD_and, BitVec.getLsbD_not] at h3 ⊢
  have h4 : BitVec.getLsbD (Int32.toBitVec 0) i = false := by
    show BitVec.getLsbD (0#32) i = false
    exact BitVec.getLsbD_zero
  rw [h4] at h3
  cases hx : x.toBitVec.getLsbD i with
  | false => rfl
  | true =>
    rw [hx] at h3
    cases hy : y.toBitVec.getLsbD i with
    | true => rfl
    | false => rw [hy] at h3; simp [hi] at h3
theorem sub_le_mask {j m : Nat} (hj : j < 2 ^ 31) (hm : m < 2 ^ 31) (h : nI j &&& (nI m ^^^ (-1)) = 0) : j ≤ m := by
  have h1 := and_notm h
  rw [nI_and] at h1
  have h2 : j &&& m = j := (nI_eq (Nat.lt_of_le_of_lt Nat.and_le_left hj) hj).mp h1
  rw [← h2]
  exact Nat.and_le_right
/-- sets, as they are counted: how many, the first, what is in all, what is in some -/
def wA (s : Nat → Int32) (l m : Nat) (k : Int32) : Nat → Nat × Nat × Int32 × Int32
  | 0 => (0, 0, nI m, 0)
  | j + 1 => if nI j &&& (nI m ^^^ (-1)) = 0 ∧ lf s (nI j) l 48 = k then ((wA s l m k j).1 + 1, if (wA s l m k j).1 = 0 then j else (wA s l m k j).2.1, (wA s l m k j).2.2.1 &&& nI j, (wA s l m k j).2.2.2 ||| nI j) else wA s l m k j
theorem wA_le (s : Nat → Int32) (l m : Nat) (k : Int32) : ∀ j, (wA s l m k j).1 ≤ j := by
  intro j
  induction j with
  | zero => exact Nat.le_refl 0
  | succ j ih =>
    rw [wA]
    split
    · show (wA s l m k j).1 + 1 ≤ j + 1; omega
    · omega
theorem wA_fst (s : Nat → Int32) (l m : Nat) (k : Int32) : ∀ j, (wA s l m k j).2.1 ≤ j := by
  intro j
  induction j with
  | zero => exact Nat.le_refl 0
  | succ j ih =>
    rw [wA]
    split
    · show (if (wA s l m k j).1 = 0 then j else (wA s l m k j).2.1) ≤ j + 1
      split <;> omega
    · omega
theorem wA_stay (s : Nat → Int32) (l m : Nat) (k : Int32) (hm : m < 2 ^ 31) : ∀ d, m + 1 + d ≤ 2 ^ 31 → wA s l m k (m + 1 + d) = wA s l m k (m + 1) := by
  intro d
  induction d with
  | zero => intro _; rfl
  | succ d ih =>
    intro h
    rw [← Nat.add_assoc, wA, if_neg (fun q => by have := sub_le_mask (by omega) hm q.1; omega)]
    exact ih (by omega)
theorem x_boatsOf_1 (I : AI) (T : AT) (s : Nat → Int32) (hs : sOK s) (hX : XSea I T 1 0 s) (l : Nat) (hl : l < 6) : Ct 3 y_Sea_boatsOf [.ref 1, .int (nI l)] (hp I T) (fun r h' => h' = hp I T ∧ r = some (.int (nI (wlN s l (cl (s 0)))))) := by
  obtain ⟨en, hn⟩ := hs.1.eq (by decide)
  obtain ⟨hw, ew⟩ := wyn_lt hs
  have loop : ∀ m k, k + m = cl (s 0) → Go 3 y_Sea_boatsOf 4 [some (.ref 1), some (.int (nI l)), some (.int (nI (wlN s l k))), some (.int (nI k))] [] (hp I T) (fun r h' => h' = hp I T ∧ r = some (.int (nI (wlN s l (cl (s 0)))))) := by
    intro m
    induction m with
    | zero =>
      intro k hk
      have : k = cl (s 0) := by omega
      subst this
      iterate 3 refine Go.step rfl ?_
      rw [show I 1 1 = nI (cl (s 0)) from hX.2.1.trans en]
      refine Go.step rfl ?_
      refine Go.ifp (Int32.le_refl _) ?_
      refine Go.step rfl ?_
      exact Go.ret rfl ⟨rfl, rfl⟩
    | succ m ih =>
      intro k hk
      have hkn : k < cl (s 0) := by omega
      have hk8 : k < 8 := by omega
      obtain ⟨hck, eck⟩ := cel_lt hs hkn
      have l1 := (lno_lt hw hck).1
      have l5 := nln_le (wyn s)
      iterate 3 refine Go.step rfl ?_
      rw [show I 1 1 = nI (cl (s 0)) from hX.2.1.trans en]
      refine Go.step rfl ?_
      refine Go.ifn (nI_ge (a := k) (b := cl (s 0)) hkn (by omega)) ?_
      iterate 3 refine Go.step rfl ?_
      refine Go.aald rfl rfl rfl (am_in_nI hk8 (by decide)) (by rw [nI_clamp (by omega)]; exact sP_boats T (B := 1) (Or.inl rfl) hk8) ?_
      refine Go.geti rfl (sS_boat _ _ (B := 1) (Or.inl rfl) hk8) (Or.inl rfl) ?_
      rw [show I ((1 + 8) + k) 2 = nI (cel s k) from (hX.2.2.2.2.1 k 2 hkn hk8 (by decide)).trans eck]
      refine Go.step rfl ?_
      refine Go.cal (x_way_1 I T s hs hX) (by decide) rfl ?_
      rintro _ _ ⟨rfl, rfl⟩
      rw [ew]
      refine Go.cal (x_lineOf _ (cel s k) (wyn s) hck hw) (by decide) rfl ?_
      rintro _ _ ⟨rfl, rfl⟩
      iterate 2 refine Go.step rfl ?_
      refine Go.ite (fun c1 => ?_) (fun c1 => ?_)
      · have q1 : lno (wyn s) (cel s k) = l := (nI_eq (by omega) (by omega)).mp c1
        iterate 5 refine Go.step rfl ?_
        rw [or_bit k hk8 _ (wlN_lt s l k)]
        iterate 3 refine Go.step rfl ?_
        rw [show nI k + 1 = nI (k + 1) from nI_1 k]
        have := ih (k + 1) (by omega)
        rw [wlN, if_pos q1] at this
        exact this
      · have q1 : ¬ lno (wyn s) (cel s k) = l := fun q => c1 (by rw [q])
        iterate 2 refine Go.step rfl ?_
        rw [show nI k + 1 = nI (k + 1) from nI_1 k]
        have := ih (k + 1) (by omega)
        rw [wlN, if_neg q1] at this
        exact this
  iterate 4 refine Go.step rfl ?_
  exact loop (cl (s 0)) 0 (by omega)
theorem x_leaves_1 (I : AI) (T : AT) (s : Nat → Int32) (hs : sOK s) (hX : XSea I T 1 0 s) (set : Int32) (l : Nat) (hl : l < 6) (k : Int32) : Ct 5 y_Sea_leaves [.ref 1, .int set, .int (nI l), .int k] (hp I T) (fun r h' => ∃ I', h' = hp I' T ∧ (∀ a, a < 1 + 5 ∨ 1 + 15 < a → I' a = I a) ∧ (∀ b f, b < 8 → f < 8 → I' (1 + 8 + b) f = I (1 + 8 + b) f) ∧ r = some (.int (bo (decide (lf s set l 48 = k))))) := by
  iterate 2 refine Go.step rfl ?_
  refine Go.cal (x_take_1 I T s hs hX set) (by decide) rfl ?_
  rintro _ _ ⟨I', rfl, ⟨k1, k2, k3, k4⟩, rfl⟩
  iterate 3 refine Go.step rfl ?_
  refine Go.cal (x_within _ (nI l) 0 5) (by decide) rfl ?_
  rintro _ _ ⟨rfl, rfl⟩
  refine Go.step rfl ?_
  have hw : win (nI l) 0 5 = true := win_of_le (N := 5) (by omega) (by decide)
  refine Go.ifz (fun c1 => ?_) (fun c1 => ?_)
  · rw [hw] at c1; cases c1
  · iterate 3 refine Go.step rfl ?_
    refine Go.iald rfl rfl (am_in_nI hl (by decide)) ?_
    rw [nI_clamp (by omega), show I' 6 l = lf s set l 48 from k4 l hl]
    iterate 2 refine Go.step rfl ?_
    refine Go.ite (fun c2 => ?_) (fun c2 => ?_)
    · iterate 2 refine Go.step rfl ?_
      refine Go.ret rfl ⟨I', rfl, k1, k2, ?_⟩
      rw [decide_eq_true c2]; rfl
    · refine Go.step rfl ?_
      refine Go.ret rfl ⟨I', rfl, k1, k2, ?_⟩
      rw [decide_eq_false c2]; rfl
def wR (J : AI) (A : Nat × Nat × Int32 × Int32) (w : Int32) : AI × Int32 := if w = 0 then (J, nI A.1) else if w = 3 then (J, A.2.2.2) else if A.1 = 0 then (er J 2, LO 2) else if w = 1 then (J, nI A.2.1) else (J, A.2.2.1)
def sp_who (J : AI) (l k w : Int32) : AI × Int32 := bif win l 0 (nI (nln (wyn (J 74))) - 1) && win k 0 40 && win w 0 3 then wR J (wA (J 74) (cl l) (wlN (J 74) (cl l) (cl (J 74 0))) k 256) w else (er J 1, LO 1)
theorem x_who_loop (xs : Nat → Int32) (I : AI) (T : AT) (J : AI) (hG : XG xs I T J) (l m : Nat) (hl : l < 6) (hm : m < 256) (k w : Int32) (Q : Option Value → AH → Prop) (K : ∀ I' t9, (∀ a, a < 1 + 5 ∨ 1 + 15 < a → I' a = I a) → (∀ b f, b < 8 → f < 8 → I' (1 + 8 + b) f = I (1 + 8 + b) f) → Go 6 y_X_who 131 [some (.ref 0), some (.int (nI l)), some (.int k), some (.int w), some (.int (nI m)), some (.int (nI (wA (J 74) l m k 256).1)), some (.int (nI (wA (J 74) l m k 256).2.1)), some (.int (wA (J 74) l m k 256).2.2.1), some (.int (wA (J 74) l m k 256).2.2.2), t9] [] (hp I' T) Q) : ∀ d j, j + d = 256 → ∀ I', (∀ a, a < 1 + 5 ∨ 1 + 15 < a → I' a = I a) → (∀ b f, b < 8 → f < 8 → I' (1 + 8 + b) f = I (1 + 8 + b) f) → Go 6 y_X_who 62 [some (.ref 0), some (.int (nI l)), some (.int k), some (.int w), some (.int (nI m)), some (.int (nI (wA (J 74) l m k j).1)), some (.int (nI (wA (J 74) l m k j).2.1)), some (.int (wA (J 74) l m k j).2.2.1), some (.int (wA (J 74) l m k j).2.2.2), some (.int (nI j))] [] (hp I' T) Q := by
  have hs := id hG.1
  intro d
  induction d with
  | zero =>
    intro j hj I' k1 k2
    have : j = 256 := by omega
    subst this
    iterate 3 refine Go.step rfl ?_
    refine Go.ifp (nI_lt (a := 255) (b := 256) (by decide) (by decide)) ?_
    exact K I' _ k1 k2
  | succ d ih =>
    intro j hj I' k1 k2
    have hX' : XSea I' T 1 0 (J 74) := hG.2.1.scr (by decide) k1 k2
    have hle := wA_le (J 74) l m k j
    have next : ∀ I2, (∀ a, a < 1 + 5 ∨ 1 + 15 < a → I2 a = I a) → (∀ b f, b < 8 → f < 8 → I2 (1 + 8 + b) f = I (1 + 8 + b) f) → Go 6 y_X_who 125 [some (.ref 0), some (.int (nI l)), some (.int k), some (.int w), some (.int (nI m)), some (.int (nI (wA (J 74) l m k (j + 1)).1)), some (.int (nI (wA (J 74) l m k (j + 1)).2.1)), some (.int (wA (J 74) l m k (j + 1)).2.2.1), some (.int (wA (J 74) l m k (j + 1)).2.2.2), some (.int (nI j))] [] (hp I2 T) Q := by
      intro I2 q1 q2
      iterate 2 refine Go.step rfl ?_
      rw [show nI j + 1 = nI (j + 1) from nI_1 j]
      exact ih (j + 1) (by omega) I2 q1 q2
    iterate 3 refine Go.step rfl ?_
    refine Go.ifn (nI_nlt (a := 255) (b := j) (by omega) (by decide)) ?_
    iterate 6 refine Go.step rfl ?_
    refine Go.ite (fun c1 => ?_) (fun c1 => ?_)
    · iterate 5 refine Go.step rfl ?_
      refine Go.cal (x_leaves_1 I' T _ hs hX' (nI j) l hl k) (by decide) rfl ?_
      rintro _ _ ⟨I2, rfl, q1, q2, rfl⟩
      have r1 : ∀ a, a < 1 + 5 ∨ 1 + 15 < a → I2 a = I a := fun a ha => by rw [q1 a ha]; exact k1 a ha
      have r2 : ∀ b f, b < 8 → f < 8 → I2 (1 + 8 + b) f = I (1 + 8 + b) f := fun b f h1 h2 => by rw [q2 b f h1 h2]; exact k2 b f h1 h2
      refine Go.step rfl ?_
      refine Go.ifz (fun c2 => ?_) (fun c2 => ?_)
      · have e : wA (J 74) l m k (j + 1) = wA (J 74) l m k j := by rw [wA, if_neg (fun q => of_decide_eq_false c2 q.2)]
        have := next I2 r1 r2
        rw [e] at this
        exact this
      · have e : wA (J 74) l m k (j + 1) = ((wA (J 74) l m k j).1 + 1, if (wA (J 74) l m k j).1 = 0 then j else (wA (J 74) l m k j).2.1, (wA (J 74) l m k j).2.2.1 &&& nI j, (wA (J 74) l m k j).2.2.2 ||| nI j) := by rw [wA, if_pos ⟨c1, of_decide_eq_true c2⟩]
        have nx := next I2 r1 r2
        rw [e] at nx
        generalize wA (J 74) l m k j = A at nx hle ⊢
        obtain ⟨a1, a2, a3, a4⟩ := A
        simp only at nx hle ⊢
        iterate 2 refine Go.step rfl ?_
        by_cases z : a1 = 0
        · rw [if_pos z] at nx
          refine Go.ifp (by rw [z]; rfl) ?_
          iterate 12 refine Go.step rfl ?_
          rw [show nI a1 + 1 = nI (a1 + 1) from nI_1 a1]
          exact nx
        · rw [if_neg z] at nx
          refine Go.ifn (nI_ne0 (by omega) (by omega)) ?_
          iterate 11 refine Go.step rfl ?_
          rw [show nI a1 + 1 = nI (a1 + 1) from nI_1 a1]
          exact nx
    · have e : wA (J 74) l m k (j + 1) = wA (J 74) l m k j := by rw [wA, if_neg (fun q => c1 q.1)]
      have := next I' k1 k2
      rw [e] at this
      exact this
theorem x_who (xs : Nat → Int32) (I : AI) (T : AT) (J : AI) (hG : XG xs I T J) (l k w : Int32) : Ct 6 y_X_who [.ref 0, .int l, .int k, .int w] (hp I T) (XP xs I T (sp_who J l k w)) := by
  have hs := id hG.1
  have bad : (win l 0 (nI (nln (wyn (J 74))) - 1) && win k 0 40 && win w 0 3) = false → Go 6 y_X_who 30 [some (.ref 0), some (.int l), some (.int k), some (.int w), none, none, none, none, none, none] [] (hp I T) (XP xs I T (sp_who J l k w)) := by
    intro hq
    iterate 2 refine Go.step rfl ?_
    exact x_err (k := 1) hG (by decide) (by decide) (by rw [sp_who, hq]; rfl) rfl rfl rfl (by decide)
  iterate 3 refine Go.step rfl ?_
  refine Go.cal (x_hasLine_1 I T _ hs hG.2.1 l) (by decide) rfl ?_
  rintro _ _ ⟨rfl, rfl⟩
  refine Go.step rfl ?_
  refine Go.ifz (fun c1 => ?_) (fun c1 => ?_)
  · exact bad (by rw [c1]; rfl)
  · iterate 3 refine Go.step rfl ?_
    refine Go.cal (x_within _ k 0 40) (by decide) rfl ?_
    rintro _ _ ⟨rfl, rfl⟩
    refine Go.step rfl ?_
    refine Go.ifz (fun c2 => ?_) (fun c2 => ?_)
    · exact bad (by rw [c2, Bool.and_false]; rfl)
    · iterate 3 refine Go.step rfl ?_
      refine Go.cal (x_within _ w 0 3) (by decide) rfl ?_
      rintro _ _ ⟨rfl, rfl⟩
      refine Go.step rfl ?_
      refine Go.ifz (fun c3 => ?_) (fun c3 => ?_)
      · exact bad (by rw [c3, Bool.and_false])
      · obtain ⟨j, hj, hj6, rfl⟩ := line_of_win c1
        obtain ⟨v, hv, rfl⟩ := nI_of_win (N := 3) (by decide) c3
        have hcl : cl (nI j) = j := nI_clamp (by omega)
        have hm : wlN (J 74) j (cl (J 74 0)) < 256 := Nat.lt_of_lt_of_le (wlN_lt _ _ _) (Nat.pow_le_pow_right (n := 2) (by decide) (cl_le hs.1))
        have esp : sp_who J (nI j) k (nI v) = wR J (wA (J 74) j (wlN (J 74) j (cl (J 74 0))) k 256) (nI v) := by rw [sp_who, c1, c2, c3, hcl]; rfl
        rw [esp]
        iterate 3 refine Go.step rfl ?_
        refine Go.cal (x_boatsOf_1 I T _ hs hG.2.1 j hj6) (by decide) rfl ?_
        rintro _ _ ⟨rfl, rfl⟩
        generalize wlN (J 74) j (cl (J 74 0)) = m at hm
        iterate 11 refine Go.step rfl ?_
        refine x_who_loop xs I T J hG j m hj6 hm k (nI v) _ ?_ 256 0 (by decide) I (fun _ _ => rfl) (fun _ _ _ _ => rfl)
        intro I' t9 k1 k2
        have hle := wA_le (J 74) j m k 256
        generalize wA (J 74) j m k 256 = A at hle
        obtain ⟨a1, a2, a3, a4⟩ := A
        simp only at hle ⊢
        have hG' := hG.scr k1 k2
        have ks : ∀ a, 73 ≤ a → a ≤ 90 → I' a = I a := fun a g1 g2 => k1 a (by omega)
        rcases (show v = 0 ∨ v = 1 ∨ v = 2 ∨ v = 3 by omega) with rfl | rfl | rfl | rfl
        · iterate 3 refine Go.step rfl ?_
          exact Go.ret rfl ⟨I', rfl, ks, hG', rfl⟩
        · iterate 6 refine Go.step rfl ?_
          by_cases z : a1 = 0
          · subst z
            iterate 3 refine Go.step rfl ?_
            refine Go.cal (x_refuse I' T 2 (by decide) (by decide)) (by decide) rfl ?_
            rintro _ _ ⟨rfl, rfl⟩
            exact Go.ret rfl ⟨_, rfl, fun a g1 g2 => by rw [va_up_ne _ _ (by omega)]; exact ks a g1 g2, hG'.err (by decide) (by decide), rfl⟩
          · refine Go.step rfl ?_
            refine Go.ifn (nI_ne0 (by omega) (by omega)) ?_
            iterate 5 refine Go.step rfl ?_
            refine Go.ret rfl ⟨I', rfl, ks, ?_, ?_⟩
            · unfold wR; rw [if_neg (by decide), if_neg (by decide), if_neg z, if_pos (by decide)]; exact hG'
            · unfold wR; rw [if_neg (by decide), if_neg (by decide), if_neg z, if_pos (by decide)]
        · iterate 6 refine Go.step rfl ?_
          by_cases z : a1 = 0
          · subst z
            iterate 3 refine Go.step rfl ?_
            refine Go.cal (x_refuse I' T 2 (by decide) (by decide)) (by decide) rfl ?_
            rintro _ _ ⟨rfl, rfl⟩
            exact Go.ret rfl ⟨_, rfl, fun a g1 g2 => by rw [va_up_ne _ _ (by omega)]; exact ks a g1 g2, hG'.err (by decide) (by decide), rfl⟩
          · refine Go.step rfl ?_
            refine Go.ifn (nI_ne0 (by omega) (by omega)) ?_
            iterate 4 refine Go.step rfl ?_
            refine Go.ret rfl ⟨I', rfl, ks, ?_, ?_⟩
            · unfold wR; rw [if_neg (by decide), if_neg (by decide), if_neg z, if_neg (by decide)]; exact hG'
            · unfold wR; rw [if_neg (by decide), if_neg (by decide), if_neg z, if_neg (by decide)]
        · iterate 6 refine Go.step rfl ?_
          exact Go.ret rfl ⟨I', rfl, ks, hG', rfl⟩
theorem m_boatsIn (I : AI) (T : AT) (hs : sOK (I 74)) (l : Nat) (hl : l < 6) : Ct 3 y_M_boatsIn [.ref 73, .int (nI l)] (hp I T) (fun r h' => h' = hp I T ∧ r = some (.int (nI (wlN (I 74) l (cl (I 74 0)))))) := by
  obtain ⟨en, hn⟩ := hs.1.eq (by decide)
  obtain ⟨hw, ew⟩ := wyn_lt hs
  have loop : ∀ m k, k + m = cl (I 74 0) → ∀ t4 t5 : Option Value, Go 3 y_M_boatsIn 4 [some (.ref 73), some (.int (nI l)), some (.int (nI (wlN (I 74) l k))), some (.int (nI k)), t4, t5] [] (hp I T) (fun r h' => h' = hp I T ∧ r = some (.int (nI (wlN (I 74) l (cl (I 74 0)))))) := by
    intro m
    induction m with
    | zero =>
      intro k hk t4 t5
      have : k = cl (I 74 0) := by omega
      subst this
      iterate 5 refine Go.step rfl ?_
      rw [show I 74 (Int32.toNatClampNeg 0) = nI (cl (I 74 0)) from en]
      refine Go.step rfl ?_
      refine Go.ifp (Int32.le_refl _) ?_
      refine Go.step rfl ?_
      exact Go.ret rfl ⟨rfl, rfl⟩
    | succ m ih =>
      intro k hk t4 t5
      have hkn : k < cl (I 74 0) := by omega
      have hk8 : k < 8 := by omega
      obtain ⟨hck, eck⟩ := cel_lt hs hkn
      have l1 := (lno_lt hw hck).1
      have l5 := nln_le (wyn (I 74))
      have fin : ∀ (o : Nat) (t4 : Option Value), o = lno (wyn (I 74)) (cel (I 74) k) → Go 3 y_M_boatsIn 44 [some (.ref 73), some (.int (nI l)), some (.int (nI (wlN (I 74) l k))), some (.int (nI k)), t4, t5] [.int (nI o)] (hp I T) (fun r h' => h' = hp I T ∧ r = some (.int (nI (wlN (I 74) l (cl (I 74 0)))))) := by
        intro o t4 ho
        iterate 5 refine Go.step rfl ?_
        refine Go.ite (fun c1 => ?_) (fun c1 => ?_)
        · have q1 : lno (wyn (I 74)) (cel (I 74) k) = l := by rw [← ho]; exact (nI_eq (by omega) (by omega)).mp c1
          iterate 5 refine Go.step rfl ?_
          rw [or_bit k hk8 _ (wlN_lt (I 74) l k)]
          iterate 3 refine Go.step rfl ?_
          rw [show nI k + 1 = nI (k + 1) from nI_1 k]
          have := ih (k + 1) (by omega) t4 (some (.int (nI o)))
          rw [wlN, if_pos q1] at this
          exact this
        · have q1 : ¬ lno (wyn (I 74)) (cel (I 74) k) = l := fun q => c1 (by rw [ho, q])
          iterate 2 refine Go.step rfl ?_
          rw [Int32.or_zero]
          iterate 3 refine Go.step rfl ?_
          rw [show nI k + 1 = nI (k + 1) from nI_1 k]
          have := ih (k + 1) (by omega) t4 (some (.int (nI o)))
          rw [wlN, if_neg q1] at this
          exact this
      iterate 5 refine Go.step rfl ?_
      rw [show I 74 (Int32.toNatClampNeg 0) = nI (cl (I 74 0)) from en]
      refine Go.step rfl ?_
      refine Go.ifn (nI_ge (a := k) (b := cl (I 74 0)) hkn (by omega)) ?_
      iterate 3 refine Go.step rfl ?_
      refine Go.cal (m_its I T k 2 hk8 (by decide)) (by decide) rfl ?_
      rintro _ _ ⟨rfl, rfl⟩
      rw [eck]
      iterate 2 refine Go.step rfl ?_
      refine Go.cal (m_lines I T hs) (by decide) rfl ?_
      rintro _ _ ⟨rfl, rfl⟩
      iterate 2 refine Go.step rfl ?_
      by_cases ev : wyn (I 74) % 2 = 0
      · have e6 : nln (wyn (I 74)) = 6 := by unfold nln; rw [if_pos ev]
        refine Go.ifp (by rw [e6]; rfl) ?_
        iterate 3 refine Go.step rfl ?_
        rw [show irm (nI (cel (I 74) k)) 6 = nI (cel (I 74) k % 6) from irm_nI (b := 6) (by omega) (by decide)]
        refine Go.step rfl ?_
        exact fin _ _ (by unfold lno; rw [if_pos ev])
      · have e6 : nln (wyn (I 74)) = 4 := by unfold nln; rw [if_neg ev]
        refine Go.ifn (by rw [e6]; decide) ?_
        iterate 3 refine Go.step rfl ?_
        rw [show nI (cel (I 74) k) / 6 = nI (cel (I 74) k / 6) from nI_div (b := 6) (by omega) (by decide)]
        exact fin _ _ (by unfold lno; rw [if_neg ev])
  iterate 4 refine Go.step rfl ?_
  exact loop (cl (I 74 0)) 0 (by omega) _ _
def lst (A : Nat × Nat × Int32 × Int32) : Int32 := if A.1 = 0 then -1 else nI A.2.1
theorem m_who_loop (I : AI) (T : AT) (hs : sOK (I 74)) (ht : tOK (I 74) 0) (l m : Nat) (hl : l < nln (wyn (I 74))) (hm : m < 256) (k w : Int32) (Q : Option Value → AH → Prop) (K : ∀ I' t9, (∀ a, a < 79 ∨ 83 < a → I' a = I a) → Go 6 y_M_who 133 [some (.ref 73), some (.int (nI l)), some (.int k), some (.int w), some (.int (nI m)), some (.int (nI (wA (I 74) l m k 256).1)), some (.int (lst (wA (I 74) l m k 256))), some (.int (wA (I 74) l m k 256).2.2.1), some (.int (wA (I 74) l m k 256).2.2.2), t9] [] (hp I' T) Q) : ∀ d j, j + d = m + 1 → ∀ I', (∀ a, a < 79 ∨ 83 < a → I' a = I a) → Go 6 y_M_who 62 [some (.ref 73), some (.int (nI l)), some (.int k), some (.int w), some (.int (nI m)), some (.int (nI (wA (I 74) l m k j).1)), some (.int (lst (wA (I 74) l m k j))), some (.int (wA (I 74) l m k j).2.2.1), some (.int (wA (I 74) l m k j).2.2.2), some (.int (nI j))] [] (hp I' T) Q := by
  have h6 := (nln_le (wyn (I 74))).1
  intro d
  induction d with
  | zero =>
    intro j hj I' k1
    have : j = m + 1 := by omega
    subst this
    iterate 3 refine Go.step rfl ?_
    refine Go.ifp (nI_lt (a := m) (b := m + 1) (by omega) (by omega)) ?_
    have e := wA_stay (I 74) l m k (by omega) (255 - m) (by omega)
    rw [show m + 1 + (255 - m) = 256 by omega] at e
    rw [← e]
    exact K I' _ k1
  | succ d ih =>
    intro j hj I' k1
    have e0 : I' 74 = I 74 := k1 74 (by decide)
    have hle := wA_le (I 74) l m k j
    have hfs := wA_fst (I 74) l m k j
    have next : ∀ I2, (∀ a, a < 79 ∨ 83 < a → I2 a = I a) → Go 6 y_M_who 127 [some (.ref 73), some (.int (nI l)), some (.int k), some (.int w), some (.int (nI m)), some (.int (nI (wA (I 74) l m k (j + 1)).1)), some (.int (lst (wA (I 74) l m k (j + 1)))), some (.int (wA (I 74) l m k (j + 1)).2.2.1), some (.int (wA (I 74) l m k (j + 1)).2.2.2), some (.int (nI j))] [] (hp I2 T) Q := by
      intro I2 q1
      iterate 2 refine Go.step rfl ?_
      rw [show nI j + 1 = nI (j + 1) from nI_1 j]
      exact ih (j + 1) (by omega) I2 q1
    iterate 3 refine Go.step rfl ?_
    refine Go.ifn (nI_nlt (a := m) (b := j) (by omega) (by omega)) ?_
    iterate 6 refine Go.step rfl ?_
    refine Go.ite (fun c1 => ?_) (fun c1 => ?_)
    · iterate 2 refine Go.step rfl ?_
      refine Go.cal (m_blow I' T (by rw [e0]; exact hs) (by rw [e0]; exact ht) (nI j)) (by decide) rfl ?_
      rintro _ _ ⟨I2, rfl, hB, rfl⟩
      have r1 : ∀ a, a < 79 ∨ 83 < a → I2 a = I a := fun a ha => by rw [hB.1 a ha]; exact k1 a ha
      iterate 3 refine Go.step rfl ?_
      refine Go.iald rfl rfl (am_in_nI (by omega) (by decide)) ?_
      rw [nI_clamp (by omega), hB.2.2.2 l (by rw [e0]; exact hl), e0]
      iterate 2 refine Go.step rfl ?_
      refine Go.ite (fun c2 => ?_) (fun c2 => ?_)
      · have e : wA (I 74) l m k (j + 1) = ((wA (I 74) l m k j).1 + 1, if (wA (I 74) l m k j).1 = 0 then j else (wA (I 74) l m k j).2.1, (wA (I 74) l m k j).2.2.1 &&& nI j, (wA (I 74) l m k j).2.2.2 ||| nI j) := by rw [wA, if_pos ⟨c1, c2⟩]
        have nx := next I2 r1
        rw [e] at nx
        generalize wA (I 74) l m k j = A at nx hle hfs ⊢
        obtain ⟨a1, a2, a3, a4⟩ := A
        simp only [lst] at nx hle hfs ⊢
        rw [if_neg (by omega)] at nx
        iterate 2 refine Go.step rfl ?_
        rw [show nI a1 + 1 = nI (a1 + 1) from nI_1 a1]
        by_cases z : a1 = 0
        · rw [if_pos z] at nx
          rw [if_pos z]
          iterate 5 refine Go.step rfl ?_
          iterate 8 refine Go.step rfl ?_
          exact nx
        · rw [if_neg z] at nx
          rw [if_neg z]
          iterate 2 refine Go.step rfl ?_
          refine Go.ifn (fun q => nI_pos (n := a2) (by omega) (by rw [q]; decide)) ?_
          iterate 10 refine Go.step rfl ?_
          exact nx
      · have e : wA (I 74) l m k (j + 1) = wA (I 74) l m k j := by rw [wA, if_neg (fun q => c2 q.2)]
        have := next I2 r1
        rw [e] at this
        exact this
    · have e : wA (I 74) l m k (j + 1) = wA (I 74) l m k j := by rw [wA, if_neg (fun q => c1 q.1)]
      have := next I' k1
      rw [e] at this
      exact this
theorem m_who (I : AI) (T : AT) (hs : sOK (I 74)) (ht : tOK (I 74) 0) (l k w : Int32) : Ct 6 y_M_who [.ref 73, .int l, .int k, .int w] (hp I T) (MQ2 I T (sp_who I l k w)) := by
  have bad : (win l 0 (nI (nln (wyn (I 74))) - 1) && win k 0 40 && win w 0 3) = false → Go 6 y_M_who 33 [some (.ref 73), some (.int l), some (.int k), some (.int w), none, none, none, none, none, none] [] (hp I T) (MQ2 I T (sp_who I l k w)) := by
    intro hq
    iterate 2 refine Go.step rfl ?_
    exact m_errq (k := 1) (by decide) (by rw [sp_who, hq]; rfl) rfl rfl rfl (by decide)
  iterate 3 refine Go.step rfl ?_
  refine Go.cal (m_lines I T hs) (by decide) rfl ?_
  rintro _ _ ⟨rfl, rfl⟩
  iterate 2 refine Go.step rfl ?_
  refine Go.cal (m_in _ l 0 _) (by decide) rfl ?_
  rintro _ _ ⟨rfl, rfl⟩
  refine Go.step rfl ?_
  refine Go.ifz (fun c1 => ?_) (fun c1 => ?_)
  · exact bad (by rw [c1]; rfl)
  · iterate 3 refine Go.step rfl ?_
    refine Go.cal (m_in _ k 0 40) (by decide) rfl ?_
    rintro _ _ ⟨rfl, rfl⟩
    refine Go.step rfl ?_
    refine Go.ifz (fun c2 => ?_) (fun c2 => ?_)
    · exact bad (by rw [c2, Bool.and_false]; rfl)
    · iterate 3 refine Go.step rfl ?_
      refine Go.cal (m_in _ w 0 3) (by decide) rfl ?_
      rintro _ _ ⟨rfl, rfl⟩
      refine Go.step rfl ?_
      refine Go.ifz (fun c3 => ?_) (fun c3 => ?_)
      · exact bad (by rw [c3, Bool.and_false])
      · obtain ⟨j, hj, hj6, rfl⟩ := line_of_win c1
        obtain ⟨v, hv, rfl⟩ := nI_of_win (N := 3) (by decide) c3
        have hcl : cl (nI j) = j := nI_clamp (by omega)
        have hm : wlN (I 74) j (cl (I 74 0)) < 256 := Nat.lt_of_lt_of_le (wlN_lt _ _ _) (Nat.pow_le_pow_right (n := 2) (by decide) (cl_le hs.1))
        have esp : sp_who I (nI j) k (nI v) = wR I (wA (I 74) j (wlN (I 74) j (cl (I 74 0))) k 256) (nI v) := by rw [sp_who, c1, c2, c3, hcl]; rfl
        rw [esp]
        iterate 2 refine Go.step rfl ?_
        refine Go.cal (m_boatsIn I T hs j hj6) (by decide) rfl ?_
        rintro _ _ ⟨rfl, rfl⟩
        generalize wlN (I 74) j (cl (I 74 0)) = m at hm
        iterate 11 refine Go.step rfl ?_
        refine m_who_loop I T hs ht j m hj hm k (nI v) _ ?_ (m + 1) 0 (by omega) I (fun _ _ => rfl)
        intro I' t9 k1
        have hle := wA_le (I 74) j m k 256
        generalize wA (I 74) j m k 256 = A at hle
        obtain ⟨a1, a2, a3, a4⟩ := A
        simp only at hle ⊢
        have ko : ∀ a, a < 73 ∨ 90 < a → I' a = I a := fun a ha => k1 a (by omega)
        have kj : JE I I' := JE.scr k1
        have er2 : Go 6 y_M_who 148 [some (.ref 73), some (.int (nI j)), some (.int k), some (.int (nI v)), some (.int (nI m)), some (.int (nI a1)), some (.int (lst (a1, a2, a3, a4))), some (.int a3), some (.int a4), t9] [] (hp I' T) (MQ2 I T (er I 2, LO 2)) := by
          iterate 2 refine Go.step rfl ?_
          refine Go.cal (m_error I' T 2 (by decide)) (by decide) rfl ?_
          rintro _ _ ⟨rfl, rfl⟩
          exact Go.ret rfl ⟨er I' 2, rfl, fun a ha => by rw [er_out _ _ ha]; exact ko a ha, kj.er1 2, rfl⟩
        rcases (show v = 0 ∨ v = 1 ∨ v = 2 ∨ v = 3 by omega) with rfl | rfl | rfl | rfl
        · iterate 2 refine Go.step rfl ?_
          refine Go.ite (fun z => ?_) (fun z => ?_)
          · iterate 6 refine Go.step rfl ?_
            iterate 4 refine Go.step rfl ?_
            exact Go.ret rfl ⟨I', rfl, ko, kj, rfl⟩
          · iterate 4 refine Go.step rfl ?_
            exact Go.ret rfl ⟨I', rfl, ko, kj, rfl⟩
        · by_cases z : a1 = 0
          · subst z
            iterate 5 refine Go.step rfl ?_
            exact er2
          · have e : wR I (a1, a2, a3, a4) (nI 1) = (I, nI a2) := by unfold wR; rw [if_neg (by decide), if_neg (by decide), if_neg z, if_pos (by decide)]
            rw [e]
            iterate 2 refine Go.step rfl ?_
            refine Go.ifn (nI_ne0 (by omega) (by omega)) ?_
            iterate 7 refine Go.step rfl ?_
            refine Go.ret rfl ⟨I', rfl, ko, kj, ?_⟩
            unfold lst
            rw [if_neg z]
        · by_cases z : a1 = 0
          · subst z
            iterate 8 refine Go.step rfl ?_
            exact er2
          · have e : wR I (a1, a2, a3, a4) (nI 2) = (I, a3) := by unfold wR; rw [if_neg (by decide), if_neg (by decide), if_neg z, if_neg (by decide)]
            rw [e]
            iterate 2 refine Go.step rfl ?_
            refine Go.ifn (nI_ne0 (by omega) (by omega)) ?_
            iterate 10 refine Go.step rfl ?_
            exact Go.ret rfl ⟨I', rfl, ko, kj, rfl⟩
        · iterate 2 refine Go.step rfl ?_
          refine Go.ite (fun z => ?_) (fun z => ?_)
          · iterate 6 refine Go.step rfl ?_
            iterate 9 refine Go.step rfl ?_
            exact Go.ret rfl ⟨I', rfl, ko, kj, rfl⟩
          · iterate 9 refine Go.step rfl ?_
            exact Go.ret rfl ⟨I', rfl, ko, kj, rfl⟩
theorem op_who (a b c : Int32) : OpOK y_X_who y_M_who [.int a, .int b, .int c] := by
  refine op_new (sp := fun J => sp_who J a b c) (fun xs I T J h => x_who xs I T J h a b c) (fun xs I0 T0 I T h => m_who I T h.1 (h.tok (by decide)) a b c) (by decide) (by decide) ?_ ?_
  · unfold sp_who wR; exact SpC.bif2 (fun J J' e => by rw [e.2.2.1]) (SpC.ite2 (fun _ _ _ => Iff.rfl) (SpC.ans (fun J J' e => by rw [e.2.2.1])) (SpC.ite2 (fun _ _ _ => Iff.rfl) (SpC.ans (fun J J' e => by rw [e.2.2.1])) (SpC.ite2 (fun J J' e => by rw [e.2.2.1]) (SpC.err 2) (SpC.ite2 (fun _ _ _ => Iff.rfl) (SpC.ans (fun J J' e => by rw [e.2.2.1])) (SpC.ans (fun J J' e => by rw [e.2.2.1])))))) (SpC.err 1)
  · unfold sp_who wR; exact SpH.bif2 (SpH.ite2 SpH.ans (SpH.ite2 SpH.ans (SpH.ite2 (SpH.err 2) (SpH.ite2 SpH.ans SpH.ans)))) (SpH.err 1)
