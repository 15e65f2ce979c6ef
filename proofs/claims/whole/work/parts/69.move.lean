/-! PAIRS: move -/
theorem Go.acpy {d y pc nx x q : Nat} {ls : ALS} {r : List Value} {I : AI} {P : AP} {S : AS} {n sl : Nat} {Q : Option Value → AH → Prop} {v : Int32} {a b n0 n1 sp dp c : Nat} (e : cd y pc = some (.invokestatic x, nx, v, [6, q])) (hSa : S a = (0, n0)) (hSb : S b = (0, n1)) (h1 : sp + c ≤ n0) (h2 : dp + c ≤ n1) (hn0 : n0 < 2 ^ 31) (hn1 : n1 < 2 ^ 31) (hr : Nat.ble (am_cats r) 8 = true) (k : Go d y nx ls r (va_up I b (va_cpy (I a) (I b) sp dp c), P, S, n, sl) Q) : Go d y pc ls (.int (nI c) :: .int (nI dp) :: .ref b :: .int (nI sp) :: .ref a :: r) (I, P, S, n, sl) Q := by
  refine Go.step ?_ k
  rw [e]
  simp only [Option.bind_some, am_step, hSa, hSb, hr, decide_eq_false (nI_pos (n := sp) (by omega)), decide_eq_false (nI_pos (n := dp) (by omega)), decide_eq_false (nI_pos (n := c) (by omega)), nI_clamp (show sp < 2 ^ 31 by omega), nI_clamp (show dp < 2 ^ 31 by omega), nI_clamp (show c < 2 ^ 31 by omega), Nat.ble_eq.mpr h1, Nat.ble_eq.mpr h2]
  rfl
def hold (i n z : Int32) : Bool := decide (0 ≤ i) && win n 0 z && decide (i ≤ z - n)
theorem x_holds (I : AI) (T : AT) (a N : Nat) (hS : sS T.2.2.2.2.2.2 T.2.2.2.1 a = (14, N)) (i n : Int32) : Ct 1 y_Sheet_holds [.ref a, .int i, .int n] (hp I T) (fun r h' => h' = hp I T ∧ r = some (.int (bo (hold i n (I a 2))))) := by
  have no : ∀ I' : AI, I' = I → hold i n (I a 2) = false → Go 1 y_Sheet_holds 30 [some (.ref a), some (.int i), some (.int n)] [] (hp I' T) (fun r h' => h' = hp I T ∧ r = some (.int (bo (hold i n (I a 2))))) := by
    rintro _ rfl q
    refine Go.step rfl ?_
    exact Go.ret rfl ⟨rfl, by rw [q]; rfl⟩
  iterate 2 refine Go.step rfl ?_
  refine Go.ite (fun c1 => ?_) (fun c1 => ?_)
  · exact no I rfl (by unfold hold; rw [decide_eq_false (Int32.not_le.mpr c1)]; rfl)
  · iterate 3 refine Go.step rfl ?_
    refine Go.geti rfl hS (Or.inl rfl) ?_
    refine Go.cal (x_within _ n 0 (I a 2)) (by decide) rfl ?_
    rintro _ _ ⟨rfl, rfl⟩
    refine Go.step rfl ?_
    refine Go.ifz (fun c2 => ?_) (fun c2 => ?_)
    · exact no I rfl (by unfold hold; rw [c2, Bool.and_false]; rfl)
    · iterate 2 refine Go.step rfl ?_
      refine Go.geti rfl hS (Or.inl rfl) ?_
      iterate 3 refine Go.step rfl ?_
      refine Go.ite (fun c3 => ?_) (fun c3 => ?_)
      · exact no I rfl (by unfold hold; rw [decide_eq_false (Int32.not_le.mpr c3), Bool.and_false])
      · iterate 2 refine Go.step rfl ?_
        exact Go.ret rfl ⟨rfl, by unfold hold; rw [decide_eq_true (Int32.not_lt.mp c1), c2, decide_eq_true (Int32.not_lt.mp c3)]; rfl⟩
theorem hold_nI {i n z : Int32} (hz : rg z 24) (h : hold i n z = true) : ∃ a b, a + b ≤ cl z ∧ cl z ≤ 24 ∧ i = nI a ∧ n = nI b := by
  obtain ⟨y, hy, rfl⟩ := hz
  have hcl : cl (nI y) = y := nI_clamp (by omega)
  simp only [hold, Bool.and_eq_true, decide_eq_true_eq] at h
  obtain ⟨⟨h1, h2⟩, h3⟩ := h
  obtain ⟨b, hb, rfl⟩ := nI_of_win (by omega) h2
  rw [nI_sub hb] at h3
  obtain ⟨a, ha, rfl⟩ := nI_of2 (nI_toInt (n := y - b) (by omega)) (Int32.not_lt.mpr h1) h3
  exact ⟨a, b, by rw [hcl]; omega, by rw [hcl]; exact hy, rfl, rfl⟩
/-- the reference asks for the same -/
theorem hold_eq {i n z : Int32} (hz : rg z 24) (hn : 0 ≤ n) (hi : 0 ≤ i) (h : i ≤ z - n) : hold i n z = true := by
  obtain ⟨y, hy, rfl⟩ := hz
  obtain ⟨b, hb, rfl⟩ := nI_of (Int32.not_lt.mpr hn)
  have hy2 : (nI y).toInt = y := nI_toInt (by omega)
  have hb2 : (nI b).toInt = b := nI_toInt hb
  have h0 : (0 : Int32) ≤ nI y - nI b := Int32.le_trans hi h
  rw [Int32.le_iff_toInt_le, Int32.toInt_sub, hy2, hb2, show (0 : Int32).toInt = 0 by decide, Int.bmod_eq_of_le (by omega) (by omega)] at h0
  simp only [hold, Bool.and_eq_true, decide_eq_true_eq]
  exact ⟨⟨hi, win_of_le (by omega) (by omega)⟩, h⟩
def mvF (f : Nat → Int32) (p q n : Nat) : Nat → Int32 := fun y => if q ≤ y ∧ y < q + n then f (p + (y - q)) else f y
def sp_move (J : AI) (k i o j n : Int32) : AI × Int32 := bif win k 0 3 && win o 0 3 then (if J 87 (cl k) = 0 ∨ J 87 (cl o) = 0 then (er J 2, LO 2) else if J 87 (cl k) = J 87 (cl o) then (bif hold i n (J 88 (cl k)) && hold j n (J 88 (cl o)) then (nbJ J (mvF (J 89) (24 * cl k + cl i) (24 * cl o + cl j) (cl n)), n) else (er J 1, LO 1)) else (er J 5, LO 5)) else (er J 1, LO 1)
theorem x_move (xs : Nat → Int32) (I : AI) (T : AT) (J : AI) (hG : XG xs I T J) (k i o j n : Int32) : Ct 2 y_X_move [.ref 0, .int k, .int i, .int o, .int j, .int n] (hp I T) (XP xs I T (sp_move J k i o j n)) := by
  have hsh := hG.2.2.2.2.2.2.1
  have bad : ∀ t6 t7 : Value, (win k 0 3 && win o 0 3) = false → Go 2 y_X_move 24 [some (.ref 0), some (.int k), some (.int i), some (.int o), some (.int j), some (.int n), some t6, some t7] [] (hp I T) (XP xs I T (sp_move J k i o j n)) := by
    intro t6 t7 hq
    iterate 2 refine Go.step rfl ?_
    exact x_err (k := 1) hG (by decide) (by decide) (by rw [sp_move, hq]; rfl) rfl rfl rfl (by decide)
  iterate 2 refine Go.step rfl ?_
  refine Go.cal (x_findSheet I T k) (by decide) rfl ?_
  rintro _ _ ⟨rfl, ⟨a, ha, rfl, c1, rfl⟩ | ⟨c1, rfl⟩⟩
  · iterate 3 refine Go.step rfl ?_
    refine Go.cal (x_findSheet I T o) (by decide) rfl ?_
    rintro _ _ ⟨rfl, ⟨b, hb, rfl, c2, rfl⟩ | ⟨c2, rfl⟩⟩
    · have ca : cl (nI a) = a := nI_clamp (by omega)
      have cb : cl (nI b) = b := nI_clamp (by omega)
      have hSa := (sS_sheet T.2.2.2.2.2.2 T.2.2.2.1 ha)
      have hSb := (sS_sheet T.2.2.2.2.2.2 T.2.2.2.1 hb)
      obtain ⟨a1, a2, a3, a4, a5⟩ := hsh a ha
      obtain ⟨b1, b2, b3, b4, b5⟩ := hsh b hb
      have esp : sp_move J (nI a) i (nI b) j n = if J 87 a = 0 ∨ J 87 b = 0 then (er J 2, LO 2) else if J 87 a = J 87 b then (bif hold i n (J 88 a) && hold j n (J 88 b) then (nbJ J (mvF (J 89) (24 * a + cl i) (24 * b + cl j) (cl n)), n) else (er J 1, LO 1)) else (er J 5, LO 5) := by rw [sp_move, c1, c2, ca, cb]; rfl
      rw [esp]
      iterate 5 refine Go.step rfl ?_
      refine Go.step rfl ?_
      refine Go.calv (x_isMissing I T (65 + 2 * a) 3 hSa.1) (by decide) rfl rfl hSa.1 rfl ?_
      rintro _ _ ⟨rfl, rfl⟩
      rw [a1]
      refine Go.step rfl ?_
      have miss : J 87 a = 0 ∨ J 87 b = 0 → Go 2 y_X_move 46 [some (.ref 0), some (.int (nI a)), some (.int i), some (.int (nI b)), some (.int j), some (.int n), some (.ref (65 + 2 * a)), some (.ref (65 + 2 * b))] [] (hp I T) (XP xs I T (if J 87 a = 0 ∨ J 87 b = 0 then (er J 2, LO 2) else if J 87 a = J 87 b then (bif hold i n (J 88 a) && hold j n (J 88 b) then (nbJ J (mvF (J 89) (24 * a + cl i) (24 * b + cl j) (cl n)), n) else (er J 1, LO 1)) else (er J 5, LO 5))) := by
        intro q
        rw [if_pos q]
        iterate 2 refine Go.step rfl ?_
        exact x_err (k := 2) hG (by decide) (by decide) rfl rfl rfl rfl (by decide)
      refine Go.ifz (fun c3 => ?_) (fun c3 => ?_)
      · have d3 := of_decide_eq_false c3
        refine Go.step rfl ?_
        refine Go.calv (x_isMissing I T (65 + 2 * b) 3 hSb.1) (by decide) rfl rfl hSb.1 rfl ?_
        rintro _ _ ⟨rfl, rfl⟩
        rw [b1]
        refine Go.step rfl ?_
        refine Go.ifz (fun c4 => ?_) (fun c4 => ?_)
        · have d4 := of_decide_eq_false c4
          rw [if_neg (fun q => q.elim d3 d4)]
          refine Go.step rfl ?_
          refine Go.geti rfl hSa.1 (Or.inl rfl) ?_
          refine Go.step rfl ?_
          refine Go.geti rfl hSb.1 (Or.inl rfl) ?_
          rw [a1, b1]
          refine Go.step rfl ?_
          refine Go.ite (fun c5 => ?_) (fun c5 => ?_)
          · rw [if_pos c5]
            iterate 3 refine Go.step rfl ?_
            refine Go.calv (x_holds I T (65 + 2 * a) 3 hSa.1 i n) (by decide) rfl rfl hSa.1 rfl ?_
            rintro _ _ ⟨rfl, rfl⟩
            rw [a2]
            have no : (hold i n (J 88 a) && hold j n (J 88 b)) = false → Go 2 y_X_move 94 [some (.ref 0), some (.int (nI a)), some (.int i), some (.int (nI b)), some (.int j), some (.int n), some (.ref (65 + 2 * a)), some (.ref (65 + 2 * b))] [] (hp I T) (XP xs I T (bif hold i n (J 88 a) && hold j n (J 88 b) then (nbJ J (mvF (J 89) (24 * a + cl i) (24 * b + cl j) (cl n)), n) else (er J 1, LO 1))) := by
              intro q
              iterate 2 refine Go.step rfl ?_
              exact x_err (k := 1) hG (by decide) (by decide) (by rw [q]; rfl) rfl rfl rfl (by decide)
            refine Go.step rfl ?_
            refine Go.ifz (fun c6 => ?_) (fun c6 => ?_)
            · exact no (by rw [c6]; rfl)
            · iterate 3 refine Go.step rfl ?_
              refine Go.calv (x_holds I T (65 + 2 * b) 3 hSb.1 j n) (by decide) rfl rfl hSb.1 rfl ?_
              rintro _ _ ⟨rfl, rfl⟩
              rw [b2]
              refine Go.step rfl ?_
              refine Go.ifz (fun c7 => ?_) (fun c7 => ?_)
              · exact no (by rw [c7, Bool.and_false])
              · obtain ⟨p, m, hpm, h24, rfl, rfl⟩ := hold_nI a5 c6
                obtain ⟨q, m', hqm, h24', rfl, em⟩ := hold_nI b5 c7
                have : m = m' := (nI_eq (by omega) (by omega)).mp em
                subst this
                rw [c6, c7]
                refine Go.step rfl ?_
                refine Go.getr rfl hSa.1 rfl (sP_sheet T ha).2 ?_
                iterate 2 refine Go.step rfl ?_
                refine Go.getr rfl hSb.1 rfl (sP_sheet T hb).2 ?_
                iterate 2 refine Go.step rfl ?_
                refine Go.acpy rfl hSa.2 hSb.2 (by omega) (by omega) (by decide) (by decide) rfl ?_
                refine Go.step rfl ?_
                refine Go.ret rfl ?_
                rw [show cl (nI p) = p from nI_clamp (by omega), show cl (nI q) = q from nI_clamp (by omega), show cl (nI m) = m from nI_clamp (by omega)]
                refine ⟨_, rfl, fun z g1 g2 => va_up_ne _ _ (by omega), hG.sheet (fun z hz => va_up_ne _ _ (by omega)) (fun z g1 g2 g3 => nbJ_ne _ _ g3) (hsh.nums hb (fun y hy => ?_) (fun y hy => ?_)), rfl⟩
                · unfold va_cpy mvF
                  by_cases z : q ≤ y ∧ y < q + m
                  · rw [if_pos z, if_pos ⟨by omega, by omega⟩, a3 _ (by omega), show 24 * a + (p + (y - q)) = 24 * a + p + (24 * b + y - (24 * b + q)) by omega]
                  · rw [if_neg z, if_neg (by omega)]; exact b3 y hy
                · unfold mvF
                  rw [if_neg (by omega)]
          · rw [if_neg c5]
            iterate 2 refine Go.step rfl ?_
            exact x_err (k := 5) hG (by decide) (by decide) rfl rfl rfl rfl (by decide)
        · exact miss (Or.inr (of_decide_eq_true c4))
      · exact miss (Or.inl (of_decide_eq_true c3))
    · iterate 5 refine Go.step rfl ?_
      exact bad _ _ (by rw [c2, Bool.and_false])
  · iterate 3 refine Go.step rfl ?_
    refine Go.cal (x_findSheet I T o) (by decide) rfl ?_
    rintro _ _ ⟨rfl, ⟨b, hb, rfl, c2, rfl⟩ | ⟨c2, rfl⟩⟩
    · iterate 3 refine Go.step rfl ?_
      exact bad _ _ (by rw [c1]; rfl)
    · iterate 3 refine Go.step rfl ?_
      exact bad _ _ (by rw [c1]; rfl)
theorem m_move_go (I : AI) (T : AT) (a b p q m : Nat) (ha : a < 4) (hb : b < 4) (hp24 : p + m ≤ 24) (hq24 : q + m ≤ 24) : Go 2 y_M_move 112 [some (.ref 73), some (.int (nI a)), some (.int (nI p)), some (.int (nI b)), some (.int (nI q)), some (.int (nI m)), none] [] (hp I T) (MQ2 I T (nbJ I (mvF (I 89) (24 * a + p) (24 * b + q) m), nI m)) := by
  have loop2 : ∀ d k, k + d = m → ∀ g : Nat → Int32, (∀ y, y < m → g y = I 89 (24 * a + p + y)) → Go 2 y_M_move 152 [some (.ref 73), some (.int (nI a)), some (.int (nI p)), some (.int (nI b)), some (.int (nI q)), some (.int (nI m)), some (.int (nI k))] [] (hp (va_up (va_up I 90 g) 89 (mvF (I 89) (24 * a + p) (24 * b + q) k)) T) (MQ2 I T (nbJ I (mvF (I 89) (24 * a + p) (24 * b + q) m), nI m)) := by
    intro d
    induction d with
    | zero =>
      intro k hk g hg
      have : k = m := by omega
      subst this
      iterate 3 refine Go.step rfl ?_
      refine Go.ifp (Int32.le_refl _) ?_
      refine Go.step rfl ?_
      refine Go.ret rfl ⟨_, rfl, fun z hz => by rw [va_up_ne _ _ (by omega), va_up_ne _ _ (by omega)], ?_, rfl⟩
      show JE (nbJ I (mvF (I 89) (24 * a + p) (24 * b + q) k)) (va_up (va_up I 90 g) 89 (mvF (I 89) (24 * a + p) (24 * b + q) k))
      exact ⟨by rw [va_up_ne _ _ (show 73 ≠ 89 by decide), va_up_ne _ _ (show 73 ≠ 90 by decide), nbJ_ne _ _ (by decide)], by rw [va_up_ne _ _ (show 73 ≠ 89 by decide), va_up_ne _ _ (show 73 ≠ 90 by decide), nbJ_ne _ _ (by decide)], by rw [va_up_ne _ _ (show 74 ≠ 89 by decide), va_up_ne _ _ (show 74 ≠ 90 by decide), nbJ_ne _ _ (by decide)], by rw [va_up_ne _ _ (show 75 ≠ 89 by decide), va_up_ne _ _ (show 75 ≠ 90 by decide), nbJ_ne _ _ (by decide)], by rw [va_up_ne _ _ (show 77 ≠ 89 by decide), va_up_ne _ _ (show 77 ≠ 90 by decide), nbJ_ne _ _ (by decide)], by rw [va_up_ne _ _ (show 86 ≠ 89 by decide), va_up_ne _ _ (show 86 ≠ 90 by decide), nbJ_ne _ _ (by decide)], by rw [va_up_ne _ _ (show 87 ≠ 89 by decide), va_up_ne _ _ (show 87 ≠ 90 by decide), nbJ_ne _ _ (by decide)], by rw [va_up_ne _ _ (show 88 ≠ 89 by decide), va_up_ne _ _ (show 88 ≠ 90 by decide), nbJ_ne _ _ (by decide)], by rw [vu_same, nbJ_89]⟩
    | succ d ih =>
      intro k hk g hg
      iterate 3 refine Go.step rfl ?_
      refine Go.ifn (nI_ge (a := k) (b := m) (by omega) (by omega)) ?_
      iterate 5 refine Go.step rfl ?_
      rw [show (24 : Int32) * nI b = nI (24 * b) from nI_mul 24 b]
      iterate 2 refine Go.step rfl ?_
      rw [nI_add]
      iterate 2 refine Go.step rfl ?_
      rw [nI_add]
      iterate 3 refine Go.step rfl ?_
      refine Go.iald rfl rfl (am_in_nI (by omega) (by decide)) ?_
      rw [nI_clamp (by omega), va_up_ne _ _ (show 90 ≠ 89 by decide), vu_same, hg k (by omega)]
      refine Go.iast rfl rfl (am_in_nI (by omega) (by decide)) ?_
      rw [nI_clamp (by omega), vu_same, vu_idem]
      iterate 2 refine Go.step rfl ?_
      rw [show nI k + 1 = nI (k + 1) from nI_1 k, show va_up (mvF (I 89) (24 * a + p) (24 * b + q) k) (24 * b + q + k) (I 89 (24 * a + p + k)) = mvF (I 89) (24 * a + p) (24 * b + q) (k + 1) by
        funext y
        by_cases z : y = 24 * b + q + k
        · subst z
          rw [vu_same]
          unfold mvF
          rw [if_pos ⟨by omega, by omega⟩, show 24 * b + q + k - (24 * b + q) = k by omega]
        · rw [va_up_ne _ _ z]
          unfold mvF
          by_cases w : 24 * b + q ≤ y ∧ y < 24 * b + q + k
          · rw [if_pos w, if_pos ⟨w.1, by omega⟩]
          · rw [if_neg w, if_neg (by omega)]]
      exact ih (k + 1) (by omega) g hg
  have loop1 : ∀ d k, k + d = m → ∀ g : Nat → Int32, (∀ y, y < k → g y = I 89 (24 * a + p + y)) → Go 2 y_M_move 115 [some (.ref 73), some (.int (nI a)), some (.int (nI p)), some (.int (nI b)), some (.int (nI q)), some (.int (nI m)), some (.int (nI k))] [] (hp (va_up I 90 g) T) (MQ2 I T (nbJ I (mvF (I 89) (24 * a + p) (24 * b + q) m), nI m)) := by
    intro d
    induction d with
    | zero =>
      intro k hk g hg
      have : k = m := by omega
      subst this
      iterate 3 refine Go.step rfl ?_
      refine Go.ifp (Int32.le_refl _) ?_
      iterate 2 refine Go.step rfl ?_
      have st := loop2 k 0 (by omega) g hg
      rw [show mvF (I 89) (24 * a + p) (24 * b + q) 0 = I 89 by funext y; unfold mvF; rw [if_neg (by omega)]] at st
      have e89 : va_up (va_up I 90 g) 89 (I 89) = va_up I 90 g := by
        have := vu_self (va_up I 90 g) 89
        rw [va_up_ne _ _ (show 89 ≠ 90 by decide)] at this
        exact this
      rw [e89] at st
      exact st
    | succ d ih =>
      intro k hk g hg
      iterate 3 refine Go.step rfl ?_
      refine Go.ifn (nI_ge (a := k) (b := m) (by omega) (by omega)) ?_
      iterate 8 refine Go.step rfl ?_
      rw [show (24 : Int32) * nI a = nI (24 * a) from nI_mul 24 a]
      iterate 2 refine Go.step rfl ?_
      rw [nI_add]
      iterate 2 refine Go.step rfl ?_
      rw [nI_add]
      refine Go.iald rfl rfl (am_in_nI (by omega) (by decide)) ?_
      rw [nI_clamp (by omega), va_up_ne _ _ (show 89 ≠ 90 by decide)]
      refine Go.iast rfl rfl (am_in_nI (by omega) (by decide)) ?_
      rw [nI_clamp (by omega), vu_same, vu_idem]
      iterate 2 refine Go.step rfl ?_
      rw [show nI k + 1 = nI (k + 1) from nI_1 k]
      refine ih (k + 1) (by omega) _ (fun y hy => ?_)
      by_cases z : y = k
      · subst z; rw [vu_same]
      · rw [va_up_ne _ _ z]; exact hg y (by omega)
  iterate 2 refine Go.step rfl ?_
  have := loop1 m 0 (by omega) (I 90) (fun y hy => by omega)
  rw [vu_self] at this
  exact this
theorem m_move (I : AI) (T : AT) (hr : ∀ j, j < 4 → rg (I 88 j) 24) (k i o j n : Int32) : Ct 2 y_M_move [.ref 73, .int k, .int i, .int o, .int j, .int n] (hp I T) (MQ2 I T (sp_move I k i o j n)) := by
  have bad : (win k 0 3 && win o 0 3) = false → Go 2 y_M_move 14 [some (.ref 73), some (.int k), some (.int i), some (.int o), some (.int j), some (.int n), none] [] (hp I T) (MQ2 I T (sp_move I k i o j n)) := by
    intro hq
    iterate 2 refine Go.step rfl ?_
    exact m_errq (k := 1) (by decide) (by rw [sp_move, hq]; rfl) rfl rfl rfl (by decide)
  refine Go.step rfl ?_
  refine Go.cal (m_isSheet _ k) (by decide) rfl ?_
  rintro _ _ ⟨rfl, rfl⟩
  refine Go.step rfl ?_
  refine Go.ifz (fun c1 => ?_) (fun c1 => ?_)
  · exact bad (by rw [c1]; rfl)
  · refine Go.step rfl ?_
    refine Go.cal (m_isSheet _ o) (by decide) rfl ?_
    rintro _ _ ⟨rfl, rfl⟩
    refine Go.step rfl ?_
    refine Go.ifz (fun c2 => ?_) (fun c2 => ?_)
    · exact bad (by rw [c2, Bool.and_false])
    · obtain ⟨a, ha, rfl⟩ := nI_of_win (N := 3) (by decide) c1
      obtain ⟨b, hb, rfl⟩ := nI_of_win (N := 3) (by decide) c2
      have ca : cl (nI a) = a := nI_clamp (by omega)
      have cb : cl (nI b) = b := nI_clamp (by omega)
      have ha4 : a < 4 := by omega
      have hb4 : b < 4 := by omega
      have a5 := hr a ha4
      have b5 := hr b hb4
      have esp : sp_move I (nI a) i (nI b) j n = if I 87 a = 0 ∨ I 87 b = 0 then (er I 2, LO 2) else if I 87 a = I 87 b then (bif hold i n (I 88 a) && hold j n (I 88 b) then (nbJ I (mvF (I 89) (24 * a + cl i) (24 * b + cl j) (cl n)), n) else (er I 1, LO 1)) else (er I 5, LO 5) := by rw [sp_move, c1, c2, ca, cb]; rfl
      rw [esp]
      have miss : I 87 a = 0 ∨ I 87 b = 0 → Go 2 y_M_move 38 [some (.ref 73), some (.int (nI a)), some (.int i), some (.int (nI b)), some (.int j), some (.int n), none] [] (hp I T) (MQ2 I T (if I 87 a = 0 ∨ I 87 b = 0 then (er I 2, LO 2) else if I 87 a = I 87 b then (bif hold i n (I 88 a) && hold j n (I 88 b) then (nbJ I (mvF (I 89) (24 * a + cl i) (24 * b + cl j) (cl n)), n) else (er I 1, LO 1)) else (er I 5, LO 5))) := by
        intro q
        rw [if_pos q]
        iterate 2 refine Go.step rfl ?_
        exact m_errq (k := 2) (by decide) rfl rfl rfl rfl (by decide)
      iterate 3 refine Go.step rfl ?_
      refine Go.iald rfl rfl (am_in_nI ha4 (by decide)) ?_
      rw [nI_clamp (by omega)]
      refine Go.step rfl ?_
      refine Go.ite (fun c3 => ?_) (fun c3 => ?_)
      · exact miss (Or.inl c3)
      · iterate 3 refine Go.step rfl ?_
        refine Go.iald rfl rfl (am_in_nI hb4 (by decide)) ?_
        rw [nI_clamp (by omega)]
        refine Go.step rfl ?_
        refine Go.ite (fun c4 => ?_) (fun c4 => ?_)
        · exact miss (Or.inr c4)
        · rw [if_neg (fun q => q.elim c3 c4)]
          iterate 3 refine Go.step rfl ?_
          refine Go.iald rfl rfl (am_in_nI ha4 (by decide)) ?_
          rw [nI_clamp (by omega)]
          iterate 3 refine Go.step rfl ?_
          refine Go.iald rfl rfl (am_in_nI hb4 (by decide)) ?_
          rw [nI_clamp (by omega)]
          refine Go.step rfl ?_
          refine Go.ite (fun c5 => ?_) (fun c5 => ?_)
          · rw [if_pos c5]
            have no : (hold i n (I 88 a) && hold j n (I 88 b)) = false → Go 2 y_M_move 106 [some (.ref 73), some (.int (nI a)), some (.int i), some (.int (nI b)), some (.int j), some (.int n), none] [] (hp I T) (MQ2 I T (bif hold i n (I 88 a) && hold j n (I 88 b) then (nbJ I (mvF (I 89) (24 * a + cl i) (24 * b + cl j) (cl n)), n) else (er I 1, LO 1))) := by
              intro q
              iterate 2 refine Go.step rfl ?_
              exact m_errq (k := 1) (by decide) (by rw [q]; rfl) rfl rfl rfl (by decide)
            iterate 2 refine Go.step rfl ?_
            refine Go.ite (fun d1 => ?_) (fun d1 => ?_)
            · refine no ?_
              have : win n 0 (I 88 a) = false := by
                unfold win; rw [decide_eq_false (Int32.not_le.mpr d1)]; rfl
              unfold hold
              rw [this, Bool.and_false]; rfl
            · iterate 2 refine Go.step rfl ?_
              refine Go.ite (fun d2 => ?_) (fun d2 => ?_)
              · exact no (by unfold hold; rw [decide_eq_false (Int32.not_le.mpr d2)]; rfl)
              · iterate 2 refine Go.step rfl ?_
                refine Go.ite (fun d3 => ?_) (fun d3 => ?_)
                · refine no ?_
                  have : hold j n (I 88 b) = false := by unfold hold; rw [decide_eq_false (Int32.not_le.mpr d3)]; rfl
                  rw [this, Bool.and_false]
                · iterate 4 refine Go.step rfl ?_
                  refine Go.iald rfl rfl (am_in_nI ha4 (by decide)) ?_
                  rw [nI_clamp (by omega)]
                  iterate 3 refine Go.step rfl ?_
                  refine Go.ite (fun d4 => ?_) (fun d4 => ?_)
                  · refine no ?_
                    have : hold i n (I 88 a) = false := by unfold hold; rw [decide_eq_false (Int32.not_le.mpr d4), Bool.and_false]
                    rw [this]; rfl
                  · iterate 4 refine Go.step rfl ?_
                    refine Go.iald rfl rfl (am_in_nI hb4 (by decide)) ?_
                    rw [nI_clamp (by omega)]
                    iterate 3 refine Go.step rfl ?_
                    refine Go.ite (fun d5 => ?_) (fun d5 => ?_)
                    · have c6 := hold_eq a5 (Int32.not_lt.mp d1) (Int32.not_lt.mp d2) (Int32.not_lt.mp d4)
                      have c7 := hold_eq b5 (Int32.not_lt.mp d1) (Int32.not_lt.mp d3) d5
                      obtain ⟨p, m, hpm, h24, rfl, rfl⟩ := hold_nI a5 c6
                      obtain ⟨q, m', hqm, h24', rfl, em⟩ := hold_nI b5 c7
                      have : m = m' := (nI_eq (by omega) (by omega)).mp em
                      subst this
                      rw [c6, c7, show cl (nI p) = p from nI_clamp (by omega), show cl (nI q) = q from nI_clamp (by omega), show cl (nI m) = m from nI_clamp (by omega)]
                      exact m_move_go I T a b p q m ha4 hb4 (by omega) (by omega)
                    · refine no ?_
                      have : hold j n (I 88 b) = false := by unfold hold; rw [decide_eq_false d5, Bool.and_false]
                      rw [this, Bool.and_false]
          · rw [if_neg c5]
            iterate 2 refine Go.step rfl ?_
            exact m_errq (k := 5) (by decide) rfl rfl rfl rfl (by decide)
theorem op_move (a b c d e : Int32) : OpOK y_X_move y_M_move [.int a, .int b, .int c, .int d, .int e] := by
  refine op_new (sp := fun J => sp_move J a b c d e) (fun xs I T J h => x_move xs I T J h a b c d e) (fun xs I0 T0 I T h => m_move I T h.bits.2 a b c d e) (by decide) (by decide) ?_ ?_
  · unfold sp_move; exact SpC.bif2 (fun J J' e => rfl) (SpC.ite2 (fun J J' e => by rw [e.2.2.2.2.2.2.1]) (SpC.err 2) (SpC.ite2 (fun J J' e => by rw [e.2.2.2.2.2.2.1]) (SpC.bif2 (fun J J' e => by rw [e.2.2.2.2.2.2.2.1]) (SpC.nb (fun J J' e => by rw [e.2.2.2.2.2.2.2.2])) (SpC.err 1)) (SpC.err 5))) (SpC.err 1)
  · unfold sp_move; exact SpH.bif2 (SpH.ite2 (SpH.err 2) (SpH.ite2 (SpH.bif2 SpH.nb (SpH.err 1)) (SpH.err 5))) (SpH.err 1)
