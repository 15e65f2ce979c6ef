/-! the class's reader reads -/
def RP (t : Nat → Int32) (n : Nat) (I : AI) (T : AT) (r : PR) : Option Value → AH → Prop := fun v h' => (∃ I', h' = hp I' T ∧ RE t n I r I') ∧ v = none
theorem RP.tr {t : Nat → Int32} {n : Nat} {I I1 : AI} {T : AT} {r : PR} (h : ∀ a, a ≠ 55 → a ≠ 57 → I1 a = I a) (v : Option Value) (h' : AH) (q : RP t n I1 T r v h') : RP t n I T r v h' := by
  obtain ⟨⟨I', e, hr⟩, ev⟩ := q
  exact ⟨⟨I', e, hr.tr h⟩, ev⟩
theorem XCon.re {xs : Nat → Int32} {I I' : AI} (hC : XCon xs I) (h : ∀ a, a ≠ 55 → a ≠ 57 → I' a = I a) : XCon xs I' := fun c j => by rw [h _ (by omega) (by omega)]; exact hC c j
theorem x_rwriteF (I : AI) (T : AT) (h6 : I 55 6 = 1) (w : Int32) : Ct 0 y_Reader_write [.ref 55, .int w] (hp I T) (fun r h' => h' = hp I T ∧ r = none) := by
  iterate 2 refine Go.step rfl ?_
  rw [h6]
  refine Go.step rfl ?_
  refine Go.ifn (by decide) ?_
  exact Go.ret rfl ⟨rfl, rfl⟩
theorem x_closeF (I : AI) (T : AT) (h6 : I 55 6 = 1) : Ct 2 y_Reader_close [.ref 55] (hp I T) (fun r h' => h' = hp (faI I) T ∧ r = none) := by
  iterate 2 refine Go.step rfl ?_
  rw [h6]
  refine Go.step rfl ?_
  refine Go.ifn (by decide) ?_
  iterate 3 refine Go.step rfl ?_
  exact Go.ret rfl ⟨rfl, rfl⟩
theorem x_close (t : Nat → Int32) (n : Nat) (hn : n ≤ 60) (I : AI) (T : AT) (p k : Nat) (f : Nat → Int32) (hR : RD t n I p k f) (hp60 : p ≤ 60) : Ct 2 y_Reader_close [.ref 55] (hp I T) (fun r h' => h' = hp (if lk t n p = 41 then onI I (p + 1) else faI I) T ∧ r = none) := by
  iterate 2 refine Go.step rfl ?_
  rw [hR.2.2.2.1]
  refine Go.step rfl ?_
  refine Go.ifp rfl ?_
  refine Go.step rfl ?_
  refine Go.cal (hR.peek hn hp60 T) (by decide) rfl ?_
  rintro _ _ ⟨rfl, rfl⟩
  iterate 2 refine Go.step rfl ?_
  refine Go.ite (fun c1 => ?_) (fun c1 => ?_)
  · rw [if_pos c1]
    iterate 3 refine Go.step rfl ?_
    rw [hR.2.1]
    iterate 4 refine Go.step rfl ?_
    refine Go.ret rfl ⟨?_, rfl⟩
    rw [nI_1]
    rfl
  · rw [if_neg c1]
    iterate 3 refine Go.step rfl ?_
    exact Go.ret rfl ⟨rfl, rfl⟩
theorem x_signsOf (h : AH) (lv : Nat) (hl : lv < 5) : Ct 0 y_Reader_signsOf [.int (nI lv)] h (fun r h' => h' = h ∧ r = some (.ref (1013 + lv))) := by
  obtain ⟨I, P, S, n, sl⟩ := h
  rcases (show lv = 0 ∨ lv = 1 ∨ lv = 2 ∨ lv = 3 ∨ lv = 4 by omega) with rfl | rfl | rfl | rfl | rfl
  all_goals
    iterate 3 refine Go.step rfl ?_
    exact Go.ret rfl ⟨rfl, rfl⟩
theorem RE.ok {t : Nat → Int32} {n : Nat} {I0 I : AI} {p k : Nat} {f : Nat → Int32} (hI : ∀ a, a ≠ 55 → a ≠ 57 → I a = I0 a) (h : RD t n I p k f) : RE t n I0 (true, p, k, f) I := ⟨hI, fun _ => h, fun q => absurd (show true = false from q) (by decide)⟩
theorem RE.no {t : Nat → Int32} {n : Nat} {I0 I : AI} {r : PR} (hr : r.1 = false) (h : RE t n I0 r I) : RE t n I0 (false, r.2) I := ⟨h.1, fun q => absurd (show false = true from q) (by decide), fun _ => h.2.2 hr⟩
theorem x_loopF (t : Nat → Int32) (n : Nat) (I I0 : AI) (T : AT) (r : PR) (d : Nat) (v1 v2 x5 : Option Value) (w i : Int32) (h6 : I 55 6 = 1) (h : RE t n I0 r I) : Go d y_Reader_readLevel 34 [some (.ref 55), v1, v2, some (.int w), some (.int i), x5] [] (hp I T) (RP t n I0 T r) := by
  iterate 3 refine Go.step rfl ?_
  refine Go.ite (fun _ => ?_) (fun _ => ?_)
  · exact Go.ret rfl ⟨⟨I, rfl, h⟩, rfl⟩
  · iterate 2 refine Go.step rfl ?_
    rw [h6]
    refine Go.step rfl ?_
    refine Go.ifn (by decide) ?_
    exact Go.ret rfl ⟨⟨I, rfl, h⟩, rfl⟩
theorem x_parse (xs t : Nat → Int32) (n u : Nat) (hn : n ≤ 60) (hu : u < 2) (hb : ∀ p, byt (lk t n p)) : ∀ F m o p k f r I T, o ≤ 5 → p ≤ n → k ≤ p → RD t n I p k f → XCon xs I → T.2.1 = some (1011 + u) → pp t n u F m o p k f = some r → (m = 5 → Ct (10 + 8 * (5 - o)) y_Reader_readSimple [.ref 55, .int (nI o)] (hp I T) (RP t n I T r)) ∧ (m ≤ 5 → Ct (11 + 8 * (5 - o) + (5 - m)) y_Reader_readLevel [.ref 55, .int (nI m), .int (nI o)] (hp I T) (RP t n I T r)) ∧ (∀ lv, lv < 5 → m = 10 + lv → ∀ i x5, (if lv = 2 then i = 0 else i ≤ p) → Go (11 + 8 * (5 - o) + (5 - lv)) y_Reader_readLevel 34 [some (.ref 55), some (.int (nI lv)), some (.int (nI o)), some (.int (if lv = 2 then 1 else 60)), some (.int (nI i)), x5] [] (hp I T) (RP t n I T r)) := by
  intro F
  induction F with
  | zero => intro m o p k f r I T _ _ _ _ _ _ he; cases he
  | succ F ih =>
    intro m o p k f r I T ho hpn hk hR hC hT he
    obtain ⟨tx, nm, Pd, Sd, nn, sl, L⟩ := T
    have hT' : nm = some (1011 + u) := hT
    subst hT'
    have hs : m = 5 → Ct (10 + 8 * (5 - o)) y_Reader_readSimple [.ref 55, .int (nI o)] (hp I (tx, some (1011 + u), Pd, Sd, nn, sl, L)) (RP t n I (tx, some (1011 + u), Pd, Sd, nn, sl, L) r) := by
      rintro rfl
      rw [pp, if_pos rfl] at he
      have flt : r = (false, p, k, f) → Go (10 + 8 * (5 - o)) y_Reader_readSimple 134 [some (.ref 55), some (.int (nI o)), some (.int (lk t n p))] [] (hp I (tx, some (1011 + u), Pd, Sd, nn, sl, L)) (RP t n I (tx, some (1011 + u), Pd, Sd, nn, sl, L) r) := by
        rintro rfl
        iterate 3 refine Go.step rfl ?_
        exact Go.ret rfl ⟨⟨faI I, rfl, faI_fail hR.1 hR.2.1 (fun _ _ _ => rfl)⟩, rfl⟩
      refine Go.step rfl ?_
      refine Go.cal (hR.peek hn (by omega) _) (by omega) rfl ?_
      rintro _ _ ⟨rfl, rfl⟩
      iterate 2 refine Go.step rfl ?_
      refine Go.cal (x_isDigit _ (lk t n p)) (by omega) rfl ?_
      rintro _ _ ⟨rfl, rfl⟩
      refine Go.step rfl ?_
      refine Go.ifz (fun c1 => ?_) (fun c1 => ?_)
      · rw [if_neg (by rw [c1]; decide)] at he
        iterate 3 refine Go.step rfl ?_
        rw [show (1011 + u) = 1010 + (1 + u) by omega]
        refine Go.cal (x_isIn xs I _ hC (1 + u) (by omega) (by omega) (lk t n p) (hb p)) (by omega) rfl ?_
        rintro _ _ ⟨rfl, rfl⟩
        rw [inB_nm hu (hb p)]
        refine Go.step rfl ?_
        refine Go.ifz (fun c2 => ?_) (fun c2 => ?_)
        · rw [if_neg (by rw [c2]; decide)] at he
          rw [show 1010 + (1 + u) = (1011 + u) by omega]
          iterate 3 refine Go.step rfl ?_
          refine Go.ite (fun c3 => ?_) (fun c3 => ?_)
          · iterate 3 refine Go.step rfl ?_
            by_cases ho5 : o < 5
            · rw [if_pos ⟨c3, ho5⟩] at he
              refine Go.ifn (nI_ge (a := o) (b := 5) ho5 (by decide)) ?_
              iterate 3 refine Go.step rfl ?_
              rw [hR.2.1]
              iterate 7 refine Go.step rfl ?_
              rw [show nI p + 1 = nI (p + 1) from nI_1 p, show nI o + 1 = nI (o + 1) from nI_1 o]
              have hlt := lk_lt c3 (by decide)
              cases hr : pp t n u F 5 (o + 1) (p + 1) k f with
              | none => rw [hr] at he; cases he
              | some r1 =>
                rw [hr] at he
                have hq := pp_rq t n u _ _ _ _ _ _ _ hlt (by decide) hr
                have hon : ∀ a, a ≠ 55 → a ≠ 57 → onI I (p + 1) a = I a := fun a g1 _ => onI_ne _ _ g1
                refine Go.cal ((ih 5 (o + 1) (p + 1) k f r1 (onI I (p + 1)) (tx, some (1011 + u), Pd, Sd, nn, sl, L) ho5 hlt (by omega) (hR.on (p + 1)) (hC.re hon) rfl hr).1 rfl) (by omega) rfl ?_
                rintro _ _ ⟨⟨I', rfl, hre⟩, rfl⟩
                have hre' := hre.tr hon
                simp only [Option.bind_some] at he
                iterate 2 refine Go.step rfl ?_
                cases hb1 : r1.1 with
                | true =>
                  rw [if_pos hb1] at he
                  cases he
                  have hR1 := hre.2.1 hb1
                  have := (hq.2.2 hb1).2.2.1
                  have := hq.2.1
                  refine Go.cal (x_rwrite t n I' _ _ _ _ hR1 (by omega) 20033) (by omega) rfl ?_
                  rintro _ _ ⟨rfl, rfl⟩
                  refine Go.step rfl ?_
                  exact Go.ret rfl ⟨⟨_, rfl, RE.ok (fun a g1 g2 => by rw [wrI_ne _ _ _ g1 g2]; exact hre'.1 a g1 g2) (hR1.wr _)⟩, rfl⟩
                | false =>
                  rw [if_neg (by rw [hb1]; decide)] at he
                  cases he
                  refine Go.cal (x_rwriteF I' _ (hre.2.2 hb1).2.2 20033) (by omega) rfl ?_
                  rintro _ _ ⟨rfl, rfl⟩
                  refine Go.step rfl ?_
                  exact Go.ret rfl ⟨⟨_, rfl, hre'.no hb1⟩, rfl⟩
            · rw [if_neg (by rintro ⟨_, q⟩; omega), if_neg (by rintro ⟨q, _⟩; rw [c3] at q; exact absurd q (by decide))] at he
              refine Go.ifp (nI_le (a := 5) (b := o) (by omega) (by omega)) ?_
              iterate 3 refine Go.step rfl ?_
              refine Go.ifn (by rw [c3]; decide) ?_
              cases he
              exact flt rfl
          · rw [if_neg (by rintro ⟨q, _⟩; exact c3 q)] at he
            iterate 3 refine Go.step rfl ?_
            refine Go.ite (fun c4 => ?_) (fun c4 => ?_)
            · iterate 3 refine Go.step rfl ?_
              by_cases ho5 : o < 5
              · rw [if_pos ⟨c4, ho5⟩] at he
                refine Go.ifn (nI_ge (a := o) (b := 5) ho5 (by decide)) ?_
                iterate 3 refine Go.step rfl ?_
                rw [hR.2.1]
                iterate 8 refine Go.step rfl ?_
                rw [show nI p + 1 = nI (p + 1) from nI_1 p, show nI o + 1 = nI (o + 1) from nI_1 o]
                have hlt := lk_lt c4 (by decide)
                cases hr : pp t n u F 0 (o + 1) (p + 1) k f with
                | none => rw [hr] at he; cases he
                | some r1 =>
                  rw [hr] at he
                  have hq := pp_rq t n u _ _ _ _ _ _ _ hlt (by decide) hr
                  have hon : ∀ a, a ≠ 55 → a ≠ 57 → onI I (p + 1) a = I a := fun a g1 _ => onI_ne _ _ g1
                  refine Go.cal ((ih 0 (o + 1) (p + 1) k f r1 (onI I (p + 1)) (tx, some (1011 + u), Pd, Sd, nn, sl, L) ho5 hlt (by omega) (hR.on (p + 1)) (hC.re hon) rfl hr).2.1 (by decide)) (by omega) rfl ?_
                  rintro _ _ ⟨⟨I', rfl, hre⟩, rfl⟩
                  have hre' := hre.tr hon
                  simp only [Option.bind_some] at he
                  refine Go.step rfl ?_
                  cases hb1 : r1.1 with
                  | true =>
                    rw [if_pos hb1] at he
                    have hR1 := hre.2.1 hb1
                    have := hq.2.1
                    refine Go.cal (x_close t n hn I' _ _ _ _ hR1 (by omega)) (by omega) rfl ?_
                    rintro _ _ ⟨rfl, rfl⟩
                    refine Go.step rfl ?_
                    by_cases c5 : lk t n r1.2.1 = 41
                    · rw [if_pos c5] at he ⊢
                      cases he
                      exact Go.ret rfl ⟨⟨_, rfl, RE.ok (fun a g1 g2 => by rw [onI_ne _ _ g1]; exact hre'.1 a g1 g2) (hR1.on _)⟩, rfl⟩
                    · rw [if_neg c5] at he ⊢
                      cases he
                      exact Go.ret rfl ⟨⟨_, rfl, faI_fail hR1.1 hR1.2.1 hre'.1⟩, rfl⟩
                  | false =>
                    rw [if_neg (by rw [hb1]; decide)] at he
                    cases he
                    have h7 := hre.2.2 hb1
                    refine Go.cal (x_closeF I' _ h7.2.2) (by omega) rfl ?_
                    rintro _ _ ⟨rfl, rfl⟩
                    refine Go.step rfl ?_
                    exact Go.ret rfl ⟨⟨_, rfl, faI_fail h7.1 h7.2.1 hre'.1⟩, rfl⟩
              · rw [if_neg (by rintro ⟨_, q⟩; omega)] at he
                refine Go.ifp (nI_le (a := 5) (b := o) (by omega) (by omega)) ?_
                cases he
                exact flt rfl
            · rw [if_neg (by rintro ⟨q, _⟩; exact c4 q)] at he
              cases he
              exact flt rfl
        · rw [if_pos c2] at he
          cases he
          have hlt := nm_lt c2
          iterate 6 refine Go.step rfl ?_
          have hbb := hb p
          rcases hbb with e | ⟨b, hb2, eb⟩
          · rw [e] at c2
            rcases (show u = 0 ∨ u = 1 by omega) with rfl | rfl <;> exact absurd c2 (by decide)
          rw [eb, i2c_nI b hb2]
          have hix : (10000 : Int32) + ixf (I (1030 + (1 + u))) (nI b).toInt8.toInt32 (lenN (1 + u)) 0 = nmW (nI b) := by
            rw [ixf_congr (f := I (1030 + (1 + u))) (g := byI (1 + u)) _ _ (fun y _ _ => con_by hC (1 + u) (by omega) y)]
            have hin : inS (1 + u) b = true := by
              have h1 := inB_nm hu (hb p)
              rw [c2, eb] at h1
              have hcl : cl (nI b) = b := nI_clamp (by omega)
              unfold inB at h1
              rw [hcl, Bool.and_eq_true] at h1
              exact h1.2
            rcases (show u = 0 ∨ u = 1 by omega) with rfl | rfl
            · exact (ixf_nm b hb2).1 hin
            · exact (ixf_nm b hb2).2 hin
          have hj := j_indexOf xs I (tx, some (1011 + u), Pd, Sd, nn, sl, L) hC (1 + u) (by omega) (by omega) b (by omega)
          have fin : Go (10 + 8 * (5 - o)) y_Reader_readSimple 44 [some (.ref 55), some (.int (nI o)), some (.int (nI b))] [.int (nmW (nI b)), .ref 55] (hp I (tx, some (1011 + u), Pd, Sd, nn, sl, L)) (RP t n I (tx, some (1011 + u), Pd, Sd, nn, sl, L) (true, p + 1, k + 1, va_up f k (nmW (nI b)))) := by
            rw [← eb]
            refine Go.cal (x_rwrite t n I _ p k f hR (by omega) (nmW (lk t n p))) (by omega) rfl ?_
            rintro _ _ ⟨rfl, rfl⟩
            iterate 3 refine Go.step rfl ?_
            rw [(hR.wr _).2.1]
            iterate 4 refine Go.step rfl ?_
            rw [show nI p + 1 = nI (p + 1) from nI_1 p]
            exact Go.ret rfl ⟨⟨onI (wrI I k (nmW (lk t n p))) (p + 1), rfl, RE.ok (fun a g1 g2 => by rw [onI_ne _ _ g1]; exact wrI_ne _ _ _ g1 g2) ((hR.wr _).on (p + 1))⟩, rfl⟩
          rcases (show u = 0 ∨ u = 1 by omega) with rfl | rfl
          all_goals
            refine Go.cal hj (by omega) rfl ?_
            rintro _ _ ⟨rfl, rfl⟩
            refine Go.step rfl ?_
            rw [hix]
            exact fin
      · rw [if_pos c1] at he
        cases he
        have hlt := dg_lt c1
        refine Go.step rfl ?_
        refine Go.cal (x_readNumber t n hn I _ p k f hR hpn (by omega)) (by omega) rfl ?_
        rintro _ _ ⟨I', rfl, hre, rfl⟩
        refine Go.step rfl ?_
        exact Go.ret rfl ⟨⟨I', rfl, hre⟩, rfl⟩
    refine ⟨hs, fun hm => ?_, fun lv hlv hm i x5 hi => ?_⟩
    · by_cases m5 : m = 5
      · iterate 3 refine Go.step rfl ?_
        have hs' := hs m5
        subst m5
        refine Go.ifn (by decide) ?_
        iterate 2 refine Go.step rfl ?_
        refine Go.cal (hs') (by omega) rfl ?_
        rintro _ _ ⟨⟨I', rfl, hre⟩, rfl⟩
        exact Go.ret rfl ⟨⟨I', rfl, hre⟩, rfl⟩
      · have ml : m < 5 := by omega
        rw [pp, if_neg m5, if_pos ml] at he
        iterate 3 refine Go.step rfl ?_
        refine Go.ifp (nI_lt (a := m) (b := 5) ml (by decide)) ?_
        iterate 5 refine Go.step rfl ?_
        rw [show nI m + 1 = nI (m + 1) from nI_1 m]
        cases hr : pp t n u F (m + 1) o p k f with
        | none => rw [hr] at he; cases he
        | some r1 =>
          rw [hr] at he
          have hq := pp_rq t n u _ _ _ _ _ _ _ hpn (by omega) hr
          refine Go.cal ((ih (m + 1) o p k f r1 I (tx, some (1011 + u), Pd, Sd, nn, sl, L) ho hpn hk hR hC rfl hr).2.1 (by omega)) (by omega) rfl ?_
          rintro _ _ ⟨⟨I', rfl, hre⟩, rfl⟩
          simp only [Option.bind_some] at he
          have fin : Go (11 + 8 * (5 - o) + (5 - m)) y_Reader_readLevel 34 [some (.ref 55), some (.int (nI m)), some (.int (nI o)), some (.int (if m = 2 then 1 else 60)), some (.int 0), none] [] (hp I' (tx, some (1011 + u), Pd, Sd, nn, sl, L)) (RP t n I (tx, some (1011 + u), Pd, Sd, nn, sl, L) r) := by
            cases hb1 : r1.1 with
            | true =>
              rw [if_pos hb1] at he
              have := (hq.2.2 hb1).2.2.1
              have := hq.2.1
              exact ((ih (10 + m) o r1.2.1 r1.2.2.1 r1.2.2.2 r I' (tx, some (1011 + u), Pd, Sd, nn, sl, L) ho hq.2.1 (by omega) (hre.2.1 hb1) (hC.re hre.1) rfl he).2.2 m ml rfl 0 none (by split <;> omega)).mono (RP.tr hre.1)
            | false =>
              rw [if_neg (by rw [hb1]; decide)] at he
              cases he
              exact x_loopF t n I' I _ _ _ _ _ _ _ _ (hre.2.2 hb1).2.2 (hre.no hb1)
          iterate 3 refine Go.step rfl ?_
          by_cases hm2 : m = 2
          · rw [if_pos hm2] at fin
            refine Go.ifp (by rw [hm2]; rfl) ?_
            iterate 5 refine Go.step rfl ?_
            exact fin
          · rw [if_neg hm2] at fin
            refine Go.ifn (fun q => hm2 ((nI_eq (a := m) (b := 2) (by omega) (by decide)).mp q)) ?_
            iterate 4 refine Go.step rfl ?_
            exact fin
    · subst hm
      rw [pp, if_neg (by omega), if_neg (by omega), show 10 + lv - 10 = lv by omega, show 10 + lv - 9 = lv + 1 by omega] at he
      iterate 3 refine Go.step rfl ?_
      by_cases hi60 : i = 60
      · subst hi60
        have h2 : ¬ lv = 2 := fun q => by rw [if_pos q] at hi; omega
        rw [if_neg h2] at hi ⊢
        refine Go.ifp (Int32.le_refl _) ?_
        rw [if_neg (fun q => by have := sg_lt q; omega)] at he
        cases he
        exact Go.ret rfl ⟨⟨I, rfl, RE.ok (fun _ _ _ => rfl) hR⟩, rfl⟩
      have hlim : ¬ (if lv = 2 then (1 : Int32) else 60) ≤ nI i := by
        split
        · rename_i h2
          rw [if_pos h2] at hi
          subst hi; decide
        · rename_i h2
          rw [if_neg h2] at hi
          exact nI_ge (a := i) (b := 60) (by omega) (by decide)
      refine Go.ifn hlim ?_
      iterate 2 refine Go.step rfl ?_
      rw [hR.2.2.2.1]
      refine Go.step rfl ?_
      refine Go.ifp rfl ?_
      refine Go.step rfl ?_
      refine Go.cal (x_signsOf _ lv hlv) (by omega) rfl ?_
      rintro _ _ ⟨rfl, rfl⟩
      refine Go.step rfl ?_
      refine Go.cal (hR.peek hn (by omega) _) (by omega) rfl ?_
      rintro _ _ ⟨rfl, rfl⟩
      rw [show 1013 + lv = 1010 + (3 + lv) by omega]
      refine Go.cal (x_isIn xs I _ hC (3 + lv) (by omega) (by omega) (lk t n p) (hb p)) (by omega) rfl ?_
      rintro _ _ ⟨rfl, rfl⟩
      rw [inB_sg hlv (hb p)]
      refine Go.step rfl ?_
      refine Go.ifz (fun c1 => ?_) (fun c1 => ?_)
      · rw [if_neg (by rw [c1]; decide)] at he
        cases he
        exact Go.ret rfl ⟨⟨I, rfl, RE.ok (fun _ _ _ => rfl) hR⟩, rfl⟩
      · rw [if_pos c1] at he
        have hlt := sg_lt c1
        refine Go.step rfl ?_
        refine Go.cal (hR.peek hn (by omega) _) (by omega) rfl ?_
        rintro _ _ ⟨rfl, rfl⟩
        iterate 4 refine Go.step rfl ?_
        rw [hR.2.1]
        iterate 8 refine Go.step rfl ?_
        rw [show nI p + 1 = nI (p + 1) from nI_1 p, show nI lv + 1 = nI (lv + 1) from nI_1 lv]
        cases hr : pp t n u F (lv + 1) o (p + 1) k f with
        | none => rw [hr] at he; cases he
        | some r1 =>
          rw [hr] at he
          have hq := pp_rq t n u _ _ _ _ _ _ _ hlt (by omega) hr
          have hon : ∀ a, a ≠ 55 → a ≠ 57 → onI I (p + 1) a = I a := fun a g1 _ => onI_ne _ _ g1
          refine Go.cal ((ih (lv + 1) o (p + 1) k f r1 (onI I (p + 1)) (tx, some (1011 + u), Pd, Sd, nn, sl, L) ho hlt (by omega) (hR.on (p + 1)) (hC.re hon) rfl hr).2.1 (by omega)) (by omega) rfl ?_
          rintro _ _ ⟨⟨I', rfl, hre⟩, rfl⟩
          have hre' := hre.tr hon
          simp only [Option.bind_some] at he
          iterate 4 refine Go.step rfl ?_
          cases hb1 : r1.1 with
          | true =>
            rw [if_pos hb1] at he
            have hR1 := hre.2.1 hb1
            have h8 := (hq.2.2 hb1).2.2.1
            have h9 := hq.2.1
            have h10 := hq.1
            refine Go.cal (x_rwrite t n I' _ _ _ _ hR1 (by omega) (20000 + lk t n p)) (by omega) rfl ?_
            rintro _ _ ⟨rfl, rfl⟩
            have hw : ∀ a, a ≠ 55 → a ≠ 57 → wrI I' r1.2.2.1 (20000 + lk t n p) a = I a := fun a g1 g2 => by rw [wrI_ne _ _ _ g1 g2]; exact hre'.1 a g1 g2
            iterate 2 refine Go.step rfl ?_
            rw [show nI i + 1 = nI (i + 1) from nI_1 i]
            by_cases h2 : lv = 2
            · rw [if_pos (by omega)] at he
              rw [if_pos h2] at hi ⊢
              subst hi
              cases he
              iterate 3 refine Go.step rfl ?_
              refine Go.ifp (by decide) ?_
              exact Go.ret rfl ⟨⟨_, rfl, RE.ok hw (hR1.wr _)⟩, rfl⟩
            · rw [if_neg (by omega)] at he
              have g := ((ih (10 + lv) o r1.2.1 (r1.2.2.1 + 1) _ r (wrI I' r1.2.2.1 (20000 + lk t n p)) (tx, some (1011 + u), Pd, Sd, nn, sl, L) ho h9 (by omega) (hR1.wr _) (hC.re hw) rfl he).2.2 lv hlv rfl (i + 1) (some (.int (lk t n p))) (by rw [if_neg h2] at hi ⊢; omega)).mono (RP.tr hw)
              exact g
          | false =>
            rw [if_neg (by rw [hb1]; decide)] at he
            cases he
            refine Go.cal (x_rwriteF I' _ (hre.2.2 hb1).2.2 _) (by omega) rfl ?_
            rintro _ _ ⟨rfl, rfl⟩
            iterate 2 refine Go.step rfl ?_
            exact x_loopF t n I' I _ _ _ _ _ _ _ _ (hre.2.2 hb1).2.2 (hre'.no hb1)
