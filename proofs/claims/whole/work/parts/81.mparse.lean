/-! the reference's reader reads -/
theorem m_number (t : Nat → Int32) (n u : Nat) (hn : n ≤ 60) (I : AI) (T : AT) (o k : Nat) (hk : k < 60) (f : Nat → Int32) (d : Nat) (hd : 0 < d) (x : Option Value) (R : Nat × Int32) (hR : ∃ w, w < 10000 ∧ R.2 = nI w) : ∀ c p v I1, c ≤ 4 → p ≤ n → MD t n u I1 p o k f → MKr I I1 → nbr t n c p v = R → Go d y_M_one 46 [some (.ref 73), x, some (.int v), some (.int (nI (4 - c)))] [] (hp I1 T) (MPq t n u o I T (true, R.1, k + 1, va_up f k R.2)) := by
  obtain ⟨w, hw, ew⟩ := hR
  intro c
  induction c with
  | zero =>
    intro p v I1 hc hp1 hR1 hI ee
    iterate 3 refine Go.step rfl ?_
    refine Go.ifp (Int32.le_refl _) ?_
    iterate 3 refine Go.step rfl ?_
    refine Go.cal (m_laysT I1 T k hk hR1.2.2.1 0 v) (by omega) rfl ?_
    rintro _ _ ⟨rfl, rfl⟩
    refine Go.step rfl ?_
    subst ee
    exact Go.ret rfl ⟨⟨_, rfl, ME.ok (hI.tr (MKr.la I1 _ _ _)) (hR1.la (show tok u v = (0, v) by rw [show v = nI w from ew]; exact tok_nr hw))⟩, rfl⟩
  | succ c ih2 =>
    intro p v I1 hc hp1 hR1 hI ee
    iterate 3 refine Go.step rfl ?_
    refine Go.ifn (nI_ge (a := 4 - (c + 1)) (b := 4) (by omega) (by decide)) ?_
    refine Go.step rfl ?_
    refine Go.cal (hR1.look hn (by omega) T) (by omega) rfl ?_
    rintro _ _ ⟨rfl, rfl⟩
    iterate 2 refine Go.step rfl ?_
    refine Go.cal (m_in _ (lk t n p) 48 57) (by omega) rfl ?_
    rintro _ _ ⟨rfl, rfl⟩
    refine Go.step rfl ?_
    refine Go.ifz (fun d1 => ?_) (fun d1 => ?_)
    · rw [show nbr t n (c + 1) p v = (p, v) by rw [nbr, if_neg (by rw [show dgB (lk t n p) = false from d1]; decide)]] at ee
      iterate 3 refine Go.step rfl ?_
      refine Go.cal (m_laysT I1 T k hk hR1.2.2.1 0 v) (by omega) rfl ?_
      rintro _ _ ⟨rfl, rfl⟩
      refine Go.step rfl ?_
      subst ee
      exact Go.ret rfl ⟨⟨_, rfl, ME.ok (hI.tr (MKr.la I1 _ _ _)) (hR1.la (show tok u v = (0, v) by rw [show v = nI w from ew]; exact tok_nr hw))⟩, rfl⟩
    · have hlt := dg_lt (show dgB (lk t n p) = true from d1)
      rw [show nbr t n (c + 1) p v = nbr t n c (p + 1) (10 * v + lk t n p - 48) by rw [nbr, if_pos (show dgB (lk t n p) = true from d1)]] at ee
      iterate 4 refine Go.step rfl ?_
      refine Go.cal (hR1.look hn (by omega) T) (by omega) rfl ?_
      rintro _ _ ⟨rfl, rfl⟩
      iterate 7 refine Go.step rfl ?_
      rw [hR1.1]
      iterate 5 refine Go.step rfl ?_
      rw [show nI p + 1 = nI (p + 1) from nI_1 p, show nI (4 - (c + 1)) + 1 = nI (4 - c) by rw [nI_1, show 4 - (c + 1) + 1 = 4 - c by omega]]
      exact ih2 (p + 1) _ (plI I1 (p + 1)) (by omega) hlt (hR1.pl (p + 1)) (hI.tr (MKr.pl I1 (p + 1))) ee
theorem m_parse (t : Nat → Int32) (n u : Nat) (hn : n ≤ 60) (hu : u < 2) : ∀ F m o p k f r I T, o ≤ 5 → p ≤ n → k ≤ p → MD t n u I p o k f → pp t n u F m o p k f = some r →
    (m = 5 → Ct (10 + 8 * (5 - o)) y_M_one [.ref 73] (hp I T) (MPq t n u o I T r)) ∧
    (m = 4 → Ct (11 + 8 * (5 - o)) y_M_product [.ref 73] (hp I T) (MPq t n u o I T r)) ∧
    (m = 3 → Ct (12 + 8 * (5 - o)) y_M_sum [.ref 73] (hp I T) (MPq t n u o I T r)) ∧
    (m = 2 → Ct (13 + 8 * (5 - o)) y_M_compared [.ref 73] (hp I T) (MPq t n u o I T r)) ∧
    (m = 1 → Ct (14 + 8 * (5 - o)) y_M_both [.ref 73] (hp I T) (MPq t n u o I T r)) ∧
    (m = 0 → Ct (15 + 8 * (5 - o)) y_M_whole [.ref 73] (hp I T) (MPq t n u o I T r)) ∧
    (m = 14 → ∀ x, Go (11 + 8 * (5 - o)) y_M_product 9 [some (.ref 73), x] [] (hp I T) (MPq t n u o I T r)) ∧
    (m = 13 → ∀ x, Go (12 + 8 * (5 - o)) y_M_sum 9 [some (.ref 73), x] [] (hp I T) (MPq t n u o I T r)) ∧
    (m = 12 → ∀ x, Go (13 + 8 * (5 - o)) y_M_compared 9 [some (.ref 73), x] [] (hp I T) (MPq t n u o I T r)) ∧
    (m = 11 → Go (14 + 8 * (5 - o)) y_M_both 9 [some (.ref 73)] [] (hp I T) (MPq t n u o I T r)) ∧
    (m = 10 → Go (15 + 8 * (5 - o)) y_M_whole 9 [some (.ref 73)] [] (hp I T) (MPq t n u o I T r)) := by
  intro F
  induction F with
  | zero => intro m o p k f r I T _ _ _ _ he; cases he
  | succ F ih =>
    intro m o p k f r I T ho hpn hk hR he
    obtain ⟨h1, h2, h3, h4, h5, h6, h7⟩ := id hR
    refine ⟨?_, ?_, ?_, ?_, ?_, ?_, ?_, ?_, ?_, ?_, ?_⟩
    · rintro rfl
      rw [pp, if_pos rfl] at he
      refine Go.step rfl ?_
      refine Go.cal (hR.look hn (by omega) T) (by omega) rfl ?_
      rintro _ _ ⟨rfl, rfl⟩
      iterate 3 refine Go.step rfl ?_
      refine Go.cal (m_isName I T u hu h4 (lk t n p)) (by omega) rfl ?_
      rintro _ _ ⟨rfl, rfl⟩
      refine Go.step rfl ?_
      refine Go.ifz (fun c1 => ?_) (fun c1 => ?_)
      · rw [if_neg (c := nmB u (lk t n p) = true) (by rw [c1]; decide)] at he
        iterate 3 refine Go.step rfl ?_
        refine Go.cal (m_in _ (lk t n p) 48 57) (by omega) rfl ?_
        rintro _ _ ⟨rfl, rfl⟩
        refine Go.step rfl ?_
        refine Go.ifz (fun c2 => ?_) (fun c2 => ?_)
        · rw [if_neg (by rw [show dgB (lk t n p) = false from c2]; decide)] at he
          iterate 3 refine Go.step rfl ?_
          refine Go.ite (fun c3 => ?_) (fun c3 => ?_)
          · refine Go.step rfl ?_
            refine Go.cal (m_opens I T p o ho h1 h2) (by omega) rfl ?_
            rintro _ _ (⟨ho5, rfl, rfl⟩ | ⟨ho5, rfl, rfl⟩)
            · rw [if_neg (by rintro ⟨_, q⟩; omega), if_neg (by rintro ⟨q, _⟩; rw [c3] at q; exact absurd q (by decide))] at he
              cases he
              refine Go.step rfl ?_
              refine Go.ifp rfl ?_
              refine Go.step rfl ?_
              exact Go.ret rfl ⟨⟨I, rfl, ME.no (MKr.rf I) h1⟩, rfl⟩
            · rw [if_pos ⟨c3, ho5⟩] at he
              have hlt := lk_lt c3 (by decide)
              refine Go.step rfl ?_
              refine Go.ifn (by decide) ?_
              refine Go.step rfl ?_
              cases hr : pp t n u F 5 (o + 1) (p + 1) k f with
              | none => rw [hr] at he; cases he
              | some r1 =>
                rw [hr] at he
                have hq := pp_rq t n u _ _ _ _ _ _ _ hlt (by decide) hr
                simp only [Option.bind_some] at he
                have est : va_up I 73 (va_up (va_up (I 73) 6 (nI (o + 1))) 5 (nI (p + 1))) = plI (opI I (o + 1)) (p + 1) := by
                  unfold plI opI
                  rw [vu_same, vu_idem]
                rw [est]
                refine Go.cal ((ih 5 (o + 1) (p + 1) k f r1 (plI (opI I (o + 1)) (p + 1)) T ho5 hlt (by omega) ((hR.op (o + 1)).pl (p + 1)) hr).1 rfl) (by omega) rfl ?_
                rintro _ _ ⟨⟨I', rfl, hme⟩, rfl⟩
                have hmk := ((MKr.op I (o + 1)).tr (MKr.pl _ (p + 1))).tr hme.1
                refine Go.step rfl ?_
                refine Go.ifz (fun c4 => ?_) (fun c4 => ?_)
                · rw [if_neg (by rw [c4]; decide)] at he
                  cases he
                  refine Go.step rfl ?_
                  exact Go.ret rfl ⟨⟨I', rfl, ME.no hmk (hme.2.2 c4)⟩, rfl⟩
                · rw [if_pos c4] at he
                  cases he
                  have hM := hme.2.1 c4
                  have h8 := (hq.2.2 c4).2.2.1
                  have h9 := hq.1
                  have h10 := hq.2.1
                  iterate 3 refine Go.step rfl ?_
                  rw [hM.2.1]
                  iterate 6 refine Go.step rfl ?_
                  rw [nI_pred]
                  refine Go.cal (m_laysT (opI I' o) T r1.2.2.1 (by omega) (hM.op o).2.2.1 2 0) (by omega) rfl ?_
                  rintro _ _ ⟨rfl, rfl⟩
                  refine Go.step rfl ?_
                  exact Go.ret rfl ⟨⟨_, rfl, ME.ok ((hmk.tr (MKr.op I' o)).tr (MKr.la _ _ _ _)) ((hM.op o).la (show tok u 20033 = (2, 0) by rfl))⟩, rfl⟩
          · rw [if_neg (by rintro ⟨q, _⟩; exact c3 q)] at he
            iterate 3 refine Go.step rfl ?_
            refine Go.ite (fun c4 => ?_) (fun c4 => ?_)
            · refine Go.step rfl ?_
              refine Go.cal (m_opens I T p o ho h1 h2) (by omega) rfl ?_
              rintro _ _ (⟨ho5, rfl, rfl⟩ | ⟨ho5, rfl, rfl⟩)
              · rw [if_neg (by rintro ⟨_, q⟩; omega)] at he
                cases he
                refine Go.step rfl ?_
                refine Go.ifp rfl ?_
                refine Go.step rfl ?_
                exact Go.ret rfl ⟨⟨I, rfl, ME.no (MKr.rf I) h1⟩, rfl⟩
              · rw [if_pos ⟨c4, ho5⟩] at he
                have hlt := lk_lt c4 (by decide)
                refine Go.step rfl ?_
                refine Go.ifn (by decide) ?_
                refine Go.step rfl ?_
                cases hr : pp t n u F 0 (o + 1) (p + 1) k f with
                | none => rw [hr] at he; cases he
                | some r1 =>
                  rw [hr] at he
                  have hq := pp_rq t n u _ _ _ _ _ _ _ hlt (by decide) hr
                  simp only [Option.bind_some] at he
                  have est : va_up I 73 (va_up (va_up (I 73) 6 (nI (o + 1))) 5 (nI (p + 1))) = plI (opI I (o + 1)) (p + 1) := by
                    unfold plI opI
                    rw [vu_same, vu_idem]
                  rw [est]
                  refine Go.cal ((ih 0 (o + 1) (p + 1) k f r1 (plI (opI I (o + 1)) (p + 1)) T ho5 hlt (by omega) ((hR.op (o + 1)).pl (p + 1)) hr).2.2.2.2.2.1 rfl) (by omega) rfl ?_
                  rintro _ _ ⟨⟨I', rfl, hme⟩, rfl⟩
                  have hmk := ((MKr.op I (o + 1)).tr (MKr.pl _ (p + 1))).tr hme.1
                  refine Go.step rfl ?_
                  refine Go.ifz (fun c5 => ?_) (fun c5 => ?_)
                  · rw [if_neg (by rw [c5]; decide)] at he
                    cases he
                    refine Go.step rfl ?_
                    exact Go.ret rfl ⟨⟨I', rfl, ME.no hmk (hme.2.2 c5)⟩, rfl⟩
                  · rw [if_pos c5] at he
                    have hM := hme.2.1 c5
                    have h10 := hq.2.1
                    refine Go.step rfl ?_
                    refine Go.cal (hM.look hn (by omega) T) (by omega) rfl ?_
                    rintro _ _ ⟨rfl, rfl⟩
                    iterate 2 refine Go.step rfl ?_
                    refine Go.ite (fun c6 => ?_) (fun c6 => ?_)
                    · rw [if_pos c6] at he
                      cases he
                      iterate 3 refine Go.step rfl ?_
                      rw [hM.1]
                      iterate 6 refine Go.step rfl ?_
                      rw [show nI r1.2.1 + 1 = nI (r1.2.1 + 1) from nI_1 _]
                      rw [show va_up I' 73 (va_up (I' 73) 5 (nI (r1.2.1 + 1))) = plI I' (r1.2.1 + 1) from rfl, (hM.pl (r1.2.1 + 1)).2.1]
                      iterate 4 refine Go.step rfl ?_
                      rw [nI_pred]
                      exact Go.ret rfl ⟨⟨opI (plI I' (r1.2.1 + 1)) o, rfl, ME.ok ((hmk.tr (MKr.pl I' _)).tr (MKr.op _ o)) ((hM.pl (r1.2.1 + 1)).op o)⟩, rfl⟩
                    · rw [if_neg c6] at he
                      cases he
                      refine Go.step rfl ?_
                      exact Go.ret rfl ⟨⟨I', rfl, ME.no hmk hM.1⟩, rfl⟩
            · rw [if_neg (by rintro ⟨q, _⟩; exact c4 q)] at he
              cases he
              refine Go.step rfl ?_
              exact Go.ret rfl ⟨⟨I, rfl, ME.no (MKr.rf I) h1⟩, rfl⟩
        · have c2' : dgB (lk t n p) = true := c2
          rw [if_pos c2'] at he
          cases he
          have hlt := dg_lt c2'
          obtain ⟨-, -, w, hw, ew⟩ := nbr_ok t n 4 p 0 ⟨0, by decide, rfl⟩ (Nat.le_refl 4) hpn
          iterate 4 refine Go.step rfl ?_
          exact m_number t n u hn I T o k (by omega) f _ (by omega) _ _ ⟨w, hw, ew⟩ 4 p 0 I (Nat.le_refl 4) hpn hR (MKr.rf I) rfl
      · rw [if_neg (by rw [nm_dg c1]; decide), if_pos c1] at he
        cases he
        have hlt := nm_lt c1
        iterate 3 refine Go.step rfl ?_
        rw [h1]
        iterate 6 refine Go.step rfl ?_
        rw [show nI p + 1 = nI (p + 1) from nI_1 p]
        refine Go.cal (m_laysT (plI I (p + 1)) T k (by omega) (hR.pl (p + 1)).2.2.1 1 (lk t n p)) (by omega) rfl ?_
        rintro _ _ ⟨rfl, rfl⟩
        refine Go.step rfl ?_
        exact Go.ret rfl ⟨⟨_, rfl, ME.ok ((MKr.pl I (p + 1)).tr (MKr.la _ _ _ _)) ((hR.pl (p + 1)).la (tok_nm hu c1))⟩, rfl⟩
    · rintro rfl
      rw [pp, if_neg (by decide), if_pos (by decide)] at he
      refine Go.step rfl ?_
      cases hr : pp t n u F (4 + 1) o p k f with
      | none => rw [hr] at he; cases he
      | some r1 =>
        rw [hr] at he
        have hq := pp_rq t n u _ _ _ _ _ _ _ hpn (by decide) hr
        simp only [Option.bind_some] at he
        refine Go.cal ((ih 5 o p k f r1 I T ho hpn hk hR hr).1 rfl) (by omega) rfl ?_
        rintro _ _ ⟨⟨I', rfl, hme⟩, rfl⟩
        refine Go.step rfl ?_
        refine Go.ifz (fun c1 => ?_) (fun c1 => ?_)
        · rw [if_neg (by rw [c1]; decide)] at he
          cases he
          refine Go.step rfl ?_
          exact Go.ret rfl ⟨⟨I', rfl, hme.fail c1⟩, rfl⟩
        · rw [if_pos c1] at he
          have := (hq.2.2 c1).2.2.1
          have := hq.1
          exact ((ih (10 + 4) o r1.2.1 r1.2.2.1 r1.2.2.2 r I' T ho hq.2.1 (by omega) (hme.2.1 c1) he).2.2.2.2.2.2.1 rfl none).mono (MPq.tr hme.1)
    · rintro rfl
      rw [pp, if_neg (by decide), if_pos (by decide)] at he
      refine Go.step rfl ?_
      cases hr : pp t n u F (3 + 1) o p k f with
      | none => rw [hr] at he; cases he
      | some r1 =>
        rw [hr] at he
        have hq := pp_rq t n u _ _ _ _ _ _ _ hpn (by decide) hr
        simp only [Option.bind_some] at he
        refine Go.cal ((ih 4 o p k f r1 I T ho hpn hk hR hr).2.1 rfl) (by omega) rfl ?_
        rintro _ _ ⟨⟨I', rfl, hme⟩, rfl⟩
        refine Go.step rfl ?_
        refine Go.ifz (fun c1 => ?_) (fun c1 => ?_)
        · rw [if_neg (by rw [c1]; decide)] at he
          cases he
          refine Go.step rfl ?_
          exact Go.ret rfl ⟨⟨I', rfl, hme.fail c1⟩, rfl⟩
        · rw [if_pos c1] at he
          have := (hq.2.2 c1).2.2.1
          have := hq.1
          exact ((ih (10 + 3) o r1.2.1 r1.2.2.1 r1.2.2.2 r I' T ho hq.2.1 (by omega) (hme.2.1 c1) he).2.2.2.2.2.2.2.1 rfl none).mono (MPq.tr hme.1)
    · rintro rfl
      rw [pp, if_neg (by decide), if_pos (by decide)] at he
      refine Go.step rfl ?_
      cases hr : pp t n u F (2 + 1) o p k f with
      | none => rw [hr] at he; cases he
      | some r1 =>
        rw [hr] at he
        have hq := pp_rq t n u _ _ _ _ _ _ _ hpn (by decide) hr
        simp only [Option.bind_some] at he
        refine Go.cal ((ih 3 o p k f r1 I T ho hpn hk hR hr).2.2.1 rfl) (by omega) rfl ?_
        rintro _ _ ⟨⟨I', rfl, hme⟩, rfl⟩
        refine Go.step rfl ?_
        refine Go.ifz (fun c1 => ?_) (fun c1 => ?_)
        · rw [if_neg (by rw [c1]; decide)] at he
          cases he
          refine Go.step rfl ?_
          exact Go.ret rfl ⟨⟨I', rfl, hme.fail c1⟩, rfl⟩
        · rw [if_pos c1] at he
          have := (hq.2.2 c1).2.2.1
          have := hq.1
          exact ((ih (10 + 2) o r1.2.1 r1.2.2.1 r1.2.2.2 r I' T ho hq.2.1 (by omega) (hme.2.1 c1) he).2.2.2.2.2.2.2.2.1 rfl none).mono (MPq.tr hme.1)
    · rintro rfl
      rw [pp, if_neg (by decide), if_pos (by decide)] at he
      refine Go.step rfl ?_
      cases hr : pp t n u F (1 + 1) o p k f with
      | none => rw [hr] at he; cases he
      | some r1 =>
        rw [hr] at he
        have hq := pp_rq t n u _ _ _ _ _ _ _ hpn (by decide) hr
        simp only [Option.bind_some] at he
        refine Go.cal ((ih 2 o p k f r1 I T ho hpn hk hR hr).2.2.2.1 rfl) (by omega) rfl ?_
        rintro _ _ ⟨⟨I', rfl, hme⟩, rfl⟩
        refine Go.step rfl ?_
        refine Go.ifz (fun c1 => ?_) (fun c1 => ?_)
        · rw [if_neg (by rw [c1]; decide)] at he
          cases he
          refine Go.step rfl ?_
          exact Go.ret rfl ⟨⟨I', rfl, hme.fail c1⟩, rfl⟩
        · rw [if_pos c1] at he
          have := (hq.2.2 c1).2.2.1
          have := hq.1
          exact ((ih (10 + 1) o r1.2.1 r1.2.2.1 r1.2.2.2 r I' T ho hq.2.1 (by omega) (hme.2.1 c1) he).2.2.2.2.2.2.2.2.2.1 rfl).mono (MPq.tr hme.1)
    · rintro rfl
      rw [pp, if_neg (by decide), if_pos (by decide)] at he
      refine Go.step rfl ?_
      cases hr : pp t n u F (0 + 1) o p k f with
      | none => rw [hr] at he; cases he
      | some r1 =>
        rw [hr] at he
        have hq := pp_rq t n u _ _ _ _ _ _ _ hpn (by decide) hr
        simp only [Option.bind_some] at he
        refine Go.cal ((ih 1 o p k f r1 I T ho hpn hk hR hr).2.2.2.2.1 rfl) (by omega) rfl ?_
        rintro _ _ ⟨⟨I', rfl, hme⟩, rfl⟩
        refine Go.step rfl ?_
        refine Go.ifz (fun c1 => ?_) (fun c1 => ?_)
        · rw [if_neg (by rw [c1]; decide)] at he
          cases he
          refine Go.step rfl ?_
          exact Go.ret rfl ⟨⟨I', rfl, hme.fail c1⟩, rfl⟩
        · rw [if_pos c1] at he
          have := (hq.2.2 c1).2.2.1
          have := hq.1
          exact ((ih (10 + 0) o r1.2.1 r1.2.2.1 r1.2.2.2 r I' T ho hq.2.1 (by omega) (hme.2.1 c1) he).2.2.2.2.2.2.2.2.2.2 rfl).mono (MPq.tr hme.1)
    · rintro rfl x
      rw [pp, if_neg (by decide), if_neg (by decide), show 14 - 10 = 4 from rfl, show 14 - 9 = 5 from rfl] at he
      have no : sgB 4 (lk t n p) = false → Go (11 + 8 * (5 - o)) y_M_product 69 [some (.ref 73), x] [] (hp I T) (MPq t n u o I T r) := by
        intro c1
        rw [if_neg (by rw [c1]; decide)] at he
        cases he
        refine Go.step rfl ?_
        exact Go.ret rfl ⟨⟨I, rfl, ME.ok (MKr.rf I) hR⟩, rfl⟩
      have go : sgB 4 (lk t n p) = true → Go (11 + 8 * (5 - o)) y_M_product 36 [some (.ref 73), x] [] (hp I T) (MPq t n u o I T r) := by
        intro c1
        rw [if_pos c1] at he
        have hlt := sg_lt c1
        refine Go.step rfl ?_
        refine Go.cal (hR.look hn (by omega) T) (by omega) rfl ?_
        rintro _ _ ⟨rfl, rfl⟩
        iterate 4 refine Go.step rfl ?_
        rw [h1]
        iterate 4 refine Go.step rfl ?_
        rw [show nI p + 1 = nI (p + 1) from nI_1 p]
        cases hr : pp t n u F 5 o (p + 1) k f with
        | none => rw [hr] at he; cases he
        | some r1 =>
          rw [hr] at he
          have hq := pp_rq t n u _ _ _ _ _ _ _ hlt (by decide) hr
          simp only [Option.bind_some] at he
          refine Go.cal ((ih 5 o (p + 1) k f r1 (plI I (p + 1)) T ho hlt (by omega) (hR.pl (p + 1)) hr).1 rfl) (by omega) rfl ?_
          rintro _ _ ⟨⟨I', rfl, hme⟩, rfl⟩
          have hmk := (MKr.pl I (p + 1)).tr hme.1
          refine Go.step rfl ?_
          refine Go.ifz (fun c2 => ?_) (fun c2 => ?_)
          · rw [if_neg (by rw [c2]; decide)] at he
            cases he
            refine Go.step rfl ?_
            exact Go.ret rfl ⟨⟨I', rfl, (hme.tr (MKr.pl I (p + 1))).fail c2⟩, rfl⟩
          · rw [if_pos c2] at he
            have h8 := (hq.2.2 c2).2.2.1
            have h9 := hq.1
            have h10 := hq.2.1
            have hM := hme.2.1 c2
            iterate 3 refine Go.step rfl ?_
            refine Go.cal (m_laysT I' T r1.2.2.1 (by omega) hM.2.2.1 3 (lk t n p)) (by omega) rfl ?_
            rintro _ _ ⟨rfl, rfl⟩
            rw [if_neg (by decide)] at he
            refine Go.step rfl ?_
            exact ((ih 14 o r1.2.1 (r1.2.2.1 + 1) _ r (laI I' r1.2.2.1 3 (lk t n p)) T ho h10 (by omega) (hM.la (tok_sg c1)) he).2.2.2.2.2.2.1 rfl _).mono (MPq.tr (hmk.tr (MKr.la I' _ _ _)))
      refine Go.step rfl ?_
      refine Go.cal (hR.look hn (by omega) T) (by omega) rfl ?_
      rintro _ _ ⟨rfl, rfl⟩
      iterate 2 refine Go.step rfl ?_
      refine Go.ite (fun d0 => go (by rw [d0]; rfl)) (fun d0 => ?_)
      refine Go.step rfl ?_
      refine Go.cal (hR.look hn (by omega) T) (by omega) rfl ?_
      rintro _ _ ⟨rfl, rfl⟩
      iterate 2 refine Go.step rfl ?_
      refine Go.ite (fun d1 => go (by rw [d1]; rfl)) (fun d1 => ?_)
      refine Go.step rfl ?_
      refine Go.cal (hR.look hn (by omega) T) (by omega) rfl ?_
      rintro _ _ ⟨rfl, rfl⟩
      iterate 2 refine Go.step rfl ?_
      refine Go.ite (fun d2 => go (by rw [d2]; rfl)) (fun d2 => no (by unfold sgB; rw [if_neg (by decide), if_neg (by decide), if_neg (by decide), if_neg (by decide), decide_eq_false d0, decide_eq_false d1, decide_eq_false d2]; rfl))
    · rintro rfl x
      rw [pp, if_neg (by decide), if_neg (by decide), show 13 - 10 = 3 from rfl, show 13 - 9 = 4 from rfl] at he
      have no : sgB 3 (lk t n p) = false → Go (12 + 8 * (5 - o)) y_M_sum 60 [some (.ref 73), x] [] (hp I T) (MPq t n u o I T r) := by
        intro c1
        rw [if_neg (by rw [c1]; decide)] at he
        cases he
        refine Go.step rfl ?_
        exact Go.ret rfl ⟨⟨I, rfl, ME.ok (MKr.rf I) hR⟩, rfl⟩
      have go : sgB 3 (lk t n p) = true → Go (12 + 8 * (5 - o)) y_M_sum 27 [some (.ref 73), x] [] (hp I T) (MPq t n u o I T r) := by
        intro c1
        rw [if_pos c1] at he
        have hlt := sg_lt c1
        refine Go.step rfl ?_
        refine Go.cal (hR.look hn (by omega) T) (by omega) rfl ?_
        rintro _ _ ⟨rfl, rfl⟩
        iterate 4 refine Go.step rfl ?_
        rw [h1]
        iterate 4 refine Go.step rfl ?_
        rw [show nI p + 1 = nI (p + 1) from nI_1 p]
        cases hr : pp t n u F 4 o (p + 1) k f with
        | none => rw [hr] at he; cases he
        | some r1 =>
          rw [hr] at he
          have hq := pp_rq t n u _ _ _ _ _ _ _ hlt (by decide) hr
          simp only [Option.bind_some] at he
          refine Go.cal ((ih 4 o (p + 1) k f r1 (plI I (p + 1)) T ho hlt (by omega) (hR.pl (p + 1)) hr).2.1 rfl) (by omega) rfl ?_
          rintro _ _ ⟨⟨I', rfl, hme⟩, rfl⟩
          have hmk := (MKr.pl I (p + 1)).tr hme.1
          refine Go.step rfl ?_
          refine Go.ifz (fun c2 => ?_) (fun c2 => ?_)
          · rw [if_neg (by rw [c2]; decide)] at he
            cases he
            refine Go.step rfl ?_
            exact Go.ret rfl ⟨⟨I', rfl, (hme.tr (MKr.pl I (p + 1))).fail c2⟩, rfl⟩
          · rw [if_pos c2] at he
            have h8 := (hq.2.2 c2).2.2.1
            have h9 := hq.1
            have h10 := hq.2.1
            have hM := hme.2.1 c2
            iterate 3 refine Go.step rfl ?_
            refine Go.cal (m_laysT I' T r1.2.2.1 (by omega) hM.2.2.1 3 (lk t n p)) (by omega) rfl ?_
            rintro _ _ ⟨rfl, rfl⟩
            rw [if_neg (by decide)] at he
            refine Go.step rfl ?_
            exact ((ih 13 o r1.2.1 (r1.2.2.1 + 1) _ r (laI I' r1.2.2.1 3 (lk t n p)) T ho h10 (by omega) (hM.la (tok_sg c1)) he).2.2.2.2.2.2.2.1 rfl _).mono (MPq.tr (hmk.tr (MKr.la I' _ _ _)))
      refine Go.step rfl ?_
      refine Go.cal (hR.look hn (by omega) T) (by omega) rfl ?_
      rintro _ _ ⟨rfl, rfl⟩
      iterate 2 refine Go.step rfl ?_
      refine Go.ite (fun d0 => go (by rw [d0]; rfl)) (fun d0 => ?_)
      refine Go.step rfl ?_
      refine Go.cal (hR.look hn (by omega) T) (by omega) rfl ?_
      rintro _ _ ⟨rfl, rfl⟩
      iterate 2 refine Go.step rfl ?_
      refine Go.ite (fun d1 => go (by rw [d1]; rfl)) (fun d1 => no (by unfold sgB; rw [if_neg (by decide), if_neg (by decide), if_neg (by decide), if_pos rfl, decide_eq_false d0, decide_eq_false d1]; rfl))
    · rintro rfl x
      rw [pp, if_neg (by decide), if_neg (by decide), show 12 - 10 = 2 from rfl, show 12 - 9 = 3 from rfl] at he
      have no : sgB 2 (lk t n p) = false → Go (13 + 8 * (5 - o)) y_M_compared 32 [some (.ref 73), some (.int (lk t n p))] [] (hp I T) (MPq t n u o I T r) := by
        intro c1
        rw [if_neg (by rw [c1]; decide)] at he
        cases he
        refine Go.step rfl ?_
        exact Go.ret rfl ⟨⟨I, rfl, ME.ok (MKr.rf I) hR⟩, rfl⟩
      have go : sgB 2 (lk t n p) = true → Go (13 + 8 * (5 - o)) y_M_compared 34 [some (.ref 73), some (.int (lk t n p))] [] (hp I T) (MPq t n u o I T r) := by
        intro c1
        rw [if_pos c1] at he
        have hlt := sg_lt c1
        iterate 3 refine Go.step rfl ?_
        rw [h1]
        iterate 4 refine Go.step rfl ?_
        rw [show nI p + 1 = nI (p + 1) from nI_1 p]
        cases hr : pp t n u F 3 o (p + 1) k f with
        | none => rw [hr] at he; cases he
        | some r1 =>
          rw [hr] at he
          have hq := pp_rq t n u _ _ _ _ _ _ _ hlt (by decide) hr
          simp only [Option.bind_some] at he
          refine Go.cal ((ih 3 o (p + 1) k f r1 (plI I (p + 1)) T ho hlt (by omega) (hR.pl (p + 1)) hr).2.2.1 rfl) (by omega) rfl ?_
          rintro _ _ ⟨⟨I', rfl, hme⟩, rfl⟩
          have hmk := (MKr.pl I (p + 1)).tr hme.1
          refine Go.step rfl ?_
          refine Go.ifz (fun c2 => ?_) (fun c2 => ?_)
          · rw [if_neg (by rw [c2]; decide)] at he
            cases he
            refine Go.step rfl ?_
            exact Go.ret rfl ⟨⟨I', rfl, (hme.tr (MKr.pl I (p + 1))).fail c2⟩, rfl⟩
          · rw [if_pos c2] at he
            have h8 := (hq.2.2 c2).2.2.1
            have h9 := hq.1
            have h10 := hq.2.1
            have hM := hme.2.1 c2
            iterate 3 refine Go.step rfl ?_
            refine Go.cal (m_laysT I' T r1.2.2.1 (by omega) hM.2.2.1 3 (lk t n p)) (by omega) rfl ?_
            rintro _ _ ⟨rfl, rfl⟩
            rw [if_pos trivial] at he
            cases he
            refine Go.step rfl ?_
            exact Go.ret rfl ⟨⟨_, rfl, ME.ok (hmk.tr (MKr.la I' _ _ _)) (hM.la (tok_sg c1))⟩, rfl⟩
      refine Go.step rfl ?_
      refine Go.cal (hR.look hn (by omega) T) (by omega) rfl ?_
      rintro _ _ ⟨rfl, rfl⟩
      refine Go.step rfl ?_
      iterate 3 refine Go.step rfl ?_
      refine Go.ite (fun c1 => go (by rw [c1]; rfl)) (fun c1 => ?_)
      iterate 3 refine Go.step rfl ?_
      refine Go.ite (fun c2 => go (by rw [c2]; rfl)) (fun c2 => ?_)
      iterate 3 refine Go.step rfl ?_
      refine Go.ite (fun c3 => go (by rw [c3]; rfl)) (fun c3 => ?_)
      exact no (by unfold sgB; rw [if_neg (by decide), if_neg (by decide), if_pos rfl, decide_eq_false c1, decide_eq_false c2, decide_eq_false c3]; rfl)
    · rintro rfl
      rw [pp, if_neg (by decide), if_neg (by decide), show 11 - 10 = 1 from rfl, show 11 - 9 = 2 from rfl] at he
      have no : sgB 1 (lk t n p) = false → Go (14 + 8 * (5 - o)) y_M_both 47 [some (.ref 73)] [] (hp I T) (MPq t n u o I T r) := by
        intro c1
        rw [if_neg (by rw [c1]; decide)] at he
        cases he
        refine Go.step rfl ?_
        exact Go.ret rfl ⟨⟨I, rfl, ME.ok (MKr.rf I) hR⟩, rfl⟩
      have go : sgB 1 (lk t n p) = true → Go (14 + 8 * (5 - o)) y_M_both 18 [some (.ref 73)] [] (hp I T) (MPq t n u o I T r) := by
        intro c1
        rw [if_pos c1] at he
        have hlt := sg_lt c1
        iterate 3 refine Go.step rfl ?_
        rw [h1]
        iterate 4 refine Go.step rfl ?_
        rw [show nI p + 1 = nI (p + 1) from nI_1 p]
        cases hr : pp t n u F 2 o (p + 1) k f with
        | none => rw [hr] at he; cases he
        | some r1 =>
          rw [hr] at he
          have hq := pp_rq t n u _ _ _ _ _ _ _ hlt (by decide) hr
          simp only [Option.bind_some] at he
          refine Go.cal ((ih 2 o (p + 1) k f r1 (plI I (p + 1)) T ho hlt (by omega) (hR.pl (p + 1)) hr).2.2.2.1 rfl) (by omega) rfl ?_
          rintro _ _ ⟨⟨I', rfl, hme⟩, rfl⟩
          have hmk := (MKr.pl I (p + 1)).tr hme.1
          refine Go.step rfl ?_
          refine Go.ifz (fun c2 => ?_) (fun c2 => ?_)
          · rw [if_neg (by rw [c2]; decide)] at he
            cases he
            refine Go.step rfl ?_
            exact Go.ret rfl ⟨⟨I', rfl, (hme.tr (MKr.pl I (p + 1))).fail c2⟩, rfl⟩
          · rw [if_pos c2] at he
            have h8 := (hq.2.2 c2).2.2.1
            have h9 := hq.1
            have h10 := hq.2.1
            have hM := hme.2.1 c2
            iterate 3 refine Go.step rfl ?_
            have ec : lk t n p = 38 := of_decide_eq_true c1
            refine Go.cal (m_laysT I' T r1.2.2.1 (by omega) hM.2.2.1 3 38) (by omega) rfl ?_
            rintro _ _ ⟨rfl, rfl⟩
            rw [if_neg (by decide)] at he
            refine Go.step rfl ?_
            exact ((ih 11 o r1.2.1 (r1.2.2.1 + 1) _ r (laI I' r1.2.2.1 3 38) T ho h10 (by omega) (hM.la (show tok u (20000 + lk t n p) = (3, 38) by rw [tok_sg c1, ec])) he).2.2.2.2.2.2.2.2.2.1 rfl).mono (MPq.tr (hmk.tr (MKr.la I' _ _ _)))
      refine Go.step rfl ?_
      refine Go.cal (hR.look hn (by omega) T) (by omega) rfl ?_
      rintro _ _ ⟨rfl, rfl⟩
      iterate 2 refine Go.step rfl ?_
      refine Go.ite (fun d0 => go (by rw [d0]; rfl)) (fun d0 => no (by unfold sgB; rw [if_neg (by decide), if_pos rfl, decide_eq_false d0]))
    · rintro rfl
      rw [pp, if_neg (by decide), if_neg (by decide), show 10 - 10 = 0 from rfl, show 10 - 9 = 1 from rfl] at he
      have no : sgB 0 (lk t n p) = false → Go (15 + 8 * (5 - o)) y_M_whole 47 [some (.ref 73)] [] (hp I T) (MPq t n u o I T r) := by
        intro c1
        rw [if_neg (by rw [c1]; decide)] at he
        cases he
        refine Go.step rfl ?_
        exact Go.ret rfl ⟨⟨I, rfl, ME.ok (MKr.rf I) hR⟩, rfl⟩
      have go : sgB 0 (lk t n p) = true → Go (15 + 8 * (5 - o)) y_M_whole 18 [some (.ref 73)] [] (hp I T) (MPq t n u o I T r) := by
        intro c1
        rw [if_pos c1] at he
        have hlt := sg_lt c1
        iterate 3 refine Go.step rfl ?_
        rw [h1]
        iterate 4 refine Go.step rfl ?_
        rw [show nI p + 1 = nI (p + 1) from nI_1 p]
        cases hr : pp t n u F 1 o (p + 1) k f with
        | none => rw [hr] at he; cases he
        | some r1 =>
          rw [hr] at he
          have hq := pp_rq t n u _ _ _ _ _ _ _ hlt (by decide) hr
          simp only [Option.bind_some] at he
          refine Go.cal ((ih 1 o (p + 1) k f r1 (plI I (p + 1)) T ho hlt (by omega) (hR.pl (p + 1)) hr).2.2.2.2.1 rfl) (by omega) rfl ?_
          rintro _ _ ⟨⟨I', rfl, hme⟩, rfl⟩
          have hmk := (MKr.pl I (p + 1)).tr hme.1
          refine Go.step rfl ?_
          refine Go.ifz (fun c2 => ?_) (fun c2 => ?_)
          · rw [if_neg (by rw [c2]; decide)] at he
            cases he
            refine Go.step rfl ?_
            exact Go.ret rfl ⟨⟨I', rfl, (hme.tr (MKr.pl I (p + 1))).fail c2⟩, rfl⟩
          · rw [if_pos c2] at he
            have h8 := (hq.2.2 c2).2.2.1
            have h9 := hq.1
            have h10 := hq.2.1
            have hM := hme.2.1 c2
            iterate 3 refine Go.step rfl ?_
            have ec : lk t n p = 124 := of_decide_eq_true c1
            refine Go.cal (m_laysT I' T r1.2.2.1 (by omega) hM.2.2.1 3 124) (by omega) rfl ?_
            rintro _ _ ⟨rfl, rfl⟩
            rw [if_neg (by decide)] at he
            refine Go.step rfl ?_
            exact ((ih 10 o r1.2.1 (r1.2.2.1 + 1) _ r (laI I' r1.2.2.1 3 124) T ho h10 (by omega) (hM.la (show tok u (20000 + lk t n p) = (3, 124) by rw [tok_sg c1, ec])) he).2.2.2.2.2.2.2.2.2.2 rfl).mono (MPq.tr (hmk.tr (MKr.la I' _ _ _)))
      refine Go.step rfl ?_
      refine Go.cal (hR.look hn (by omega) T) (by omega) rfl ?_
      rintro _ _ ⟨rfl, rfl⟩
      iterate 2 refine Go.step rfl ?_
      refine Go.ite (fun d0 => go (by rw [d0]; rfl)) (fun d0 => no (by unfold sgB; rw [if_pos rfl, decide_eq_false d0]))
