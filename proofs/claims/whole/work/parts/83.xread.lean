/-! the class reads a text -/
def rdI (I : AI) (n : Nat) : AI := va_up (va_up I 56 (va_cpy (I 50) (I 56) 0 0 60)) 55 (va_up (va_up (va_up (va_up (I 55) 3 (nI n)) 4 0) 5 0) 6 0)
theorem rdI_ne (I : AI) (n : Nat) {a : Nat} (h1 : a ≠ 55) (h2 : a ≠ 56) : rdI I n a = I a := by
  unfold rdI; rw [va_up_ne _ _ h1, va_up_ne _ _ h2]
theorem rdI_rd (I : AI) (t : Nat → Int32) (n : Nat) (hn : n ≤ 60) (ht : ∀ j, j < n → I 50 j = t j) : RD t n (rdI I n) 0 0 (fun _ => 0) := by
  unfold rdI
  refine ⟨by rw [vu_same, va_up_ne _ _ (by decide), va_up_ne _ _ (by decide), va_up_ne _ _ (by decide), vu_same], by rw [vu_same, va_up_ne _ _ (by decide), vu_same]; rfl, by rw [vu_same, va_up_ne _ _ (by decide), va_up_ne _ _ (by decide), vu_same]; rfl, by rw [vu_same, vu_same], fun i hi => by omega, fun j hj => ?_⟩
  rw [va_up_ne _ _ (by decide), vu_same]
  unfold va_cpy
  rw [if_pos ⟨by omega, by omega⟩, show 0 + (j - 0) = j by omega]
  exact ht j hj
theorem x_read (xs : Nat → Int32) (I : AI) (tx : Nat → Option Nat) (nm : Option Nat) (Pd : AP) (Sd : AS) (N sl L : Nat) (t : Nat → Int32) (v n : Nat) (hv : v < 2) (hn : n ≤ 60) (h2 : I 49 2 = nI n) (ht : ∀ j, j < n → I 50 j = t j) (hb : ∀ p, byt (lk t n p)) (hC : XCon xs I) (r : PR) (he : pp t n v 1300 0 0 0 0 (fun _ => 0) = some r) (hN : 91 ≤ N) (hN2 : N + 1 < 1000) : Ct 70 y_Reader_read [.ref 55, .ref 49, .int (nI v)] (hp I (tx, nm, Pd, Sd, N, sl, L)) (fun res h' =>
    (¬ (r.1 = true ∧ r.2.1 = n) ∧ ∃ I', h' = hp I' (tx, some (1011 + v), Pd, Sd, N, sl, L) ∧ (∀ a, a ≠ 55 → a ≠ 56 → a ≠ 57 → I' a = I a) ∧ I' 55 5 = nI r.2.1 ∧ res = some .null) ∨
    ((r.1 = true ∧ r.2.1 = n) ∧ ∃ I', h' = hp I' (tx, some (1011 + v), va_up Pd N (va_up (fun _ => none) 0 (some (N + 1))), va_up (va_up Sd N (15, 1)) (N + 1) (0, r.2.2.1), N + 2, sl + 1 + r.2.2.1, L) ∧ (∀ a, a ≠ 55 → a ≠ 56 → a ≠ 57 → a ≠ N → a ≠ N + 1 → I' a = I a) ∧ (∀ j, j < r.2.2.1 → I' (N + 1) j = r.2.2.2 j) ∧ res = some (.ref N))) := by
  have hq := pp_rq t n v _ _ _ _ _ _ _ (Nat.zero_le n) (by decide) he
  have main : Go 70 y_Reader_read 53 [some (.ref 55), some (.ref 49), some (.int (nI v))] [] (hp (rdI I n) (tx, some (1011 + v), Pd, Sd, N, sl, L)) (fun res h' =>
    (¬ (r.1 = true ∧ r.2.1 = n) ∧ ∃ I', h' = hp I' (tx, some (1011 + v), Pd, Sd, N, sl, L) ∧ (∀ a, a ≠ 55 → a ≠ 56 → a ≠ 57 → I' a = I a) ∧ I' 55 5 = nI r.2.1 ∧ res = some .null) ∨
    ((r.1 = true ∧ r.2.1 = n) ∧ ∃ I', h' = hp I' (tx, some (1011 + v), va_up Pd N (va_up (fun _ => none) 0 (some (N + 1))), va_up (va_up Sd N (15, 1)) (N + 1) (0, r.2.2.1), N + 2, sl + 1 + r.2.2.1, L) ∧ (∀ a, a ≠ 55 → a ≠ 56 → a ≠ 57 → a ≠ N → a ≠ N + 1 → I' a = I a) ∧ (∀ j, j < r.2.2.1 → I' (N + 1) j = r.2.2.2 j) ∧ res = some (.ref N))) := by
    have hC1 : XCon xs (rdI I n) := fun c j => by rw [rdI_ne _ _ (by omega) (by omega)]; exact hC c j
    iterate 3 refine Go.step rfl ?_
    refine Go.cal ((x_parse xs t n v hn hv hb 1300 0 0 0 0 (fun _ => 0) r (rdI I n) (tx, some (1011 + v), Pd, Sd, N, sl, L) (by decide) (Nat.zero_le n) (Nat.le_refl 0) (rdI_rd I t n hn ht) hC1 rfl he).2.1 (by decide)) (by decide) rfl ?_
    rintro _ _ ⟨⟨I2, rfl, hre⟩, rfl⟩
    have h0 : ∀ a, a ≠ 55 → a ≠ 56 → a ≠ 57 → I2 a = I a := fun a g1 g2 g3 => by rw [hre.1 a g1 g3]; exact rdI_ne _ _ g1 g2
    iterate 2 refine Go.step rfl ?_
    cases hb1 : r.1 with
    | false =>
      have h7 := hre.2.2 hb1
      rw [h7.2.2]
      refine Go.step rfl ?_
      refine Go.ifn (by decide) ?_
      refine Go.step rfl ?_
      exact Go.ret rfl (Or.inl ⟨fun q => absurd (show false = true from q.1) (by decide), I2, rfl, h0, h7.2.1, rfl⟩)
    | true =>
      have hR2 := hre.2.1 hb1
      rw [hR2.2.2.2.1]
      refine Go.step rfl ?_
      refine Go.ifp rfl ?_
      iterate 2 refine Go.step rfl ?_
      rw [hR2.2.1]
      iterate 2 refine Go.step rfl ?_
      rw [hR2.1]
      refine Go.step rfl ?_
      by_cases q : r.2.1 = n
      · refine Go.ifp (by rw [q]; exact Int32.le_refl _) ?_
        have hlen : r.2.2.1 ≤ 60 := by
          have := (hq.2.2 hb1).2.2.1
          have := hq.2.1
          omega
        refine Go.new rfl (show N < 1000 by omega) ?_
        rw [sP_up _ _ _ hN (by omega), sS_up _ _ hN (by omega)]
        iterate 5 refine Go.step rfl ?_
        rw [va_up_ne _ _ (show 55 ≠ N by omega), hR2.2.2.1]
        refine Go.cal (j_copyOf _ _ _ (N + 1) _ r.2.2.1 rfl hN2 (by omega) hlen) (by decide) rfl ?_
        rintro _ _ ⟨I3, rfl, k1, k2, rfl⟩
        rw [sS_up _ _ (show 91 ≤ N + 1 by omega) hN2]
        refine Go.cal (x_textInit _ _ _ _ _ N (N + 1) (by rw [sS_dyn _ _ hN (by omega), va_up_ne _ _ (by omega), vu_same]; rfl)) (by decide) rfl ?_
        rintro _ _ ⟨rfl, rfl⟩
        rw [sP_at _ _ _ hN (by omega), vu_same, sP_up _ _ _ hN (by omega), vu_idem]
        refine Go.ret rfl (Or.inr ⟨⟨rfl, q⟩, I3, rfl, fun a g1 g2 g3 g4 g5 => ?_, fun j hj => ?_, rfl⟩)
        · rw [k1 a g5, va_up_ne _ _ g4]; exact h0 a g1 g2 g3
        · rw [k2 j hj, va_up_ne _ _ (show 57 ≠ N by omega)]; exact hR2.2.2.2.2.1 j hj
      · have := hq.2.1
        refine Go.ifn (nI_ge (a := r.2.1) (b := n) (by omega) (by omega)) ?_
        refine Go.step rfl ?_
        exact Go.ret rfl (Or.inl ⟨fun z => q z.2, I2, rfl, h0, hR2.2.1, rfl⟩)
  iterate 7 refine Go.step rfl ?_
  refine Go.acpy (sp := 0) (dp := 0) (c := 60) (n0 := 60) (n1 := 60) rfl rfl rfl (by decide) (by decide) (by decide) (by decide) rfl ?_
  iterate 3 refine Go.step rfl ?_
  rw [va_up_ne _ _ (show 49 ≠ 56 by decide), h2]
  iterate 4 refine Go.step rfl ?_
  rcases (show v = 0 ∨ v = 1 by omega) with rfl | rfl
  · refine Go.ifp rfl ?_
    iterate 3 refine Go.step rfl ?_
    rw [sP_nm]
    iterate 9 refine Go.step rfl ?_
    simp only [vu_idem, vu_same, va_up_ne _ _ (show 55 ≠ 56 by decide)]
    exact main
  · refine Go.ifn (by decide) ?_
    iterate 2 refine Go.step rfl ?_
    rw [sP_nm]
    iterate 9 refine Go.step rfl ?_
    simp only [vu_idem, vu_same, va_up_ne _ _ (show 55 ≠ 56 by decide)]
    exact main
