/-! the class's constructor -/
/-- cells 1 .. n - 1 stand as the tables have them; cell 0 has the references f, cell 63 g -/
def InS (n : Nat) (I : AI) (P : AP) (S : AS) (f g : Nat → Option Nat) (I' : AI) (P' : AP) (S' : AS) : Prop := (∀ a, n ≤ a → I' a = I a ∧ P' a = P a ∧ S' a = S a) ∧ (∀ a, 1 ≤ a → a < n → S' a = tS a) ∧ (∀ a, 1 ≤ a → a < n → a ≠ 63 → ∀ k, P' a k = tP (fun _ => none) (some 1010) a k) ∧ I' 0 = I 0 ∧ S' 0 = S 0 ∧ P' 0 = f ∧ (63 < n → P' 63 = g)
theorem InS.blk {n m : Nat} {I I1 I2 : AI} {P P1 P2 : AP} {S S1 S2 : AS} {f g : Nat → Option Nat} (h : InS n I P S f g I1 P1 S1) (hb : Blk n m I1 P1 S1 I2 P2 S2) (h1 : 1 ≤ n) (hm : n ≤ m) (h63 : m ≤ 63 ∨ 63 < n) : InS m I P S f g I2 P2 S2 ∧ ∀ a, a < n → I2 a = I1 a := by
  obtain ⟨a1, a2, a3, a4, a5, a6, a7⟩ := h
  obtain ⟨b1, b2, b3, b4, b5⟩ := hb
  refine ⟨⟨fun a ha => ?_, fun a g1 g2 => ?_, fun a g1 g2 g3 k => ?_, by rw [b1 0 (by omega)]; exact a4, by rw [b3 0 (by omega)]; exact a5, by rw [b2 0 (by omega)]; exact a6, fun q => ?_⟩, fun a ha => b1 a (Or.inl ha)⟩
  · obtain ⟨c1, c2, c3⟩ := a1 a (by omega)
    exact ⟨by rw [b1 a (by omega)]; exact c1, by rw [b2 a (by omega)]; exact c2, by rw [b3 a (by omega)]; exact c3⟩
  · by_cases q : a < n
    · rw [b3 a (Or.inl q)]; exact a2 a g1 q
    · exact b4 a (by omega) g2
  · by_cases q : a < n
    · rw [b2 a (Or.inl q)]; exact a3 a g1 q g3 k
    · exact b5 a (by omega) g2 k
  · rw [b2 63 (by omega)]; exact a7 (by omega)
theorem InS.put {n : Nat} {I I1 : AI} {P P1 : AP} {S S1 : AS} {f g : Nat → Option Nat} (h : InS n I P S f g I1 P1 S1) (h1 : 1 ≤ n) (k q : Nat) : InS n I P S (va_up f k (some q)) g I1 (va_up P1 0 (va_up (P1 0) k (some q))) S1 := by
  obtain ⟨a1, a2, a3, a4, a5, a6, a7⟩ := h
  refine ⟨fun a ha => ?_, a2, fun a g1 g2 g3 k' => by rw [va_up_ne _ _ (by omega)]; exact a3 a g1 g2 g3 k', a4, a5, by rw [vu_same, a6], fun q => by rw [va_up_ne _ _ (by decide)]; exact a7 q⟩
  obtain ⟨c1, c2, c3⟩ := a1 a ha
  exact ⟨c1, by rw [va_up_ne _ _ (by omega)]; exact c2, c3⟩
theorem InS.put63 {n : Nat} {I I1 : AI} {P P1 : AP} {S S1 : AS} {f g : Nat → Option Nat} (h : InS n I P S f g I1 P1 S1) (h1 : 64 ≤ n) (k q : Nat) : InS n I P S f (va_up g k (some q)) I1 (va_up P1 63 (va_up (P1 63) k (some q))) S1 := by
  obtain ⟨a1, a2, a3, a4, a5, a6, a7⟩ := h
  refine ⟨fun a ha => ?_, a2, fun a g1 g2 g3 k' => by rw [va_up_ne _ _ g3]; exact a3 a g1 g2 g3 k', a4, a5, by rw [va_up_ne _ _ (by decide)]; exact a6, fun q => by rw [vu_same, a7 q]⟩
  obtain ⟨c1, c2, c3⟩ := a1 a ha
  exact ⟨c1, by rw [va_up_ne _ _ (by omega)]; exact c2, c3⟩
theorem InS.none {n : Nat} {I I1 : AI} {P P1 : AP} {S S1 : AS} {f g : Nat → Option Nat} (h : InS n I P S f g I1 P1 S1) (hP : ∀ a, 1 ≤ a → a < 91 → ∀ k, P a k = none) (h1 : 1 ≤ n) : ∀ a, n ≤ a → a < 91 → ∀ k, P1 a k = none := fun a g1 g2 k => by
  rw [(h.1 a g1).2.1]; exact hP a (by omega) g2 k
/-- what the class's cells have behind the constructor -/
def XV0 (I' : AI) : Prop := I' 1 0 = 0 ∧ I' 1 1 = 0 ∧ (∀ j, j < 24 → I' 2 j = 103) ∧ (∀ q, q < 4 → I' 3 q = 3) ∧ I' 49 2 = 0 ∧ I' 49 3 = 0 ∧ I' 49 4 = 1 ∧ I' 61 1 = 0 ∧ I' 64 = (fun _ => 0) ∧ ∀ k, k < 4 → I' (65 + 2 * k) 1 = 0 ∧ I' (65 + 2 * k) 2 = 0 ∧ ∀ j, j < 24 → I' (66 + 2 * k) j = 0
theorem x_init (I : AI) (P : AP) (S : AS) (sl : Nat) (hS0 : S 0 = (18, 11)) (hP00 : P 0 = fun _ => none) (hP0 : ∀ a, 1 ≤ a → a < 91 → ∀ k, P a k = none) : Ct 5 y_X_init [.ref 0] (I, P, S, 1, sl) (fun r h' => ∃ I' P' S' sl', h' = (I', P', S', 73, sl') ∧ sl' ≤ sl + 2000 ∧ r = none ∧ InS 73 I P S (va_up (va_up (va_up (va_up (va_up (va_up (va_up (va_up (va_up (va_up (fun _ => none) 0 (some 1)) 1 (some 17)) 2 (some 33)) 3 (some 49)) 4 (some 52)) 5 (some 55)) 6 (some 58)) 7 (some 61)) 8 (some 63)) 9 (some 64)) (va_up (va_up (va_up (va_up (fun _ => none) 0 (some 65)) 1 (some 67)) 2 (some 69)) 3 (some 71)) I' P' S' ∧ XV0 I') := by
  have h0 : InS 1 I P S (fun _ => none) (fun _ => none) I P S := ⟨fun _ _ => ⟨rfl, rfl, rfl⟩, fun a g1 g2 => by omega, fun a g1 g2 => by omega, rfl, rfl, hP00, fun q => by omega⟩
  iterate 3 refine Go.step rfl ?_
  refine Go.new rfl (by decide) ?_
  refine Go.step rfl ?_
  refine Go.cal (x_seaInit_1 _ _ _ _ (h0.none hP0 (by decide))) (by decide) rfl ?_
  rintro _ _ ⟨I1, P1, S1, rfl, rfl, b1, v1, v2, v3, v4⟩
  obtain ⟨i1, k1⟩ := h0.blk b1 (by decide) (by decide) (by decide)
  refine Go.putr rfl (show S1 0 = (10 + 8, 11) by rw [i1.2.2.2.2.1]; exact hS0) rfl ?_
  have h1 := i1.put (by decide) 0 1
  refine Go.step rfl ?_
  refine Go.new rfl (by decide) ?_
  refine Go.step rfl ?_
  refine Go.cal (x_seaInit_17 _ _ _ _ (h1.none hP0 (by decide))) (by decide) rfl ?_
  rintro _ _ ⟨I2, P2, S2, rfl, rfl, b2, w1, w2, w3, w4⟩
  obtain ⟨i2, k2⟩ := h1.blk b2 (by decide) (by decide) (by decide)
  refine Go.putr rfl (show S2 0 = (10 + 8, 11) by rw [i2.2.2.2.2.1]; exact hS0) rfl ?_
  have h2 := i2.put (by decide) 1 17
  refine Go.step rfl ?_
  refine Go.new rfl (by decide) ?_
  refine Go.step rfl ?_
  refine Go.cal (x_seaInit_33 _ _ _ _ (h2.none hP0 (by decide))) (by decide) rfl ?_
  rintro _ _ ⟨I3, P3, S3, rfl, rfl, b3, w5, w6, w7, w8⟩
  obtain ⟨i3, k3⟩ := h2.blk b3 (by decide) (by decide) (by decide)
  refine Go.putr rfl (show S3 0 = (10 + 8, 11) by rw [i3.2.2.2.2.1]; exact hS0) rfl ?_
  have h3 := i3.put (by decide) 2 33
  refine Go.step rfl ?_
  refine Go.new rfl (by decide) ?_
  refine Go.step rfl ?_
  refine Go.cal (x_deskInit_49 _ _ _ _ (h3.none hP0 (by decide))) (by decide) rfl ?_
  rintro _ _ ⟨I4, P4, S4, rfl, rfl, b4, v5, v6, v7⟩
  obtain ⟨i4, k4⟩ := h3.blk b4 (by decide) (by decide) (by decide)
  refine Go.putr rfl (show S4 0 = (10 + 8, 11) by rw [i4.2.2.2.2.1]; exact hS0) rfl ?_
  have h4 := i4.put (by decide) 3 49
  refine Go.step rfl ?_
  refine Go.new rfl (by decide) ?_
  refine Go.step rfl ?_
  refine Go.cal (x_deskInit_52 _ _ _ _ (h4.none hP0 (by decide))) (by decide) rfl ?_
  rintro _ _ ⟨I5, P5, S5, rfl, rfl, b5, w9, w10, w11⟩
  obtain ⟨i5, k5⟩ := h4.blk b5 (by decide) (by decide) (by decide)
  refine Go.putr rfl (show S5 0 = (10 + 8, 11) by rw [i5.2.2.2.2.1]; exact hS0) rfl ?_
  have h5 := i5.put (by decide) 4 52
  refine Go.step rfl ?_
  refine Go.new rfl (by decide) ?_
  refine Go.step rfl ?_
  refine Go.cal (x_readerInit _ _ _ _ (h5.none hP0 (by decide))) (by decide) rfl ?_
  rintro _ _ ⟨I6, P6, S6, rfl, rfl, b6⟩
  obtain ⟨i6, k6⟩ := h5.blk b6 (by decide) (by decide) (by decide)
  refine Go.putr rfl (show S6 0 = (10 + 8, 11) by rw [i6.2.2.2.2.1]; exact hS0) rfl ?_
  have h6 := i6.put (by decide) 5 55
  refine Go.step rfl ?_
  refine Go.new rfl (by decide) ?_
  refine Go.step rfl ?_
  refine Go.cal (x_voyageInit _ _ _ _ (h6.none hP0 (by decide))) (by decide) rfl ?_
  rintro _ _ ⟨I7, P7, S7, rfl, rfl, b7⟩
  obtain ⟨i7, k7⟩ := h6.blk b7 (by decide) (by decide) (by decide)
  refine Go.putr rfl (show S7 0 = (10 + 8, 11) by rw [i7.2.2.2.2.1]; exact hS0) rfl ?_
  have h7 := i7.put (by decide) 6 58
  refine Go.step rfl ?_
  refine Go.new rfl (by decide) ?_
  refine Go.step rfl ?_
  refine Go.cal (x_voicesInit _ _ _ _ (h7.none hP0 (by decide))) (by decide) rfl ?_
  rintro _ _ ⟨I8, P8, S8, rfl, rfl, b8, v8⟩
  obtain ⟨i8, k8⟩ := h7.blk b8 (by decide) (by decide) (by decide)
  refine Go.putr rfl (show S8 0 = (10 + 8, 11) by rw [i8.2.2.2.2.1]; exact hS0) rfl ?_
  have h8 := i8.put (by decide) 7 61
  iterate 2 refine Go.step rfl ?_
  refine Go.step rfl ?_
  refine Go.putr rfl (show va_up S8 63 (3, 4) 0 = (10 + 8, 11) by rw [va_up_ne _ _ (by decide), h8.2.2.2.2.1]; exact hS0) rfl ?_
  iterate 2 refine Go.step rfl ?_
  refine Go.step rfl ?_
  refine Go.putr rfl (show va_up (va_up S8 63 (3, 4)) 64 (0, 7) 0 = (10 + 8, 11) by rw [va_up_ne _ _ (by decide), va_up_ne _ _ (by decide), h8.2.2.2.2.1]; exact hS0) rfl ?_
  have hA : InS 65 I P S (va_up (va_up (va_up (va_up (va_up (va_up (va_up (va_up (fun _ => none) 0 (some 1)) 1 (some 17)) 2 (some 33)) 3 (some 49)) 4 (some 52)) 5 (some 55)) 6 (some 58)) 7 (some 61)) (fun _ => none) (va_up I8 64 (fun _ => 0)) (va_up (va_up P8 0 (va_up (P8 0) 7 (some 61))) 63 (fun _ => none)) (va_up (va_up S8 63 (3, 4)) 64 (0, 7)) := by
    obtain ⟨a1, a2, a3, a4, a5, a6, a7⟩ := h8
    refine ⟨fun a ha => ?_, fun a g1 g2 => ?_, fun a g1 g2 g3 k => ?_, by rw [va_up_ne _ _ (by decide)]; exact a4, by rw [va_up_ne _ _ (by decide), va_up_ne _ _ (by decide)]; exact a5, by rw [va_up_ne _ _ (by decide)]; exact a6, fun _ => vu_same _ _ _⟩
    · obtain ⟨c1, c2, c3⟩ := a1 a (by omega)
      exact ⟨by rw [va_up_ne _ _ (by omega)]; exact c1, by rw [va_up_ne _ _ (by omega)]; exact c2, by rw [va_up_ne _ _ (by omega), va_up_ne _ _ (by omega)]; exact c3⟩
    · by_cases q : a < 63
      · rw [va_up_ne _ _ (by omega), va_up_ne _ _ (by omega)]; exact a2 a g1 q
      · rcases (show a = 63 ∨ a = 64 by omega) with rfl | rfl <;> rfl
    · rw [va_up_ne _ _ g3]
      by_cases q : a < 63
      · exact a3 a g1 q g3 k
      · have : a = 64 := by omega
        subst this
        rw [(a1 64 (by decide)).2.1, hP0 64 (by decide) (by decide) k]; rfl
  have h9 := (hA.put (by decide) 8 63).put (by decide) 9 64
  iterate 2 refine Go.step rfl ?_
  iterate 3 refine Go.step rfl ?_
  refine Go.ifn (by decide) ?_
  refine Go.step rfl ?_
  refine Go.getr (q := 63) rfl (h9.2.2.2.2.1.trans hS0) rfl (congrFun h9.2.2.2.2.2.1 8) ?_
  refine Go.step rfl ?_
  refine Go.new rfl (by decide) ?_
  refine Go.step rfl ?_
  refine Go.cal (x_sheetInit_65 _ _ _ _ (h9.none hP0 (by decide))) (by decide) rfl ?_
  rintro _ _ ⟨I10, P10, S10, rfl, rfl, b10, x10, y10, z10⟩
  obtain ⟨i10, k10⟩ := h9.blk b10 (by decide) (by decide) (by decide)
  refine Go.aast (q := 65) rfl (show S10 63 = (3, 4) from i10.2.1 63 (by decide) (by decide)) rfl (by decide) (by rw [i10.2.1 65 (by decide) (by decide)]; rfl) ?_
  have h10 := i10.put63 (by decide) 0 65
  iterate 2 refine Go.step rfl ?_
  iterate 3 refine Go.step rfl ?_
  refine Go.ifn (by decide) ?_
  refine Go.step rfl ?_
  refine Go.getr (q := 63) rfl (h10.2.2.2.2.1.trans hS0) rfl (congrFun h10.2.2.2.2.2.1 8) ?_
  refine Go.step rfl ?_
  refine Go.new rfl (by decide) ?_
  refine Go.step rfl ?_
  refine Go.cal (x_sheetInit_67 _ _ _ _ (h10.none hP0 (by decide))) (by decide) rfl ?_
  rintro _ _ ⟨I11, P11, S11, rfl, rfl, b11, x11, y11, z11⟩
  obtain ⟨i11, k11⟩ := h10.blk b11 (by decide) (by decide) (by decide)
  refine Go.aast (q := 67) rfl (show S11 63 = (3, 4) from i11.2.1 63 (by decide) (by decide)) rfl (by decide) (by rw [i11.2.1 67 (by decide) (by decide)]; rfl) ?_
  have h11 := i11.put63 (by decide) 1 67
  iterate 2 refine Go.step rfl ?_
  iterate 3 refine Go.step rfl ?_
  refine Go.ifn (by decide) ?_
  refine Go.step rfl ?_
  refine Go.getr (q := 63) rfl (h11.2.2.2.2.1.trans hS0) rfl (congrFun h11.2.2.2.2.2.1 8) ?_
  refine Go.step rfl ?_
  refine Go.new rfl (by decide) ?_
  refine Go.step rfl ?_
  refine Go.cal (x_sheetInit_69 _ _ _ _ (h11.none hP0 (by decide))) (by decide) rfl ?_
  rintro _ _ ⟨I12, P12, S12, rfl, rfl, b12, x12, y12, z12⟩
  obtain ⟨i12, k12⟩ := h11.blk b12 (by decide) (by decide) (by decide)
  refine Go.aast (q := 69) rfl (show S12 63 = (3, 4) from i12.2.1 63 (by decide) (by decide)) rfl (by decide) (by rw [i12.2.1 69 (by decide) (by decide)]; rfl) ?_
  have h12 := i12.put63 (by decide) 2 69
  iterate 2 refine Go.step rfl ?_
  iterate 3 refine Go.step rfl ?_
  refine Go.ifn (by decide) ?_
  refine Go.step rfl ?_
  refine Go.getr (q := 63) rfl (h12.2.2.2.2.1.trans hS0) rfl (congrFun h12.2.2.2.2.2.1 8) ?_
  refine Go.step rfl ?_
  refine Go.new rfl (by decide) ?_
  refine Go.step rfl ?_
  refine Go.cal (x_sheetInit_71 _ _ _ _ (h12.none hP0 (by decide))) (by decide) rfl ?_
  rintro _ _ ⟨I13, P13, S13, rfl, rfl, b13, x13, y13, z13⟩
  obtain ⟨i13, k13⟩ := h12.blk b13 (by decide) (by decide) (by decide)
  refine Go.aast (q := 71) rfl (show S13 63 = (3, 4) from i13.2.1 63 (by decide) (by decide)) rfl (by decide) (by rw [i13.2.1 71 (by decide) (by decide)]; rfl) ?_
  have h13 := i13.put63 (by decide) 3 71
  iterate 2 refine Go.step rfl ?_
  iterate 3 refine Go.step rfl ?_
  refine Go.ifp (by decide) ?_
  have K : ∀ a, a < 63 → I13 a = I8 a := fun a ha => by rw [k13 a (by omega), k12 a (by omega), k11 a (by omega), k10 a (by omega), va_up_ne _ _ (by omega)]
  have K1 : ∀ a, a < 17 → I13 a = I1 a := fun a ha => by rw [K a (by omega), k8 a (by omega), k7 a (by omega), k6 a (by omega), k5 a (by omega), k4 a (by omega), k3 a (by omega), k2 a (by omega)]
  have K4 : ∀ a, a < 52 → I13 a = I4 a := fun a ha => by rw [K a (by omega), k8 a (by omega), k7 a (by omega), k6 a (by omega), k5 a (by omega)]
  refine Go.ret rfl ⟨_, _, _, sl + 1089, rfl, by omega, rfl, h13, ?_⟩
  refine ⟨by rw [K1 1 (by decide)]; exact v1, by rw [K1 1 (by decide)]; exact v2, fun j hj => by rw [K1 2 (by decide)]; exact v3 j hj, fun j hj => by rw [K1 3 (by decide)]; exact v4 j hj, by rw [K4 49 (by decide)]; exact v5, by rw [K4 49 (by decide)]; exact v6, by rw [K4 49 (by decide)]; exact v7, by rw [K 61 (by decide)]; exact v8, by rw [k13 64 (by decide), k12 64 (by decide), k11 64 (by decide), k10 64 (by decide), vu_same], fun k hk => ?_⟩
  rcases (show k = 0 ∨ k = 1 ∨ k = 2 ∨ k = 3 by omega) with rfl | rfl | rfl | rfl
  · refine ⟨?_, ?_, fun j hj => ?_⟩
    · show I13 65 1 = 0; rw [k13 65 (by decide), k12 65 (by decide), k11 65 (by decide)]; exact x10
    · show I13 65 2 = 0; rw [k13 65 (by decide), k12 65 (by decide), k11 65 (by decide)]; exact y10
    · show I13 66 j = 0; rw [k13 66 (by decide), k12 66 (by decide), k11 66 (by decide)]; exact z10 j hj
  · refine ⟨?_, ?_, fun j hj => ?_⟩
    · show I13 67 1 = 0; rw [k13 67 (by decide), k12 67 (by decide)]; exact x11
    · show I13 67 2 = 0; rw [k13 67 (by decide), k12 67 (by decide)]; exact y11
    · show I13 68 j = 0; rw [k13 68 (by decide), k12 68 (by decide)]; exact z11 j hj
  · refine ⟨?_, ?_, fun j hj => ?_⟩
    · show I13 69 1 = 0; rw [k13 69 (by decide)]; exact x12
    · show I13 69 2 = 0; rw [k13 69 (by decide)]; exact y12
    · show I13 70 j = 0; rw [k13 70 (by decide)]; exact z12 j hj
  · exact ⟨x13, y13, z13⟩
