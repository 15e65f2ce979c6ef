/-! VOICES: what they answer, which bodies they begin; the class -/
def bgI (I : AI) (c n : Nat) : AI := va_up (va_up I 62 (va_up (I 62) c (nI n))) 61 (va_up (I 61) 1 (nI (c + 1)))
def trL : List Nat → AI → Nat → AI
  | [], I, _ => I
  | n :: L, I, c => trL L (bgI I c n) (c + 1)
def trI (I : AI) (c : Nat) (L : List Nat) : AI := trL L I c
theorem trI_nil (I : AI) (c : Nat) : trI I c [] = I := rfl
theorem trI_cons (I : AI) (c n : Nat) (L : List Nat) : trI I c (n :: L) = trI (bgI I c n) (c + 1) L := rfl
def twL : List Nat → (Nat → Int32) → Nat → Nat → Int32
  | [], f, _ => f
  | n :: L, f, c => twL L (va_up f c (nI n)) (c + 1)
def tw (f : Nat → Int32) (c : Nat) (L : List Nat) : Nat → Int32 := twL L f c
theorem tw_cons (f : Nat → Int32) (c n : Nat) (L : List Nat) : tw f c (n :: L) = tw (va_up f c (nI n)) (c + 1) L := rfl
def svl (k : Int32) (q : Nat) (x : Int32) : Int32 := if q = 1 ∨ q = 4 then x + k - 3 else if q = 3 then (x + k - 3) * 3 else if q = 6 then 5 else x + k
def svt (q : Nat) : List Nat := if q = 1 ∨ q = 4 then [20, 10] else if q = 3 then [40, 20, 10] else if q = 6 then [70] else [10]
def tv0 (K : Nat) (k x : Int32) : Int32 := svl k K x * 2
def tt0 (K : Nat) : List Nat := 11 :: svt K
def tvl (K : Nat) (m k : Int32) (q : Nat) (x : Int32) : Int32 := if q = 2 then 0 - tv0 K k x else if q = 5 then 0 - tv0 K k (x + 1) else if q = 6 then tv0 K k x + m else tv0 K k x
def ttl (K q : Nat) : List Nat := if q = 2 then 30 :: tt0 K else if q = 5 then 60 :: 30 :: tt0 K else if q = 6 then 71 :: tt0 K else tt0 K
def ov0 (K : Nat) (m k x : Int32) : Int32 := tvl K m k K x - m
def ot0 (K : Nat) : List Nat := 12 :: ttl K K
def ovl (K : Nat) (m k : Int32) (q : Nat) (x : Int32) : Int32 := if q = 3 then ov0 K m k x ^^^ k else if q = 4 then ov0 K m k (x / 2) else ov0 K m k x
def otl (K q : Nat) : List Nat := if q = 3 then 41 :: ot0 K else if q = 4 then 50 :: ot0 K else ot0 K
theorem svt_len (q : Nat) : (svt q).length ≤ 3 := by unfold svt; split <;> (try split) <;> (try split) <;> decide
theorem ttl_len (K q : Nat) : (ttl K q).length ≤ 6 := by
  have := svt_len K
  unfold ttl tt0; split <;> (try split) <;> (try split) <;> simp only [List.length_cons] <;> omega
theorem otl_len (K q : Nat) : (otl K q).length ≤ 8 := by
  have := ttl_len K K
  unfold otl ot0; split <;> (try split) <;> simp only [List.length_cons] <;> omega
/-- what the voices' object knows of the boat -/
def VC (xs : Nat → Int32) (I : AI) (K : Nat) (m k : Int32) : Prop := XCon xs I ∧ I 61 3 = nI K ∧ I 61 4 = m ∧ I 61 5 = k
theorem VC.bg {xs : Nat → Int32} {I : AI} {K : Nat} {m k : Int32} (h : VC xs I K m k) (c n : Nat) : VC xs (bgI I c n) K m k ∧ bgI I c n 61 1 = nI (c + 1) := by
  unfold bgI
  refine ⟨⟨fun z j => by rw [va_up_ne _ _ (by omega), va_up_ne _ _ (by omega)]; exact h.1 z j, ?_, ?_, ?_⟩, by rw [vu_same, vu_same]⟩
  · rw [vu_same, va_up_ne _ _ (by decide)]; exact h.2.1
  · rw [vu_same, va_up_ne _ _ (by decide)]; exact h.2.2.1
  · rw [vu_same, va_up_ne _ _ (by decide)]; exact h.2.2.2
theorem VC.tr {xs : Nat → Int32} {K : Nat} {m k : Int32} : ∀ (L : List Nat) {I : AI} (c : Nat), VC xs I K m k → I 61 1 = nI c → VC xs (trI I c L) K m k ∧ trI I c L 61 1 = nI (c + L.length) := by
  intro L
  induction L with
  | nil => intro I c h hc; rw [trI_nil]; exact ⟨h, hc⟩
  | cons n L ih =>
    intro I c h hc
    rw [trI_cons]
    have := h.bg c n
    have := ih (c + 1) this.1 this.2
    rw [List.length_cons, show c + (L.length + 1) = c + 1 + L.length by omega]
    exact this
theorem x_owner_in (I : AI) (T : AT) (t0 : Value) (v o i : Nat) (ho : o < 7) (hv : v < 4) (hi : i < 7) (Q : Option Value → AH → Prop) (hit : ¬ I 1002 (4 * o + v) = 0 → Q (some (.int (nI o))) (hp I T)) (miss : I 1002 (4 * o + v) = 0 → Go 1 y_Voices_ownerOf 4 [some t0, some (.int (nI v)), some (.int (I 1000 o)), some (.int (nI (i + 1)))] [] (hp I T) Q) : Go 1 y_Voices_ownerOf 4 [some t0, some (.int (nI v)), some (.int (nI o)), some (.int (nI i))] [] (hp I T) Q := by
  iterate 4 refine Go.step rfl ?_
  refine Go.ifn (nI_ge (a := i) (b := 7) hi (by decide)) ?_
  iterate 3 refine Go.step rfl ?_
  refine Go.cal (x_within _ (nI o) 0 6) (by decide) rfl ?_
  rintro _ _ ⟨rfl, rfl⟩
  refine Go.step rfl ?_
  refine Go.ifz (fun c1 => ?_) (fun c1 => ?_)
  · rw [show win (nI o) 0 6 = true from win_of_le (N := 6) (by omega) (by decide)] at c1; cases c1
  · iterate 3 refine Go.step rfl ?_
    refine Go.cal (x_within _ (nI v) 0 3) (by decide) rfl ?_
    rintro _ _ ⟨rfl, rfl⟩
    refine Go.step rfl ?_
    refine Go.ifz (fun c2 => ?_) (fun c2 => ?_)
    · rw [show win (nI v) 0 3 = true from win_of_le (N := 3) (by omega) (by decide)] at c2; cases c2
    · iterate 4 refine Go.step rfl ?_
      rw [show nI o * 4 = nI (4 * o) by rw [show (4 : Int32) = nI 4 from rfl, nI_mul, Nat.mul_comm]]
      iterate 2 refine Go.step rfl ?_
      rw [nI_add]
      refine Go.cald rfl rfl (am_in_nI (show 4 * o + v < 28 by omega) (by decide)) ?_
      rw [nI_clamp (by omega)]
      refine Go.step rfl ?_
      refine Go.ite (fun c3 => ?_) (fun c3 => ?_)
      · iterate 2 refine Go.step rfl ?_
        refine Go.cald rfl rfl (am_in_nI ho (by decide)) ?_
        rw [nI_clamp (by omega)]
        iterate 3 refine Go.step rfl ?_
        rw [show nI i + 1 = nI (i + 1) from nI_1 i]
        exact miss c3
      · refine Go.step rfl ?_
        exact Go.ret rfl (hit c3)
def ownN (q v : Nat) : Nat := if v = 0 then (if q = 1 ∨ q = 4 then 1 else if q = 3 then 3 else if q = 6 then 6 else 0) else if v = 1 then (if q = 2 then 2 else if q = 5 then 5 else if q = 6 then 6 else 0) else if v = 2 then (if q = 3 then 3 else if q = 4 then 4 else 0) else (if q = 1 ∨ q = 3 ∨ q = 4 then 1 else 0)
theorem x_owner (xs : Nat → Int32) (I : AI) (T : AT) (hC : XCon xs I) (q v : Nat) (hq : q < 7) (hv : v < 4) : Ct 1 y_Voices_ownerOf [.int (nI q), .int (nI v)] (hp I T) (fun r h' => h' = hp I T ∧ r = some (.int (nI (ownN q v)))) := by
  have hB : ∀ j, I 1002 j = am_cI xs 2 j := fun j => hC 2 j
  have hA : ∀ j, I 1000 j = am_cI xs 0 j := fun j => hC 0 j
  iterate 4 refine Go.step rfl ?_
  rcases (show q = 0 ∨ q = 1 ∨ q = 2 ∨ q = 3 ∨ q = 4 ∨ q = 5 ∨ q = 6 by omega) with rfl | rfl | rfl | rfl | rfl | rfl | rfl
  · rcases (show v = 0 ∨ v = 1 ∨ v = 2 ∨ v = 3 by omega) with rfl | rfl | rfl | rfl
    · exact x_owner_in I T _ 0 0 0 (by decide) (by decide) (by decide) _ (fun _ => ⟨rfl, rfl⟩) (fun z => absurd (show (10 : Int32) = 0 from (hB (4 * 0 + 0)).symm.trans z) (by decide))
    · exact x_owner_in I T _ 1 0 0 (by decide) (by decide) (by decide) _ (fun _ => ⟨rfl, rfl⟩) (fun z => absurd (show (11 : Int32) = 0 from (hB (4 * 0 + 1)).symm.trans z) (by decide))
    · exact x_owner_in I T _ 2 0 0 (by decide) (by decide) (by decide) _ (fun _ => ⟨rfl, rfl⟩) (fun z => absurd (show (12 : Int32) = 0 from (hB (4 * 0 + 2)).symm.trans z) (by decide))
    · exact x_owner_in I T _ 3 0 0 (by decide) (by decide) (by decide) _ (fun _ => ⟨rfl, rfl⟩) (fun z => absurd (show (13 : Int32) = 0 from (hB (4 * 0 + 3)).symm.trans z) (by decide))
  · rcases (show v = 0 ∨ v = 1 ∨ v = 2 ∨ v = 3 by omega) with rfl | rfl | rfl | rfl
    · exact x_owner_in I T _ 0 1 0 (by decide) (by decide) (by decide) _ (fun _ => ⟨rfl, rfl⟩) (fun z => absurd (show (20 : Int32) = 0 from (hB (4 * 1 + 0)).symm.trans z) (by decide))
    · exact x_owner_in I T _ 1 1 0 (by decide) (by decide) (by decide) _ (fun z => absurd (show I 1002 (4 * 1 + 1) = 0 from hB (4 * 1 + 1)) z) (fun _ => by rw [show I 1000 1 = nI 0 from hA 1]; exact x_owner_in I T _ 1 0 1 (by decide) (by decide) (by decide) _ (fun _ => ⟨rfl, rfl⟩) (fun z => absurd (show (11 : Int32) = 0 from (hB (4 * 0 + 1)).symm.trans z) (by decide)))
    · exact x_owner_in I T _ 2 1 0 (by decide) (by decide) (by decide) _ (fun z => absurd (show I 1002 (4 * 1 + 2) = 0 from hB (4 * 1 + 2)) z) (fun _ => by rw [show I 1000 1 = nI 0 from hA 1]; exact x_owner_in I T _ 2 0 1 (by decide) (by decide) (by decide) _ (fun _ => ⟨rfl, rfl⟩) (fun z => absurd (show (12 : Int32) = 0 from (hB (4 * 0 + 2)).symm.trans z) (by decide)))
    · exact x_owner_in I T _ 3 1 0 (by decide) (by decide) (by decide) _ (fun _ => ⟨rfl, rfl⟩) (fun z => absurd (show (21 : Int32) = 0 from (hB (4 * 1 + 3)).symm.trans z) (by decide))
  · rcases (show v = 0 ∨ v = 1 ∨ v = 2 ∨ v = 3 by omega) with rfl | rfl | rfl | rfl
    · exact x_owner_in I T _ 0 2 0 (by decide) (by decide) (by decide) _ (fun z => absurd (show I 1002 (4 * 2 + 0) = 0 from hB (4 * 2 + 0)) z) (fun _ => by rw [show I 1000 2 = nI 0 from hA 2]; exact x_owner_in I T _ 0 0 1 (by decide) (by decide) (by decide) _ (fun _ => ⟨rfl, rfl⟩) (fun z => absurd (show (10 : Int32) = 0 from (hB (4 * 0 + 0)).symm.trans z) (by decide)))
    · exact x_owner_in I T _ 1 2 0 (by decide) (by decide) (by decide) _ (fun _ => ⟨rfl, rfl⟩) (fun z => absurd (show (30 : Int32) = 0 from (hB (4 * 2 + 1)).symm.trans z) (by decide))
    · exact x_owner_in I T _ 2 2 0 (by decide) (by decide) (by decide) _ (fun z => absurd (show I 1002 (4 * 2 + 2) = 0 from hB (4 * 2 + 2)) z) (fun _ => by rw [show I 1000 2 = nI 0 from hA 2]; exact x_owner_in I T _ 2 0 1 (by decide) (by decide) (by decide) _ (fun _ => ⟨rfl, rfl⟩) (fun z => absurd (show (12 : Int32) = 0 from (hB (4 * 0 + 2)).symm.trans z) (by decide)))
    · exact x_owner_in I T _ 3 2 0 (by decide) (by decide) (by decide) _ (fun z => absurd (show I 1002 (4 * 2 + 3) = 0 from hB (4 * 2 + 3)) z) (fun _ => by rw [show I 1000 2 = nI 0 from hA 2]; exact x_owner_in I T _ 3 0 1 (by decide) (by decide) (by decide) _ (fun _ => ⟨rfl, rfl⟩) (fun z => absurd (show (13 : Int32) = 0 from (hB (4 * 0 + 3)).symm.trans z) (by decide)))
  · rcases (show v = 0 ∨ v = 1 ∨ v = 2 ∨ v = 3 by omega) with rfl | rfl | rfl | rfl
    · exact x_owner_in I T _ 0 3 0 (by decide) (by decide) (by decide) _ (fun _ => ⟨rfl, rfl⟩) (fun z => absurd (show (40 : Int32) = 0 from (hB (4 * 3 + 0)).symm.trans z) (by decide))
    · exact x_owner_in I T _ 1 3 0 (by decide) (by decide) (by decide) _ (fun z => absurd (show I 1002 (4 * 3 + 1) = 0 from hB (4 * 3 + 1)) z) (fun _ => by rw [show I 1000 3 = nI 1 from hA 3]; exact x_owner_in I T _ 1 1 1 (by decide) (by decide) (by decide) _ (fun z => absurd (show I 1002 (4 * 1 + 1) = 0 from hB (4 * 1 + 1)) z) (fun _ => by rw [show I 1000 1 = nI 0 from hA 1]; exact x_owner_in I T _ 1 0 2 (by decide) (by decide) (by decide) _ (fun _ => ⟨rfl, rfl⟩) (fun z => absurd (show (11 : Int32) = 0 from (hB (4 * 0 + 1)).symm.trans z) (by decide))))
    · exact x_owner_in I T _ 2 3 0 (by decide) (by decide) (by decide) _ (fun _ => ⟨rfl, rfl⟩) (fun z => absurd (show (41 : Int32) = 0 from (hB (4 * 3 + 2)).symm.trans z) (by decide))
    · exact x_owner_in I T _ 3 3 0 (by decide) (by decide) (by decide) _ (fun z => absurd (show I 1002 (4 * 3 + 3) = 0 from hB (4 * 3 + 3)) z) (fun _ => by rw [show I 1000 3 = nI 1 from hA 3]; exact x_owner_in I T _ 3 1 1 (by decide) (by decide) (by decide) _ (fun _ => ⟨rfl, rfl⟩) (fun z => absurd (show (21 : Int32) = 0 from (hB (4 * 1 + 3)).symm.trans z) (by decide)))
  · rcases (show v = 0 ∨ v = 1 ∨ v = 2 ∨ v = 3 by omega) with rfl | rfl | rfl | rfl
    · exact x_owner_in I T _ 0 4 0 (by decide) (by decide) (by decide) _ (fun z => absurd (show I 1002 (4 * 4 + 0) = 0 from hB (4 * 4 + 0)) z) (fun _ => by rw [show I 1000 4 = nI 1 from hA 4]; exact x_owner_in I T _ 0 1 1 (by decide) (by decide) (by decide) _ (fun _ => ⟨rfl, rfl⟩) (fun z => absurd (show (20 : Int32) = 0 from (hB (4 * 1 + 0)).symm.trans z) (by decide)))
    · exact x_owner_in I T _ 1 4 0 (by decide) (by decide) (by decide) _ (fun z => absurd (show I 1002 (4 * 4 + 1) = 0 from hB (4 * 4 + 1)) z) (fun _ => by rw [show I 1000 4 = nI 1 from hA 4]; exact x_owner_in I T _ 1 1 1 (by decide) (by decide) (by decide) _ (fun z => absurd (show I 1002 (4 * 1 + 1) = 0 from hB (4 * 1 + 1)) z) (fun _ => by rw [show I 1000 1 = nI 0 from hA 1]; exact x_owner_in I T _ 1 0 2 (by decide) (by decide) (by decide) _ (fun _ => ⟨rfl, rfl⟩) (fun z => absurd (show (11 : Int32) = 0 from (hB (4 * 0 + 1)).symm.trans z) (by decide))))
    · exact x_owner_in I T _ 2 4 0 (by decide) (by decide) (by decide) _ (fun _ => ⟨rfl, rfl⟩) (fun z => absurd (show (50 : Int32) = 0 from (hB (4 * 4 + 2)).symm.trans z) (by decide))
    · exact x_owner_in I T _ 3 4 0 (by decide) (by decide) (by decide) _ (fun z => absurd (show I 1002 (4 * 4 + 3) = 0 from hB (4 * 4 + 3)) z) (fun _ => by rw [show I 1000 4 = nI 1 from hA 4]; exact x_owner_in I T _ 3 1 1 (by decide) (by decide) (by decide) _ (fun _ => ⟨rfl, rfl⟩) (fun z => absurd (show (21 : Int32) = 0 from (hB (4 * 1 + 3)).symm.trans z) (by decide)))
  · rcases (show v = 0 ∨ v = 1 ∨ v = 2 ∨ v = 3 by omega) with rfl | rfl | rfl | rfl
    · exact x_owner_in I T _ 0 5 0 (by decide) (by decide) (by decide) _ (fun z => absurd (show I 1002 (4 * 5 + 0) = 0 from hB (4 * 5 + 0)) z) (fun _ => by rw [show I 1000 5 = nI 2 from hA 5]; exact x_owner_in I T _ 0 2 1 (by decide) (by decide) (by decide) _ (fun z => absurd (show I 1002 (4 * 2 + 0) = 0 from hB (4 * 2 + 0)) z) (fun _ => by rw [show I 1000 2 = nI 0 from hA 2]; exact x_owner_in I T _ 0 0 2 (by decide) (by decide) (by decide) _ (fun _ => ⟨rfl, rfl⟩) (fun z => absurd (show (10 : Int32) = 0 from (hB (4 * 0 + 0)).symm.trans z) (by decide))))
    · exact x_owner_in I T _ 1 5 0 (by decide) (by decide) (by decide) _ (fun _ => ⟨rfl, rfl⟩) (fun z => absurd (show (60 : Int32) = 0 from (hB (4 * 5 + 1)).symm.trans z) (by decide))
    · exact x_owner_in I T _ 2 5 0 (by decide) (by decide) (by decide) _ (fun z => absurd (show I 1002 (4 * 5 + 2) = 0 from hB (4 * 5 + 2)) z) (fun _ => by rw [show I 1000 5 = nI 2 from hA 5]; exact x_owner_in I T _ 2 2 1 (by decide) (by decide) (by decide) _ (fun z => absurd (show I 1002 (4 * 2 + 2) = 0 from hB (4 * 2 + 2)) z) (fun _ => by rw [show I 1000 2 = nI 0 from hA 2]; exact x_owner_in I T _ 2 0 2 (by decide) (by decide) (by decide) _ (fun _ => ⟨rfl, rfl⟩) (fun z => absurd (show (12 : Int32) = 0 from (hB (4 * 0 + 2)).symm.trans z) (by decide))))
    · exact x_owner_in I T _ 3 5 0 (by decide) (by decide) (by decide) _ (fun z => absurd (show I 1002 (4 * 5 + 3) = 0 from hB (4 * 5 + 3)) z) (fun _ => by rw [show I 1000 5 = nI 2 from hA 5]; exact x_owner_in I T _ 3 2 1 (by decide) (by decide) (by decide) _ (fun z => absurd (show I 1002 (4 * 2 + 3) = 0 from hB (4 * 2 + 3)) z) (fun _ => by rw [show I 1000 2 = nI 0 from hA 2]; exact x_owner_in I T _ 3 0 2 (by decide) (by decide) (by decide) _ (fun _ => ⟨rfl, rfl⟩) (fun z => absurd (show (13 : Int32) = 0 from (hB (4 * 0 + 3)).symm.trans z) (by decide))))
  · rcases (show v = 0 ∨ v = 1 ∨ v = 2 ∨ v = 3 by omega) with rfl | rfl | rfl | rfl
    · exact x_owner_in I T _ 0 6 0 (by decide) (by decide) (by decide) _ (fun _ => ⟨rfl, rfl⟩) (fun z => absurd (show (70 : Int32) = 0 from (hB (4 * 6 + 0)).symm.trans z) (by decide))
    · exact x_owner_in I T _ 1 6 0 (by decide) (by decide) (by decide) _ (fun _ => ⟨rfl, rfl⟩) (fun z => absurd (show (71 : Int32) = 0 from (hB (4 * 6 + 1)).symm.trans z) (by decide))
    · exact x_owner_in I T _ 2 6 0 (by decide) (by decide) (by decide) _ (fun z => absurd (show I 1002 (4 * 6 + 2) = 0 from hB (4 * 6 + 2)) z) (fun _ => by rw [show I 1000 6 = nI 0 from hA 6]; exact x_owner_in I T _ 2 0 1 (by decide) (by decide) (by decide) _ (fun _ => ⟨rfl, rfl⟩) (fun z => absurd (show (12 : Int32) = 0 from (hB (4 * 0 + 2)).symm.trans z) (by decide)))
    · exact x_owner_in I T _ 3 6 0 (by decide) (by decide) (by decide) _ (fun z => absurd (show I 1002 (4 * 6 + 3) = 0 from hB (4 * 6 + 3)) z) (fun _ => by rw [show I 1000 6 = nI 0 from hA 6]; exact x_owner_in I T _ 3 0 1 (by decide) (by decide) (by decide) _ (fun _ => ⟨rfl, rfl⟩) (fun z => absurd (show (13 : Int32) = 0 from (hB (4 * 0 + 3)).symm.trans z) (by decide)))
theorem x_voBegin (I : AI) (T : AT) (c n : Nat) (hc : I 61 1 = nI c) (h30 : c < 30) : Ct 0 y_Voices_begin [.ref 61, .int (nI n)] (hp I T) (fun r h' => h' = hp (bgI I c n) T ∧ r = none) := by
  iterate 2 refine Go.step rfl ?_
  rw [hc]
  iterate 2 refine Go.step rfl ?_
  refine Go.ifn (nI_ge (a := c) (b := 30) h30 (by decide)) ?_
  iterate 4 refine Go.step rfl ?_
  rw [hc]
  refine Go.step rfl ?_
  refine Go.iast rfl rfl (am_in_nI h30 (by decide)) ?_
  rw [nI_clamp (by omega)]
  iterate 6 refine Go.step rfl ?_
  refine Go.ret rfl ⟨?_, rfl⟩
  rw [va_up_ne _ _ (show 61 ≠ 62 by decide), hc, nI_1]
  rfl
theorem x_say_pre (xs : Nat → Int32) (I : AI) (T : AT) (hC : XCon xs I) (q v nb : Nat) (c dep d : Nat) (x ab : Int32) (hq : q < 7) (hv : v < 4) (hnb : am_cI xs 2 (4 * ownN q v + v) = nI nb) (hab : am_cI xs 0 (ownN q v) = ab) (ho : ownN q v < 7) (hc : I 61 1 = nI c) (h30 : c < 30) (hdep : dep ≤ 40) (hd : 2 ≤ d) (Q : Option Value → AH → Prop) (K : Go d y_Voices_say 53 [some (.ref 61), some (.int (nI q)), some (.int (nI v)), some (.int x), some (.int (nI dep)), some (.int (nI (ownN q v))), some (.int (nI nb)), some (.int ab), some (.int (nI (dep + 1)))] [] (hp (bgI I c nb) T) Q) : Ct d y_Voices_say [.ref 61, .int (nI q), .int (nI v), .int x, .int (nI dep)] (hp I T) Q := by
  have hB : ∀ j, I 1002 j = am_cI xs 2 j := fun j => hC 2 j
  have hA : ∀ j, I 1000 j = am_cI xs 0 j := fun j => hC 0 j
  iterate 2 refine Go.step rfl ?_
  refine Go.cal (x_owner xs I T hC q v hq hv) (by omega) rfl ?_
  rintro _ _ ⟨rfl, rfl⟩
  iterate 3 refine Go.step rfl ?_
  refine Go.ifn (nI_pos (by omega)) ?_
  iterate 3 refine Go.step rfl ?_
  refine Go.ifp (nI_le (a := dep) (b := 40) hdep (by decide)) ?_
  iterate 4 refine Go.step rfl ?_
  rw [show nI (ownN q v) * 4 = nI (4 * ownN q v) by rw [show (4 : Int32) = nI 4 from rfl, nI_mul, Nat.mul_comm]]
  iterate 2 refine Go.step rfl ?_
  rw [nI_add]
  refine Go.cald rfl rfl (am_in_nI (show 4 * ownN q v + v < 28 by omega) (by decide)) ?_
  rw [nI_clamp (by omega), hB, hnb]
  iterate 3 refine Go.step rfl ?_
  refine Go.cal (x_voBegin I T c nb hc h30) (by omega) rfl ?_
  rintro _ _ ⟨rfl, rfl⟩
  iterate 2 refine Go.step rfl ?_
  refine Go.cald rfl rfl (am_in_nI ho (by decide)) ?_
  rw [nI_clamp (by omega), show bgI I c nb 1000 = I 1000 by unfold bgI; rw [va_up_ne _ _ (by decide), va_up_ne _ _ (by decide)], hA, hab]
  iterate 5 refine Go.step rfl ?_
  rw [show nI dep + 1 = nI (dep + 1) from nI_1 dep]
  exact K
/-- a voice's contract: from kind q, the bodies L begun, the answer f x -/
def XSay (xs : Nat → Int32) (K : Nat) (m k : Int32) (d q v B : Nat) (L : List Nat) (f : Int32 → Int32) : Prop := ∀ (I : AI) (T : AT) (c dep : Nat) (x : Int32), VC xs I K m k → I 61 1 = nI c → c + L.length ≤ 30 → dep ≤ B → Ct d y_Voices_say [.ref 61, .int (nI q), .int (nI v), .int x, .int (nI dep)] (hp I T) (fun r h' => h' = hp (trI I c L) T ∧ r = some (.int (f x)))
theorem XSay.up {xs : Nat → Int32} {K : Nat} {m k : Int32} {d d' q v B B' : Nat} {L : List Nat} {f : Int32 → Int32} (h : XSay xs K m k d q v B L f) (hd : d ≤ d') (hB : B' ≤ B) : XSay xs K m k d' q v B' L f :=
  fun I T c dep x h1 h2 h3 h4 => Go.up hd (h I T c dep x h1 h2 h3 (by omega))
theorem say_s0 (xs : Nat → Int32) (K : Nat) (m k : Int32) (q : Nat) (hq : q = 0 ∨ q = 2 ∨ q = 5) : XSay xs K m k 2 q 0 40 [10] (fun x => x + k) := by
  intro I T c dep x hV hc hL hdep
  have hb := hV.bg c 10
  have hL' : c + 1 ≤ 30 := hL
  rcases hq with rfl | rfl | rfl
  all_goals
    refine x_say_pre xs I T hV.1 _ 0 10 c dep 2 x (-1) (by decide) (by decide) rfl rfl (by decide) hc (by omega) hdep (by decide) _ ?_
    iterate 2 refine Go.step rfl ?_
    iterate 3 refine Go.step rfl ?_
    rw [hb.1.2.2.2]
    refine Go.step rfl ?_
    exact Go.ret rfl ⟨rfl, rfl⟩
theorem say_s1 (xs : Nat → Int32) (K : Nat) (m k : Int32) (q : Nat) (hq : q = 1 ∨ q = 4) : XSay xs K m k 3 q 0 39 [20, 10] (fun x => x + k - 3) := by
  intro I T c dep x hV hc hL hdep
  have hb := hV.bg c 20
  have hL' : c + 2 ≤ 30 := hL
  rcases hq with rfl | rfl
  all_goals
    refine x_say_pre xs I T hV.1 _ 0 20 c dep 3 x (nI 0) (by decide) (by decide) rfl rfl (by decide) hc (by omega) (by omega) (by decide) _ ?_
    iterate 2 refine Go.step rfl ?_
    iterate 5 refine Go.step rfl ?_
    refine Go.cal (say_s0 xs K m k 0 (Or.inl rfl) (bgI I c 20) T (c + 1) (dep + 1) x hb.1 hb.2 (by show c + 1 + 1 ≤ 30; omega) (by omega)) (by decide) rfl ?_
    rintro _ _ ⟨rfl, rfl⟩
    iterate 2 refine Go.step rfl ?_
    exact Go.ret rfl ⟨rfl, rfl⟩
theorem say_s3 (xs : Nat → Int32) (K : Nat) (m k : Int32) : XSay xs K m k 4 3 0 38 [40, 20, 10] (fun x => (x + k - 3) * 3) := by
  intro I T c dep x hV hc hL hdep
  have hb := hV.bg c 40
  have hL' : c + 3 ≤ 30 := hL
  refine x_say_pre xs I T hV.1 3 0 40 c dep 4 x (nI 1) (by decide) (by decide) rfl rfl (by decide) hc (by omega) (by omega) (by decide) _ ?_
  iterate 2 refine Go.step rfl ?_
  iterate 5 refine Go.step rfl ?_
  refine Go.cal (say_s1 xs K m k 1 (Or.inl rfl) (bgI I c 40) T (c + 1) (dep + 1) x hb.1 hb.2 (by show c + 1 + 2 ≤ 30; omega) (by omega)) (by decide) rfl ?_
  rintro _ _ ⟨rfl, rfl⟩
  iterate 2 refine Go.step rfl ?_
  exact Go.ret rfl ⟨rfl, rfl⟩
theorem say_s6 (xs : Nat → Int32) (K : Nat) (m k : Int32) : XSay xs K m k 2 6 0 40 [70] (fun _ => 5) := by
  intro I T c dep x hV hc hL hdep
  have hL' : c + 1 ≤ 30 := hL
  refine x_say_pre xs I T hV.1 6 0 70 c dep 2 x (nI 0) (by decide) (by decide) rfl rfl (by decide) hc (by omega) hdep (by decide) _ ?_
  iterate 2 refine Go.step rfl ?_
  refine Go.step rfl ?_
  exact Go.ret rfl ⟨rfl, rfl⟩
theorem say_s (xs : Nat → Int32) (K : Nat) (m k : Int32) (q : Nat) (hq : q < 7) : XSay xs K m k 4 q 0 38 (svt q) (svl k q) := by
  rcases (show q = 0 ∨ q = 1 ∨ q = 2 ∨ q = 3 ∨ q = 4 ∨ q = 5 ∨ q = 6 by omega) with rfl | rfl | rfl | rfl | rfl | rfl | rfl
  · exact (say_s0 xs K m k 0 (by decide)).up (by decide) (by decide)
  · exact (say_s1 xs K m k 1 (by decide)).up (by decide) (by decide)
  · exact (say_s0 xs K m k 2 (by decide)).up (by decide) (by decide)
  · exact say_s3 xs K m k
  · exact (say_s1 xs K m k 4 (by decide)).up (by decide) (by decide)
  · exact (say_s0 xs K m k 5 (by decide)).up (by decide) (by decide)
  · exact (say_s6 xs K m k).up (by decide) (by decide)
theorem say_t0 (xs : Nat → Int32) (K : Nat) (hK : K < 7) (m k : Int32) (q : Nat) (hq : q = 0 ∨ q = 1 ∨ q = 3 ∨ q = 4) : XSay xs K m k 5 q 1 37 (tt0 K) (tv0 K k) := by
  intro I T c dep x hV hc hL hdep
  have hb := hV.bg c 11
  have hL' : c + ((svt K).length + 1) ≤ 30 := hL
  rcases hq with rfl | rfl | rfl | rfl
  all_goals
    refine x_say_pre xs I T hV.1 _ 1 11 c dep 5 x (-1) (by decide) (by decide) rfl rfl (by decide) hc (by omega) (by omega) (by decide) _ ?_
    iterate 2 refine Go.step rfl ?_
    iterate 3 refine Go.step rfl ?_
    rw [hb.1.2.1]
    iterate 3 refine Go.step rfl ?_
    refine Go.cal (say_s xs K m k K hK (bgI I c 11) T (c + 1) (dep + 1) x hb.1 hb.2 (by omega) (by omega)) (by decide) rfl ?_
    rintro _ _ ⟨rfl, rfl⟩
    iterate 2 refine Go.step rfl ?_
    exact Go.ret rfl ⟨rfl, rfl⟩
theorem say_t2 (xs : Nat → Int32) (K : Nat) (hK : K < 7) (m k : Int32) : XSay xs K m k 6 2 1 36 (30 :: tt0 K) (fun x => 0 - tv0 K k x) := by
  intro I T c dep x hV hc hL hdep
  have hb := hV.bg c 30
  have hL' : c + ((tt0 K).length + 1) ≤ 30 := hL
  refine x_say_pre xs I T hV.1 2 1 30 c dep 6 x (nI 0) (by decide) (by decide) rfl rfl (by decide) hc (by omega) (by omega) (by decide) _ ?_
  iterate 2 refine Go.step rfl ?_
  iterate 6 refine Go.step rfl ?_
  refine Go.cal (say_t0 xs K hK m k 0 (by decide) (bgI I c 30) T (c + 1) (dep + 1) x hb.1 hb.2 (by omega) (by omega)) (by decide) rfl ?_
  rintro _ _ ⟨rfl, rfl⟩
  refine Go.step rfl ?_
  exact Go.ret rfl ⟨rfl, rfl⟩
theorem say_t5 (xs : Nat → Int32) (K : Nat) (hK : K < 7) (m k : Int32) : XSay xs K m k 7 5 1 35 (60 :: 30 :: tt0 K) (fun x => 0 - tv0 K k (x + 1)) := by
  intro I T c dep x hV hc hL hdep
  have hb := hV.bg c 60
  have hL' : c + ((tt0 K).length + 1 + 1) ≤ 30 := hL
  refine x_say_pre xs I T hV.1 5 1 60 c dep 7 x (nI 2) (by decide) (by decide) rfl rfl (by decide) hc (by omega) (by omega) (by decide) _ ?_
  iterate 2 refine Go.step rfl ?_
  iterate 7 refine Go.step rfl ?_
  refine Go.cal (say_t2 xs K hK m k (bgI I c 60) T (c + 1) (dep + 1) (x + 1) hb.1 hb.2 (by show c + 1 + ((tt0 K).length + 1) ≤ 30; omega) (by omega)) (by decide) rfl ?_
  rintro _ _ ⟨rfl, rfl⟩
  exact Go.ret rfl ⟨rfl, rfl⟩
theorem say_t6 (xs : Nat → Int32) (K : Nat) (hK : K < 7) (m k : Int32) : XSay xs K m k 6 6 1 36 (71 :: tt0 K) (fun x => tv0 K k x + m) := by
  intro I T c dep x hV hc hL hdep
  have hb := hV.bg c 71
  have hL' : c + ((tt0 K).length + 1) ≤ 30 := hL
  have ht := VC.tr (tt0 K) (c + 1) hb.1 hb.2
  refine x_say_pre xs I T hV.1 6 1 71 c dep 6 x (nI 0) (by decide) (by decide) rfl rfl (by decide) hc (by omega) (by omega) (by decide) _ ?_
  iterate 2 refine Go.step rfl ?_
  iterate 5 refine Go.step rfl ?_
  refine Go.cal (say_t0 xs K hK m k 0 (by decide) (bgI I c 71) T (c + 1) (dep + 1) x hb.1 hb.2 (by omega) (by omega)) (by decide) rfl ?_
  rintro _ _ ⟨rfl, rfl⟩
  iterate 2 refine Go.step rfl ?_
  rw [ht.1.2.2.1]
  refine Go.step rfl ?_
  exact Go.ret rfl ⟨rfl, rfl⟩
theorem say_t (xs : Nat → Int32) (K : Nat) (hK : K < 7) (m k : Int32) (q : Nat) (hq : q < 7) : XSay xs K m k 7 q 1 35 (ttl K q) (tvl K m k q) := by
  rcases (show q = 0 ∨ q = 1 ∨ q = 2 ∨ q = 3 ∨ q = 4 ∨ q = 5 ∨ q = 6 by omega) with rfl | rfl | rfl | rfl | rfl | rfl | rfl
  · exact (say_t0 xs K hK m k 0 (by decide)).up (by decide) (by decide)
  · exact (say_t0 xs K hK m k 1 (by decide)).up (by decide) (by decide)
  · exact (say_t2 xs K hK m k).up (by decide) (by decide)
  · exact (say_t0 xs K hK m k 3 (by decide)).up (by decide) (by decide)
  · exact (say_t0 xs K hK m k 4 (by decide)).up (by decide) (by decide)
  · exact say_t5 xs K hK m k
  · exact (say_t6 xs K hK m k).up (by decide) (by decide)
theorem say_o0 (xs : Nat → Int32) (K : Nat) (hK : K < 7) (m k : Int32) (q : Nat) (hq : q = 0 ∨ q = 1 ∨ q = 2 ∨ q = 5 ∨ q = 6) : XSay xs K m k 8 q 2 34 (ot0 K) (ov0 K m k) := by
  intro I T c dep x hV hc hL hdep
  have hb := hV.bg c 12
  have hL' : c + ((ttl K K).length + 1) ≤ 30 := hL
  have ht := VC.tr (ttl K K) (c + 1) hb.1 hb.2
  rcases hq with rfl | rfl | rfl | rfl | rfl
  all_goals
    refine x_say_pre xs I T hV.1 _ 2 12 c dep 8 x (-1) (by decide) (by decide) rfl rfl (by decide) hc (by omega) (by omega) (by decide) _ ?_
    iterate 2 refine Go.step rfl ?_
    iterate 3 refine Go.step rfl ?_
    rw [hb.1.2.1]
    iterate 3 refine Go.step rfl ?_
    refine Go.cal (say_t xs K hK m k K hK (bgI I c 12) T (c + 1) (dep + 1) x hb.1 hb.2 (by omega) (by omega)) (by decide) rfl ?_
    rintro _ _ ⟨rfl, rfl⟩
    iterate 2 refine Go.step rfl ?_
    rw [ht.1.2.2.1]
    refine Go.step rfl ?_
    exact Go.ret rfl ⟨rfl, rfl⟩
theorem say_o3 (xs : Nat → Int32) (K : Nat) (hK : K < 7) (m k : Int32) : XSay xs K m k 9 3 2 33 (41 :: ot0 K) (fun x => ov0 K m k x ^^^ k) := by
  intro I T c dep x hV hc hL hdep
  have hb := hV.bg c 41
  have hL' : c + ((ot0 K).length + 1) ≤ 30 := hL
  have ht := VC.tr (ot0 K) (c + 1) hb.1 hb.2
  refine x_say_pre xs I T hV.1 3 2 41 c dep 9 x (nI 1) (by decide) (by decide) rfl rfl (by decide) hc (by omega) (by omega) (by decide) _ ?_
  iterate 2 refine Go.step rfl ?_
  iterate 5 refine Go.step rfl ?_
  refine Go.cal (say_o0 xs K hK m k 1 (by decide) (bgI I c 41) T (c + 1) (dep + 1) x hb.1 hb.2 (by omega) (by omega)) (by decide) rfl ?_
  rintro _ _ ⟨rfl, rfl⟩
  iterate 2 refine Go.step rfl ?_
  rw [ht.1.2.2.2]
  refine Go.step rfl ?_
  exact Go.ret rfl ⟨rfl, rfl⟩
theorem say_o4 (xs : Nat → Int32) (K : Nat) (hK : K < 7) (m k : Int32) : XSay xs K m k 9 4 2 33 (50 :: ot0 K) (fun x => ov0 K m k (x / 2)) := by
  intro I T c dep x hV hc hL hdep
  have hb := hV.bg c 50
  have hL' : c + ((ot0 K).length + 1) ≤ 30 := hL
  refine x_say_pre xs I T hV.1 4 2 50 c dep 9 x (nI 1) (by decide) (by decide) rfl rfl (by decide) hc (by omega) (by omega) (by decide) _ ?_
  iterate 2 refine Go.step rfl ?_
  iterate 7 refine Go.step rfl ?_
  refine Go.cal (say_o0 xs K hK m k 1 (by decide) (bgI I c 50) T (c + 1) (dep + 1) (x / 2) hb.1 hb.2 (by omega) (by omega)) (by decide) rfl ?_
  rintro _ _ ⟨rfl, rfl⟩
  exact Go.ret rfl ⟨rfl, rfl⟩
theorem say_o (xs : Nat → Int32) (K : Nat) (hK : K < 7) (m k : Int32) (q : Nat) (hq : q < 7) : XSay xs K m k 9 q 2 33 (otl K q) (ovl K m k q) := by
  rcases (show q = 0 ∨ q = 1 ∨ q = 2 ∨ q = 3 ∨ q = 4 ∨ q = 5 ∨ q = 6 by omega) with rfl | rfl | rfl | rfl | rfl | rfl | rfl
  · exact (say_o0 xs K hK m k 0 (by decide)).up (by decide) (by decide)
  · exact (say_o0 xs K hK m k 1 (by decide)).up (by decide) (by decide)
  · exact (say_o0 xs K hK m k 2 (by decide)).up (by decide) (by decide)
  · exact say_o3 xs K hK m k
  · exact say_o4 xs K hK m k
  · exact (say_o0 xs K hK m k 5 (by decide)).up (by decide) (by decide)
  · exact (say_o0 xs K hK m k 6 (by decide)).up (by decide) (by decide)
