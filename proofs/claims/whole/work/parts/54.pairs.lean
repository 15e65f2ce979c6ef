/-! PAIRS: what of the reference's cells counts, the hours' bound, and how a pair of contracts gives a pair of answers -/
def JE (J J' : AI) : Prop := J 73 3 = J' 73 3 ∧ J 73 18 = J' 73 18 ∧ J 74 = J' 74 ∧ J 75 = J' 75 ∧ J 77 = J' 77 ∧ J 86 = J' 86 ∧ J 87 = J' 87 ∧ J 88 = J' 88 ∧ J 89 = J' 89
theorem JE.rf (J : AI) : JE J J := ⟨rfl, rfl, rfl, rfl, rfl, rfl, rfl, rfl, rfl⟩
theorem JE.tr {J J' J2 : AI} (h : JE J J') (h2 : JE J' J2) : JE J J2 := by
  obtain ⟨e1, e2, e3, e4, e5, e6, e7, e8, e9⟩ := h
  obtain ⟨f1, f2, f3, f4, f5, f6, f7, f8, f9⟩ := h2
  exact ⟨e1.trans f1, e2.trans f2, e3.trans f3, e4.trans f4, e5.trans f5, e6.trans f6, e7.trans f7, e8.trans f8, e9.trans f9⟩
theorem JE.of {J J' : AI} (h : ∀ a, 73 ≤ a → a ≤ 90 → J a = J' a) : JE J J' :=
  ⟨by rw [h 73 (by decide) (by decide)], by rw [h 73 (by decide) (by decide)], h _ (by decide) (by decide), h _ (by decide) (by decide), h _ (by decide) (by decide), h _ (by decide) (by decide), h _ (by decide) (by decide), h _ (by decide) (by decide), h _ (by decide) (by decide)⟩
theorem JE.er1 {J J' : AI} (h : JE J J') (k : Nat) : JE (er J k) (er J' k) := by
  obtain ⟨e1, e2, e3, e4, e5, e6, e7, e8, e9⟩ := h
  have q : ∀ (J : AI) a, a ≠ 77 → er J k a = J a := fun J a ha => va_up_ne _ _ ha
  refine ⟨by rw [q _ _ (by decide), q _ _ (by decide)]; exact e1, by rw [q _ _ (by decide), q _ _ (by decide)]; exact e2, by rw [q _ _ (by decide), q _ _ (by decide)]; exact e3, by rw [q _ _ (by decide), q _ _ (by decide)]; exact e4, ?_, by rw [q _ _ (by decide), q _ _ (by decide)]; exact e6, by rw [q _ _ (by decide), q _ _ (by decide)]; exact e7, by rw [q _ _ (by decide), q _ _ (by decide)]; exact e8, by rw [q _ _ (by decide), q _ _ (by decide)]; exact e9⟩
  unfold er
  rw [vu_same, vu_same, e5]
theorem JE.sps1 {J J' : AI} (h : JE J J') (s : Nat → Int32) : JE (sps J s) (sps J' s) := by
  obtain ⟨e1, e2, e3, e4, e5, e6, e7, e8, e9⟩ := h
  have q : ∀ (J : AI) a, a ≠ 74 → sps J s a = J a := fun J a ha => va_up_ne _ _ ha
  refine ⟨by rw [q _ _ (by decide), q _ _ (by decide)]; exact e1, by rw [q _ _ (by decide), q _ _ (by decide)]; exact e2, ?_, by rw [q _ _ (by decide), q _ _ (by decide)]; exact e4, by rw [q _ _ (by decide), q _ _ (by decide)]; exact e5, by rw [q _ _ (by decide), q _ _ (by decide)]; exact e6, by rw [q _ _ (by decide), q _ _ (by decide)]; exact e7, by rw [q _ _ (by decide), q _ _ (by decide)]; exact e8, by rw [q _ _ (by decide), q _ _ (by decide)]; exact e9⟩
  unfold sps
  rw [vu_same, vu_same]
theorem XG.congrJ {xs : Nat → Int32} {I : AI} {T : AT} {J J' : AI} (h : XG xs I T J) (e : JE J J') : XG xs I T J' := by
  obtain ⟨e1, e2, e3, e4, e5, e6, e7, e8, e9⟩ := e
  unfold XG XSht XVoi at h ⊢
  rw [← e1, ← e2, ← e3, ← e4, ← e5, ← e6, ← e7, ← e8, ← e9]
  exact h
theorem XG.congrI {xs : Nat → Int32} {I I' : AI} {T : AT} {J : AI} (h : XG xs I T J) (hI : ∀ a, a < 73 ∨ 90 < a → I' a = I a) : XG xs I' T J := by
  obtain ⟨h1, h2, h3, h4, h5, h6, h7, h8, h9⟩ := h
  exact ⟨h1, h2.kept (fun a ha => hI a (by omega)), h3.kept (fun a g1 g2 => hI a (by omega)), fun q => ⟨(h4 q).1, (h4 q).2.1.kept (fun a ha => hI a (by omega)), (h4 q).2.2.kept (fun a g1 g2 => hI a (by omega))⟩, by rw [hI 0 (by omega)]; exact h5, fun k g1 g2 => by rw [hI 64 (by omega)]; exact h6 k g1 g2, h7.kept (fun a g1 g2 => hI a (by omega)) (fun _ _ _ => rfl), h8.kept (fun a g1 g2 => hI a (by omega)) rfl rfl, fun c j => by rw [hI _ (by omega)]; exact h9 c j⟩
/-- the tape has bytes -/
def TB (s : Nat → Int32) : Prop := ∀ j, j < 60 → rg (s (372 + j)) 255
theorem TB.congr {s s' : Nat → Int32} (h : TB s) (e : ∀ j, j < 60 → s' (372 + j) = s (372 + j)) : TB s' := fun j hj => by rw [e j hj]; exact h j hj
def HB (J : AI) : Prop := rg (J 74 1) 9999 ∧ (J 73 3 ≠ 0 → rg (J 75 1) 9999 ∧ TB (J 75)) ∧ TB (J 74)
theorem HB.congr {J J' : AI} (h : HB J) (e : JE J J') : HB J' := by
  obtain ⟨e1, e2, e3, e4, e5, e6, e7, e8, e9⟩ := e
  unfold HB at h ⊢
  rw [← e1, ← e3, ← e4]; exact h
theorem HB.er1 {J : AI} (h : HB J) (k : Nat) : HB (er J k) := by
  have q : ∀ a, a ≠ 77 → er J k a = J a := fun a ha => va_up_ne _ _ ha
  unfold HB
  rw [q 74 (by decide), q 73 (by decide), q 75 (by decide)]; exact h
theorem HB.sps1 {J : AI} (h : HB J) {s : Nat → Int32} (hs : s 1 = J 74 1) (ht : ∀ j, j < 60 → s (372 + j) = J 74 (372 + j)) : HB (sps J s) := by
  have q : ∀ a, a ≠ 74 → sps J s a = J a := fun a ha => va_up_ne _ _ ha
  unfold HB
  rw [q 73 (by decide), q 75 (by decide)]
  unfold sps
  rw [vu_same, hs]; exact ⟨h.1, h.2.1, h.2.2.congr ht⟩
theorem HB.spsB {J : AI} (h : HB J) {s : Nat → Int32} (hs : rg (s 1) 9999) (ht : TB s) : HB (sps J s) := by
  have q : ∀ a, a ≠ 74 → sps J s a = J a := fun a ha => va_up_ne _ _ ha
  unfold HB
  rw [q 73 (by decide), q 75 (by decide)]
  unfold sps
  rw [vu_same]; exact ⟨hs, h.2.1, ht⟩
def XG2 (xs : Nat → Int32) (I : AI) (T : AT) (J : AI) : Prop := XG xs I T J ∧ HB J
def mp (I : AI) : AI := fun a => if 73 ≤ a ∧ a ≤ 90 then I a else fun _ => 0
theorem mp_at (I : AI) {a : Nat} (h1 : 73 ≤ a) (h2 : a ≤ 90) : mp I a = I a := if_pos ⟨h1, h2⟩
def TTc (T : AT) (L c : Nat) : Prop := T.2.2.2.2.2.2 = L ∧ T.2.2.2.2.1 ≤ 91 + 2 * c ∧ T.2.2.2.2.2.1 ≤ 10000 + 100 * c ∧ 91 ≤ T.2.2.2.2.1 ∧ ∀ a, T.2.2.2.2.1 ≤ a → a < 1000 → (T.2.2.2.1 a).1 = 99
theorem TTc.up {T : AT} {L c : Nat} (h : TTc T L c) : TTc T L (c + 1) := ⟨h.1, by have := h.2.1; omega, by have := h.2.2.1; omega, h.2.2.2.1, h.2.2.2.2⟩
/-- what a pair of methods owes at given arguments: the class answers v, then the reference v too, and the relation holds again -/
def OpOK (yx ym : Nat) (args : List Value) : Prop := ∀ (L : Nat) (xs : Nat → Int32) (I : AI) (T : AT) (c : Nat), XG2 xs I T (mp I) → TTc T L c → c < 64 → Ct 200 yx (.ref 0 :: args) (hp I T) (fun r h1 => ∃ (I1 : AI) (T1 : AT) (v : Int32), h1 = hp I1 T1 ∧ r = some (.int v) ∧ TTc T1 L (c + 1) ∧ XCon xs I1 ∧ Ct 200 ym (.ref 73 :: args) (hp I1 T1) (fun r2 h2 => ∃ I2, h2 = hp I2 T1 ∧ r2 = some (.int v) ∧ XG2 xs I2 T1 (mp I2)))
/-- the class's end, with what texts it has made -/
def XQ (xs : Nat → Int32) (I : AI) (T : AT) (L c : Nat) (o : AI × Int32) : Option Value → AH → Prop := fun r h' => ∃ I' T', h' = hp I' T' ∧ (∀ a, 73 ≤ a → a ≤ 90 → I' a = I a) ∧ XG xs I' T' o.1 ∧ TTc T' L (c + 1) ∧ r = some (.int o.2)
def MQ2 (I : AI) (T : AT) (o : AI × Int32) : Option Value → AH → Prop := fun r h' => ∃ I2, h' = hp I2 T ∧ (∀ a, a < 73 ∨ 90 < a → I2 a = I a) ∧ JE o.1 I2 ∧ r = some (.int o.2)
def SpC (sp : AI → AI × Int32) : Prop := ∀ J J', JE J J' → JE (sp J).1 (sp J').1 ∧ (sp J).2 = (sp J').2
def SpH (sp : AI → AI × Int32) : Prop := ∀ xs I T J, XG2 xs I T J → HB (sp J).1
theorem op_of {yx ym : Nat} {args : List Value} {sp : AI → AI × Int32} (hx : ∀ xs I T J L c, XG2 xs I T J → TTc T L c → c < 64 → Ct 200 yx (.ref 0 :: args) (hp I T) (XQ xs I T L c (sp J))) (hm : ∀ xs I0 T0 I T, XG2 xs I0 T0 I → Ct 200 ym (.ref 73 :: args) (hp I T) (MQ2 I T (sp I))) (hC : SpC sp) (hH : SpH sp) : OpOK yx ym args := by
  intro L xs I T c hG hT hc
  refine Go.mono (hx xs I T (mp I) L c hG hT hc) ?_
  rintro r h1 ⟨I', T', rfl, hsame, hX, hTT, rfl⟩
  have hje : JE (mp I) I' := JE.of (fun a h1 h2 => by rw [mp_at I h1 h2, hsame a h1 h2])
  have hq := hC (mp I) I' hje
  refine ⟨I', T', (sp (mp I)).2, rfl, rfl, hTT, hX.2.2.2.2.2.2.2.2, ?_⟩
  refine Go.mono (hm xs I T I' T' ⟨hG.1.congrJ hje, hG.2.congr hje⟩) ?_
  rintro r2 h2 ⟨I2, rfl, hout, hJ, rfl⟩
  have hj2 : JE (sp (mp I)).1 (mp I2) := (hq.1.tr hJ).tr (JE.of (fun a h1 h2 => (mp_at I2 h1 h2).symm))
  exact ⟨I2, rfl, by rw [hq.2], (hX.congrJ hj2).congrI hout, (hH xs I T (mp I) hG).congr hj2⟩
theorem XP.q {xs : Nat → Int32} {I : AI} {T : AT} {o : AI × Int32} {L c : Nat} {r : Option Value} {h' : AH} (h : XP xs I T o r h') (hT : TTc T L c) : XQ xs I T L c o r h' := by
  obtain ⟨I', h1, h2, h3, h4⟩ := h
  exact ⟨I', T, h1, h2, h3, hT.up, h4⟩
theorem MP.q {I : AI} {T : AT} {o : AI × Int32} {r : Option Value} {h' : AH} (h : MP I T o r h') (ho : ∀ a, a < 73 ∨ 90 < a → o.1 a = I a) : MQ2 I T o r h' :=
  ⟨o.1, h.1, ho, JE.rf _, h.2⟩
/-- a pair whose contracts stand as they were first written -/
theorem op_old {yx ym : Nat} {args : List Value} {sp : AI → AI × Int32} {dx dm : Nat} (hx : ∀ xs I T J, XG xs I T J → Ct dx yx (.ref 0 :: args) (hp I T) (XP xs I T (sp J))) (hm : ∀ xs I0 T0 I T, XG xs I0 T0 I → Ct dm ym (.ref 73 :: args) (hp I T) (MP I T (sp I))) (hdx : dx ≤ 200) (hdm : dm ≤ 200) (ho : ∀ J a, a < 73 ∨ 90 < a → (sp J).1 a = J a) (hC : SpC sp) (hH : SpH sp) : OpOK yx ym args :=
  op_of (fun xs I T J L c hG hT _ => Go.up hdx (Go.mono (hx xs I T J hG.1) (fun r h' h => h.q hT))) (fun xs I0 T0 I T hG => Go.up hdm (Go.mono (hm xs I0 T0 I T hG.1) (fun r h' h => h.q (fun a ha => ho I a ha)))) hC hH
theorem er_out (J : AI) (k : Nat) {a : Nat} (h : a < 73 ∨ 90 < a) : er J k a = J a := va_up_ne _ _ (by omega)
theorem sps_out (J : AI) (s : Nat → Int32) {a : Nat} (h : a < 73 ∨ 90 < a) : sps J s a = J a := va_up_ne _ _ (by omega)
/-- answers of the form 'b: the row s', v; else the error k' -/
theorem SpC.bif {c : AI → Bool} {s' : AI → Nat → Int32} {v : AI → Int32} {k : Nat} (h : ∀ J J', JE J J' → c J = c J' ∧ s' J = s' J' ∧ v J = v J') : SpC (fun J => bif c J then (sps J (s' J), v J) else (er J k, LO k)) := by
  intro J J' e
  obtain ⟨h1, h2, h3⟩ := h J J' e
  simp only [h1]
  cases c J' with
  | true => simp only [cond_true]; rw [h2, h3]; exact ⟨e.sps1 _, rfl⟩
  | false => exact ⟨e.er1 k, rfl⟩
theorem SpC.bif2 {c : AI → Bool} {f g : AI → AI × Int32} (h : ∀ J J', JE J J' → c J = c J') (hf : SpC f) (hg : SpC g) : SpC (fun J => bif c J then f J else g J) := by
  intro J J' e
  have h1 := h J J' e
  simp only [h1]
  cases c J' with
  | true => exact hf J J' e
  | false => exact hg J J' e
theorem SpC.ite2 {c : AI → Prop} [∀ J, Decidable (c J)] {f g : AI → AI × Int32} (h : ∀ J J', JE J J' → (c J ↔ c J')) (hf : SpC f) (hg : SpC g) : SpC (fun J => if c J then f J else g J) := by
  intro J J' e
  have h1 := h J J' e
  by_cases q : c J
  · have q' := h1.mp q
    simp only [q, q', if_true]; exact hf J J' e
  · have q' : ¬ c J' := fun z => q (h1.mpr z)
    simp only [q, q', if_false]; exact hg J J' e
theorem SpC.err (k : Nat) : SpC (fun J => (er J k, LO k)) := fun _ _ e => ⟨e.er1 k, rfl⟩
theorem SpC.row {s' : AI → Nat → Int32} {v : AI → Int32} (h : ∀ J J', JE J J' → s' J = s' J' ∧ v J = v J') : SpC (fun J => (sps J (s' J), v J)) := fun J J' e => by
  obtain ⟨h2, h3⟩ := h J J' e
  simp only [h2, h3]; exact ⟨e.sps1 _, trivial⟩
theorem SpC.ans {v : AI → Int32} (h : ∀ J J', JE J J' → v J = v J') : SpC (fun J => (J, v J)) := fun J J' e => ⟨e, h J J' e⟩
theorem SpH.bif2 {c : AI → Bool} {f g : AI → AI × Int32} (hf : SpH f) (hg : SpH g) : SpH (fun J => bif c J then f J else g J) := by
  intro xs I T J h
  show HB (bif c J then f J else g J).1
  cases c J with
  | true => exact hf xs I T J h
  | false => exact hg xs I T J h
theorem SpH.ite2 {c : AI → Prop} [∀ J, Decidable (c J)] {f g : AI → AI × Int32} (hf : SpH f) (hg : SpH g) : SpH (fun J => if c J then f J else g J) := by
  intro xs I T J h
  show HB (if c J then f J else g J).1
  split
  · exact hf xs I T J h
  · exact hg xs I T J h
theorem SpH.err (k : Nat) : SpH (fun J => (er J k, LO k)) := fun _ _ _ _ h => h.2.er1 k
theorem SpH.ans {v : AI → Int32} : SpH (fun J => (J, v J)) := fun _ _ _ _ h => h.2
theorem SpH.row {s' : AI → Nat → Int32} {v : AI → Int32} (h : ∀ J, s' J 1 = J 74 1) (ht : ∀ J j, j < 60 → s' J (372 + j) = J 74 (372 + j)) : SpH (fun J => (sps J (s' J), v J)) := fun _ _ _ J hG => hG.2.sps1 (h J) (ht J)
theorem SpH.bifc {c : AI → Bool} {f g : AI → AI × Int32} (hf : ∀ xs I T J, XG2 xs I T J → c J = true → HB (f J).1) (hg : SpH g) : SpH (fun J => bif c J then f J else g J) := by
  intro xs I T J h
  show HB (bif c J then f J else g J).1
  cases q : c J with
  | true => exact hf xs I T J h q
  | false => exact hg xs I T J h
theorem cl_win {v : Int32} {N : Nat} (hN : N < 2 ^ 31) (h : win v 0 (nI N) = true) : v.toNatClampNeg ≤ N := by
  obtain ⟨j, hj, rfl⟩ := nI_of_win hN h
  rw [nI_clamp (by omega)]; exact hj
def SpO (sp : AI → AI × Int32) : Prop := ∀ J a, a < 73 ∨ 90 < a → (sp J).1 a = J a
theorem SpO.bif2 {c : AI → Bool} {f g : AI → AI × Int32} (hf : SpO f) (hg : SpO g) : SpO (fun J => bif c J then f J else g J) := by
  intro J a h
  show (bif c J then f J else g J).1 a = _
  cases c J with
  | true => exact hf J a h
  | false => exact hg J a h
theorem SpO.ite2 {c : AI → Prop} [∀ J, Decidable (c J)] {f g : AI → AI × Int32} (hf : SpO f) (hg : SpO g) : SpO (fun J => if c J then f J else g J) := by
  intro J a h
  show (if c J then f J else g J).1 a = _
  split
  · exact hf J a h
  · exact hg J a h
theorem SpO.err (k : Nat) : SpO (fun J => (er J k, LO k)) := fun J _ h => er_out J k h
theorem SpO.ans {v : AI → Int32} : SpO (fun J => (J, v J)) := fun _ _ _ => rfl
theorem SpO.row {s' : AI → Nat → Int32} {v : AI → Int32} : SpO (fun J => (sps J (s' J), v J)) := fun J _ h => sps_out J _ h
