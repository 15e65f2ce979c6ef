/-! THE RELATION between the class's cells (0 .. 72, texts) and the reference's (73 .. 90) -/
def cl (x : Int32) : Nat := x.toNatClampNeg
/-- x is a number from 0 to N -/
def rg (x : Int32) (N : Nat) : Prop := ∃ k, k ≤ N ∧ x = nI k
theorem rg.eq {x : Int32} {N : Nat} (h : rg x N) (hN : N < 2 ^ 31) : x = nI (cl x) ∧ cl x ≤ N := by
  obtain ⟨k, hk, rfl⟩ := h
  unfold cl
  rw [nI_clamp (by omega)]
  exact ⟨rfl, hk⟩
theorem rg_of_win {x : Int32} {N : Nat} (hN : N < 2 ^ 31) (h : win x 0 (nI N) = true) : rg x N := nI_of_win hN h
theorem rg_nI {k N : Nat} (h : k ≤ N) : rg (nI k) N := ⟨k, h, rfl⟩
def bOK (s : Nat → Int32) (b : Nat) : Prop := rg (s (58 + 8 * b)) 6 ∧ rg (s (58 + 8 * b + 1)) 9 ∧ rg (s (58 + 8 * b + 2)) 23 ∧ rg (s (58 + 8 * b + 3)) 3 ∧ rg (s (58 + 8 * b + 4)) 99 ∧ ((-999999 : Int32) ≤ s (58 + 8 * b + 5) ∧ s (58 + 8 * b + 5) ≤ 999999) ∧ rg (s (58 + 8 * b + 6)) 999999 ∧ rg (s (58 + 8 * b + 7)) 1
/-- what the row s may hold -/
def sOK (s : Nat → Int32) : Prop := rg (s 0) 8 ∧ rg (s 1) 11000 ∧ rg (s 2) 60 ∧ rg (s 3) 24 ∧ (∀ q, q < 4 → rg (s (5 + q)) 99) ∧ (∀ j, j < 24 → rg (s (10 + j)) 40) ∧ (∀ j, j < 24 → rg (s (34 + j)) 3) ∧ ∀ b, b < cl (s 0) → bOK s b
/-- a word of a text as the class has it, and as the reference has it -/
def tok (u : Nat) (w : Int32) : Int32 × Int32 :=
  if w < 10000 then (0, w) else if w < 20000 then (1, if w = 10000 then (if u = 0 then 98 else 116) else if w = 10001 then (if u = 0 then 104 else 112) else (if u = 0 then 109 else 107)) else if w = 20033 then (2, 0) else (3, w - 20000)
/-- how a word changes the number of values that lie on the pile; none: it can't be -/
def dep (w : Int32) (n : Nat) : Option Nat := if w < 20000 then some (n + 1) else if w = 20033 then (if 1 ≤ n then some n else none) else (if 2 ≤ n then some (n - 1) else none)
def deps (f : Nat → Int32) : Nat → Option Nat
  | 0 => some 0
  | k + 1 => (deps f k).bind (dep (f k))
/-- a text that can be worked out: one value is left -/
def wfT (f : Nat → Int32) (len : Nat) : Prop := 1 ≤ len ∧ len ≤ 60 ∧ (∀ k, k ≤ len → ∃ n, deps f k = some n) ∧ deps f len = some 1 ∧ ∀ k, k < len → (0 ≤ f k ∧ f k < 10003) ∨ f k = 20033 ∨ f k = 20124 ∨ f k = 20038 ∨ f k = 20060 ∨ f k = 20061 ∨ f k = 20062 ∨ f k = 20043 ∨ f k = 20045 ∨ f k = 20042 ∨ f k = 20047 ∨ f k = 20037
def XTxt (I : AI) (T : AT) (o : Option Nat) (u : Nat) (s : Nat → Int32) : Prop := match o with
  | none => s (122 + 125 * u) = 0
  | some a => 91 ≤ a ∧ a < 1000 ∧ T.2.2.2.1 a = (15, 1) ∧ ∃ w len, 91 ≤ w ∧ w < 1000 ∧ T.2.2.1 a 0 = some w ∧ T.2.2.2.1 w = (0, len) ∧ wfT (I w) len ∧ s (122 + 125 * u) = nI len ∧ ∀ k, k < len → (s (123 + 125 * u + 2 * k), s (124 + 125 * u + 2 * k)) = tok u (I w k)
def XSea (I : AI) (T : AT) (B i : Nat) (s : Nat → Int32) : Prop := I B 0 = s 1 ∧ I B 1 = s 0 ∧ (∀ j, j < 24 → I (B + 1) j = 10 * s (10 + j) + s (34 + j)) ∧ (∀ q, q < 4 → I (B + 2) q = s (5 + q)) ∧ (∀ b f, b < cl (s 0) → b < 8 → f < 8 → I (B + 8 + b) f = s (58 + 8 * b + f)) ∧ ∀ u, u < 2 → XTxt I T (T.1 (2 * i + u)) u s
def XDesk (I : AI) (D : Nat) (s : Nat → Int32) : Prop := I D 2 = s 2 ∧ I D 3 = s 3 ∧ I D 4 = s 4 ∧ (∀ j, j < cl (s 2) → I (D + 1) j = s (372 + j)) ∧ ∀ j, j < cl (s 3) → I (D + 2) j = s (432 + j)
def XSht (I J : AI) : Prop := ∀ k, k < 4 → I (65 + 2 * k) 1 = J 87 k ∧ I (65 + 2 * k) 2 = J 88 k ∧ (∀ j, j < 24 → I (66 + 2 * k) j = J 89 (24 * k + j)) ∧ (J 87 k = 0 ∨ J 87 k = 8 ∨ J 87 k = 16 ∨ J 87 k = 32) ∧ rg (J 88 k) 24
def XVoi (I J : AI) : Prop := I 61 1 = J 73 18 ∧ rg (J 73 18) 30 ∧ ∀ i, i < cl (J 73 18) → I 62 i = J 86 i
def XCon (xs : Nat → Int32) (I : AI) : Prop := ∀ c j, I (1000 + c) j = am_cI xs c j
def XG (xs : Nat → Int32) (I : AI) (T : AT) (J : AI) : Prop := sOK (J 74) ∧ XSea I T 1 0 (J 74) ∧ XDesk I 49 (J 74) ∧ (J 73 3 ≠ 0 → sOK (J 75) ∧ XSea I T 33 2 (J 75) ∧ XDesk I 52 (J 75)) ∧ I 0 10 = J 73 3 ∧ (∀ k, 1 ≤ k → k ≤ 6 → I 64 k = J 77 k) ∧ XSht I J ∧ XVoi I J ∧ XCon xs I
theorem XTxt.kept {I I' : AI} {T : AT} {o : Option Nat} {u : Nat} {s s' : Nat → Int32} (h : XTxt I T o u s) (hI : ∀ a, 91 ≤ a → I' a = I a) (hs : ∀ j, 122 ≤ j → j < 372 → s' j = s j) (hu : u < 2) : XTxt I' T o u s' := by
  cases o with
  | none => show s' _ = 0; rw [hs _ (by omega) (by omega)]; exact h
  | some a =>
    obtain ⟨h1, h2, h3, w, len, h4, h5, h6, h7, h8, h9, h10⟩ := h
    refine ⟨h1, h2, h3, w, len, h4, h5, h6, h7, ?_, ?_, ?_⟩
    · rw [hI w h4]; exact h8
    · rw [hs _ (by omega) (by omega)]; exact h9
    · intro k hk
      have hl := h8.2.1
      rw [hs _ (by omega) (by omega), hs _ (by omega) (by omega), hI w h4]
      exact h10 k hk
theorem XSea.kept {I I' : AI} {T : AT} {B i : Nat} {s : Nat → Int32} (h : XSea I T B i s) (hI : ∀ a, (B ≤ a ∧ a < B + 16) ∨ 91 ≤ a → I' a = I a) : XSea I' T B i s := by
  obtain ⟨h1, h2, h3, h4, h5, h6⟩ := h
  exact ⟨by rw [hI _ (Or.inl (by omega))]; exact h1, by rw [hI _ (Or.inl (by omega))]; exact h2, fun j hj => by rw [hI _ (Or.inl (by omega))]; exact h3 j hj, fun q hq => by rw [hI _ (Or.inl (by omega))]; exact h4 q hq, fun b f g1 g2 g3 => by rw [hI _ (Or.inl (by omega))]; exact h5 b f g1 g2 g3, fun u hu => (h6 u hu).kept (fun a ha => hI a (Or.inr ha)) (fun _ _ _ => rfl) hu⟩
theorem XDesk.kept {I I' : AI} {D : Nat} {s : Nat → Int32} (h : XDesk I D s) (hI : ∀ a, D ≤ a → a < D + 3 → I' a = I a) : XDesk I' D s := by
  obtain ⟨h1, h2, h3, h4, h5⟩ := h
  exact ⟨by rw [hI _ (by omega) (by omega)]; exact h1, by rw [hI _ (by omega) (by omega)]; exact h2, by rw [hI _ (by omega) (by omega)]; exact h3, fun j hj => by rw [hI _ (by omega) (by omega)]; exact h4 j hj, fun j hj => by rw [hI _ (by omega) (by omega)]; exact h5 j hj⟩
theorem XSht.kept {I I' J J' : AI} (h : XSht I J) (hI : ∀ a, 65 ≤ a → a ≤ 72 → I' a = I a) (hJ : ∀ a, 87 ≤ a → a ≤ 89 → J' a = J a) : XSht I' J' := by
  intro k hk
  obtain ⟨h1, h2, h3, h4, h5⟩ := h k hk
  rw [hI _ (by omega) (by omega), hI (66 + 2 * k) (by omega) (by omega), hJ 87 (by omega) (by omega), hJ 88 (by omega) (by omega), hJ 89 (by omega) (by omega)]
  exact ⟨h1, h2, h3, h4, h5⟩
theorem XVoi.kept {I I' J J' : AI} (h : XVoi I J) (hI : ∀ a, 61 ≤ a → a ≤ 62 → I' a = I a) (hJ : J' 73 18 = J 73 18) (hJ2 : J' 86 = J 86) : XVoi I' J' := by
  obtain ⟨h1, h2, h3⟩ := h
  refine ⟨by rw [hI _ (by omega) (by omega), hJ]; exact h1, by rw [hJ]; exact h2, fun i hi => ?_⟩
  rw [hJ] at hi
  rw [hI _ (by omega) (by omega), hJ2]
  exact h3 i hi
/-- only the sea of now has changed, and the row s -/
theorem XG.sea {xs : Nat → Int32} {I I' : AI} {T : AT} {J : AI} {s' : Nat → Int32} (h : XG xs I T J) (hI : ∀ a, (a < 1 ∨ 17 ≤ a) → I' a = I a) (hs : sOK s') (hX : XSea I' T 1 0 s') (hD : ∀ j, (2 ≤ j ∧ j ≤ 4) ∨ 372 ≤ j → s' j = J 74 j) : XG xs I' T (sps J s') := by
  obtain ⟨h1, h2, h3, h4, h5, h6, h7, h8, h9⟩ := h
  have e74 : sps J s' 74 = s' := vu_same _ _ _
  have eJ : ∀ a, a ≠ 74 → sps J s' a = J a := fun a ha => va_up_ne _ _ ha
  refine ⟨by rw [e74]; exact hs, by rw [e74]; exact hX, ?_, ?_, ?_, ?_, h7.kept (fun a g1 g2 => hI a (Or.inr (by omega))) (fun a g1 g2 => eJ a (by omega)), h8.kept (fun a g1 g2 => hI a (Or.inr (by omega))) (by rw [eJ 73 (by omega)]) (eJ 86 (by omega)), fun c j => by rw [hI _ (Or.inr (by omega))]; exact h9 c j⟩
  · rw [e74]
    obtain ⟨d1, d2, d3, d4, d5⟩ := h3.kept (I' := I') (fun a g1 g2 => hI a (Or.inr (by omega)))
    refine ⟨by rw [hD 2 (Or.inl (by omega))]; exact d1, by rw [hD 3 (Or.inl (by omega))]; exact d2, by rw [hD 4 (Or.inl (by omega))]; exact d3, fun j hj => ?_, fun j hj => ?_⟩
    · rw [hD 2 (Or.inl (by omega))] at hj; rw [hD _ (Or.inr (by omega))]; exact d4 j hj
    · rw [hD 3 (Or.inl (by omega))] at hj; rw [hD _ (Or.inr (by omega))]; exact d5 j hj
  · rw [eJ 73 (by omega), eJ 75 (by omega)]
    intro q
    obtain ⟨k1, k2, k3⟩ := h4 q
    exact ⟨k1, k2.kept (fun a ha => hI a (Or.inr (by omega))), k3.kept (fun a g1 g2 => hI a (Or.inr (by omega)))⟩
  · rw [eJ 73 (by omega), hI 0 (Or.inl (by omega))]; exact h5
  · intro k g1 g2
    rw [eJ 77 (by omega), hI 64 (Or.inr (by omega))]; exact h6 k g1 g2
/-- an error is counted -/
theorem XG.err {xs : Nat → Int32} {I : AI} {T : AT} {J : AI} {k : Nat} (h : XG xs I T J) (hk1 : 1 ≤ k) (hk6 : k ≤ 6) : XG xs (va_up I 64 (va_up (I 64) k (I 64 k + 1))) T (er J k) := by
  obtain ⟨h1, h2, h3, h4, h5, h6, h7, h8, h9⟩ := h
  have hI : ∀ a, a ≠ 64 → va_up I 64 (va_up (I 64) k (I 64 k + 1)) a = I a := fun a ha => va_up_ne _ _ ha
  have eJ : ∀ a, a ≠ 77 → er J k a = J a := fun a ha => va_up_ne _ _ ha
  refine ⟨by rw [eJ 74 (by omega)]; exact h1, by rw [eJ 74 (by omega)]; exact h2.kept (fun a ha => hI a (by omega)), by rw [eJ 74 (by omega)]; exact h3.kept (fun a g1 g2 => hI a (by omega)), ?_, by rw [eJ 73 (by omega), hI 0 (by omega)]; exact h5, ?_, h7.kept (fun a g1 g2 => hI a (by omega)) (fun a g1 g2 => eJ a (by omega)), h8.kept (fun a g1 g2 => hI a (by omega)) (by rw [eJ 73 (by omega)]) (eJ 86 (by omega)), fun c j => by rw [hI _ (by omega)]; exact h9 c j⟩
  · rw [eJ 73 (by omega), eJ 75 (by omega)]
    intro q
    obtain ⟨k1, k2, k3⟩ := h4 q
    exact ⟨k1, k2.kept (fun a ha => hI a (by omega)), k3.kept (fun a g1 g2 => hI a (by omega))⟩
  · intro z g1 g2
    unfold er
    rw [vu_same, vu_same]
    by_cases hz : z = k
    · subst hz; rw [vu_same, vu_same, h6 z g1 g2]
    · rw [va_up_ne _ _ hz, va_up_ne _ _ hz]; exact h6 z g1 g2
