/-! PAIRS: text -/
def tpr (s : Nat → Int32) (u : Nat) : PR := (pp (fun j => s (372 + j)) (cl (s 2)) u 1300 0 0 0 0 (fun _ => 0)).getD (false, 0, 0, fun _ => 0)
def tkw (u : Nat) (f : Nat → Int32) (i : Nat) : Int32 := if i % 2 = 0 then (tok u (f (i / 2))).1 else (tok u (f (i / 2))).2
def txW (b : Nat) (g s : Nat → Int32) : Nat → Nat → Int32
  | 0 => s
  | m + 1 => va_up (txW b g s m) (b + m) (g m)
def txS (s : Nat → Int32) (u : Nat) (r : PR) : Nat → Int32 := txW (123 + 125 * u) (tkw u r.2.2.2) (va_up (va_up s 2 0) (122 + 125 * u) (nI r.2.2.1)) (2 * r.2.2.1)
def sp_text (J : AI) (u : Int32) : AI × Int32 := bif win u 0 1 then (if (tpr (J 74) (cl u)).1 = true ∧ (tpr (J 74) (cl u)).2.1 = cl (J 74 2) then (sps J (txS (J 74) (cl u) (tpr (J 74) (cl u))), 1) else (sps J (va_up (J 74) 2 0), -10 - nI (tpr (J 74) (cl u)).2.1)) else (er J 1, LO 1)
theorem txW_off (b : Nat) (g s : Nat → Int32) {j : Nat} : ∀ m, (j < b ∨ b + m ≤ j) → txW b g s m j = s j := by
  intro m
  induction m with
  | zero => intro _; rfl
  | succ m ih => intro h; rw [txW, va_up_ne _ _ (by omega)]; exact ih (by omega)
theorem txW_at (b : Nat) (g s : Nat → Int32) {i : Nat} : ∀ m, i < m → txW b g s m (b + i) = g i := by
  intro m
  induction m with
  | zero => intro h; omega
  | succ m ih =>
    intro h
    rw [txW]
    by_cases q : i = m
    · subst q; rw [vu_same]
    · rw [va_up_ne _ _ (by omega)]; exact ih (by omega)
theorem txS_off (s : Nat → Int32) (u : Nat) (r : PR) {j : Nat} (h2 : j ≠ 2) (h : j < 122 + 125 * u ∨ 123 + 125 * u + 2 * r.2.2.1 ≤ j) : txS s u r j = s j := by
  unfold txS
  rw [txW_off _ _ _ _ (by omega), va_up_ne _ _ (by omega), va_up_ne _ _ h2]
theorem txS_2 (s : Nat → Int32) (u : Nat) (r : PR) : txS s u r 2 = 0 := by
  unfold txS
  rw [txW_off _ _ _ _ (by omega), va_up_ne _ _ (by omega), vu_same]
theorem txW_ok {b : Nat} (hb : 122 ≤ b) (g : Nat → Int32) {s : Nat → Int32} (hs : sOK s) : ∀ m, sOK (txW b g s m) := by
  intro m
  induction m with
  | zero => exact hs
  | succ m ih => exact ih.up (by omega) (okv_free _ (by omega))
theorem s2_ok {s : Nat → Int32} (hs : sOK s) : sOK (va_up s 2 0) := hs.up (by decide) (okv_low (fun q => by omega) (fun _ => ⟨0, by decide, rfl⟩) (fun q => by omega) (by decide))
theorem txS_ok {s : Nat → Int32} (hs : sOK s) (u : Nat) (r : PR) : sOK (txS s u r) := txW_ok (by omega) _ ((s2_ok hs).up (by omega) (okv_free _ (by omega))) _
theorem tape_byt {s : Nat → Int32} (h : TB s) {n : Nat} (hn : n ≤ 60) (p : Nat) : byt (lk (fun j => s (372 + j)) n p) := by
  unfold lk
  split
  · rename_i q
    obtain ⟨k, hk, e⟩ := h p (by omega)
    exact Or.inr ⟨k, by omega, e⟩
  · exact Or.inl rfl
theorem tpr_eq {s : Nat → Int32} (hs : sOK s) (u : Nat) : pp (fun j => s (372 + j)) (cl (s 2)) u 1300 0 0 0 0 (fun _ => 0) = some (tpr s u) := by
  obtain ⟨en, hn⟩ := hs.2.2.1.eq (by decide)
  obtain ⟨r, hr⟩ := pp_fuel (fun j => s (372 + j)) (cl (s 2)) u hn 1300 0 0 0 0 (fun _ => 0) (Nat.zero_le _) (by decide) (by decide)
  unfold tpr
  rw [hr]; rfl
theorem tpr_wf {s : Nat → Int32} (hs : sOK s) (u : Nat) (h : (tpr s u).1 = true) : wfT (tpr s u).2.2.2 (tpr s u).2.2.1 := by
  obtain ⟨en, hn⟩ := hs.2.2.1.eq (by decide)
  have hq := pp_rq (fun j => s (372 + j)) (cl (s 2)) u _ _ _ _ _ _ _ (Nat.zero_le _) (by decide) (tpr_eq hs u)
  obtain ⟨a1, a2, a3⟩ := hq
  obtain ⟨b1, b2, b3, b4, b5, b6, b7⟩ := a3 h
  have := b4 (by decide)
  obtain ⟨c1, c2⟩ := b7 0 rfl (fun q => by omega)
  rw [if_pos (by decide)] at c1
  exact ⟨by omega, by omega, fun k hk => c2 k (Nat.zero_le k) hk, c1, fun k hk => b6 k (Nat.zero_le k) hk⟩
theorem wfT.same {f g : Nat → Int32} {len : Nat} (h : wfT f len) (e : ∀ j, j < len → g j = f j) : wfT g len := by
  obtain ⟨h1, h2, h3, h4, h5⟩ := h
  refine ⟨h1, h2, fun k hk => ?_, ?_, fun k hk => ?_⟩
  · rw [deps_congr (g := f) (fun j hj => e j (by omega))]; exact h3 k hk
  · rw [deps_congr (g := f) (fun j hj => e j (by omega))]; exact h4
  · rw [e k hk]; exact h5 k hk
theorem XTxt.ext {I I' : AI} {T T' : AT} {o : Option Nat} {u N : Nat} {s s' : Nat → Int32} (h : XTxt I T o u s) (hT : ∀ a, N ≤ a → a < 1000 → (T.2.2.2.1 a).1 = 99) (hI : ∀ a, 91 ≤ a → a < N → I' a = I a) (hP : ∀ a, a < N → T'.2.2.1 a = T.2.2.1 a) (hS : ∀ a, a < N → T'.2.2.2.1 a = T.2.2.2.1 a) (hs : ∀ j, 122 + 125 * u ≤ j → j < 247 + 125 * u → s' j = s j) : XTxt I' T' o u s' := by
  cases o with
  | none => show s' _ = 0; rw [hs _ (by omega) (by omega)]; exact h
  | some a =>
    obtain ⟨h1, h2, h3, w, len, h4, h5, h6, h7, h8, h9, h10⟩ := h
    have ha : a < N := Nat.lt_of_not_le (fun q => by have := hT a q h2; rw [h3] at this; exact absurd (show (15 : Nat) = 99 from this) (by decide))
    have hw : w < N := Nat.lt_of_not_le (fun q => by have := hT w q h5; rw [h7] at this; exact absurd (show (0 : Nat) = 99 from this) (by decide))
    refine ⟨h1, h2, by rw [hS a ha]; exact h3, w, len, h4, h5, by rw [hP a ha]; exact h6, by rw [hS w hw]; exact h7, ?_, ?_, ?_⟩
    · rw [hI w h4 hw]; exact h8
    · rw [hs _ (by omega) (by omega)]; exact h9
    · intro k hk
      have hl := h8.2.1
      rw [hs _ (by omega) (by omega), hs _ (by omega) (by omega), hI w h4 hw]
      exact h10 k hk
theorem XG.text {xs : Nat → Int32} {I I' : AI} {T T' : AT} {J : AI} {s' : Nat → Int32} (h : XG xs I T J) (hI : ∀ a, a < 49 ∨ (51 < a ∧ a < 55) ∨ (57 < a ∧ a < 91) ∨ 1000 ≤ a → I' a = I a) (hx : ∀ u s, u < 2 → XTxt I T (T.1 (2 * 2 + u)) u s → XTxt I' T' (T'.1 (2 * 2 + u)) u s) (hx0 : ∀ u, u < 2 → XTxt I T (T.1 (2 * 0 + u)) u (J 74) → XTxt I' T' (T'.1 (2 * 0 + u)) u s') (hs : sOK s') (hD : XDesk I' 49 s') (hsj : ∀ j, j ≠ 2 → j < 122 → s' j = J 74 j) : XG xs I' T' (sps J s') := by
  obtain ⟨h1, h2, h3, h4, h5, h6, h7, h8, h9⟩ := h
  have e74 : sps J s' 74 = s' := vu_same _ _ _
  have eJ : ∀ a, a ≠ 74 → sps J s' a = J a := fun a ha => va_up_ne _ _ ha
  refine ⟨by rw [e74]; exact hs, ?_, by rw [e74]; exact hD, ?_, ?_, ?_, h7.kept (fun a g1 g2 => hI a (by omega)) (fun a g1 g2 => eJ a (by omega)), h8.kept (fun a g1 g2 => hI a (by omega)) (by rw [eJ 73 (by omega)]) (eJ 86 (by omega)), fun c j => by rw [hI _ (by omega)]; exact h9 c j⟩
  · rw [e74]
    obtain ⟨x1, x2, x3, x4, x5, x6⟩ := h2
    refine ⟨by rw [hI 1 (by omega), hsj 1 (by decide) (by decide)]; exact x1, by rw [hI 1 (by omega), hsj 0 (by decide) (by decide)]; exact x2, fun j hj => by rw [hI _ (by omega), hsj _ (by omega) (by omega), hsj _ (by omega) (by omega)]; exact x3 j hj, fun q hq => by rw [hI _ (by omega), hsj _ (by omega) (by omega)]; exact x4 q hq, fun b f hb hb8 hf => ?_, fun u hu => hx0 u hu (x6 u hu)⟩
    rw [hsj 0 (by decide) (by decide)] at hb
    rw [hI _ (by omega), hsj _ (by omega) (by omega)]; exact x5 b f hb hb8 hf
  · rw [eJ 73 (by omega), eJ 75 (by omega)]
    intro q
    obtain ⟨k1, ⟨x1, x2, x3, x4, x5, x6⟩, k3⟩ := h4 q
    exact ⟨k1, ⟨by rw [hI 33 (by omega)]; exact x1, by rw [hI 33 (by omega)]; exact x2, fun j hj => by rw [hI _ (by omega)]; exact x3 j hj, fun q hq => by rw [hI _ (by omega)]; exact x4 q hq, fun b f hb hb8 hf => by rw [hI _ (by omega)]; exact x5 b f hb hb8 hf, fun u hu => hx u _ hu (x6 u hu)⟩, k3.kept (fun a g1 g2 => hI a (by omega))⟩
  · rw [eJ 73 (by omega), hI 0 (by omega)]; exact h5
  · intro k g1 g2
    rw [eJ 77 (by omega), hI 64 (by omega)]; exact h6 k g1 g2
theorem x_text (xs : Nat → Int32) (I : AI) (T : AT) (J : AI) (L c : Nat) (hG2 : XG2 xs I T J) (hT : TTc T L c) (hc : c < 64) (u : Int32) : Ct 80 y_X_text [.ref 0, .int u] (hp I T) (XQ xs I T L c (sp_text J u)) := by
  obtain ⟨hG, hHB⟩ := hG2
  obtain ⟨h1, h2, h3, h4, h5, h6, h7, h8, h9⟩ := id hG
  obtain ⟨d1, d2, d3, d4, d5⟩ := h3
  obtain ⟨en, hn⟩ := h1.2.2.1.eq (by decide)
  iterate 3 refine Go.step rfl ?_
  refine Go.cal (x_within _ u 0 1) (by decide) rfl ?_
  rintro _ _ ⟨rfl, rfl⟩
  refine Go.step rfl ?_
  refine Go.ifz (fun c1 => ?_) (fun c1 => ?_)
  · iterate 2 refine Go.step rfl ?_
    exact Go.mono (x_err (k := 1) (o := sp_text J u) hG (by decide) (by decide) (by rw [sp_text, c1]; rfl) rfl rfl rfl (by decide)) (fun r h' h => h.q hT)
  · obtain ⟨v, hv, rfl⟩ := nI_of_win (N := 1) (by decide) c1
    have hcl : cl (nI v) = v := nI_clamp (by omega)
    have he := tpr_eq h1 v
    have hwf := tpr_wf h1 v
    have esp : sp_text J (nI v) = if (tpr (J 74) v).1 = true ∧ (tpr (J 74) v).2.1 = cl (J 74 2) then (sps J (txS (J 74) v (tpr (J 74) v)), 1) else (sps J (va_up (J 74) 2 0), -10 - nI (tpr (J 74) v).2.1) := by
      rw [sp_text, c1, hcl]; rfl
    rw [esp]
    generalize hr : tpr (J 74) v = r at he hwf ⊢
    obtain ⟨tx, nm, Pd, Sd, N, sl, L'⟩ := T
    obtain ⟨t1, t2, t3, t4, t5⟩ := hT
    have t2' : N ≤ 91 + 2 * c := t2
    have t3' : sl ≤ 10000 + 100 * c := t3
    have t4' : 91 ≤ N := t4
    iterate 5 refine Go.step rfl ?_
    refine Go.cal (x_read xs I tx nm Pd Sd N sl L' (fun j => J 74 (372 + j)) v (cl (J 74 2)) (by omega) hn (d1.trans en) d4 (tape_byt hHB.2.2 hn) h9 r he t4' (by omega)) (by decide) rfl ?_
    rintro _ _ (⟨hno, I', rfl, k1, k2, rfl⟩ | ⟨hok, I', rfl, k1, k2, rfl⟩)
    · rw [if_neg hno]
      iterate 12 refine Go.step rfl ?_
      have e1 : ∀ a, a ≠ 49 → a ≠ 55 → a ≠ 56 → a ≠ 57 → va_up I' 49 (va_up (I' 49) 2 0) a = I a := fun a g0 g1 g2 g3 => by rw [va_up_ne _ _ g0]; exact k1 a g1 g2 g3
      have e49 : ∀ f, f ≠ 2 → va_up I' 49 (va_up (I' 49) 2 0) 49 f = I 49 f := fun f hf => by rw [vu_same, va_up_ne _ _ hf, k1 49 (by decide) (by decide) (by decide)]
      refine Go.ret rfl ⟨va_up I' 49 (va_up (I' 49) 2 0), (tx, some (1011 + v), Pd, Sd, N, sl, L'), rfl, fun a g1 g2 => e1 a (by omega) (by omega) (by omega) (by omega), ?_, ⟨t1, by show N ≤ _; omega, by show sl ≤ _; omega, t4, t5⟩, ?_⟩
      · refine hG.text (fun a ha => e1 a (by omega) (by omega) (by omega) (by omega)) (fun u s hu h => h.ext t5 (fun a g1 g2 => e1 a (by omega) (by omega) (by omega) (by omega)) (fun _ _ => rfl) (fun _ _ => rfl) (fun _ _ _ => rfl)) (fun u hu h => h.ext t5 (fun a g1 g2 => e1 a (by omega) (by omega) (by omega) (by omega)) (fun _ _ => rfl) (fun _ _ => rfl) (fun j g1 g2 => va_up_ne _ _ (by omega))) (s2_ok h1) ⟨by rw [vu_same, vu_same, vu_same], by rw [e49 3 (by decide), va_up_ne _ _ (by decide)]; exact d2, by rw [e49 4 (by decide), va_up_ne _ _ (by decide)]; exact d3, fun j hj => ?_, fun j hj => ?_⟩ (fun j g1 g2 => va_up_ne _ _ g1)
        · rw [vu_same] at hj
          exact absurd hj (by rw [show cl (0 : Int32) = 0 from rfl]; omega)
        · rw [va_up_ne _ _ (by decide)] at hj
          have := (h1.2.2.2.1.eq (by decide)).2
          rw [e1 _ (by omega) (by omega) (by omega) (by omega), va_up_ne _ _ (by omega)]
          exact d5 j hj
      · show some (Value.int (-10 - va_up I' 49 (va_up (I' 49) 2 0) 55 5)) = some (Value.int (-10 - nI r.2.1))
        rw [va_up_ne _ _ (by decide), k2]
    · rw [if_pos hok]
      have hw := hwf hok.1
      have hlen := hw.2.1
      iterate 12 refine Go.step rfl ?_
      refine Go.aast rfl rfl rfl (am_in_nI (show v < 2 by omega) (by decide)) (by rw [sS_dyn _ _ t4' (by omega)]; show Nat.beq (va_up (va_up Sd N (15, 1)) (N + 1) (0, r.2.2.1) N).1 (am_ec 2) = true; rw [va_up_ne _ _ (by omega), vu_same]; rfl) ?_
      rw [nI_clamp (by omega)]
      have est := sP_tx tx (some (1011 + v)) (va_up Pd N (va_up (fun _ => none) 0 (some (N + 1)))) 0 v (by decide) (by omega) (some N)
      rw [← est]
      refine Go.step rfl ?_
      have e1 : ∀ a, a ≠ 49 → a ≠ 55 → a ≠ 56 → a ≠ 57 → a ≠ N → a ≠ N + 1 → va_up I' 49 (va_up (I' 49) 2 0) a = I a := fun a g0 g1 g2 g3 g4 g5 => by rw [va_up_ne _ _ g0]; exact k1 a g1 g2 g3 g4 g5
      have e49 : ∀ f, f ≠ 2 → va_up I' 49 (va_up (I' 49) 2 0) 49 f = I 49 f := fun f hf => by rw [vu_same, va_up_ne _ _ hf, k1 49 (by decide) (by decide) (by decide) (by omega) (by omega)]
      refine Go.ret rfl ⟨va_up I' 49 (va_up (I' 49) 2 0), (va_up tx (2 * 0 + v) (some N), some (1011 + v), va_up Pd N (va_up (fun _ => none) 0 (some (N + 1))), va_up (va_up Sd N (15, 1)) (N + 1) (0, r.2.2.1), N + 2, sl + 1 + r.2.2.1, L'), rfl, fun a g1 g2 => e1 a (by omega) (by omega) (by omega) (by omega) (by omega) (by omega), ?_, ⟨t1, by show N + 2 ≤ _; omega, by show sl + 1 + r.2.2.1 ≤ _; omega, by show 91 ≤ N + 2; omega, fun a g1 g2 => ?_⟩, rfl⟩
      · have hext : ∀ o u' s s', XTxt I (tx, nm, Pd, Sd, N, sl, L') o u' s → (∀ j, 122 + 125 * u' ≤ j → j < 247 + 125 * u' → s' j = s j) → XTxt (va_up I' 49 (va_up (I' 49) 2 0)) (va_up tx (2 * 0 + v) (some N), some (1011 + v), va_up Pd N (va_up (fun _ => none) 0 (some (N + 1))), va_up (va_up Sd N (15, 1)) (N + 1) (0, r.2.2.1), N + 2, sl + 1 + r.2.2.1, L') o u' s' := by
          intro o u' s s' h hss
          exact h.ext (N := N) t5 (fun a g1 g2 => e1 a (by omega) (by omega) (by omega) (by omega) (by omega) (by omega)) (fun a ha => va_up_ne _ _ (by omega)) (fun a ha => by show va_up (va_up Sd N (15, 1)) (N + 1) (0, r.2.2.1) a = Sd a; rw [va_up_ne _ _ (by omega), va_up_ne _ _ (by omega)]) hss
        refine hG.text (fun a ha => e1 a (by omega) (by omega) (by omega) (by omega) (by omega) (by omega)) (fun u' s hu h => ?_) (fun u' hu h => ?_) (txS_ok h1 v r) ⟨by rw [vu_same, vu_same, txS_2], by rw [e49 3 (by decide), txS_off _ _ _ (by decide) (by omega)]; exact d2, by rw [e49 4 (by decide), txS_off _ _ _ (by decide) (by omega)]; exact d3, fun j hj => ?_, fun j hj => ?_⟩ (fun j g1 g2 => txS_off _ _ _ g1 (by omega))
        · show XTxt _ _ (va_up tx (2 * 0 + v) (some N) (2 * 2 + u')) u' s
          rw [va_up_ne _ _ (by omega)]
          exact hext _ _ s s h (fun _ _ _ => rfl)
        · show XTxt _ _ (va_up tx (2 * 0 + v) (some N) (2 * 0 + u')) u' _
          by_cases q : u' = v
          · subst q
            rw [vu_same]
            have eg : ∀ j, j < r.2.2.1 → va_up I' 49 (va_up (I' 49) 2 0) (N + 1) j = r.2.2.2 j := fun j hj => by rw [va_up_ne _ _ (by omega)]; exact k2 j hj
            refine ⟨t4', by omega, ?_, N + 1, r.2.2.1, by omega, by omega, ?_, ?_, hw.same eg, ?_, fun k hk => ?_⟩
            · show va_up (va_up Sd N (15, 1)) (N + 1) (0, r.2.2.1) N = (15, 1)
              rw [va_up_ne _ _ (by omega), vu_same]
            · show va_up Pd N (va_up (fun _ => none) 0 (some (N + 1))) N 0 = some (N + 1)
              rw [vu_same, vu_same]
            · show va_up (va_up Sd N (15, 1)) (N + 1) (0, r.2.2.1) (N + 1) = (0, r.2.2.1)
              rw [vu_same]
            · unfold txS
              rw [txW_off _ _ _ _ (by omega), vu_same]
            · rw [eg k hk]
              unfold txS
              rw [show 124 + 125 * u' + 2 * k = 123 + 125 * u' + (2 * k + 1) by omega, txW_at _ _ _ _ (by omega), txW_at _ _ _ _ (by omega)]
              unfold tkw
              rw [if_pos (by omega), if_neg (by omega), show 2 * k / 2 = k by omega, show (2 * k + 1) / 2 = k by omega]
          · rw [va_up_ne _ _ (by omega)]
            exact hext _ _ _ _ h (fun j g1 g2 => txS_off _ _ _ (by omega) (by omega))
        · rw [txS_2] at hj
          exact absurd hj (by rw [show cl (0 : Int32) = 0 from rfl]; omega)
        · rw [txS_off _ _ _ (by decide) (by omega)] at hj
          have := (h1.2.2.2.1.eq (by decide)).2
          rw [e1 _ (by omega) (by omega) (by omega) (by omega) (by omega) (by omega), txS_off _ _ _ (by omega) (by omega)]
          exact d5 j hj
      · have g1' : N + 2 ≤ a := g1
        show (va_up (va_up Sd N (15, 1)) (N + 1) (0, r.2.2.1) a).1 = 99
        rw [va_up_ne _ _ (by omega), va_up_ne _ _ (by omega)]
        exact t5 a (by show N ≤ a; omega) g2
theorem m_text (I : AI) (T : AT) (hs : sOK (I 74)) (u : Int32) : Ct 80 y_M_text [.ref 73, .int u] (hp I T) (MQ2 I T (sp_text I u)) := by
  obtain ⟨en, hn⟩ := hs.2.2.1.eq (by decide)
  iterate 3 refine Go.step rfl ?_
  refine Go.cal (m_in _ u 0 1) (by decide) rfl ?_
  rintro _ _ ⟨rfl, rfl⟩
  refine Go.step rfl ?_
  refine Go.ifz (fun c1 => ?_) (fun c1 => ?_)
  · iterate 2 refine Go.step rfl ?_
    exact m_errq (k := 1) (by decide) (by rw [sp_text, c1]; rfl) rfl rfl rfl (by decide)
  · obtain ⟨v, hv, rfl⟩ := nI_of_win (N := 1) (by decide) c1
    have hcl : cl (nI v) = v := nI_clamp (by omega)
    have he := tpr_eq hs v
    have hwf := tpr_wf hs v
    have esp : sp_text I (nI v) = if (tpr (I 74) v).1 = true ∧ (tpr (I 74) v).2.1 = cl (I 74 2) then (sps I (txS (I 74) v (tpr (I 74) v)), 1) else (sps I (va_up (I 74) 2 0), -10 - nI (tpr (I 74) v).2.1) := by
      rw [sp_text, c1, hcl]; rfl
    rw [esp]
    generalize hr : tpr (I 74) v = r at he hwf ⊢
    have hq := pp_rq _ _ _ _ _ _ _ _ _ _ (Nat.zero_le _) (by decide) he
    iterate 13 refine Go.step rfl ?_
    simp only [vu_idem, vu_same]
    have hMD : MD (fun j => I 74 (372 + j)) (cl (I 74 2)) v (va_up I 73 (va_up (va_up (va_up (va_up (I 73) 8 (nI v)) 5 0) 6 0) 7 0)) 0 0 0 (fun _ => 0) := by
      refine ⟨by rw [vu_same, va_up_ne _ _ (by decide), va_up_ne _ _ (by decide), vu_same]; rfl, by rw [vu_same, va_up_ne _ _ (by decide), vu_same]; rfl, by rw [vu_same, vu_same]; rfl, by rw [vu_same, va_up_ne _ _ (by decide), va_up_ne _ _ (by decide), va_up_ne _ _ (by decide), vu_same], by rw [va_up_ne _ _ (by decide)]; exact en, fun j hj => by rw [va_up_ne _ _ (by decide)], fun i hi => by omega⟩
    refine Go.cal ((m_parse (fun j => I 74 (372 + j)) (cl (I 74 2)) v hn (by omega) 1300 0 0 0 0 (fun _ => 0) r _ T (by decide) (Nat.zero_le _) (Nat.le_refl 0) hMD he).2.2.2.2.2.1 rfl) (by decide) rfl ?_
    rintro _ _ ⟨⟨I2, rfl, hme⟩, rfl⟩
    have hk0 : ∀ a, a ≠ 73 → a ≠ 78 → I2 a = I a := fun a g1 g2 => by rw [hme.1.1 a g1 g2, va_up_ne _ _ g1]
    have hk3 : ∀ j, j ≠ 5 → j ≠ 6 → j ≠ 7 → j ≠ 8 → I2 73 j = I 73 j := fun j g1 g2 g3 g4 => by rw [hme.1.2 j g1 g2 g3, vu_same, va_up_ne _ _ g3, va_up_ne _ _ g2, va_up_ne _ _ g1, va_up_ne _ _ g4]
    have h5 : I2 73 5 = nI r.2.1 := by
      cases hb : r.1 with
      | true => exact (hme.2.1 hb).1
      | false => exact hme.2.2 hb
    have je : ∀ (I3 : AI) (s : Nat → Int32), (∀ a, a ≠ 74 → I3 a = I2 a) → I3 74 = s → (∀ a, a < 73 ∨ 90 < a → I3 a = I a) ∧ JE (sps I s) I3 := by
      intro I3 s q1 q2
      refine ⟨fun a ha => by rw [q1 a (by omega)]; exact hk0 a (by omega) (by omega), ?_⟩
      have e : ∀ a, a ≠ 74 → sps I s a = I a := fun a ha => va_up_ne _ _ ha
      have e2 : ∀ a, a ≠ 73 → a ≠ 74 → a ≠ 78 → sps I s a = I3 a := fun a g1 g2 g3 => by rw [e a g2, q1 a g2, hk0 a g1 g3]
      exact ⟨by rw [e 73 (by decide), q1 73 (by decide), hk3 3 (by decide) (by decide) (by decide) (by decide)], by rw [e 73 (by decide), q1 73 (by decide), hk3 18 (by decide) (by decide) (by decide) (by decide)], by rw [q2]; exact vu_same _ _ _, e2 _ (by decide) (by decide) (by decide), e2 _ (by decide) (by decide) (by decide), e2 _ (by decide) (by decide) (by decide), e2 _ (by decide) (by decide) (by decide), e2 _ (by decide) (by decide) (by decide), e2 _ (by decide) (by decide) (by decide)⟩
    have h74 : I2 74 = I 74 := hk0 74 (by decide) (by decide)
    have bad : ¬ (r.1 = true ∧ r.2.1 = cl (I 74 2)) → Go 80 y_M_text 59 [some (.ref 73), some (.int (nI v)), none, none, none] [] (hp I2 T) (MQ2 I T (if r.1 = true ∧ r.2.1 = cl (I 74 2) then (sps I (txS (I 74) v r), 1) else (sps I (va_up (I 74) 2 0), -10 - nI r.2.1))) := by
      intro hno
      rw [if_neg hno]
      iterate 9 refine Go.step rfl ?_
      refine Go.ifp rfl ?_
      iterate 3 refine Go.step rfl ?_
      rw [va_up_ne _ _ (show 73 ≠ 74 by decide), h5]
      refine Go.step rfl ?_
      have := je (va_up I2 74 (va_up (I2 74) 2 0)) (va_up (I 74) 2 0) (fun a ha => va_up_ne _ _ ha) (by rw [vu_same, h74])
      exact Go.ret rfl ⟨_, rfl, this.1, this.2, rfl⟩
    refine Go.step rfl ?_
    refine Go.ifz (fun c2 => ?_) (fun c2 => ?_)
    · exact bad (fun q => by rw [c2] at q; exact absurd q.1 (by decide))
    · have hM := hme.2.1 c2
      iterate 2 refine Go.step rfl ?_
      rw [h5]
      iterate 4 refine Go.step rfl ?_
      rw [show I2 74 (2 : Int32).toNatClampNeg = nI (cl (I 74 2)) from hM.2.2.2.2.1]
      refine Go.step rfl ?_
      by_cases q : r.2.1 = cl (I 74 2)
      · refine Go.ifp (by rw [q]) ?_
        have hw := hwf c2
        have hlen := hw.2.1
        rw [if_pos ⟨c2, q⟩]
        iterate 10 refine Go.step rfl ?_
        refine Go.ifn (by decide) ?_
        iterate 11 refine Go.step rfl ?_
        rw [show (122 : Int32) + 125 * nI v = nI (122 + 125 * v) by rw [show (125 : Int32) * nI v = nI (125 * v) from nI_mul 125 v]; exact nI_add 122 (125 * v)]
        rw [va_up_ne _ _ (show 73 ≠ 74 by decide), hM.2.2.1]
        refine Go.iast rfl rfl (am_in_nI (show 122 + 125 * v < 456 by omega) (by decide)) ?_
        rw [nI_clamp (by omega), vu_same, vu_idem, show va_up (I2 74) (Int32.toNatClampNeg 2) 0 = va_up (I2 74) 2 0 from rfl, h74]
        have e78 : ∀ i, i < 2 * r.2.2.1 → I2 78 i = tkw v r.2.2.2 i := by
          intro i hi
          have := hM.2.2.2.2.2.2 (i / 2) (by omega)
          unfold tkw
          rw [← this]
          split
          · rw [show 2 * (i / 2) = i by omega]
          · rw [show 2 * (i / 2) + 1 = i by omega]
        have loop : ∀ m i, i + m = 2 * r.2.2.1 → ∀ I3 : AI, (∀ a, a ≠ 74 → I3 a = I2 a) → I3 74 = txW (123 + 125 * v) (tkw v r.2.2.2) (va_up (va_up (I 74) 2 0) (122 + 125 * v) (nI r.2.2.1)) i → Go 80 y_M_text 101 [some (.ref 73), some (.int (nI v)), some (.int 1), some (.int (nI (122 + 125 * v))), some (.int (nI i))] [] (hp I3 T) (MQ2 I T (sps I (txS (I 74) v r), 1)) := by
          intro m
          induction m with
          | zero =>
            intro i hi I3 q1 q2
            have : i = 2 * r.2.2.1 := by omega
            subst this
            iterate 4 refine Go.step rfl ?_
            rw [q1 73 (by decide), hM.2.2.1]
            refine Go.step rfl ?_
            rw [show (2 : Int32) * nI r.2.2.1 = nI (2 * r.2.2.1) from nI_mul 2 _]
            refine Go.step rfl ?_
            refine Go.ifp (Int32.le_refl _) ?_
            refine Go.step rfl ?_
            have := je I3 (txS (I 74) v r) q1 q2
            exact Go.ret rfl ⟨I3, rfl, this.1, this.2, rfl⟩
          | succ m ih =>
            intro i hi I3 q1 q2
            iterate 4 refine Go.step rfl ?_
            rw [q1 73 (by decide), hM.2.2.1]
            refine Go.step rfl ?_
            rw [show (2 : Int32) * nI r.2.2.1 = nI (2 * r.2.2.1) from nI_mul 2 _]
            refine Go.step rfl ?_
            refine Go.ifn (nI_ge (a := i) (b := 2 * r.2.2.1) (by omega) (by omega)) ?_
            iterate 10 refine Go.step rfl ?_
            refine Go.iald rfl rfl (am_in_nI (show i < 124 by omega) (by decide)) ?_
            rw [nI_clamp (by omega), q1 78 (by decide), e78 i (by omega), nI_1, nI_add]
            refine Go.iast rfl rfl (am_in_nI (show 122 + 125 * v + 1 + i < 456 by omega) (by decide)) ?_
            rw [nI_clamp (by omega), q2, show 122 + 125 * v + 1 + i = 123 + 125 * v + i by omega]
            iterate 2 refine Go.step rfl ?_
            rw [show nI i + 1 = nI (i + 1) from nI_1 i]
            exact ih (i + 1) (by omega) _ (fun a ha => by rw [va_up_ne _ _ ha]; exact q1 a ha) (vu_same _ _ _)
        iterate 2 refine Go.step rfl ?_
        exact loop (2 * r.2.2.1) 0 (by omega) _ (fun a ha => by rw [va_up_ne _ _ ha]) (vu_same _ _ _)
      · refine Go.ifn (fun z => q ((nI_eq (by have := hq.2.1; omega) (by omega)).mp z)) ?_
        exact bad (fun z => q z.2)
theorem op_text (a : Int32) : OpOK y_X_text y_M_text [.int a] := by
  refine op_of (sp := fun J => sp_text J a) (fun xs I T J L c hG hT hc => Go.up (by decide) (x_text xs I T J L c hG hT hc a)) (fun xs I0 T0 I T hG => Go.up (by decide) (m_text I T hG.1.1 a)) ?_ ?_
  · unfold sp_text
    exact SpC.bif2 (fun _ _ _ => rfl) (SpC.ite2 (fun J J' e => by rw [e.2.2.1]) (SpC.row (fun J J' e => by rw [e.2.2.1] <;> exact ⟨rfl, rfl⟩)) (SpC.row (fun J J' e => by rw [e.2.2.1] <;> exact ⟨rfl, rfl⟩))) (SpC.err 1)
  · intro xs I T J h
    show HB (sp_text J a).1
    unfold sp_text
    cases c1 : win a 0 1 with
    | false => exact h.2.er1 1
    | true =>
      simp only [cond_true]
      obtain ⟨v, hv, rfl⟩ := nI_of_win (N := 1) (by decide) c1
      have hcl : cl (nI v) = v := nI_clamp (by omega)
      rw [hcl]
      split
      · rename_i q
        have := (tpr_wf h.1.1 v q.1).2.1
        exact h.2.sps1 (txS_off _ _ _ (by decide) (by omega)) (fun j hj => txS_off _ _ _ (by omega) (by omega))
      · exact h.2.sps1 (va_up_ne _ _ (by decide)) (fun j hj => va_up_ne _ _ (by omega))
