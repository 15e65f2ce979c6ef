/-! VOICES: the reference -/
def bgM (I : AI) (c n : Nat) : AI := va_up (va_up I 86 (va_up (I 86) c (nI n))) 73 (va_up (I 73) 18 (nI (c + 1)))
def trML : List Nat → AI → Nat → AI
  | [], I, _ => I
  | n :: L, I, c => trML L (bgM I c n) (c + 1)
def trM (I : AI) (c : Nat) (L : List Nat) : AI := trML L I c
theorem trM_cons (I : AI) (c n : Nat) (L : List Nat) : trM I c (n :: L) = trM (bgM I c n) (c + 1) L := rfl
def MC (I : AI) (b K : Nat) (m : Int32) : Prop := b < 8 ∧ I 73 19 = nI b ∧ I 74 (58 + 8 * b) = nI K ∧ I 74 (58 + 8 * b + 1) = m
theorem MC.bg {I : AI} {b K : Nat} {m : Int32} (h : MC I b K m) (c n : Nat) : MC (bgM I c n) b K m ∧ bgM I c n 73 18 = nI (c + 1) := by
  unfold bgM
  refine ⟨⟨h.1, ?_, ?_, ?_⟩, by rw [vu_same, vu_same]⟩
  · rw [vu_same, va_up_ne _ _ (by decide)]; exact h.2.1
  · rw [va_up_ne _ _ (by decide), va_up_ne _ _ (by decide)]; exact h.2.2.1
  · rw [va_up_ne _ _ (by decide), va_up_ne _ _ (by decide)]; exact h.2.2.2
theorem MC.tr {b K : Nat} {m : Int32} : ∀ (L : List Nat) {I : AI} (c : Nat), MC I b K m → I 73 18 = nI c → MC (trM I c L) b K m ∧ trM I c L 73 18 = nI (c + L.length) := by
  intro L
  induction L with
  | nil => intro I c h hc; exact ⟨h, hc⟩
  | cons n L ih =>
    intro I c h hc
    rw [trM_cons]
    have := h.bg c n
    have := ih (c + 1) this.1 this.2
    rw [List.length_cons, show c + (L.length + 1) = c + 1 + L.length by omega]
    exact this
theorem trM_ne : ∀ (L : List Nat) (I : AI) (c a : Nat), a ≠ 73 → a ≠ 86 → trM I c L a = I a := by
  intro L
  induction L with
  | nil => intro I c a h1 h2; rfl
  | cons n L ih => intro I c a h1 h2; rw [trM_cons, ih _ _ _ h1 h2]; unfold bgM; rw [va_up_ne _ _ h1, va_up_ne _ _ h2]
theorem trM_86 : ∀ (L : List Nat) (I : AI) (c : Nat), trM I c L 86 = tw (I 86) c L := by
  intro L
  induction L with
  | nil => intro I c; rfl
  | cons n L ih =>
    intro I c
    rw [trM_cons, ih, tw_cons]
    unfold bgM
    rw [va_up_ne _ _ (by decide), vu_same]
theorem trM_73 : ∀ (L : List Nat) (I : AI) (c f : Nat), f ≠ 18 → trM I c L 73 f = I 73 f := by
  intro L
  induction L with
  | nil => intro I c f h; rfl
  | cons n L ih =>
    intro I c f h
    rw [trM_cons, ih _ _ _ h]
    unfold bgM
    rw [vu_same, va_up_ne _ _ h]
theorem m_begins (I : AI) (T : AT) (c n : Nat) (hc : I 73 18 = nI c) (h30 : c < 30) : Ct 0 y_M_begins [.ref 73, .int (nI n)] (hp I T) (fun r h' => h' = hp (bgM I c n) T ∧ r = none) := by
  iterate 2 refine Go.step rfl ?_
  rw [hc]
  iterate 2 refine Go.step rfl ?_
  refine Go.ifn (nI_ge (a := c) (b := 30) h30 (by decide)) ?_
  iterate 4 refine Go.step rfl ?_
  rw [hc]
  refine Go.step rfl ?_
  refine Go.iast rfl rfl (am_in_nI h30 (by decide)) ?_
  rw [nI_clamp (by omega)]
  iterate 6 refine Go.step rfl ?_
  refine Go.ret rfl ⟨?_, rfl⟩
  rw [va_up_ne _ _ (show 73 ≠ 86 by decide), hc, nI_1]
  rfl
def abv (q : Nat) : Nat := if q = 3 ∨ q = 4 then 1 else if q = 5 then 2 else 0
theorem m_above (h : AH) (q : Nat) (hq : q < 7) : Ct 0 y_M_above [.int (nI q)] h (fun r h' => h' = h ∧ r = some (.int (nI (abv q)))) := by
  obtain ⟨I, P, S, n, sl⟩ := h
  rcases (show q = 0 ∨ q = 1 ∨ q = 2 ∨ q = 3 ∨ q = 4 ∨ q = 5 ∨ q = 6 by omega) with rfl | rfl | rfl | rfl | rfl | rfl | rfl
  all_goals
    repeat refine Go.step rfl ?_
    exact Go.ret rfl ⟨rfl, rfl⟩
theorem m_kindNow (I : AI) (T : AT) (b K : Nat) (m : Int32) (hM : MC I b K m) : Ct 1 y_M_kindNow [.ref 73] (hp I T) (fun r h' => h' = hp I T ∧ r = some (.int (nI K))) := by
  iterate 3 refine Go.step rfl ?_
  rw [hM.2.1]
  refine Go.step rfl ?_
  refine Go.cal (m_its I T b 0 hM.1 (by decide)) (by decide) rfl ?_
  rintro _ _ ⟨rfl, rfl⟩
  refine Go.ret rfl ⟨rfl, ?_⟩
  rw [Nat.add_zero, hM.2.2.1]
theorem m_mNow (I : AI) (T : AT) (b K : Nat) (m : Int32) (hM : MC I b K m) : Ct 1 y_M_mNow [.ref 73] (hp I T) (fun r h' => h' = hp I T ∧ r = some (.int m)) := by
  iterate 3 refine Go.step rfl ?_
  rw [hM.2.1]
  refine Go.step rfl ?_
  refine Go.cal (m_its I T b 1 hM.1 (by decide)) (by decide) rfl ?_
  rintro _ _ ⟨rfl, rfl⟩
  refine Go.ret rfl ⟨rfl, ?_⟩
  rw [hM.2.2.2]
def MSay (y b K : Nat) (m : Int32) (d q : Nat) (L : List Nat) (f : Int32 → Int32) : Prop := ∀ (I : AI) (T : AT) (c : Nat) (x : Int32), MC I b K m → I 73 18 = nI c → c + L.length ≤ 30 → Ct d y [.ref 73, .int (nI q), .int x] (hp I T) (fun r h' => h' = hp (trM I c L) T ∧ r = some (.int (f x)))
theorem MSay.up {y b K : Nat} {m : Int32} {d d' q : Nat} {L : List Nat} {f : Int32 → Int32} (h : MSay y b K m d q L f) (hd : d ≤ d') : MSay y b K m d' q L f :=
  fun I T c x h1 h2 h3 => Go.up hd (h I T c x h1 h2 h3)
theorem ms_0 (b K : Nat) (m : Int32) : MSay y_M_sailsBy b K m 1 0 [10] (fun x => x + nI b) := by
  intro I T c x hM hc hL
  have hL' : c + 1 ≤ 30 := hL
  iterate 2 refine Go.step rfl ?_
  iterate 2 refine Go.step rfl ?_
  refine Go.cal (m_begins I T c 10 hc (by omega)) (by decide) rfl ?_
  rintro _ _ ⟨rfl, rfl⟩
  iterate 3 refine Go.step rfl ?_
  rw [(hM.bg c 10).1.2.1]
  refine Go.step rfl ?_
  exact Go.ret rfl ⟨rfl, rfl⟩
theorem ms_1 (b K : Nat) (m : Int32) : MSay y_M_sailsBy b K m 2 1 [20, 10] (fun x => x + nI b - 3) := by
  intro I T c x hM hc hL
  have hL' : c + 2 ≤ 30 := hL
  have hb := hM.bg c 20
  iterate 2 refine Go.step rfl ?_
  iterate 2 refine Go.step rfl ?_
  refine Go.cal (m_begins I T c 20 hc (by omega)) (by decide) rfl ?_
  rintro _ _ ⟨rfl, rfl⟩
  iterate 2 refine Go.step rfl ?_
  refine Go.cal (m_above _ 1 (by decide)) (by decide) rfl ?_
  rintro _ _ ⟨rfl, rfl⟩
  refine Go.step rfl ?_
  refine Go.cal (ms_0 b K m (bgM I c 20) T (c + 1) x hb.1 hb.2 (by show c + 1 + 1 ≤ 30; omega)) (by decide) rfl ?_
  rintro _ _ ⟨rfl, rfl⟩
  iterate 2 refine Go.step rfl ?_
  exact Go.ret rfl ⟨rfl, rfl⟩
theorem ms_3 (b K : Nat) (m : Int32) : MSay y_M_sailsBy b K m 3 3 [40, 20, 10] (fun x => (x + nI b - 3) * 3) := by
  intro I T c x hM hc hL
  have hL' : c + 3 ≤ 30 := hL
  have hb := hM.bg c 40
  iterate 2 refine Go.step rfl ?_
  iterate 2 refine Go.step rfl ?_
  refine Go.cal (m_begins I T c 40 hc (by omega)) (by decide) rfl ?_
  rintro _ _ ⟨rfl, rfl⟩
  iterate 2 refine Go.step rfl ?_
  refine Go.cal (m_above _ 3 (by decide)) (by decide) rfl ?_
  rintro _ _ ⟨rfl, rfl⟩
  refine Go.step rfl ?_
  refine Go.cal (ms_1 b K m (bgM I c 40) T (c + 1) x hb.1 hb.2 (by show c + 1 + 2 ≤ 30; omega)) (by decide) rfl ?_
  rintro _ _ ⟨rfl, rfl⟩
  iterate 2 refine Go.step rfl ?_
  exact Go.ret rfl ⟨rfl, rfl⟩
theorem ms_6 (b K : Nat) (m : Int32) : MSay y_M_sailsBy b K m 1 6 [70] (fun _ => 5) := by
  intro I T c x hM hc hL
  have hL' : c + 1 ≤ 30 := hL
  iterate 2 refine Go.step rfl ?_
  iterate 2 refine Go.step rfl ?_
  refine Go.cal (m_begins I T c 70 hc (by omega)) (by decide) rfl ?_
  rintro _ _ ⟨rfl, rfl⟩
  refine Go.step rfl ?_
  exact Go.ret rfl ⟨rfl, rfl⟩
theorem ms_2 (b K : Nat) (m : Int32) : MSay y_M_sailsBy b K m 2 2 [10] (fun x => x + nI b) := by
  intro I T c x hM hc hL
  iterate 2 refine Go.step rfl ?_
  iterate 2 refine Go.step rfl ?_
  refine Go.cal (m_above _ 2 (by decide)) (by decide) rfl ?_
  rintro _ _ ⟨rfl, rfl⟩
  refine Go.step rfl ?_
  refine Go.cal (ms_0 b K m I T c x hM hc hL) (by decide) rfl ?_
  rintro _ _ ⟨rfl, rfl⟩
  exact Go.ret rfl ⟨rfl, rfl⟩
theorem ms_4 (b K : Nat) (m : Int32) : MSay y_M_sailsBy b K m 3 4 [20, 10] (fun x => x + nI b - 3) := by
  intro I T c x hM hc hL
  iterate 2 refine Go.step rfl ?_
  iterate 2 refine Go.step rfl ?_
  refine Go.cal (m_above _ 4 (by decide)) (by decide) rfl ?_
  rintro _ _ ⟨rfl, rfl⟩
  refine Go.step rfl ?_
  refine Go.cal (ms_1 b K m I T c x hM hc hL) (by decide) rfl ?_
  rintro _ _ ⟨rfl, rfl⟩
  exact Go.ret rfl ⟨rfl, rfl⟩
theorem ms_5 (b K : Nat) (m : Int32) : MSay y_M_sailsBy b K m 3 5 [10] (fun x => x + nI b) := by
  intro I T c x hM hc hL
  iterate 2 refine Go.step rfl ?_
  iterate 2 refine Go.step rfl ?_
  refine Go.cal (m_above _ 5 (by decide)) (by decide) rfl ?_
  rintro _ _ ⟨rfl, rfl⟩
  refine Go.step rfl ?_
  refine Go.cal (ms_2 b K m I T c x hM hc hL) (by decide) rfl ?_
  rintro _ _ ⟨rfl, rfl⟩
  exact Go.ret rfl ⟨rfl, rfl⟩
theorem ms_ (b K : Nat) (m : Int32) (q : Nat) (hq : q < 7) : MSay y_M_sailsBy b K m 3 q (svt q) (svl (nI b) q) := by
  rcases (show q = 0 ∨ q = 1 ∨ q = 2 ∨ q = 3 ∨ q = 4 ∨ q = 5 ∨ q = 6 by omega) with rfl | rfl | rfl | rfl | rfl | rfl | rfl
  · exact (ms_0 b K m).up (by decide)
  · exact (ms_1 b K m).up (by decide)
  · exact (ms_2 b K m).up (by decide)
  · exact ms_3 b K m
  · exact ms_4 b K m
  · exact ms_5 b K m
  · exact (ms_6 b K m).up (by decide)
theorem mt_0 (b K : Nat) (hK : K < 7) (m : Int32) : MSay y_M_takesBy b K m 4 0 (tt0 K) (tv0 K (nI b)) := by
  intro I T c x hM hc hL
  have hL' : c + ((svt K).length + 1) ≤ 30 := hL
  have hb := hM.bg c 11
  iterate 2 refine Go.step rfl ?_
  iterate 2 refine Go.step rfl ?_
  refine Go.cal (m_begins I T c 11 hc (by omega)) (by decide) rfl ?_
  rintro _ _ ⟨rfl, rfl⟩
  iterate 2 refine Go.step rfl ?_
  refine Go.cal (m_kindNow _ T b K m hb.1) (by decide) rfl ?_
  rintro _ _ ⟨rfl, rfl⟩
  refine Go.step rfl ?_
  refine Go.cal (ms_ b K m K hK (bgM I c 11) T (c + 1) x hb.1 hb.2 (by omega)) (by decide) rfl ?_
  rintro _ _ ⟨rfl, rfl⟩
  iterate 2 refine Go.step rfl ?_
  exact Go.ret rfl ⟨rfl, rfl⟩
theorem mt_2 (b K : Nat) (hK : K < 7) (m : Int32) : MSay y_M_takesBy b K m 5 2 (30 :: tt0 K) (fun x => 0 - tv0 K (nI b) x) := by
  intro I T c x hM hc hL
  have hL' : c + ((tt0 K).length + 1) ≤ 30 := hL
  have hb := hM.bg c 30
  iterate 2 refine Go.step rfl ?_
  iterate 2 refine Go.step rfl ?_
  refine Go.cal (m_begins I T c 30 hc (by omega)) (by decide) rfl ?_
  rintro _ _ ⟨rfl, rfl⟩
  iterate 3 refine Go.step rfl ?_
  refine Go.cal (m_above _ 2 (by decide)) (by decide) rfl ?_
  rintro _ _ ⟨rfl, rfl⟩
  refine Go.step rfl ?_
  refine Go.cal (mt_0 b K hK m (bgM I c 30) T (c + 1) x hb.1 hb.2 (by omega)) (by decide) rfl ?_
  rintro _ _ ⟨rfl, rfl⟩
  refine Go.step rfl ?_
  exact Go.ret rfl ⟨rfl, rfl⟩
theorem mt_5 (b K : Nat) (hK : K < 7) (m : Int32) : MSay y_M_takesBy b K m 6 5 (60 :: 30 :: tt0 K) (fun x => 0 - tv0 K (nI b) (x + 1)) := by
  intro I T c x hM hc hL
  have hL' : c + ((tt0 K).length + 1 + 1) ≤ 30 := hL
  have hb := hM.bg c 60
  iterate 2 refine Go.step rfl ?_
  iterate 2 refine Go.step rfl ?_
  refine Go.cal (m_begins I T c 60 hc (by omega)) (by decide) rfl ?_
  rintro _ _ ⟨rfl, rfl⟩
  iterate 2 refine Go.step rfl ?_
  refine Go.cal (m_above _ 5 (by decide)) (by decide) rfl ?_
  rintro _ _ ⟨rfl, rfl⟩
  iterate 3 refine Go.step rfl ?_
  refine Go.cal (mt_2 b K hK m (bgM I c 60) T (c + 1) (x + 1) hb.1 hb.2 (by show c + 1 + ((tt0 K).length + 1) ≤ 30; omega)) (by decide) rfl ?_
  rintro _ _ ⟨rfl, rfl⟩
  exact Go.ret rfl ⟨rfl, rfl⟩
theorem mt_6 (b K : Nat) (hK : K < 7) (m : Int32) : MSay y_M_takesBy b K m 5 6 (71 :: tt0 K) (fun x => tv0 K (nI b) x + m) := by
  intro I T c x hM hc hL
  have hL' : c + ((tt0 K).length + 1) ≤ 30 := hL
  have hb := hM.bg c 71
  have ht := MC.tr (tt0 K) (c + 1) hb.1 hb.2
  iterate 2 refine Go.step rfl ?_
  iterate 2 refine Go.step rfl ?_
  refine Go.cal (m_begins I T c 71 hc (by omega)) (by decide) rfl ?_
  rintro _ _ ⟨rfl, rfl⟩
  iterate 2 refine Go.step rfl ?_
  refine Go.cal (m_above _ 6 (by decide)) (by decide) rfl ?_
  rintro _ _ ⟨rfl, rfl⟩
  refine Go.step rfl ?_
  refine Go.cal (mt_0 b K hK m (bgM I c 71) T (c + 1) x hb.1 hb.2 (by omega)) (by decide) rfl ?_
  rintro _ _ ⟨rfl, rfl⟩
  refine Go.step rfl ?_
  refine Go.cal (m_mNow _ T b K m ht.1) (by decide) rfl ?_
  rintro _ _ ⟨rfl, rfl⟩
  refine Go.step rfl ?_
  exact Go.ret rfl ⟨rfl, rfl⟩
theorem mt_1 (b K : Nat) (hK : K < 7) (m : Int32) : MSay y_M_takesBy b K m 5 1 (tt0 K) (tv0 K (nI b)) := by
  intro I T c x hM hc hL
  iterate 2 refine Go.step rfl ?_
  iterate 2 refine Go.step rfl ?_
  refine Go.cal (m_above _ 1 (by decide)) (by decide) rfl ?_
  rintro _ _ ⟨rfl, rfl⟩
  refine Go.step rfl ?_
  refine Go.cal (mt_0 b K hK m I T c x hM hc hL) (by decide) rfl ?_
  rintro _ _ ⟨rfl, rfl⟩
  exact Go.ret rfl ⟨rfl, rfl⟩
theorem mt_34 (b K : Nat) (hK : K < 7) (m : Int32) (q : Nat) (hq : q = 3 ∨ q = 4) : MSay y_M_takesBy b K m 6 q (tt0 K) (tv0 K (nI b)) := by
  intro I T c x hM hc hL
  rcases hq with rfl | rfl
  · iterate 2 refine Go.step rfl ?_
    iterate 2 refine Go.step rfl ?_
    refine Go.cal (m_above _ 3 (by decide)) (by decide) rfl ?_
    rintro _ _ ⟨rfl, rfl⟩
    refine Go.step rfl ?_
    refine Go.cal (mt_1 b K hK m I T c x hM hc hL) (by decide) rfl ?_
    rintro _ _ ⟨rfl, rfl⟩
    exact Go.ret rfl ⟨rfl, rfl⟩
  · iterate 2 refine Go.step rfl ?_
    iterate 2 refine Go.step rfl ?_
    refine Go.cal (m_above _ 4 (by decide)) (by decide) rfl ?_
    rintro _ _ ⟨rfl, rfl⟩
    refine Go.step rfl ?_
    refine Go.cal (mt_1 b K hK m I T c x hM hc hL) (by decide) rfl ?_
    rintro _ _ ⟨rfl, rfl⟩
    exact Go.ret rfl ⟨rfl, rfl⟩
theorem mt_ (b K : Nat) (hK : K < 7) (m : Int32) (q : Nat) (hq : q < 7) : MSay y_M_takesBy b K m 6 q (ttl K q) (tvl K m (nI b) q) := by
  rcases (show q = 0 ∨ q = 1 ∨ q = 2 ∨ q = 3 ∨ q = 4 ∨ q = 5 ∨ q = 6 by omega) with rfl | rfl | rfl | rfl | rfl | rfl | rfl
  · exact (mt_0 b K hK m).up (by decide)
  · exact (mt_1 b K hK m).up (by decide)
  · exact (mt_2 b K hK m).up (by decide)
  · exact mt_34 b K hK m 3 (Or.inl rfl)
  · exact mt_34 b K hK m 4 (Or.inr rfl)
  · exact mt_5 b K hK m
  · exact (mt_6 b K hK m).up (by decide)
theorem mo_0 (b K : Nat) (hK : K < 7) (m : Int32) : MSay y_M_owesBy b K m 7 0 (ot0 K) (ov0 K m (nI b)) := by
  intro I T c x hM hc hL
  have hL' : c + ((ttl K K).length + 1) ≤ 30 := hL
  have hb := hM.bg c 12
  have ht := MC.tr (ttl K K) (c + 1) hb.1 hb.2
  iterate 2 refine Go.step rfl ?_
  iterate 2 refine Go.step rfl ?_
  refine Go.cal (m_begins I T c 12 hc (by omega)) (by decide) rfl ?_
  rintro _ _ ⟨rfl, rfl⟩
  iterate 2 refine Go.step rfl ?_
  refine Go.cal (m_kindNow _ T b K m hb.1) (by decide) rfl ?_
  rintro _ _ ⟨rfl, rfl⟩
  refine Go.step rfl ?_
  refine Go.cal (mt_ b K hK m K hK (bgM I c 12) T (c + 1) x hb.1 hb.2 (by omega)) (by decide) rfl ?_
  rintro _ _ ⟨rfl, rfl⟩
  refine Go.step rfl ?_
  refine Go.cal (m_mNow _ T b K m ht.1) (by decide) rfl ?_
  rintro _ _ ⟨rfl, rfl⟩
  refine Go.step rfl ?_
  exact Go.ret rfl ⟨rfl, rfl⟩
theorem mo_d (b K : Nat) (hK : K < 7) (m : Int32) (q : Nat) (hq : q = 1 ∨ q = 2 ∨ q = 6) : MSay y_M_owesBy b K m 8 q (ot0 K) (ov0 K m (nI b)) := by
  intro I T c x hM hc hL
  rcases hq with rfl | rfl | rfl
  · iterate 2 refine Go.step rfl ?_
    iterate 2 refine Go.step rfl ?_
    refine Go.cal (m_above _ 1 (by decide)) (by decide) rfl ?_
    rintro _ _ ⟨rfl, rfl⟩
    refine Go.step rfl ?_
    refine Go.cal (mo_0 b K hK m I T c x hM hc hL) (by decide) rfl ?_
    rintro _ _ ⟨rfl, rfl⟩
    exact Go.ret rfl ⟨rfl, rfl⟩
  · iterate 2 refine Go.step rfl ?_
    iterate 2 refine Go.step rfl ?_
    refine Go.cal (m_above _ 2 (by decide)) (by decide) rfl ?_
    rintro _ _ ⟨rfl, rfl⟩
    refine Go.step rfl ?_
    refine Go.cal (mo_0 b K hK m I T c x hM hc hL) (by decide) rfl ?_
    rintro _ _ ⟨rfl, rfl⟩
    exact Go.ret rfl ⟨rfl, rfl⟩
  · iterate 2 refine Go.step rfl ?_
    iterate 2 refine Go.step rfl ?_
    refine Go.cal (m_above _ 6 (by decide)) (by decide) rfl ?_
    rintro _ _ ⟨rfl, rfl⟩
    refine Go.step rfl ?_
    refine Go.cal (mo_0 b K hK m I T c x hM hc hL) (by decide) rfl ?_
    rintro _ _ ⟨rfl, rfl⟩
    exact Go.ret rfl ⟨rfl, rfl⟩
theorem mo_5 (b K : Nat) (hK : K < 7) (m : Int32) : MSay y_M_owesBy b K m 9 5 (ot0 K) (ov0 K m (nI b)) := by
  intro I T c x hM hc hL
  iterate 2 refine Go.step rfl ?_
  iterate 2 refine Go.step rfl ?_
  refine Go.cal (m_above _ 5 (by decide)) (by decide) rfl ?_
  rintro _ _ ⟨rfl, rfl⟩
  refine Go.step rfl ?_
  refine Go.cal (mo_d b K hK m 2 (by decide) I T c x hM hc hL) (by decide) rfl ?_
  rintro _ _ ⟨rfl, rfl⟩
  exact Go.ret rfl ⟨rfl, rfl⟩
theorem mo_3 (b K : Nat) (hK : K < 7) (m : Int32) : MSay y_M_owesBy b K m 9 3 (41 :: ot0 K) (fun x => ov0 K m (nI b) x ^^^ nI b) := by
  intro I T c x hM hc hL
  have hL' : c + ((ot0 K).length + 1) ≤ 30 := hL
  have hb := hM.bg c 41
  have ht := MC.tr (ot0 K) (c + 1) hb.1 hb.2
  iterate 2 refine Go.step rfl ?_
  iterate 2 refine Go.step rfl ?_
  refine Go.cal (m_begins I T c 41 hc (by omega)) (by decide) rfl ?_
  rintro _ _ ⟨rfl, rfl⟩
  iterate 2 refine Go.step rfl ?_
  refine Go.cal (m_above _ 3 (by decide)) (by decide) rfl ?_
  rintro _ _ ⟨rfl, rfl⟩
  refine Go.step rfl ?_
  refine Go.cal (mo_d b K hK m 1 (by decide) (bgM I c 41) T (c + 1) x hb.1 hb.2 (by omega)) (by decide) rfl ?_
  rintro _ _ ⟨rfl, rfl⟩
  iterate 2 refine Go.step rfl ?_
  rw [ht.1.2.1]
  refine Go.step rfl ?_
  exact Go.ret rfl ⟨rfl, rfl⟩
theorem mo_4 (b K : Nat) (hK : K < 7) (m : Int32) : MSay y_M_owesBy b K m 9 4 (50 :: ot0 K) (fun x => ov0 K m (nI b) (x / 2)) := by
  intro I T c x hM hc hL
  have hL' : c + ((ot0 K).length + 1) ≤ 30 := hL
  have hb := hM.bg c 50
  iterate 2 refine Go.step rfl ?_
  iterate 2 refine Go.step rfl ?_
  refine Go.cal (m_begins I T c 50 hc (by omega)) (by decide) rfl ?_
  rintro _ _ ⟨rfl, rfl⟩
  iterate 2 refine Go.step rfl ?_
  refine Go.cal (m_above _ 4 (by decide)) (by decide) rfl ?_
  rintro _ _ ⟨rfl, rfl⟩
  iterate 3 refine Go.step rfl ?_
  refine Go.cal (mo_d b K hK m 1 (by decide) (bgM I c 50) T (c + 1) (x / 2) hb.1 hb.2 (by omega)) (by decide) rfl ?_
  rintro _ _ ⟨rfl, rfl⟩
  exact Go.ret rfl ⟨rfl, rfl⟩
theorem mo_ (b K : Nat) (hK : K < 7) (m : Int32) (q : Nat) (hq : q < 7) : MSay y_M_owesBy b K m 9 q (otl K q) (ovl K m (nI b) q) := by
  rcases (show q = 0 ∨ q = 1 ∨ q = 2 ∨ q = 3 ∨ q = 4 ∨ q = 5 ∨ q = 6 by omega) with rfl | rfl | rfl | rfl | rfl | rfl | rfl
  · exact (mo_0 b K hK m).up (by decide)
  · exact (mo_d b K hK m 1 (by decide)).up (by decide)
  · exact (mo_d b K hK m 2 (by decide)).up (by decide)
  · exact mo_3 b K hK m
  · exact mo_4 b K hK m
  · exact mo_5 b K hK m
  · exact (mo_d b K hK m 6 (by decide)).up (by decide)
/-- what the reference holds behind parts -/
def QO (I : AI) (c : Nat) (L : List Nat) (z : Bool) (I' : AI) : Prop := (∀ a, a ≠ 73 → a ≠ 86 → I' a = I a) ∧ I' 86 = tw (I 86) c L ∧ I' 73 18 = nI (c + L.length) ∧ I' 73 20 = bo z ∧ ∀ f, f ≠ 18 → f ≠ 20 → I' 73 f = I 73 f
def MPar (b K : Nat) (m : Int32) (d q B : Nat) (L : List Nat) (f : Int32 → Int32) : Prop := ∀ (I : AI) (T : AT) (c : Nat) (x : Int32), MC I b K m → I 73 18 = nI c → c ≤ B → Ct d y_M_partsBy [.ref 73, .int (nI q), .int x] (hp I T) (fun r h' => ∃ I', h' = hp I' T ∧ QO I c L (decide (m - nI b = 0)) I' ∧ r = some (.int (f x)))
theorem mp_0 (b K : Nat) (m : Int32) : MPar b K m 2 0 20 [13] (fun x => if m - nI b = 0 then 0 else x / (m - nI b)) := by
  intro I T c x hM hc hL
  have hb := hM.bg c 13
  have fin : ∀ (z : Bool) (v : Int32), z = decide (m - nI b = 0) → v = (if m - nI b = 0 then 0 else x / (m - nI b)) → ∃ I', hp (va_up (bgM I c 13) 73 (va_up (bgM I c 13 73) 20 (bo z))) T = hp I' T ∧ QO I c [13] (decide (m - nI b = 0)) I' ∧ some (Value.int v) = some (.int (if m - nI b = 0 then 0 else x / (m - nI b))) := by
    intro z v hz hv
    refine ⟨_, rfl, ⟨fun a h1 h2 => ?_, ?_, ?_, ?_, fun f h1 h2 => ?_⟩, by rw [hv]⟩
    · rw [va_up_ne _ _ h1]; unfold bgM; rw [va_up_ne _ _ h1, va_up_ne _ _ h2]
    · rw [va_up_ne _ _ (by decide)]; unfold bgM; rw [va_up_ne _ _ (by decide), vu_same]; rfl
    · rw [vu_same, va_up_ne _ _ (by decide)]; exact hb.2
    · rw [vu_same, vu_same, hz]
    · rw [vu_same, va_up_ne _ _ h2]; unfold bgM; rw [vu_same, va_up_ne _ _ h1]
  iterate 2 refine Go.step rfl ?_
  iterate 2 refine Go.step rfl ?_
  refine Go.cal (m_begins I T c 13 hc (by omega)) (by decide) rfl ?_
  rintro _ _ ⟨rfl, rfl⟩
  refine Go.step rfl ?_
  refine Go.cal (m_mNow _ T b K m hb.1) (by decide) rfl ?_
  rintro _ _ ⟨rfl, rfl⟩
  iterate 2 refine Go.step rfl ?_
  rw [hb.1.2.1]
  iterate 5 refine Go.step rfl ?_
  refine Go.ite (fun c1 => ?_) (fun c1 => ?_)
  · iterate 3 refine Go.step rfl ?_
    iterate 2 refine Go.step rfl ?_
    refine Go.ifp c1 ?_
    iterate 2 refine Go.step rfl ?_
    exact Go.ret rfl (fin true _ (by rw [decide_eq_true c1]) (by rw [if_pos c1]))
  · iterate 2 refine Go.step rfl ?_
    iterate 2 refine Go.step rfl ?_
    refine Go.ifn c1 ?_
    iterate 3 refine Go.step rfl ?_
    refine Go.ite (fun c2 => ?_) (fun c2 => ?_)
    · iterate 3 refine Go.step rfl ?_
      exact Go.ret rfl (fin false _ (by rw [decide_eq_false c1]) (by rw [if_neg c1, c2, div_m1]))
    · iterate 2 refine Go.step rfl ?_
      refine Go.idiv rfl c1 ?_
      exact Go.ret rfl (fin false _ (by rw [decide_eq_false c1]) (by rw [if_neg c1]))
theorem mp_1 (b K : Nat) (hK : K < 7) (m : Int32) : MPar b K m 8 1 12 (if decide (m - nI b = 0) = true then [21, 13] else 21 :: 13 :: ttl K K) (fun x => if m - nI b = 0 then 0 else x / (m - nI b) + tvl K m (nI b) K 1) := by
  intro I T c x hM hc hL
  have hb := hM.bg c 21
  have hlen := ttl_len K K
  iterate 2 refine Go.step rfl ?_
  iterate 2 refine Go.step rfl ?_
  refine Go.cal (m_begins I T c 21 hc (by omega)) (by decide) rfl ?_
  rintro _ _ ⟨rfl, rfl⟩
  iterate 2 refine Go.step rfl ?_
  refine Go.cal (m_above _ 1 (by decide)) (by decide) rfl ?_
  rintro _ _ ⟨rfl, rfl⟩
  refine Go.step rfl ?_
  refine Go.cal (mp_0 b K m (bgM I c 21) T (c + 1) x hb.1 hb.2 (by omega)) (by decide) rfl ?_
  rintro _ _ ⟨I', rfl, ⟨p1, p2, p3, p4, p5⟩, rfl⟩
  have e86 : tw (bgM I c 21 86) (c + 1) [13] = tw (I 86) c [21, 13] := by
    unfold bgM; rw [va_up_ne _ _ (by decide), vu_same]; rfl
  have ea : ∀ a, a ≠ 73 → a ≠ 86 → I' a = I a := fun a h1 h2 => by rw [p1 a h1 h2]; unfold bgM; rw [va_up_ne _ _ h1, va_up_ne _ _ h2]
  have ef : ∀ f, f ≠ 18 → f ≠ 20 → I' 73 f = I 73 f := fun f h1 h2 => by rw [p5 f h1 h2]; unfold bgM; rw [vu_same, va_up_ne _ _ h1]
  iterate 3 refine Go.step rfl ?_
  rw [p4]
  refine Go.step rfl ?_
  refine Go.ifz (fun c1 => ?_) (fun c1 => ?_)
  · have d1 := of_decide_eq_false c1
    dsimp only
    rw [c1, if_neg d1, if_neg d1, if_neg (by decide)]
    have hM2 : MC I' b K m := ⟨hM.1, by rw [ef 19 (by decide) (by decide)]; exact hM.2.1, by rw [ea 74 (by decide) (by decide)]; exact hM.2.2.1, by rw [ea 74 (by decide) (by decide)]; exact hM.2.2.2⟩
    have hc2 : I' 73 18 = nI (c + 2) := by rw [p3]; rfl
    iterate 3 refine Go.step rfl ?_
    refine Go.cal (m_kindNow _ T b K m hM2) (by decide) rfl ?_
    rintro _ _ ⟨rfl, rfl⟩
    refine Go.step rfl ?_
    refine Go.cal (mt_ b K hK m K hK I' T (c + 2) 1 hM2 hc2 (by omega)) (by decide) rfl ?_
    rintro _ _ ⟨rfl, rfl⟩
    refine Go.step rfl ?_
    have ht := MC.tr (ttl K K) (c + 2) hM2 hc2
    refine Go.ret rfl ⟨_, rfl, ⟨fun a h1 h2 => by rw [trM_ne _ _ _ _ h1 h2]; exact ea a h1 h2, ?_, ?_, ?_, fun f h1 h2 => by rw [trM_73 _ _ _ _ h1]; exact ef f h1 h2⟩, rfl⟩
    · rw [trM_86, p2, e86]; rfl
    · rw [ht.2, List.length_cons, List.length_cons]; congr 1; omega
    · rw [trM_73 _ _ _ _ (by decide), p4, c1]
  · have d1 := of_decide_eq_true c1
    dsimp only
    rw [c1, if_pos d1, if_pos d1, if_pos rfl]
    iterate 2 refine Go.step rfl ?_
    exact Go.ret rfl ⟨I', rfl, ⟨ea, by rw [p2, e86], by rw [p3]; rfl, by rw [p4, c1], ef⟩, rfl⟩
theorem mp_d0 (b K : Nat) (m : Int32) (q : Nat) (hq : q = 2 ∨ q = 6) : MPar b K m 3 q 20 [13] (fun x => if m - nI b = 0 then 0 else x / (m - nI b)) := by
  intro I T c x hM hc hL
  rcases hq with rfl | rfl
  · iterate 2 refine Go.step rfl ?_
    iterate 2 refine Go.step rfl ?_
    refine Go.cal (m_above _ 2 (by decide)) (by decide) rfl ?_
    rintro _ _ ⟨rfl, rfl⟩
    refine Go.step rfl ?_
    refine Go.cal (mp_0 b K m I T c x hM hc hL) (by decide) rfl ?_
    rintro _ _ ⟨I', rfl, h, rfl⟩
    exact Go.ret rfl ⟨I', rfl, h, rfl⟩
  · iterate 2 refine Go.step rfl ?_
    iterate 2 refine Go.step rfl ?_
    refine Go.cal (m_above _ 6 (by decide)) (by decide) rfl ?_
    rintro _ _ ⟨rfl, rfl⟩
    refine Go.step rfl ?_
    refine Go.cal (mp_0 b K m I T c x hM hc hL) (by decide) rfl ?_
    rintro _ _ ⟨I', rfl, h, rfl⟩
    exact Go.ret rfl ⟨I', rfl, h, rfl⟩
theorem mp_5 (b K : Nat) (m : Int32) : MPar b K m 4 5 20 [13] (fun x => if m - nI b = 0 then 0 else x / (m - nI b)) := by
  intro I T c x hM hc hL
  iterate 2 refine Go.step rfl ?_
  iterate 2 refine Go.step rfl ?_
  refine Go.cal (m_above _ 5 (by decide)) (by decide) rfl ?_
  rintro _ _ ⟨rfl, rfl⟩
  refine Go.step rfl ?_
  refine Go.cal (mp_d0 b K m 2 (by decide) I T c x hM hc hL) (by decide) rfl ?_
  rintro _ _ ⟨I', rfl, h, rfl⟩
  exact Go.ret rfl ⟨I', rfl, h, rfl⟩
theorem mp_34 (b K : Nat) (hK : K < 7) (m : Int32) (q : Nat) (hq : q = 3 ∨ q = 4) : MPar b K m 9 q 12 (if decide (m - nI b = 0) = true then [21, 13] else 21 :: 13 :: ttl K K) (fun x => if m - nI b = 0 then 0 else x / (m - nI b) + tvl K m (nI b) K 1) := by
  intro I T c x hM hc hL
  rcases hq with rfl | rfl
  · iterate 2 refine Go.step rfl ?_
    iterate 2 refine Go.step rfl ?_
    refine Go.cal (m_above _ 3 (by decide)) (by decide) rfl ?_
    rintro _ _ ⟨rfl, rfl⟩
    refine Go.step rfl ?_
    refine Go.cal (mp_1 b K hK m I T c x hM hc hL) (by decide) rfl ?_
    rintro _ _ ⟨I', rfl, h, rfl⟩
    exact Go.ret rfl ⟨I', rfl, h, rfl⟩
  · iterate 2 refine Go.step rfl ?_
    iterate 2 refine Go.step rfl ?_
    refine Go.cal (m_above _ 4 (by decide)) (by decide) rfl ?_
    rintro _ _ ⟨rfl, rfl⟩
    refine Go.step rfl ?_
    refine Go.cal (mp_1 b K hK m I T c x hM hc hL) (by decide) rfl ?_
    rintro _ _ ⟨I', rfl, h, rfl⟩
    exact Go.ret rfl ⟨I', rfl, h, rfl⟩
theorem MPar.up {b K : Nat} {m : Int32} {d d' q B B' : Nat} {L : List Nat} {f : Int32 → Int32} (h : MPar b K m d q B L f) (hd : d ≤ d') (hB : B' ≤ B) : MPar b K m d' q B' L f :=
  fun I T c x h1 h2 h3 => Go.up hd (h I T c x h1 h2 (by omega))
theorem mp_ (b K : Nat) (hK : K < 7) (m : Int32) (q : Nat) (hq : q < 7) : MPar b K m 9 q 12 (ptl K q (decide (m - nI b = 0))) (pvl K m (nI b) q) := by
  rcases (show q = 0 ∨ q = 1 ∨ q = 2 ∨ q = 3 ∨ q = 4 ∨ q = 5 ∨ q = 6 by omega) with rfl | rfl | rfl | rfl | rfl | rfl | rfl
  · exact (mp_0 b K m).up (by decide) (by decide)
  · exact (mp_1 b K hK m).up (by decide) (by decide)
  · exact (mp_d0 b K m 2 (by decide)).up (by decide) (by decide)
  · exact mp_34 b K hK m 3 (by decide)
  · exact mp_34 b K hK m 4 (by decide)
  · exact (mp_5 b K m).up (by decide) (by decide)
  · exact (mp_d0 b K m 6 (by decide)).up (by decide) (by decide)
theorem m_voice (I : AI) (T : AT) (hs : sOK (I 74)) (b v x : Int32) : Ct 11 y_M_voice [.ref 73, .int b, .int v, .int x] (hp I T) (MQ2 I T (sp_voice I b v x)) := by
  have bad : (win b 0 (I 74 0 - 1) && win v 0 3) = false → Go 11 y_M_voice 17 [some (.ref 73), some (.int b), some (.int v), some (.int x), none, none] [] (hp I T) (MQ2 I T (sp_voice I b v x)) := by
    intro hq
    iterate 2 refine Go.step rfl ?_
    exact m_errq (k := 1) (by decide) (by rw [sp_voice, hq]; rfl) rfl rfl rfl (by decide)
  iterate 2 refine Go.step rfl ?_
  refine Go.cal (m_isBoat I T b) (by decide) rfl ?_
  rintro _ _ ⟨rfl, rfl⟩
  refine Go.step rfl ?_
  refine Go.ifz (fun c1 => ?_) (fun c1 => ?_)
  · exact bad (by rw [c1]; rfl)
  · iterate 3 refine Go.step rfl ?_
    refine Go.cal (m_in _ v 0 3) (by decide) rfl ?_
    rintro _ _ ⟨rfl, rfl⟩
    refine Go.step rfl ?_
    refine Go.ifz (fun c2 => ?_) (fun c2 => ?_)
    · exact bad (by rw [c2, Bool.and_false])
    · obtain ⟨j, hj, hj8, rfl⟩ := boat_of_win hs.1 c1
      obtain ⟨w, hw4, rfl⟩ := nI_of_win (N := 3) (by decide) c2
      have hcl : cl (nI j) = j := nI_clamp (by omega)
      have hclw : cl (nI w) = w := nI_clamp (by omega)
      obtain ⟨eK, hK⟩ := (hs.2.2.2.2.2.2.2 j hj).1.eq (by decide)
      rw [sp_voice, c1, c2, hcl, hclw]
      show Go _ _ _ _ _ _ (MQ2 I T (bif vP w (I 74 (58 + 8 * j + 1)) (nI j) then (er (voJ I (vL (cl (I 74 (58 + 8 * j))) w (vP w (I 74 (58 + 8 * j + 1)) (nI j)))) 6, LO 6) else (voJ I (vL (cl (I 74 (58 + 8 * j))) w (vP w (I 74 (58 + 8 * j + 1)) (nI j))), vV (cl (I 74 (58 + 8 * j))) (I 74 (58 + 8 * j + 1)) (nI j) w x)))
      generalize hKK : cl (I 74 (58 + 8 * j)) = K at eK hK
      generalize hm : I 74 (58 + 8 * j + 1) = m
      have hK7 : K < 7 := by omega
      iterate 9 refine Go.step rfl ?_
      simp only [vu_idem, vu_same]
      generalize hI0 : va_up I 73 _ = I0
      have i18 : I0 73 18 = nI 0 := by rw [← hI0, vu_same]; rfl
      have i19 : I0 73 19 = nI j := by rw [← hI0, vu_same]; rfl
      have i20 : I0 73 20 = 0 := by rw [← hI0, vu_same]; rfl
      have i3 : I0 73 3 = I 73 3 := by rw [← hI0, vu_same]; rfl
      have ia : ∀ a, a ≠ 73 → I0 a = I a := fun a ha => by rw [← hI0]; exact va_up_ne _ _ ha
      have hM : MC I0 j K m := ⟨hj8, i19, by rw [ia 74 (by decide)]; exact eK, by rw [ia 74 (by decide)]; exact hm⟩
      have fin : ∀ (I' : AI) (v0 : Int32) (t4 : Option Value), QO I0 0 (vL K w (vP w m (nI j))) (vP w m (nI j)) I' → v0 = vV K m (nI j) w x → Go 11 y_M_voice 95 [some (.ref 73), some (.int (nI j)), some (.int (nI w)), some (.int x), t4, none] [.int v0] (hp I' T) (MQ2 I T (bif vP w m (nI j) then (er (voJ I (vL K w (vP w m (nI j)))) 6, LO 6) else (voJ I (vL K w (vP w m (nI j))), vV K m (nI j) w x))) := by
        intro I' v0 t4 hQ hv0
        obtain ⟨p1, p2, p3, p4, p5⟩ := hQ
        have ko : ∀ a, a < 73 ∨ 90 < a → I' a = I a := fun a ha => by rw [p1 a (by omega) (by omega)]; exact ia a (by omega)
        have kj : JE (voJ I (vL K w (vP w m (nI j)))) I' := by
          have q : ∀ a, a ≠ 73 → a ≠ 86 → voJ I (vL K w (vP w m (nI j))) a = I' a := fun a h1 h2 => by rw [voJ_ne _ _ h1 h2, p1 a h1 h2]; exact (ia a h1).symm
          exact ⟨by rw [voJ_73, va_up_ne _ _ (by decide), p5 3 (by decide) (by decide)]; exact i3.symm, by rw [voJ_73, vu_same, p3, Nat.zero_add], q _ (by decide) (by decide), q _ (by decide) (by decide), q _ (by decide) (by decide), by rw [voJ_86, p2, ia 86 (by decide)], q _ (by decide) (by decide), q _ (by decide) (by decide), q _ (by decide) (by decide)⟩
        iterate 3 refine Go.step rfl ?_
        rw [p4]
        refine Go.step rfl ?_
        refine Go.ifz (fun c3 => ?_) (fun c3 => ?_)
        · rw [c3] at kj ⊢
          refine Go.step rfl ?_
          exact Go.ret rfl ⟨I', rfl, ko, kj, by rw [hv0]; rfl⟩
        · rw [c3] at kj ⊢
          iterate 2 refine Go.step rfl ?_
          refine Go.cal (m_error I' T 6 (by decide)) (by decide) rfl ?_
          rintro _ _ ⟨rfl, rfl⟩
          refine Go.step rfl ?_
          exact Go.ret rfl ⟨er I' 6, rfl, fun a ha => by rw [er_out _ _ ha]; exact ko a ha, kj.er1 6, rfl⟩
      have plain : ∀ (L : List Nat), QO I0 0 L false (trM I0 0 L) := fun L =>
        ⟨fun a h1 h2 => trM_ne _ _ _ _ h1 h2, trM_86 _ _ _, (MC.tr L 0 hM i18).2, by rw [trM_73 _ _ _ _ (by decide)]; exact i20, fun f h1 h2 => trM_73 _ _ _ _ h1⟩
      have h1 := svt_len K
      have h2 := ttl_len K K
      have h3 := otl_len K K
      refine Go.step rfl ?_
      refine Go.cal (m_kindNow I0 T j K m hM) (by decide) rfl ?_
      rintro _ _ ⟨rfl, rfl⟩
      rcases (show w = 0 ∨ w = 1 ∨ w = 2 ∨ w = 3 by omega) with rfl | rfl | rfl | rfl
      · iterate 3 refine Go.step rfl ?_
        iterate 3 refine Go.step rfl ?_
        refine Go.cal (ms_ j K m K hK7 I0 T 0 x hM i18 (by omega)) (by decide) rfl ?_
        rintro _ _ ⟨rfl, rfl⟩
        refine Go.step rfl ?_
        exact fin _ _ _ (plain _) rfl
      · iterate 3 refine Go.step rfl ?_
        iterate 3 refine Go.step rfl ?_
        iterate 3 refine Go.step rfl ?_
        refine Go.cal (mt_ j K hK7 m K hK7 I0 T 0 x hM i18 (by omega)) (by decide) rfl ?_
        rintro _ _ ⟨rfl, rfl⟩
        refine Go.step rfl ?_
        exact fin _ _ _ (plain _) rfl
      · iterate 3 refine Go.step rfl ?_
        iterate 3 refine Go.step rfl ?_
        iterate 3 refine Go.step rfl ?_
        iterate 3 refine Go.step rfl ?_
        refine Go.cal (mo_ j K hK7 m K hK7 I0 T 0 x hM i18 (by omega)) (by decide) rfl ?_
        rintro _ _ ⟨rfl, rfl⟩
        refine Go.step rfl ?_
        exact fin _ _ _ (plain _) rfl
      · iterate 3 refine Go.step rfl ?_
        iterate 3 refine Go.step rfl ?_
        iterate 3 refine Go.step rfl ?_
        iterate 3 refine Go.step rfl ?_
        refine Go.cal (mp_ j K hK7 m K hK7 I0 T 0 x hM i18 (by decide)) (by decide) rfl ?_
        rintro _ _ ⟨I', rfl, hQ, rfl⟩
        have eP : vP 3 m (nI j) = decide (m - nI j = 0) := by
          unfold vP
          congr 1
          exact propext ⟨fun q => q.2, fun q => ⟨rfl, q⟩⟩
        refine fin I' _ _ ?_ rfl
        rw [eP]
        exact hQ
theorem JE.vo {J J' : AI} (e : JE J J') (L : List Nat) : JE (voJ J L) (voJ J' L) := by
  obtain ⟨e1, e2, e3, e4, e5, e6, e7, e8, e9⟩ := e
  have q : ∀ (J : AI) a, a ≠ 73 → a ≠ 86 → voJ J L a = J a := fun J a h1 h2 => voJ_ne J L h1 h2
  exact ⟨by rw [voJ_73, voJ_73, va_up_ne _ _ (by decide), va_up_ne _ _ (by decide)]; exact e1, by rw [voJ_73, voJ_73, vu_same, vu_same], by rw [q _ _ (by decide) (by decide), q _ _ (by decide) (by decide)]; exact e3, by rw [q _ _ (by decide) (by decide), q _ _ (by decide) (by decide)]; exact e4, by rw [q _ _ (by decide) (by decide), q _ _ (by decide) (by decide)]; exact e5, by rw [voJ_86, voJ_86, e6], by rw [q _ _ (by decide) (by decide), q _ _ (by decide) (by decide)]; exact e7, by rw [q _ _ (by decide) (by decide), q _ _ (by decide) (by decide)]; exact e8, by rw [q _ _ (by decide) (by decide), q _ _ (by decide) (by decide)]; exact e9⟩
theorem HB.vo {J : AI} (h : HB J) (L : List Nat) : HB (voJ J L) := by
  unfold HB
  rw [voJ_ne _ _ (show 74 ≠ 73 by decide) (by decide), voJ_ne _ _ (show 75 ≠ 73 by decide) (by decide), voJ_73, va_up_ne _ _ (by decide)]
  exact h
theorem op_voice (a b c : Int32) : OpOK y_X_voice y_M_voice [.int a, .int b, .int c] := by
  refine op_new (sp := fun J => sp_voice J a b c) (fun xs I T J h => x_voice xs I T J h a b c) (fun xs I0 T0 I T h => m_voice I T h.1 a b c) (by decide) (by decide) ?_ ?_
  · unfold sp_voice
    exact SpC.bif2 (fun J J' e => by rw [e.2.2.1]) (SpC.bif2 (fun J J' e => by rw [e.2.2.1]) (fun J J' e => ⟨by rw [e.2.2.1]; exact (e.vo _).er1 6, rfl⟩) (fun J J' e => ⟨by rw [e.2.2.1]; exact e.vo _, by rw [e.2.2.1]⟩)) (SpC.err 1)
  · unfold sp_voice
    exact SpH.bif2 (SpH.bif2 (fun xs I T J h => (h.2.vo _).er1 6) (fun xs I T J h => h.2.vo _)) (SpH.err 1)
