/-! VOICES: the reference -/
def bgM (I : AI) (c n : Nat) : AI := va_up (va_up I 86 (va_up (I 86) c (nI n))) 73 (va_up (I 73) 18 (nI (c + 1)))
def trML : List Nat → AI → Nat → AI
  | [], I, _ => I
  | n :: L, I, c => trML L (bgM I c n) (c + 1)
def trM (I : AI) (c : Nat) (L : List Nat) : AI := trML L I c
theorem trM_cons (I : AI) (c n : Nat) (L : List Nat) : trM I c (n :: L) = trM (bgM I c n) (c + 1) L := rfl
def MC (I : AI) (b K : Nat) (m : Int32) : Prop := b < 8 ∧ I 73 19 = nI b ∧ I 74 (58 + 8 * b) = nI K ∧ I 74 (58 + 8 * b + 1) = m
theorem MC.bg {I : AI} {b K : Nat} {m : Int32} (h : MC I b K m) (c n : Nat) : MC (bgM I c n) b K m ∧ bgM I c n 73 18 = nI (c + 1) := by
  unfold bgM
  refine ⟨⟨h.1, ?_, ?_, ?_⟩, by rw [vu_same, vu_same]⟩
  · rw [vu_same, va_up_ne _ _ (by decide)]; exact h.2.1
  · rw [va_up_ne _ _ (by decide), va_up_ne _ _ (by decide)]; exact h.2.2.1
  · rw [va_up_ne _ _ (by decide), va_up_ne _ _ (by decide)]; exact h.2.2.2
theorem MC.tr {b K : Nat} {m : Int32} : ∀ (L : List Nat) {I : AI} (c : Nat), MC I b K m → I 73 18 = nI c → MC (trM I c L) b K m ∧ trM I c L 73 18 = nI (c + L.length) := by
  intro L
  induction L with
  | nil => intro I c h hc; exact ⟨h, hc⟩
  | cons n L ih =>
    intro I c h hc
    rw [trM_cons]
    have := h.bg c n
    have := ih (c + 1) this.1 this.2
    rw [List.length_cons, show c + (L.length + 1) = c + 1 + L.length by omega]
    exact this
theorem trM_ne : ∀ (L : List Nat) (I : AI) (c a : Nat), a ≠ 73 → a ≠ 86 → trM I c L a = I a := by
  intro L
  induction L with
  | nil => intro I c a h1 h2; rfl
  | cons n L ih => intro I c a h1 h2; rw [trM_cons, ih _ _ _ h1 h2]; unfold bgM; rw [va_up_ne _ _ h1, va_up_ne _ _ h2]
theorem trM_86 : ∀ (L : List Nat) (I : AI) (c : Nat), trM I c L 86 = tw (I 86) c L := by
  intro L
  induction L with
  | nil => intro I c; rfl
  | cons n L ih =>
    intro I c
    rw [trM_cons, ih, tw_cons]
    unfold bgM
    rw [va_up_ne _ _ (by decide), vu_same]
theorem trM_73 : ∀ (L : List Nat) (I : AI) (c f : Nat), f ≠ 18 → trM I c L 73 f = I 73 f := by
  intro L
  induction L with
  | nil => intro I c f h; rfl
  | cons n L ih =>
    intro I c f h
    rw [trM_cons, ih _ _ _ h]
    unfold bgM
    rw [vu_same, va_up_ne _ _ h]
theorem m_begins (I : AI) (T : AT) (c n : Nat) (hc : I 73 18 = nI c) (h30 : c < 30) : Ct 0 y_M_begins [.ref 73, .int (nI n)] (hp I T) (fun r h' => h' = hp (bgM I c n) T ∧ r = none) := by
  iterate 2 refine Go.step rfl ?_
  rw [hc]
  iterate 2 refine Go.step rfl ?_
  refine Go.ifn (nI_ge (a := c) (b := 30) h30 (by decide)) ?_
  iterate 4 refine Go.step rfl ?_
  rw [hc]
  refine Go.step rfl ?_
  refine Go.iast rfl rfl (am_in_nI h30 (by decide)) ?_
  rw [nI_clamp (by omega)]
  iterate 6 refine Go.step rfl ?_
  refine Go.ret rfl ⟨?_, rfl⟩
  rw [va_up_ne _ _ (show 73 ≠ 86 by decide), hc, nI_1]
  rfl
def abv (q : Nat) : Nat := if q = 3 ∨ q = 4 then 1 else if q = 5 then 2 else 0
theorem m_above (h : AH) (q : Nat) (hq : q < 7) : Ct 0 y_M_above [.int (nI q)] h (fun r h' => h' = h ∧ r = some (.int (nI (abv q)))) := by
  obtain ⟨I, P, S, n, sl⟩ := h
  rcases (show q = 0 ∨ q = 1 ∨ q = 2 ∨ q = 3 ∨ q = 4 ∨ q = 5 ∨ q = 6 by omega) with rfl | rfl | rfl | rfl | rfl | rfl | rfl
  all_goals
    repeat refine Go.step rfl ?_
    exact Go.ret rfl ⟨rfl, rfl⟩
theorem m_kindNow (I : AI) (T : AT) (b K : Nat) (m : Int32) (hM : MC I b K m) : Ct 1 y_M_kindNow [.ref 73] (hp I T) (fun r h' => h' = hp I T ∧ r = some (.int (nI K))) := by
  iterate 3 refine Go.step rfl ?_
  rw [hM.2.1]
  refine Go.step rfl ?_
  refine Go.cal (m_its I T b 0 hM.1 (by decide)) (by decide) rfl ?_
  rintro _ _ ⟨rfl, rfl⟩
  refine Go.ret rfl ⟨rfl, ?_⟩
  rw [Nat.add_zero, hM.2.2.1]
theorem m_mNow (I : AI) (T : AT) (b K : Nat) (m : Int32) (hM : MC I b K m) : Ct 1 y_M_mNow [.ref 73] (hp I T) (fun r h' => h' = hp I T ∧ r = some (.int m)) := by
  iterate 3 refine Go.step rfl ?_
  rw [hM.2.1]
  refine Go.step rfl ?_
  refine Go.cal (m_its I T b 1 hM.1 (by decide)) (by decide) rfl ?_
  rintro _ _ ⟨rfl, rfl⟩
  refine Go.ret rfl ⟨rfl, ?_⟩
  rw [hM.2.2.2]
def MSay (y b K : Nat) (m : Int32) (d q : Nat) (L : List Nat) (f : Int32 → Int32) : Prop := ∀ (I : AI) (T : AT) (c : Nat) (x : Int32), MC I b K m → I 73 18 = nI c → c + L.length ≤ 30 → Ct d y [.ref 73, .int (nI q), .int x] (hp I T) (fun r h' => h' = hp (trM I c L) T ∧ r = some (.int (f x)))
theorem MSay.up {y b K : Nat} {m : Int32} {d d' q : Nat} {L : List Nat} {f : Int32 → Int32} (h : MSay y b K m d q L f) (hd : d ≤ d') : MSay y b K m d' q L f :=
  fun I T c x h1 h2 h3 => Go.up hd (h I T c x h1 h2 h3)
theorem ms_0 (b K : Nat) (m : Int32) : MSay y_M_sailsBy b K m 1 0 [10] (fun x => x + nI b) := by
  intro I T c x hM hc hL
  have hL' : c + 1 ≤ 30 := hL
  iterate 2 refine Go.step rfl ?_
  iterate 2 refine Go.step rfl ?_
  refine Go.cal (m_begins I T c 10 hc (by omega)) (by decide) rfl ?_
  rintro _ _ ⟨rfl, rfl⟩
  iterate 3 refine Go.step rfl ?_
  rw [(hM.bg c 10).1.2.1]
  refine Go.step rfl ?_
  exact Go.ret rfl ⟨rfl, rfl⟩
theorem ms_1 (b K : Nat) (m : Int32) : MSay y_M_sailsBy b K m 2 1 [20, 10] (fun x => x + nI b - 3) := by
  intro I T c x hM hc hL
  have hL' : c + 2 ≤ 30 := hL
  have hb := hM.bg c 20
  iterate 2 refine Go.step rfl ?_
  iterate 2 refine Go.step rfl ?_
  refine Go.cal (m_begins I T c 20 hc (by omega)) (by decide) rfl ?_
  rintro _ _ ⟨rfl, rfl⟩
  iterate 2 refine Go.step rfl ?_
  refine Go.cal (m_above _ 1 (by decide)) (by decide) rfl ?_
  rintro _ _ ⟨rfl, rfl⟩
  refine Go.step rfl ?_
  refine Go.cal (ms_0 b K m (bgM I c 20) T (c + 1) x hb.1 hb.2 (by show c + 1 + 1 ≤ 30; omega)) (by decide) rfl ?_
  rintro _ _ ⟨rfl, rfl⟩
  iterate 2 refine Go.step rfl ?_
  exact Go.ret rfl ⟨rfl, rfl⟩
theorem ms_3 (b K : Nat) (m : Int32) : MSay y_M_sailsBy b K m 3 3 [40, 20, 10] (fun x => (x + nI b - 3) * 3) := by
  intro I T c x hM hc hL
  have hL' : c + 3 ≤ 30 := hL
  have hb := hM.bg c 40
  iterate 2 refine Go.step rfl ?_
  iterate 2 refine Go.step rfl ?_
  refine Go.cal (m_begins I T c 40 hc (by omega)) (by decide) rfl ?_
  rintro _ _ ⟨rfl, rfl⟩
  iterate 2 refine Go.step rfl ?_
  refine Go.cal (m_above _ 3 (by decide)) (by decide) rfl ?_
  rintro _ _ ⟨rfl, rfl⟩
  refine Go.step rfl ?_
  refine Go.cal (ms_1 b K m (bgM I c 40) T (c + 1) x hb.1 hb.2 (by show c + 1 + 2 ≤ 30; omega)) (by decide) rfl ?_
  rintro _ _ ⟨rfl, rfl⟩
  iterate 2 refine Go.step rfl ?_
  exact Go.ret rfl ⟨rfl, rfl⟩
theorem ms_6 (b K : Nat) (m : Int32) : MSay y_M_sailsBy b K m 1 6 [70] (fun _ => 5) := by
  intro I T c x hM hc hL
  have hL' : c + 1 ≤ 30 := hL
  iterate 2 refine Go.step rfl ?_
  iterate 2 refine Go.step rfl ?_
  refine Go.cal (m_begins I T c 70 hc (by omega)) (by decide) rfl ?_
  rintro _ _ ⟨rfl, rfl⟩
  refine Go.step rfl ?_
  exact Go.ret rfl ⟨rfl, rfl⟩
theorem ms_2 (b K : Nat) (m : Int32) : MSay y_M_sailsBy b K m 2 2 [10] (fun x => x + nI b) := by
  intro I T c x hM hc hL
  iterate 2 refine Go.step rfl ?_
  iterate 2 refine Go.step rfl ?_
  refine Go.cal (m_above _ 2 (by decide)) (by decide) rfl ?_
  rintro _ _ ⟨rfl, rfl⟩
  refine Go.step rfl ?_
  refine Go.cal (ms_0 b K m I T c x hM hc hL) (by decide) rfl ?_
  rintro _ _ ⟨rfl, rfl⟩
  exact Go.ret rfl ⟨rfl, rfl⟩
theorem ms_4 (b K : Nat) (m : Int32) : MSay y_M_sailsBy b K m 3 4 [20, 10] (fun x => x + nI b - 3) := by
  intro I T c x hM hc hL
  iterate 2 refine Go.step rfl ?_
  iterate 2 refine Go.step rfl ?_
  refine Go.cal (m_above _ 4 (by decide)) (by decide) rfl ?_
  rintro _ _ ⟨rfl, rfl⟩
  refine Go.step rfl ?_
  refine Go.cal (ms_1 b K m I T c x hM hc hL) (by decide) rfl ?_
  rintro _ _ ⟨rfl, rfl⟩
  exact Go.ret rfl ⟨rfl, rfl⟩
theorem ms_5 (b K : Nat) (m : Int32) : MSay y_M_sailsBy b K m 3 5 [10] (fun x => x + nI b) := by
  intro I T c x hM hc hL
  iterate 2 refine Go.step rfl ?_
  iterate 2 refine Go.step rfl ?_
  refine Go.cal (m_above _ 5 (by decide)) (by decide) rfl ?_
  rintro _ _ ⟨rfl, rfl⟩
  refine Go.step rfl ?_
  refine Go.cal (ms_2 b K m I T c x hM hc hL) (by decide) rfl ?_
  rintro _ _ ⟨rfl, rfl⟩
  exact Go.ret rfl ⟨rfl, rfl⟩
theorem ms_ (b K : Nat) (m : Int32) (q : Nat) (hq : q < 7) : MSay y_M_sailsBy b K m 3 q (svt q) (svl (nI b) q) := by
  rcases (show q = 0 ∨ q = 1 ∨ q = 2 ∨ q = 3 ∨ q = 4 ∨ q = 5 ∨ q = 6 by omega) with rfl | rfl | rfl | rfl | rfl | rfl | rfl
  · exact (ms_0 b K m).up (by decide)
  · exact (ms_1 b K m).up (by decide)
  · exact (ms_2 b K m).up (by decide)
  · exact ms_3 b K m
  · exact ms_4 b K m
  · exact ms_5 b K m
  · exact (ms_6 b K m).up (by decide)
theorem mt_0 (b K : Nat) (hK : K < 7) (m : Int32) : MSay y_M_takesBy b K m 4 0 (tt0 K) (tv0 K (nI b)) := by
  intro I T c x hM hc hL
  have hL' : c + ((svt K).length + 1) ≤ 30 := hL
  have hb := hM.bg c 11
  iterate 2 refine Go.step rfl ?_
  iterate 2 refine Go.step rfl ?_
  refine Go.cal (m_begins I T c 11 hc (by omega)) (by decide) rfl ?_
  rintro _ _ ⟨rfl, rfl⟩
  iterate 2 refine Go.step rfl ?_
  refine Go.cal (m_kindNow _ T b K m hb.1) (by decide) rfl ?_
  rintro _ _ ⟨rfl, rfl⟩
  refine Go.step rfl ?_
  refine Go.cal (ms_ b K m K hK (bgM I c 11) T (c + 1) x hb.1 hb.2 (by omega)) (by decide) rfl ?_
  rintro _ _ ⟨rfl, rfl⟩
  iterate 2 refine Go.step rfl ?_
  exact Go.ret rfl ⟨rfl, rfl⟩
theorem mt_2 (b K : Nat) (hK : K < 7) (m : Int32) : MSay y_M_takesBy b K m 5 2 (30 :: tt0 K) (fun x => 0 - tv0 K (nI b) x) := by
  intro I T c x hM hc hL
  have hL' : c + ((tt0 K).length + 1) ≤ 30 := hL
  have hb := hM.bg c 30
  iterate 2 refine Go.step rfl ?_
  iterate 2 refine Go.step rfl ?_
  refine Go.cal (m_begins I T c 30 hc (by omega)) (by decide) rfl ?_
  rintro _ _ ⟨rfl, rfl⟩
  iterate 3 refine Go.step rfl ?_
  refine Go.cal (m_above _ 2 (by decide)) (by decide) rfl ?_
  rintro _ _ ⟨rfl, rfl⟩
  refine Go.step rfl ?_
  refine Go.cal (mt_0 b K hK m (bgM I c 30) T (c + 1) x hb.1 hb.2 (by omega)) (by decide) rfl ?_
  rintro _ _ ⟨rfl, rfl⟩
  refine Go.step rfl ?_
  exact Go.ret rfl ⟨rfl, rfl⟩
theorem mt_5 (b K : Nat) (hK : K < 7) (m : Int32) : MSay y_M_takesBy b K m 6 5 (60 :: 30 :: tt0 K) (fun x => 0 - tv0 K (nI b) (x + 1)) := by
  intro I T c x hM hc hL
  have hL' : c + ((tt0 K).length + 1 + 1) ≤ 30 := hL
  have hb := hM.bg c 60
  iterate 2 refine Go.step rfl ?_
  iterate 2 refine Go.step rfl ?_
  refine Go.cal (m_begins I T c 60 hc (by omega)) (by decide) rfl ?_
  rintro _ _ ⟨rfl, rfl⟩
  iterate 2 refine Go.step rfl ?_
  refine Go.cal (m_above _ 5 (by decide)) (by decide) rfl ?_
  rintro _ _ ⟨rfl, rfl⟩
  iterate 3 refine Go.step rfl ?_
  refine Go.cal (mt_2 b K hK m (bgM I c 60) T (c + 1) (x + 1) hb.1 hb.2 (by show c + 1 + ((tt0 K).length + 1) ≤ 30; omega)) (by decide) rfl ?_
  rintro _ _ ⟨rfl, rfl⟩
  exact Go.ret rfl ⟨rfl, rfl⟩
theorem mt_6 (b K : Nat) (hK : K < 7) (m : Int32) : MSay y_M_takesBy b K m 5 6 (71 :: tt0 K) (fun x => tv0 K (nI b) x + m) := by
  intro I T c x hM hc hL
  have hL' : c + ((tt0 K).length + 1) ≤ 30 := hL
  have hb := hM.bg c 71
  have ht := MC.tr (tt0 K) (c + 1) hb.1 hb.2
  iterate 2 refine Go.step rfl ?_
  iterate 2 refine Go.step rfl ?_
  refine Go.cal (m_begins I T c 71 hc (by omega)) (by decide) rfl ?_
  rintro _ _ ⟨rfl, rfl⟩
  iterate 2 refine Go.step rfl ?_
  refine Go.cal (m_above _ 6 (by decide)) (by decide) rfl ?_
  rintro _ _ ⟨rfl, rfl⟩
  refine Go.step rfl ?_
  refine Go.cal (mt_0 b K hK m (bgM I c 71) T (c + 1) x hb.1 hb.2 (by omega)) (by decide) rfl ?_
  rintro _ _ ⟨rfl, rfl⟩
  refine Go.step rfl ?_
  refine Go.cal (m_mNow _ T b K m ht.1) (by decide) rfl ?_
  rintro _ _ ⟨rfl, rfl⟩
  refine Go.step rfl ?_
  exact Go.ret rfl ⟨rfl, rfl⟩
theorem mt_1 (b K : Nat) (hK : K < 7) (m : Int32) : MSay y_M_takesBy b K m 5 1 (tt0 K) (tv0 K (nI b)) := by
  intro I T c x hM hc hL
  iterate 2 refine Go.step rfl ?_
  iterate 2 refine Go.step rfl ?_
  refine Go.cal (m_above _ 1 (by decide)) (by decide) rfl ?_
  rintro _ _ ⟨rfl, rfl⟩
  refine Go.step rfl ?_
  refine Go.cal (mt_0 b K hK m I T c x hM hc hL) (by decide) rfl ?_
  rintro _ _ ⟨rfl, rfl⟩
  exact Go.ret rfl ⟨rfl, rfl⟩
theorem mt_34 (b K : Nat) (hK : K < 7) (m : Int32) (q : Nat) (hq : q = 3 ∨ q = 4) : MSay y_M_takesBy b K m 6 q (tt0 K) (tv0 K (nI b)) := by
  intro I T c x hM hc hL
  rcases hq with rfl | rfl
  · iterate 2 refine Go.step rfl ?_
    iterate 2 refine Go.step rfl ?_
    refine Go.cal (m_above _ 3 (by decide)) (by decide) rfl ?_
    rintro _ _ ⟨rfl, rfl⟩
    refine Go.step rfl ?_
    refine Go.cal (mt_1 b K hK m I T c x hM hc hL) (by decide) rfl ?_
    rintro _ _ ⟨rfl, rfl⟩
    exact Go.ret rfl ⟨rfl, rfl⟩
  · iterate 2 refine Go.step rfl ?_
    iterate 2 refine Go.step rfl ?_
    refine Go.cal (m_above _ 4 (by decide)) (by decide) rfl ?_
    rintro _ _ ⟨rfl, rfl⟩
    refine Go.step rfl ?_
    refine Go.cal (mt_1 b K hK m I T c x hM hc hL) (by decide) rfl ?_
    rintro _ _ ⟨rfl, rfl⟩
    exact Go.ret rfl ⟨rfl, rfl⟩
theorem mt_ (b K : Nat) (hK : K < 7) (m : Int32) (q : Nat) (hq : q < 7) : MSay y_M_takesBy b K m 6 q (ttl K q) (tvl K m (nI b) q) := by
  rcases (show q = 0 ∨ q = 1 ∨ q = 2 ∨ q = 3 ∨ q = 4 ∨ q = 5 ∨ q = 6 by omega) with rfl | rfl | rfl | rfl | rfl | rfl | rfl
  · exact (mt_0 b K hK m).up (by decide)
  · exact (mt_1 b K hK m).up (by decide)
  · exact (mt_2 b K hK m).up (by decide)
  · exact mt_34 b K hK m 3 (Or.inl rfl)
  · exact mt_34 b K hK m 4 (Or.inr rfl)
  · exact mt_5 b K hK m
  · exact (mt_6 b K hK m).up (by decide)
theorem mo_0 (b K : Nat) (hK : K < 7) (m : Int32) : MSay y_M_owesBy b K m 7 0 (ot0 K) (ov0 K m (nI b)) := by
  intro I T c x hM hc hL
  have hL' : c + ((ttl K K).length + 1) ≤ 30 := hL
  have hb := hM.bg c 12
  have ht := MC.tr (ttl K K) (c + 1) hb.1 hb.2
  iterate 2 refine Go.step rfl ?_
  iterate 2 refine Go.step rfl ?_
  refine Go.cal (m_begins I T c 12 hc (by omega)) (by decide) rfl ?_
  rintro _ _ ⟨rfl, rfl⟩
  iterate 2 refine Go.step rfl ?_
  refine Go.cal (m_kindNow _ T b K m hb.1) (by decide) rfl ?_
  rintro _ _ ⟨rfl, rfl⟩
  refine Go.step rfl ?_
  refine Go.cal (mt_ b K hK m K hK (bgM I c 12) T (c + 1) x hb.1 hb.2 (by omega)) (by decide) rfl ?_
  rintro _ _ ⟨rfl, rfl⟩
  refine Go.step rfl ?_
  refine Go.cal (m_mNow _ T b K m ht.1) (by decide) rfl ?_
  rintro _ _ ⟨rfl, rfl⟩
  refine Go.step rfl ?_
  exact Go.ret rfl ⟨rfl, rfl⟩
theorem mo_d (b K : Nat) (hK : K < 7) (m : Int32) (q : Nat) (hq : q = 1 ∨ q = 2 ∨ q = 6) : MSay y_M_owesBy b K m 8 q (ot0 K) (ov0 K m (nI b)) := by
  intro I T c x hM hc hL
  rcases hq with rfl | rfl | rfl
  · iterate 2 refine Go.step rfl ?_
    iterate 2 refine Go.step rfl ?_
    refine Go.cal (m_above _ 1 (by decide)) (by decide) rfl ?_
    rintro _ _ ⟨rfl, rfl⟩
    refine Go.step rfl ?_
    refine Go.cal (mo_0 b K hK m I T c x hM hc hL) (by decide) rfl ?_
    rintro _ _ ⟨rfl, rfl⟩
    exact Go.ret rfl ⟨rfl, rfl⟩
  · iterate 2 refine Go.step rfl ?_
    iterate 2 refine Go.step rfl ?_
    refine Go.cal (m_above _ 2 (by decide)) (by decide) rfl ?_
    rintro _ _ ⟨rfl, rfl⟩
    refine Go.step rfl ?_
    refine Go.cal (mo_0 b K hK m I T c x hM hc hL) (by decide) rfl ?_
    rintro _ _ ⟨rfl, rfl⟩
    exact Go.ret rfl ⟨rfl, rfl⟩
  · iterate 2 refine Go.step rfl ?_
    iterate 2 refine Go.step rfl ?_
    refine Go.cal (m_above _ 6 (by decide)) (by decide) rfl ?_
    rintro _ _ ⟨rfl, rfl⟩
    refine Go.step rfl ?_
    refine Go.cal (mo_0 b K hK m I T c x hM hc hL) (by decide) rfl ?_
    rintro _ _ ⟨rfl, rfl⟩
    exact Go.ret rfl ⟨rfl, rfl⟩
theorem mo_5 (b K : Nat) (hK : K < 7) (m : Int32) : MSay y_M_owesBy b K m 9 5 (ot0 K) (ov0 K m (nI b)) := by
  intro I T c x hM hc hL
  iterate 2 refine Go.step rfl ?_
  iterate 2 refine Go.step rfl ?_
  refine Go.cal (m_above _ 5 (by decide)) (by decide) rfl ?_
  rintro _ _ ⟨rfl, rfl⟩
  refine Go.step rfl ?_
  refine Go.cal (mo_d b K hK m 2 (by decide) I T c x hM hc hL) (by decide) rfl ?_
  rintro _ _ ⟨rfl, rfl⟩
  exact Go.ret rfl ⟨rfl, rfl⟩
theorem mo_3 (b K : Nat) (hK : K < 7) (m : Int32) : MSay y_M_owesBy b K m 9 3 (41 :: ot0 K) (fun x => ov0 K m (nI b) x ^^^ nI b) := by
  intro I T c x hM hc hL
  have hL' : c + ((ot0 K).length + 1) ≤ 30 := hL
  have hb := hM.bg c 41
  have ht := MC.tr (ot0 K) (c + 1) hb.1 hb.2
  iterate 2 refine Go.step rfl ?_
  iterate 2 refine Go.step rfl ?_
  refine Go.cal (m_begins I T c 41 hc (by omega)) (by decide) rfl ?_
  rintro _ _ ⟨rfl, rfl⟩
  iterate 2 refine Go.step rfl ?_
  refine Go.cal (m_above _ 3 (by decide)) (by decide) rfl ?_
  rintro _ _ ⟨rfl, rfl⟩
  refine Go.step rfl ?_
  refine Go.cal (mo_d b K hK m 1 (by decide) (bgM I c 41) T (c + 1) x hb.1 hb.2 (by omega)) (by decide) rfl ?_
  rintro _ _ ⟨rfl, rfl⟩
  iterate 2 refine Go.step rfl ?_
  rw [ht.1.2.1]
  refine Go.step rfl ?_
  exact Go.ret rfl ⟨rfl, rfl⟩
theorem mo_4 (b K : Nat) (hK : K < 7) (m : Int32) : MSay y_M_owesBy b K m 9 4 (50 :: ot0 K) (fun x => ov0 K m (nI b) (x / 2)) := by
  intro I T c x hM hc hL
  have hL' : c + ((ot0 K).length + 1) ≤ 30 := hL
  have hb := hM.bg c 50
  iterate 2 refine Go.step rfl ?_
  iterate 2 refine Go.step rfl ?_
  refine Go.cal (m_begins I T c 50 hc (by omega)) (by decide) rfl ?_
  rintro _ _ ⟨rfl, rfl⟩
  iterate 2 refine Go.step rfl ?_
  refine Go.cal (m_above _ 4 (by decide)) (by decide) rfl ?_
  rintro _ _ ⟨rfl, rfl⟩
  iterate 3 refine Go.step rfl ?_
  refine Go.cal (mo_d b K hK m 1 (by decide) (bgM I c 50) T (c + 1) (x / 2) hb.1 hb.2 (by omega)) (by decide) rfl ?_
  rintro _ _ ⟨rfl, rfl⟩
  exact Go.ret rfl ⟨rfl, rfl⟩
theorem mo_ (b K : Nat) (hK : K < 7) (m : Int32) (q : Nat) (hq : q < 7) : MSay y_M_owesBy b K m 9 q (otl K q) (ovl K m (nI b) q) := by
  rcases (show q = 0 ∨ q = 1 ∨ q = 2 ∨ q = 3 ∨ q = 4 ∨ q = 5 ∨ q = 6 by omega) with rfl | rfl | rfl | rfl | rfl | rfl | rfl
  · exact (mo_0 b K hK m).up (by decide)
  · exact (mo_d b K hK m 1 (by decide)).up (by decide)
  · exact (mo_d b K hK m 2 (by decide)).up (by decide)
  · exact mo_3 b K hK m
  · exact mo_4 b K hK m
  · exact mo_5 b K hK m
  · exact (mo_d b K hK m 6 (by decide)).up (by decide)
/-- what the reference holds behind parts -/
def QO (I : AI) (c : Nat) (L : List Nat) (z : Bool) (I' : AI) : Prop := (∀ a, a ≠ 73 → a ≠ 86 → I' a = I a) ∧ I' 86 = tw (I 86) c L ∧ I' 73 18 = nI (c + L.length) ∧ I' 73 20 = bo z ∧ ∀ f, f ≠ 18 → f ≠ 20 → I' 73 f = I 73 f
def MPar (b K : Nat) (m : Int32) (d q : Nat) (L : List Nat) (f : Int32 → Int32) : Prop := ∀ (I : AI) (T : AT) (c : Nat) (x : Int32), MC I b K m → I 73 18 = nI c → c + 8 ≤ 30 → Ct d y_M_partsBy [.ref 73, .int (nI q), .int x] (hp I T) (fun r h' => ∃ I', h' = hp I' T ∧ QO I c L (decide (m - nI b = 0)) I' ∧ r = some (.int (f x)))
theorem mp_0 (b K : Nat) (m : Int32) : MPar b K m 2 0 [13] (fun x => if m - nI b = 0 then 0 else x / (m - nI b)) := by
  intro I T c x hM hc hL
  have hb := hM.bg c 13
  have fin : ∀ (z : Bool) (v : Int32), z = decide (m - nI b = 0) → v = (if m - nI b = 0 then 0 else x / (m - nI b)) → ∃ I', hp (va_up (bgM I c 13) 73 (va_up (bgM I c 13 73) 20 (bo z))) T = hp I' T ∧ QO I c [13] (decide (m - nI b = 0)) I' ∧ some (Value.int v) = some (.int (if m - nI b = 0 then 0 else x / (m - nI b))) := by
    intro z v hz hv
    refine ⟨_, rfl, ⟨fun a h1 h2 => ?_, ?_, ?_, ?_, fun f h1 h2 => ?_⟩, by rw [hv]⟩
    · rw [va_up_ne _ _ h1]; unfold bgM; rw [va_up_ne _ _ h1, va_up_ne _ _ h2]
    · rw [va_up_ne _ _ (by decide)]; unfold bgM; rw [va_up_ne _ _ (by decide), vu_same]; rfl
    · rw [vu_same, va_up_ne _ _ (by decide)]; exact hb.2
    · rw [vu_same, vu_same, hz]
    · rw [vu_same, va_up_ne _ _ h2]; unfold bgM; rw [vu_same, va_up_ne _ _ h1]
  iterate 2 refine Go.step rfl ?_
  iterate 2 refine Go.step rfl ?_
  refine Go.cal (m_begins I T c 13 hc (by omega)) (by decide) rfl ?_
  rintro _ _ ⟨rfl, rfl⟩
  refine Go.step rfl ?_
  refine Go.cal (m_mNow _ T b K m hb.1) (by decide) rfl ?_
  rintro _ _ ⟨rfl, rfl⟩
  iterate 2 refine Go.step rfl ?_
  rw [hb.1.2.1]
  iterate 5 refine Go.step rfl ?_
  refine Go.ite (fun c1 => ?_) (fun c1 => ?_)
  · iterate 3 refine Go.step rfl ?_
    iterate 2 refine Go.step rfl ?_
    refine Go.ifp c1 ?_
    iterate 2 refine Go.step rfl ?_
    exact Go.ret rfl (fin true _ (by rw [decide_eq_true c1]) (by rw [if_pos c1]))
  · iterate 2 refine Go.step rfl ?_
    iterate 2 refine Go.step rfl ?_
    refine Go.ifn c1 ?_
    iterate 3 refine Go.step rfl ?_
    refine Go.ite (fun c2 => ?_) (fun c2 => ?_)
    · iterate 3 refine Go.step rfl ?_
      exact Go.ret rfl (fin false _ (by rw [decide_eq_false c1]) (by rw [if_neg c1, c2, div_m1]))
    · iterate 2 refine Go.step rfl ?_
      refine Go.idiv rfl c1 ?_
      exact Go.ret rfl (fin false _ (by rw [decide_eq_false c1]) (by rw [if_neg c1]))
theorem mp_1 (b K : Nat) (hK : K < 7) (m : Int32) : MPar b K m 8 1 (if decide (m - nI b = 0) = true then [21, 13] else 21 :: 13 :: ttl K K) (fun x => if m - nI b = 0 then 0 else x / (m - nI b) + tvl K m (nI b) K 1) := by
  intro I T c x hM hc hL
  have hb := hM.bg c 21
  have hlen := ttl_len K K
  iterate 2 refine Go.step rfl ?_
  iterate 2 refine Go.step rfl ?_
  refine Go.cal (m_begins I T c 21 hc (by omega)) (by decide) rfl ?_
  rintro _ _ ⟨rfl, rfl⟩
  iterate 2 refine Go.step rfl ?_
  refine Go.cal (m_above _ 1 (by decide)) (by decide) rfl ?_
  rintro _ _ ⟨rfl, rfl⟩
  refine Go.step rfl ?_
  have h0 := mp_0 b K m (bgM I c 21) T (c + 1) x hb.1 hb.2
  by_cases h29 : c + 1 + 8 ≤ 30
  · refine Go.cal (h0 h29) (by decide) rfl ?_
    rintro _ _ ⟨I', rfl, ⟨p1, p2, p3, p4, p5⟩, rfl⟩
    have e86 : tw (bgM I c 21 86) (c + 1) [13] = tw (I 86) c [21, 13] := by
      unfold bgM; rw [va_up_ne _ _ (by decide), vu_same]; rfl
    have ea : ∀ a, a ≠ 73 → a ≠ 86 → I' a = I a := fun a h1 h2 => by rw [p1 a h1 h2]; unfold bgM; rw [va_up_ne _ _ h1, va_up_ne _ _ h2]
    have ef : ∀ f, f ≠ 18 → f ≠ 20 → I' 73 f = I 73 f := fun f h1 h2 => by rw [p5 f h1 h2]; unfold bgM; rw [vu_same, va_up_ne _ _ h1]
    iterate 3 refine Go.step rfl ?_
    rw [p4]
    refine Go.step rfl ?_
    refine Go.ifz (fun c1 => ?_) (fun c1 => ?_)
    · have d1 := of_decide_eq_false c1
      rw [c1, if_neg d1, if_neg d1, if_neg (by decide)]
      have hM2 : MC I' b K m := ⟨hM.1, by rw [ef 19 (by decide) (by decide)]; exact hM.2.1, by rw [ea 74 (by decide) (by decide)]; exact hM.2.2.1, by rw [ea 74 (by decide) (by decide)]; exact hM.2.2.2⟩
      have hc2 : I' 73 18 = nI (c + 2) := by rw [p3]; rfl
      iterate 3 refine Go.step rfl ?_
      refine Go.cal (m_kindNow _ T b K m hM2) (by decide) rfl ?_
      rintro _ _ ⟨rfl, rfl⟩
      refine Go.step rfl ?_
      refine Go.cal (mt_ b K hK m K hK I' T (c + 2) 1 hM2 hc2 (by omega)) (by decide) rfl ?_
      rintro _ _ ⟨rfl, rfl⟩
      refine Go.step rfl ?_
      have ht := MC.tr (ttl K K) (c + 2) hM2 hc2
      refine Go.ret rfl ⟨_, rfl, ⟨fun a h1 h2 => by rw [trM_ne _ _ _ _ h1 h2]; exact ea a h1 h2, ?_, ?_, ?_, fun f h1 h2 => by rw [trM_73 _ _ _ _ h1]; exact ef f h1 h2⟩, rfl⟩
      · rw [trM_86, p2, e86]; rfl
      · rw [ht.2, List.length_cons, List.length_cons]; congr 1; omega
      · rw [trM_73 _ _ _ _ (by decide), p4, c1]
    · have d1 := of_decide_eq_true c1
      rw [c1, if_pos d1, if_pos rfl]
      iterate 2 refine Go.step rfl ?_
      exact Go.ret rfl ⟨I', rfl, ⟨ea, by rw [p2, e86], by rw [p3]; rfl, by rw [p4, c1], ef⟩, rfl⟩
  · omega
