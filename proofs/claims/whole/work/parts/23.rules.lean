/-! RULES of the symbolic phase -/
theorem am_run_up : ∀ (k d d' y pc : Nat) (ls : ALS) (st : List Value) (h : AH) (R : Option Value × AH), d ≤ d' → am_run k d y pc ls st h = some R → am_run k d' y pc ls st h = some R := by
  intro k
  induction k with
  | zero => intro d d' y pc ls st h R _ e; simp [am_run] at e
  | succ k ih =>
    intro d d' y pc ls st h R hdd e
    rw [am_run] at e ⊢
    cases hc : cd y pc with
    | none => rw [hc] at e; cases e
    | some ce =>
      rw [hc] at e
      simp only at e ⊢
      cases hs : am_step ce (mrt y) ls st h with
      | some nx =>
        rw [hs] at e
        cases nx with
        | inl q => obtain ⟨pc', ls', st', h'⟩ := q; exact ih _ _ _ _ _ _ _ _ hdd e
        | inr r => exact e
      | none =>
        rw [hs] at e
        simp only at e ⊢
        cases hl : am_call ce st h with
        | none => rw [hl] at e; cases e
        | some q =>
          obtain ⟨y', as, r⟩ := q
          rw [hl] at e
          cases d with
          | zero => cases e
          | succ d0 =>
            cases d' with
            | zero => omega
            | succ d1 =>
              simp only at e ⊢
              cases hr : am_run k d0 y' 0 (am_pad (mml y') (am_lay as)) [] h with
              | none => rw [hr] at e; cases e
              | some q =>
                obtain ⟨v, h'⟩ := q
                rw [hr] at e
                rw [ih _ d1 _ _ _ _ _ _ (by omega) hr]
                exact ih _ _ _ _ _ _ _ _ (by omega) e
theorem Go.up {d d' y pc : Nat} {ls : ALS} {st : List Value} {h : AH} {Q : Option Value → AH → Prop} (hd : d ≤ d') (g : Go d y pc ls st h Q) : Go d' y pc ls st h Q := by
  obtain ⟨k, r, h', e, q⟩ := g
  exact ⟨k, r, h', am_run_up _ _ _ _ _ _ _ _ _ hd e, q⟩
/-- a call of a method whose contract is known, at a depth below -/
theorem Go.cal {c d y pc : Nat} {ls : ALS} {st : List Value} {h : AH} {Q Q' : Option Value → AH → Prop} {y' nx : Nat} {as r : List Value} (hc : Ct c y' as h Q') (hcd : c < d) (e : (cd y pc).bind (fun e => (am_call e st h).map (fun q => (e.2.1, q, am_step e (mrt y) ls st h))) = some (nx, (y', as, r), none)) (kk : ∀ v h', Q' v h' → Go d y nx ls (am_push v r) h' Q) : Go d y pc ls st h Q := by
  obtain ⟨d, rfl⟩ : ∃ d', d = d' + 1 := ⟨d - 1, by omega⟩
  exact Go.call e (Go.up (by omega) hc) kk
section RU
variable {d y pc nx : Nat} {ls : ALS} {r : List Value} {I : AI} {P : AP} {S : AS} {n sl : Nat} {Q : Option Value → AH → Prop} {v : Int32} {ops : List Nat}
theorem Go.iald {a len : Nat} {j : Int32} (e : cd y pc = some (.iaload, nx, v, ops)) (hS : S a = (0, len)) (hb : am_in j len = true) (k : Go d y nx ls (.int (I a j.toNatClampNeg) :: r) (I, P, S, n, sl) Q) : Go d y pc ls (.int j :: .ref a :: r) (I, P, S, n, sl) Q :=
  Go.step (by rw [e]; simp [am_step, hS, hb]) k
theorem Go.cald {a len : Nat} {j : Int32} (e : cd y pc = some (.iaload, nx, v, ops)) (hS : S a = (50, len)) (hb : am_in j len = true) (k : Go d y nx ls (.int (I a j.toNatClampNeg) :: r) (I, P, S, n, sl) Q) : Go d y pc ls (.int j :: .ref a :: r) (I, P, S, n, sl) Q :=
  Go.step (by rw [e]; simp [am_step, hS, hb]) k
theorem Go.bald {a len : Nat} {j : Int32} (e : cd y pc = some (.baload, nx, v, ops)) (hS : S a = (51, len)) (hb : am_in j len = true) (k : Go d y nx ls (.int (I a j.toNatClampNeg) :: r) (I, P, S, n, sl) Q) : Go d y pc ls (.int j :: .ref a :: r) (I, P, S, n, sl) Q :=
  Go.step (by rw [e]; simp [am_step, hS, hb]) k
theorem Go.iast {a len : Nat} {j x : Int32} (e : cd y pc = some (.iastore, nx, v, ops)) (hS : S a = (0, len)) (hb : am_in j len = true) (k : Go d y nx ls r (va_up I a (va_up (I a) j.toNatClampNeg x), P, S, n, sl) Q) : Go d y pc ls (.int x :: .int j :: .ref a :: r) (I, P, S, n, sl) Q :=
  Go.step (by rw [e]; simp [am_step, hS, hb]) k
theorem Go.aald {a len kd q : Nat} {j : Int32} (e : cd y pc = some (.aaload, nx, v, ops)) (hS : S a = (kd, len)) (hk : (Nat.ble 1 kd && Nat.ble kd 3) = true) (hb : am_in j len = true) (hP : P a j.toNatClampNeg = some q) (k : Go d y nx ls (.ref q :: r) (I, P, S, n, sl) Q) : Go d y pc ls (.int j :: .ref a :: r) (I, P, S, n, sl) Q :=
  Go.step (by rw [e]; simp only [am_step, hS, hb, hk, hP, Option.bind_some, Bool.and_self, cond_true]) k
theorem Go.aaldN {a len kd : Nat} {j : Int32} (e : cd y pc = some (.aaload, nx, v, ops)) (hS : S a = (kd, len)) (hk : (Nat.ble 1 kd && Nat.ble kd 3) = true) (hb : am_in j len = true) (hP : P a j.toNatClampNeg = none) (k : Go d y nx ls (.null :: r) (I, P, S, n, sl) Q) : Go d y pc ls (.int j :: .ref a :: r) (I, P, S, n, sl) Q :=
  Go.step (by rw [e]; simp only [am_step, hS, hb, hk, hP, Option.bind_some, Bool.and_self, cond_true]) k
theorem Go.idiv {x z : Int32} (e : cd y pc = some (.idiv, nx, v, ops)) (hz : ¬ z = 0) (k : Go d y nx ls (.int (x / z) :: r) (I, P, S, n, sl) Q) : Go d y pc ls (.int z :: .int x :: r) (I, P, S, n, sl) Q :=
  Go.step (by rw [e]; simp [am_step, hz]) k
theorem Go.irem {x z : Int32} (e : cd y pc = some (.irem, nx, v, ops)) (hz : ¬ z = 0) (k : Go d y nx ls (.int (irm x z) :: r) (I, P, S, n, sl) Q) : Go d y pc ls (.int z :: .int x :: r) (I, P, S, n, sl) Q :=
  Go.step (by rw [e]; simp [am_step, hz]) k
/-- an int field of a cell that is an object of the class -/
theorem Go.geti {x a ci kk q1 q2 N : Nat} (e : cd y pc = some (.getfield x, nx, v, [ci, kk, q1, q2])) (hS : S a = (10 + ci, N)) (hf : fTy ci kk = 0 ∨ fTy ci kk = 2) (k : Go d y nx ls (.int (I a kk) :: r) (I, P, S, n, sl) Q) : Go d y pc ls (.ref a :: r) (I, P, S, n, sl) Q :=
  Go.step (by rw [e]; rcases hf with hf | hf <;> simp [am_step, hS, hf]) k
theorem Go.getr {x a ci kk q1 q2 N q : Nat} (e : cd y pc = some (.getfield x, nx, v, [ci, kk, q1, q2])) (hS : S a = (10 + ci, N)) (hf : fTy ci kk = 1) (hP : P a kk = some q) (k : Go d y nx ls (.ref q :: r) (I, P, S, n, sl) Q) : Go d y pc ls (.ref a :: r) (I, P, S, n, sl) Q :=
  Go.step (by rw [e]; simp [am_step, hS, hf, hP]) k
theorem Go.puti {x a ci kk q1 q2 N : Nat} {w : Int32} (e : cd y pc = some (.putfield x, nx, v, [ci, kk, q1, q2])) (hS : S a = (10 + ci, N)) (hf : fTy ci kk = 0) (k : Go d y nx ls r (va_up I a (va_up (I a) kk w), P, S, n, sl) Q) : Go d y pc ls (.int w :: .ref a :: r) (I, P, S, n, sl) Q :=
  Go.step (by rw [e]; simp [am_step, hS, hf]) k
theorem Go.alen {a kd len : Nat} (e : cd y pc = some (.arraylength, nx, v, ops)) (hS : S a = (kd, len)) (hk : (Nat.ble kd 3 || Nat.beq kd 50 || Nat.beq kd 51) = true) (k : Go d y nx ls (.int (nI len) :: r) (I, P, S, n, sl) Q) : Go d y pc ls (.ref a :: r) (I, P, S, n, sl) Q :=
  Go.step (by rw [e]; simp only [am_step, hS, hk, Option.bind_some, cond_true]) k
/-- the end with a truth -/
theorem Go.zret {x : Int32} (e : cd y pc = some (.ireturn, nx, v, ops)) (hr : mrt y = 1) (hx : x = 0 ∨ x = 1) (hq : Q (some (.int x)) (I, P, S, n, sl)) : Go d y pc ls [.int x] (I, P, S, n, sl) Q :=
  Go.ret (by rw [e]; rcases hx with rfl | rfl <;> simp [am_step, hr]) hq
end RU
theorem am_in_nI {k n : Nat} (h : k < n) (hn : n < 2 ^ 31) : am_in (nI k) n = true := by
  simp only [am_in, Bool.and_eq_true, Bool.not_eq_true', decide_eq_false_iff_not]
  exact ⟨nI_pos (by omega), by rw [nI_clamp (by omega)]; simpa using h⟩
theorem vu_same {α : Type} (f : Nat → α) (a : Nat) (v : α) : va_up f a v a = v := if_pos rfl
theorem vu_ne {α : Type} (f : Nat → α) {a b : Nat} (v : α) (h : b ≠ a) : va_up f a v b = f b := if_neg h
theorem vu_idem {α : Type} (f : Nat → α) (a : Nat) (v w : α) : va_up (va_up f a v) a w = va_up f a w := by
  funext j; simp only [va_up]; split <;> rfl
theorem nI_mul (a b : Nat) : nI a * nI b = nI (a * b) := by
  unfold nI; exact (Int32.ofNat_mul a b).symm
