/-! CASES that differ in rain and false votes alone; where a walk can't come. -/
theorem w_fl_s (D : w_D) (C : w_C) (n pl k : Nat) (w : w_S) : w_fl D C n pl (k + 1) w = if (w_rd D C n pl w).2 then w_fl D C n pl k (w_rd D C n pl w).1 else (w_rd D C n pl w).1 := Eq.trans rfl rfl
section CC
variable {D : w_D} {a b c : Nat} {K : Nat → Bool} {R R' : Nat → Bool} {S S' : Nat → Nat → Option (Option Nat)} {N N' : Nat → Nat → Nat → Option Nat}
theorem w_rd_c (n pl : Nat) (w : w_S) : w_rd D (a, b, c, K, R, S, N) n pl w = w_rd D (a, b, c, K, R', S', N') n pl w := rfl
theorem w_fl_c (n pl : Nat) : ∀ (k : Nat) (w : w_S), w_fl D (a, b, c, K, R, S, N) n pl k w = w_fl D (a, b, c, K, R', S', N') n pl k w
  | 0, w => rfl
  | k + 1, w => by
    rw [w_fl_s, w_fl_s, w_rd_c (R' := R') (S' := S') (N' := N')]
    split
    · exact w_fl_c n pl k _
    · rfl
theorem w_af_c {n : Nat} (h : R n = R' n) (pl : Nat) (w : w_S) : w_af D (a, b, c, K, R, S, N) n pl w = w_af D (a, b, c, K, R', S', N') n pl w := by
  unfold w_af
  show w_lv D n pl (if R n = true then w else _) = w_lv D n pl (if R' n = true then w else _)
  rw [h, w_fl_c (R' := R') (S' := S') (N' := N')]
theorem w_vt_c {n : Nat} (h : S n = S' n) (h2 : N n = N' n) (pl : Nat) (w : w_S) : w_vt D (a, b, c, K, R, S, N) n pl w = w_vt D (a, b, c, K, R', S', N') n pl w := by
  funext p
  unfold w_vt
  show (if w.1.testBit p = true then (match S n p with
    | some v => v
    | none => N n pl (D.2.2.1 p 1)) else none) = (if w.1.testBit p = true then (match S' n p with
    | some v => v
    | none => N' n pl (D.2.2.1 p 1)) else none)
  rw [h, h2]
theorem w_tn_c (w : w_S) (vt : Nat → Option Nat) : w_tn D (a, b, c, K, R, S, N) w vt = w_tn D (a, b, c, K, R', S', N') w vt := rfl
theorem w_W_c {m : Nat} (hR : ∀ j, j < m → R j = R' j) (hS : ∀ j, j < m → S j = S' j) (hN : ∀ j, j < m → N j = N' j) : ∀ i, i ≤ m → w_W D (a, b, c, K, R, S, N) i = w_W D (a, b, c, K, R', S', N') i
  | 0, _ => rfl
  | i + 1, hi => by
    have ih := w_W_c hR hS hN i (by omega)
    have e : w_at D (a, b, c, K, R, S, N) i = w_at D (a, b, c, K, R', S', N') i := by unfold w_at; rw [ih]
    cases h : w_at D (a, b, c, K, R, S, N) i with
    | none => rw [w_W_n h, w_W_n (e.symm.trans h), ih]
    | some pl => rw [w_W_s h, w_W_s (e.symm.trans h), ih, w_af_c (hR i (by omega)) (S' := S') (N' := N'), w_vt_c (hS i (by omega)) (hN i (by omega)) (R' := R')]; rfl
end CC
section YX
variable {F np nr sh : Nat} {ro : Nat → Nat → Nat}
/-- a way has a first road -/
theorem y_ln_st {a b : Nat} (hb : b < np) (hab : a ≠ b) (h : y_ln F np nr ro sh a b < F) : ∃ m, m < np ∧ y_bs F ro sh a m nr < F ∧ y_bs F ro sh a m nr + y_ln F np nr ro sh m b ≤ y_ln F np nr ro sh a b := by
  have key : ∀ k, k ≤ np → ∀ a b, b < np → a ≠ b → y_fl (y_d0 F nr ro sh) k a b < F → ∃ m, m < np ∧ y_bs F ro sh a m nr < F ∧ y_bs F ro sh a m nr + y_ln F np nr ro sh m b ≤ y_fl (y_d0 F nr ro sh) k a b := by
    intro k
    induction k with
    | zero =>
      intro _ a b hb hab h
      have e : y_fl (y_d0 F nr ro sh) 0 a b = y_bs F ro sh a b nr := by
        show y_d0 F nr ro sh a b = _
        unfold y_d0
        rw [if_neg hab]
      rw [e] at h ⊢
      exact ⟨b, hb, h, by rw [y_ln_d]; omega⟩
    | succ k ih =>
      intro hk a b hb hab h
      rw [← y_fl_q] at h ⊢
      by_cases c : y_fl (y_d0 F nr ro sh) k a b ≤ y_fl (y_d0 F nr ro sh) k a k + y_fl (y_d0 F nr ro sh) k k b
      · rw [Nat.min_eq_left c] at h ⊢
        exact ih (by omega) a b hb hab h
      · rw [Nat.min_eq_right (by omega)] at h ⊢
        by_cases e : a = k
        · exfalso
          rw [e, y_fl_d y_d0_d] at c
          omega
        · obtain ⟨m, h1, h2, h3⟩ := ih (by omega) a k (by omega) e (by omega)
          have t := y_ln_tri (F := F) (np := np) (nr := nr) (ro := ro) (sh := sh) m k b (by omega)
          have u : y_ln F np nr ro sh k b ≤ y_fl (y_d0 F nr ro sh) k k b := by
            unfold y_ln
            have : ∀ j, y_fl (y_d0 F nr ro sh) (k + j) k b ≤ y_fl (y_d0 F nr ro sh) k k b := by
              intro j
              induction j with
              | zero => exact Nat.le_refl _
              | succ j ihj => exact Nat.le_trans (y_fl_s _ (k + j) k b) ihj
            have := this (np - k)
            rw [show k + (np - k) = np by omega] at this
            exact this
          exact ⟨m, h1, h2, by omega⟩
  exact key np (Nat.le_refl _) a b hb hab h
theorem y_nx_n {a b : Nat} (hb : b < np) (hab : a ≠ b) (h : y_nx F np nr ro sh a b = none) : F ≤ y_ln F np nr ro sh a b := by
  apply Nat.le_of_not_lt
  intro c
  unfold y_nx at h
  rw [if_neg (by omega)] at h
  obtain ⟨m, h1, h2, h3⟩ := y_ln_st hb hab c
  have := y_fd_n.mp h m h1
  rw [decide_eq_false_iff_not] at this
  refine this ⟨h2, ?_⟩
  by_cases e : a = m
  · subst e
    omega
  · have t := y_ln_tri (F := F) (np := np) (nr := nr) (ro := ro) (sh := sh) a m b h1
    have u := y_ln_bs (F := F) (np := np) (nr := nr) (ro := ro) (sh := sh) e
    omega
end YX
section TN
variable {D : w_D} {C : w_C} {w : w_S} {vt : Nat → Option Nat}
theorem w_tn_xx {q : Nat} (h : w_tn D C w vt = some q) : ∃ j, vt j = some q := by
  unfold w_tn at h
  split at h
  · exact w_bp_x h
  · cases hh : w_wh vt w.2.2.2.2.2 (C.2.1 == 2) (D.1 5) with
    | none => rw [hh] at h; cases h
    | some k => rw [hh] at h; exact ⟨k, h⟩
theorem w_sm_pos {q : Nat} {byB : Bool} {p : Nat} (h : vt p = some q) (hb : 1 ≤ D.2.2.1 p 4) : ∀ n, p < n → 0 < w_sm D vt q byB n
  | 0, hn => by omega
  | n + 1, hn => by
    rw [w_sm_s]
    by_cases e : p = n
    · subst e
      rw [if_pos h]
      cases byB
      · simp
      · simp only [if_true]; omega
    · have := w_sm_pos (byB := byB) h hb n (by omega)
      omega
theorem w_bp_n {byB : Bool} : ∀ {n : Nat}, (w_bp D vt byB n).1 = none → (w_bp D vt byB n).2 = 0 ∧ ∀ q, q < n → w_sm D vt q byB (D.1 5) = 0
  | 0, _ => ⟨rfl, fun q hq => by omega⟩
  | n + 1, h => by
    rw [w_bp_s] at h ⊢
    by_cases c : (w_bp D vt byB n).2 < w_sm D vt n byB (D.1 5)
    · rw [if_pos c] at h; cases h
    · rw [if_neg c] at h ⊢
      obtain ⟨h1, h2⟩ := w_bp_n h
      refine ⟨h1, fun q hq => ?_⟩
      by_cases e : q = n
      · subst e; omega
      · exact h2 q (by omega)
theorem w_wh_ss (or : Nat → Nat) (first : Bool) (p : Nat) : w_wh vt or first (p + 1) = match vt p with
    | none => w_wh vt or first p
    | some _ => match w_wh vt or first p with
      | none => some p
      | some k => if (if first then or p < or k else or k < or p) then some p else some k := Eq.trans rfl rfl
theorem m_ifn {n k : Nat} (c : Prop) [Decidable c] : (if c then some n else some k) ≠ none := by
  split
  · exact fun z => (by cases z)
  · exact fun z => (by cases z)
theorem w_wh_n {or : Nat → Nat} {first : Bool} : ∀ {n : Nat}, w_wh vt or first n = none → ∀ p, p < n → vt p = none
  | 0, _, p, hp => by omega
  | n + 1, h, p, hp => by
    rw [w_wh_ss] at h
    cases hv : vt n with
    | some q =>
      rw [hv] at h
      dsimp only at h
      cases hw : w_wh vt or first n with
      | none => rw [hw] at h; cases h
      | some k =>
        rw [hw] at h
        exact absurd h (m_ifn _)
    | none =>
      rw [hv] at h
      by_cases e : p = n
      · rw [e]; exact hv
      · exact w_wh_n h p (by omega)
theorem w_tn_n (hD : w_V D) (hv : ∀ p q, vt p = some q → q < D.1 0) (h : w_tn D C w vt = none) {p : Nat} (hp : p < D.1 5) : vt p = none := by
  cases hq : vt p with
  | none => rfl
  | some q =>
    exfalso
    have b4 := (hD.2.2.2.2.1 p hp).2.2.2.2.1
    unfold w_tn at h
    split at h
    · obtain ⟨-, h2⟩ := w_bp_n h
      have := h2 q (hv p q hq)
      have := w_sm_pos (D := D) (byB := (C.2.1 == 1)) hq b4 (D.1 5) hp
      omega
    · cases hh : w_wh vt w.2.2.2.2.2 (C.2.1 == 2) (D.1 5) with
      | none =>
        have := w_wh_n hh p hp
        rw [hq] at this
        cases this
      | some k =>
        rw [hh] at h
        obtain ⟨-, x, hx⟩ := w_wh_lt hh
        have : vt k = none := h
        rw [hx] at this
        cases this
/-- a walk that never leaves S -/
theorem w_at_S {S : Nat → Bool} {n : Nat} (h0 : ∀ x, w_at D C n = some x → S x = true) (hs : ∀ k pl x p, n ≤ k → w_at D C k = some pl → S pl = true → w_vt D C k pl (w_af D C k pl (w_W D C k).2) p = some x → S x = true) : ∀ k x, n ≤ k → w_at D C k = some x → S x = true := by
  intro k
  induction k with
  | zero =>
    intro x hk h
    have : n = 0 := by omega
    subst this
    exact h0 x h
  | succ k ih =>
    intro x hk h
    by_cases e : n = k + 1
    · subst e; exact h0 x h
    · cases hp : w_at D C k with
      | none =>
        have := w_at_n hp (k + 1) (by omega)
        rw [this.1] at h
        cases h
      | some pl =>
        have h1 := ih pl (by omega) hp
        unfold w_at at h
        rw [w_W_s hp] at h
        obtain ⟨j, hj⟩ := w_tn_xx h
        exact hs k pl x j (by omega) hp h1 hj
end TN
