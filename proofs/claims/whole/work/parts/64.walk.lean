/-! THE WALK, as numbers. -/
/-- in it, ever in it, how many fell in, when, when left, in which order -/
abbrev w_S := Nat × Nat × Nat × (Nat → Option Nat) × (Nat → Option Nat) × (Nat → Nat)
/-- start, rule, answered, who never falls in, rain, false votes, the next place at a step -/
abbrev w_C := Nat × Nat × Nat × (Nat → Bool) × (Nat → Bool) × (Nat → Nat → Option (Option Nat)) × (Nat → Nat → Nat → Option Nat)
def w_u {α : Type} (f : Nat → α) (k : Nat) (x : α) : Nat → α := fun j => if j = k then x else f j
theorem w_us {α : Type} (f : Nat → α) (k : Nat) (x : α) : w_u f k x k = x := if_pos rfl
theorem w_uo {α : Type} (f : Nat → α) {k j : Nat} (x : α) (h : j ≠ k) : w_u f k x j = f j := if_neg h
def w_0 : w_S := (0, 0, 0, fun _ => none, fun _ => none, fun _ => 0)
def w_cn (D : w_D) (C : w_C) (pl p : Nat) (w : w_S) : Bool := !C.2.2.2.1 p && !w.2.1.testBit p && (D.2.2.1 p 0 == pl) && !C.2.2.1.testBit (D.2.2.1 p 2) && decide (D.2.2.1 p 3 ≤ w_pc w.1)
def w_f1 (D : w_D) (C : w_C) (n pl p : Nat) (w : w_S × Bool) : w_S × Bool :=
  if w_cn D C pl p w.1 then ((w_ins w.1.1 p, w_ins w.1.2.1 p, w.1.2.2.1 + 1, w_u w.1.2.2.2.1 p (some n), w.1.2.2.2.2.1, w_u w.1.2.2.2.2.2 p w.1.2.2.1), true) else w
def w_rd (D : w_D) (C : w_C) (n pl : Nat) (w : w_S) : w_S × Bool := sp_it (w_f1 D C n pl) (D.1 5) (w, false)
def w_fl (D : w_D) (C : w_C) (n pl : Nat) : Nat → w_S → w_S
  | 0, w => w
  | k + 1, w => if (w_rd D C n pl w).2 then w_fl D C n pl k (w_rd D C n pl w).1 else (w_rd D C n pl w).1
def w_l1 (D : w_D) (n pl p : Nat) (w : w_S) : w_S := if w.1.testBit p && (D.2.2.1 p 1 == pl) then (w_del w.1 p, w.2.1, w.2.2.1, w.2.2.2.1, w_u w.2.2.2.2.1 p (some n), w.2.2.2.2.2) else w
def w_lv (D : w_D) (n pl : Nat) (w : w_S) : w_S := sp_it (w_l1 D n pl) (D.1 5) w
/-- behind the falling in and the leaving -/
def w_af (D : w_D) (C : w_C) (n pl : Nat) (w : w_S) : w_S := w_lv D n pl (if C.2.2.2.2.1 n then w else w_fl D C n pl 9 w)
def w_vt (D : w_D) (C : w_C) (n pl : Nat) (w : w_S) (p : Nat) : Option Nat := if w.1.testBit p then (match C.2.2.2.2.2.1 n p with
  | some v => v
  | none => C.2.2.2.2.2.2 n pl (D.2.2.1 p 1)) else none
def w_sm (D : w_D) (vt : Nat → Option Nat) (q : Nat) (byB : Bool) : Nat → Nat
  | 0 => 0
  | p + 1 => w_sm D vt q byB p + (if vt p = some q then (if byB then D.2.2.1 p 4 else 1) else 0)
/-- the best place and its weight, of the first q -/
def w_bp (D : w_D) (vt : Nat → Option Nat) (byB : Bool) : Nat → Option Nat × Nat
  | 0 => (none, 0)
  | q + 1 => if (w_bp D vt byB q).2 < w_sm D vt q byB (D.1 5) then (some q, w_sm D vt q byB (D.1 5)) else w_bp D vt byB q
/-- who has the vote, by the order -/
def w_wh (vt : Nat → Option Nat) (or : Nat → Nat) (first : Bool) : Nat → Option Nat
  | 0 => none
  | p + 1 => match vt p with
    | none => w_wh vt or first p
    | some _ => match w_wh vt or first p with
      | none => some p
      | some k => if (if first then or p < or k else or k < or p) then some p else some k
def w_tn (D : w_D) (C : w_C) (w : w_S) (vt : Nat → Option Nat) : Option Nat :=
  if C.2.1 < 2 then (w_bp D vt (C.2.1 == 1) (D.1 0)).1 else (w_wh vt w.2.2.2.2.2 (C.2.1 == 2) (D.1 5)).bind vt
def w_W (D : w_D) (C : w_C) : Nat → Option Nat × w_S
  | 0 => (some C.1, w_0)
  | n + 1 => match (w_W D C n).1 with
    | none => w_W D C n
    | some pl => (w_tn D C (w_af D C n pl (w_W D C n).2) (w_vt D C n pl (w_af D C n pl (w_W D C n).2)), w_af D C n pl (w_W D C n).2)
def w_at (D : w_D) (C : w_C) (n : Nat) : Option Nat := (w_W D C n).1
def w_cr (D : w_D) (C : w_C) (n : Nat) : Nat := match w_at D C n with
  | none => 0
  | some _ => (w_W D C (n + 1)).2.1
def w_go (D : w_D) (C : w_C) (n : Nat) : Option Nat := w_at D C (n + 1)
def w_vo (D : w_D) (C : w_C) (n p : Nat) : Option Nat := match w_at D C n with
  | none => none
  | some pl => w_vt D C n pl (w_W D C (n + 1)).2 p
def w_ov (D : w_D) (C : w_C) : Option Nat := y_fd (fun n => (w_at D C n).isSome && (w_at D C (n + 1)).isNone) 61
def w_wy (D : w_D) (C : w_C) : Option Nat := (w_ov D C).map fun n => if (w_W D C (n + 1)).2.1 = 0 then 0 else 1
def w_fe (D : w_D) (C : w_C) (p : Nat) : Option Nat := (w_W D C 61).2.2.2.2.1 p
def w_le (D : w_D) (C : w_C) (p : Nat) : Option Nat := (w_W D C 61).2.2.2.2.2.1 p
def w_or (D : w_D) (C : w_C) (p : Nat) : Nat := (w_W D C 61).2.2.2.2.2.2 p
theorem w_W_s {D : w_D} {C : w_C} {n pl : Nat} (h : w_at D C n = some pl) : w_W D C (n + 1) = (w_tn D C (w_af D C n pl (w_W D C n).2) (w_vt D C n pl (w_af D C n pl (w_W D C n).2)), w_af D C n pl (w_W D C n).2) := by
  show (match (w_W D C n).1 with
    | none => w_W D C n
    | some pl => (w_tn D C (w_af D C n pl (w_W D C n).2) (w_vt D C n pl (w_af D C n pl (w_W D C n).2)), w_af D C n pl (w_W D C n).2)) = _
  rw [show (w_W D C n).1 = some pl from h]
theorem w_W_n {D : w_D} {C : w_C} {n : Nat} (h : w_at D C n = none) : w_W D C (n + 1) = w_W D C n := by
  show (match (w_W D C n).1 with
    | none => w_W D C n
    | some pl => (w_tn D C (w_af D C n pl (w_W D C n).2) (w_vt D C n pl (w_af D C n pl (w_W D C n).2)), w_af D C n pl (w_W D C n).2)) = _
  rw [show (w_W D C n).1 = none from h]
theorem w_at_n {D : w_D} {C : w_C} {n : Nat} (h : w_at D C n = none) : ∀ m, n ≤ m → w_at D C m = none ∧ w_W D C m = w_W D C n := by
  intro m hm
  induction m with
  | zero =>
    have : n = 0 := by omega
    subst this
    exact ⟨h, rfl⟩
  | succ m ih =>
    by_cases e : n = m + 1
    · subst e
      exact ⟨h, rfl⟩
    · have ih := ih (by omega)
      have h2 := w_W_n ih.1
      exact ⟨by unfold w_at; rw [h2]; exact ih.1, h2.trans ih.2⟩
/-! WHAT HOLDS OF EVERY WALK. -/
/-- in it are some of those who ever were; they are persons; their order tells them apart -/
def w_ok (D : w_D) (w : w_S) : Prop := w.1 < 2 ^ D.1 5 ∧ w.2.1 < 2 ^ D.1 5 ∧ (∀ p, w.1.testBit p = true → w.2.1.testBit p = true) ∧ (∀ p, w.2.1.testBit p = true → w.2.2.2.2.2 p < w.2.2.1) ∧ (∀ p q, w.2.1.testBit p = true → w.2.1.testBit q = true → w.2.2.2.2.2 p = w.2.2.2.2.2 q → p = q) ∧ (∀ p, (w.2.2.2.1 p).isSome = w.2.1.testBit p) ∧ w.2.2.1 = w_pc w.2.1
theorem w_ok_0 (D : w_D) : w_ok D w_0 := by
  refine ⟨Nat.two_pow_pos _, Nat.two_pow_pos _, fun p h => ?_, fun p h => ?_, fun p q h => ?_, fun p => ?_, ?_⟩
  · simp [w_0] at h
  · simp [w_0] at h
  · simp [w_0] at h
  · simp [w_0]
  · decide
theorem w_pc_ins : ∀ x, x < 1024 → ∀ p, p < 10 → x.testBit p = false → w_pc (w_ins x p) = w_pc x + 1 := by decide +kernel
theorem w_pc_8 : ∀ x, x < 256 → w_pc x ≤ 8 := by decide +kernel
theorem w_pow8 {k : Nat} (h : k ≤ 8) : 2 ^ k ≤ 256 := Nat.pow_le_pow_right (n := 2) (by omega) h
theorem w_f1_ok {D : w_D} (h5 : D.1 5 ≤ 8) {C : w_C} {n pl p : Nat} (hp : p < D.1 5) {w : w_S × Bool} (h : w_ok D w.1) : w_ok D (w_f1 D C n pl p w).1 := by
  unfold w_f1
  split
  · rename_i c
    obtain ⟨⟨i, e, m, fe, le, od⟩, b⟩ := w
    obtain ⟨h0, h1, h2, h3, h4, h5', h6⟩ := h
    simp only [w_cn, Bool.and_eq_true, Bool.not_eq_true'] at c
    have ce : e.testBit p = false := c.1.1.1.2
    dsimp only at h0 h1 h2 h3 h4 h5' h6 ⊢
    have hlt := w_pow8 h5
    refine ⟨w_ins_lt h0 hp, w_ins_lt h1 hp, fun q hq => ?_, fun q hq => ?_, fun q r hq hr he => ?_, fun q => ?_, ?_⟩
    · dsimp only at hq ⊢
      rw [w_ins_t] at hq ⊢
      cases hh : decide (p = q) with
      | true => simp
      | false => rw [hh] at hq; simp at hq; rw [h2 q hq]; rfl
    · dsimp only at hq ⊢
      by_cases e1 : q = p
      · rw [e1, w_us]; omega
      · rw [w_uo _ _ e1]
        rw [w_ins_t] at hq
        have : decide (p = q) = false := decide_eq_false (fun z => e1 z.symm)
        rw [this, Bool.or_false] at hq
        have := h3 q hq
        omega
    · dsimp only at hq hr he
      rw [w_ins_t] at hq hr
      by_cases e1 : q = p
      · by_cases e2 : r = p
        · rw [e1, e2]
        · exfalso
          have : decide (p = r) = false := decide_eq_false (fun z => e2 z.symm)
          rw [this, Bool.or_false] at hr
          rw [e1, w_us, w_uo _ _ e2] at he
          have := h3 r hr
          omega
      · have : decide (p = q) = false := decide_eq_false (fun z => e1 z.symm)
        rw [this, Bool.or_false] at hq
        by_cases e2 : r = p
        · exfalso
          rw [e2, w_us, w_uo _ _ e1] at he
          have := h3 q hq
          omega
        · have : decide (p = r) = false := decide_eq_false (fun z => e2 z.symm)
          rw [this, Bool.or_false] at hr
          rw [w_uo _ _ e1, w_uo _ _ e2] at he
          exact h4 q r hq hr he
    · dsimp only
      rw [w_ins_t]
      by_cases e1 : q = p
      · rw [e1, w_us]; simp
      · rw [w_uo _ _ e1, h5' q]
        have : decide (p = q) = false := decide_eq_false (fun z => e1 z.symm)
        rw [this, Bool.or_false]
    · dsimp only
      rw [w_pc_ins e (by omega) p (by omega) ce, h6]
  · exact h
theorem w_rd_ok {D : w_D} (h5 : D.1 5 ≤ 8) {C : w_C} {n pl : Nat} {w : w_S} (h : w_ok D w) : ∀ k, k ≤ D.1 5 → w_ok D (sp_it (w_f1 D C n pl) k (w, false)).1
  | 0, _ => h
  | k + 1, hk => w_f1_ok h5 (by omega) (w_rd_ok h5 h k (by omega))
theorem w_fl_ok {D : w_D} (h5 : D.1 5 ≤ 8) {C : w_C} {n pl : Nat} : ∀ (k : Nat) {w : w_S}, w_ok D w → w_ok D (w_fl D C n pl k w)
  | 0, _, h => h
  | k + 1, w, h => by
    unfold w_fl
    split
    · exact w_fl_ok h5 k (w_rd_ok h5 h _ (Nat.le_refl _))
    · exact w_rd_ok h5 h _ (Nat.le_refl _)
/-- a round in which somebody fell in has more who fell in -/
theorem w_rd_cnt {D : w_D} {C : w_C} {n pl : Nat} (w : w_S) : ∀ k, w.2.2.1 ≤ (sp_it (w_f1 D C n pl) k (w, false)).1.2.2.1 ∧ ((sp_it (w_f1 D C n pl) k (w, false)).2 = true → w.2.2.1 < (sp_it (w_f1 D C n pl) k (w, false)).1.2.2.1)
  | 0 => ⟨Nat.le_refl _, fun h => by cases h⟩
  | k + 1 => by
    have ih := w_rd_cnt (D := D) (C := C) (n := n) (pl := pl) w k
    show w.2.2.1 ≤ (w_f1 D C n pl k _).1.2.2.1 ∧ ((w_f1 D C n pl k _).2 = true → w.2.2.1 < (w_f1 D C n pl k _).1.2.2.1)
    generalize sp_it (w_f1 D C n pl) k (w, false) = z at ih ⊢
    unfold w_f1
    split
    · exact ⟨by dsimp only; omega, fun _ => by dsimp only; omega⟩
    · exact ih
theorem w_l1_ok {D : w_D} {n pl p : Nat} {w : w_S} (h : w_ok D w) (h5 : D.1 5 ≤ 8) : w_ok D (w_l1 D n pl p w) := by
  unfold w_l1
  split
  · obtain ⟨h0, h1, h2, h3, h4, h5', h6⟩ := h
    have hlt := w_pow8 h5
    refine ⟨Nat.lt_of_le_of_lt (w_del_le _ _) h0, h1, fun q hq => ?_, h3, h4, h5', h6⟩
    dsimp only at hq ⊢
    by_cases c : q < 10
    · rw [w_del_t _ _ _ c, Bool.and_eq_true] at hq
      exact h2 q hq.1
    · exfalso
      have : (w_del w.1 p).testBit q = false := Nat.testBit_lt_two_pow (Nat.lt_of_lt_of_le (Nat.lt_of_le_of_lt (w_del_le _ _) h0) (Nat.pow_le_pow_right (by omega) (by omega)))
      rw [this] at hq
      cases hq
  · exact h
theorem w_lv_ok {D : w_D} {n pl : Nat} {w : w_S} (h : w_ok D w) (h5 : D.1 5 ≤ 8) : ∀ k, w_ok D (sp_it (w_l1 D n pl) k w)
  | 0 => h
  | k + 1 => w_l1_ok (w_lv_ok h h5 k) h5
theorem w_af_ok {D : w_D} {C : w_C} {n pl : Nat} {w : w_S} (h : w_ok D w) (h5 : D.1 5 ≤ 8) : w_ok D (w_af D C n pl w) := by
  unfold w_af
  split
  · exact w_lv_ok h h5 _
  · exact w_lv_ok (w_fl_ok h5 9 h) h5 _
theorem w_W_ok {D : w_D} {C : w_C} (h5 : D.1 5 ≤ 8) : ∀ n, w_ok D (w_W D C n).2
  | 0 => w_ok_0 D
  | n + 1 => by
    have ih := w_W_ok (D := D) (C := C) h5 n
    cases h : w_at D C n with
    | none => rw [w_W_n h]; exact ih
    | some pl => rw [w_W_s h]; exact w_af_ok ih h5
/-- a case that fits the plan -/
def w_CK (D : w_D) (C : w_C) : Prop := C.1 < D.1 0 ∧ C.2.1 ≤ 3 ∧ C.2.2.1 < 1024 ∧ (∀ n p q, C.2.2.2.2.2.1 n p = some (some q) → q < D.1 0) ∧ (∀ n a b q, C.2.2.2.2.2.2 n a b = some q → q < D.1 0)
theorem w_vt_lt {D : w_D} {C : w_C} (hC : w_CK D C) {n pl : Nat} {w : w_S} {p q : Nat} (h : w_vt D C n pl w p = some q) : q < D.1 0 := by
  unfold w_vt at h
  split at h
  · split at h
    · rename_i v hv
      subst h
      exact hC.2.2.2.1 _ _ _ hv
    · exact hC.2.2.2.2 _ _ _ _ h
  · cases h
theorem w_bp_lt {D : w_D} {vt : Nat → Option Nat} {byB : Bool} : ∀ {k q : Nat}, (w_bp D vt byB k).1 = some q → q < k
  | 0, q, h => by cases h
  | k + 1, q, h => by
    unfold w_bp at h
    split at h
    · cases h; omega
    · have := w_bp_lt h; omega
theorem w_tn_lt {D : w_D} {C : w_C} {w : w_S} {vt : Nat → Option Nat} (hv : ∀ p q, vt p = some q → q < D.1 0) {q : Nat} (h : w_tn D C w vt = some q) : q < D.1 0 := by
  unfold w_tn at h
  split at h
  · exact w_bp_lt h
  · cases hh : w_wh vt w.2.2.2.2.2 (C.2.1 == 2) (D.1 5) with
    | none => rw [hh] at h; cases h
    | some k => rw [hh] at h; exact hv k q h
theorem w_at_lt {D : w_D} {C : w_C} (hC : w_CK D C) {n q : Nat} (h : w_at D C n = some q) : q < D.1 0 := by
  induction n generalizing q with
  | zero => cases h; exact hC.1
  | succ n ih =>
    cases e : w_at D C n with
    | none =>
      have := w_at_n e (n + 1) (by omega)
      rw [this.1] at h
      cases h
    | some pl =>
      unfold w_at at h
      rw [w_W_s e] at h
      exact w_tn_lt (fun p q hq => w_vt_lt hC hq) h
