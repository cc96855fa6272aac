/-! QUESTIONS: turned, eldest, cause, most, peak. -/
section QD
variable {M : m_M} {s t : AS} {P : m_P}
theorem Q_turned (a : Int32) : m_OK (fun s => fX8_turned s a) (fun s => fX9_turned s a) := m_ok_q (fun M => m_st M a 61) (fun M => match w_go M.2.2.1.1 (m_C M.2.2.1) a.toNatClampNeg with
    | none => nI 0
    | some q => nI (m_or (fun p => match w_vo M.2.2.1.1 (m_C M.2.2.1) a.toNatClampNeg p with
      | none => none
      | some z => if z = q then none else some p) (M.2.2.1.1.1 5)))
  (fun M s hV hI => by
    unfold fX8_turned
    exact c_q hV hI (g8_step hI.1 hV) m_st_l (fun hb t h1 h2 => by
      have hl := m_st_l hb
      obtain ⟨k, hk, rfl⟩ := m_st_k (by omega) hb
      have hP := m_MV_P hV
      have v5 := hP.1.2.2.1
      have e6 : t.1 25 6 = nI (M.2.2.1.1.1 5) := T_np h1.1.2.2.1.1 (j := 5) (by omega)
      refine ⟨t, ?_, c_mw_refl t⟩
      have e := T_go h2 hk
      rw [b_t (by omega)]
      cases hw : w_go M.2.2.1.1 (m_C M.2.2.1) k with
      | none =>
        rw [hw] at e
        simp (disch := omega) only [↓am_lq, b_lq, oI_q, b_lt, b_t, am_g_t, e, if_true]
      | some q =>
        have hq := w_go_10 hP hl hw
        rw [hw, oI_s] at e
        simp (disch := omega) only [↓am_lq, b_lq, oI_q, b_lt, b_t, am_g_t, e, b_nn, if_false]
        refine sp_or (fun f x i => fX8_turned_L34 (nI k) t f x i) (M.2.2.1.1.1 5) _ (fun x => some (t, x)) (fun i z hi hz => ?_) (fun f i m hi hm => ?_) (fun f m hm => ?_) am_fu (am_fu_gt (by omega))
        · split at hz
          · cases hz
          · split at hz
            · cases hz
            · cases hz; omega
        · have e1 := c_isIn hP h2 (p := i) (by omega) hk
          have e2 := c_voteOf hP hl h1.1.2.2.1.1 h2 hi hk
          have hvv : ∀ z, w_vo M.2.2.1.1 (m_C M.2.2.1) k i = some z → z < M.2.2.1.1.1 0 ∧ z < 10 := fun z hz => m_vo_lt hP hz
          rw [fX8_turned_L34]
          rw [m_vo] at hvv ⊢
          cases hb : (w_cr M.2.2.1.1 (m_C M.2.2.1) k).testBit i with
          | false =>
            rw [hb] at e1
            simp (disch := omega) only [↓am_lq, b_lq, oI_q, e6, b_le, e2, e1, am_rq, b_tf, if_neg, if_true, if_false, b_add, Bool.false_eq_true]
          | true =>
            rw [hb] at e1 hvv
            cases hw2 : m_vv M.2.2.1 k i with
            | none =>
              rw [hw2] at e2
              simp (disch := omega) only [↓am_lq, b_lq, oI_q, e6, b_le, b_eq, e2, e1, am_rq, b_tt, if_neg, if_true, if_false, b_add]
            | some z =>
              have := hvv z (by rw [hw2]; rfl)
              rw [hw2, oI_s] at e2
              simp (disch := omega) only [↓am_lq, b_lq, oI_q, e6, b_le, b_lt, b_t, am_g_t, b_eq, b_nn, e2, e1, am_rq, b_tt, if_neg, if_true, if_false, b_add, e, b_sh, b_ins]
              by_cases c : z = q
              · rw [if_pos c, if_pos c]
              · rw [if_neg c, if_neg c]
        · rw [fX8_turned_L34]
          simp (disch := omega) only [b_lq, e6, b_le, if_pos, if_true]))
  (fun M s hV hI => by
    unfold fX9_turned
    exact r_q hV hI (fun t h => g9_step h hV) m_st_l (fun hb t h1 h2 => by
      have hl := m_st_l hb
      obtain ⟨k, hk, rfl⟩ := m_st_k (by omega) hb
      have hP := m_MV_P hV
      have v5 := hP.1.2.2.1
      have e6 := r_people h2.2.1
      refine ⟨t, ?_, r_mv_refl t⟩
      have e := R_go h2 hk
      rw [b_t (by omega)]
      simp only [b_lq]
      cases hw : w_go M.2.2.1.1 (m_C M.2.2.1) k with
      | none =>
        rw [hw] at e
        have := sp_or (fun f x i => fX9_turned_L24 (nI k) t f x i) (M.2.2.1.1.1 5) (fun _ => none) (fun x => some (t, x)) (fun i z hi hz => by cases hz) (fun f i m hi hm => by
          rw [fX9_turned_L24]
          simp (disch := omega) only [↓am_lq, b_lq, oI_q, e6, am_rq, b_le, b_lt, b_t, am_g_t, e, if_neg, if_true, if_false, b_add, b_or0]) (fun f m hm => by
          rw [fX9_turned_L24]
          simp (disch := omega) only [b_lq, e6, am_rq, b_le, if_pos, if_true]) am_fu (am_fu_gt (by omega))
        rw [this]
        have : ∀ n, m_or (fun _ => none) n = 0 := by
          intro n
          induction n with
          | zero => rfl
          | succ n ih => exact ih
        rw [this]
      | some q =>
        have hq := w_go_10 hP hl hw
        rw [hw, oI_s] at e
        refine sp_or (fun f x i => fX9_turned_L24 (nI k) t f x i) (M.2.2.1.1.1 5) _ (fun x => some (t, x)) (fun i z hi hz => ?_) (fun f i m hi hm => ?_) (fun f m hm => ?_) am_fu (am_fu_gt (by omega))
        · split at hz
          · cases hz
          · split at hz
            · cases hz
            · cases hz; omega
        · have e2 := R_vo h2 hk i (by omega)
          have hvv : ∀ z, w_vo M.2.2.1.1 (m_C M.2.2.1) k i = some z → z < M.2.2.1.1.1 0 ∧ z < 10 := fun z hz => m_vo_lt hP hz
          rw [fX9_turned_L24]
          cases hw2 : w_vo M.2.2.1.1 (m_C M.2.2.1) k i with
          | none =>
            rw [hw2] at e2
            simp (disch := omega) only [↓am_lq, b_lq, oI_q, e6, am_rq, b_le, b_lt, b_t, b_mul, b_add, am_g_t, e, b_nn, e2, if_neg, if_true, if_false, b_or0]
          | some z =>
            have := hvv z hw2
            rw [hw2, oI_s] at e2
            simp (disch := omega) only [↓am_lq, b_lq, oI_q, e6, am_rq, b_le, b_lt, b_t, b_mul, b_add, am_g_t, e, b_nn, b_eq, e2, if_neg, if_true, if_false, b_or0, b_sh, b_ins]
            by_cases c : z = q
            · rw [if_pos c, if_pos c]
            · rw [if_neg c, if_neg c]
        · rw [fX9_turned_L24]
          simp (disch := omega) only [b_lq, e6, am_rq, b_le, if_pos, if_true]))
/-- who was ever in it stays so -/
theorem w_ev_f1 {D : w_D} {C : w_C} {n pl p q : Nat} {w : w_S × Bool} (h : w.1.2.1.testBit q = true) : (w_f1 D C n pl p w).1.2.1.testBit q = true := by
  unfold w_f1
  split
  · dsimp only; rw [w_ins_t, h]; rfl
  · exact h
theorem w_ev_rd {D : w_D} {C : w_C} {n pl q : Nat} {w : w_S} (h : w.2.1.testBit q = true) : ∀ k, (sp_it (w_f1 D C n pl) k (w, false)).1.2.1.testBit q = true
  | 0 => h
  | k + 1 => w_ev_f1 (w_ev_rd h k)
theorem w_ev_fl {D : w_D} {C : w_C} {n pl q : Nat} : ∀ (k : Nat) {w : w_S}, w.2.1.testBit q = true → (w_fl D C n pl k w).2.1.testBit q = true
  | 0, _, h => h
  | k + 1, w, h => by
    unfold w_fl
    split
    · exact w_ev_fl k (w_ev_rd h _)
    · exact w_ev_rd h _
theorem w_ev_lv {D : w_D} {n pl : Nat} {w : w_S} : ∀ k, (sp_it (w_l1 D n pl) k w).2.1 = w.2.1
  | 0 => rfl
  | k + 1 => by
    have ih := w_ev_lv (D := D) (n := n) (pl := pl) (w := w) k
    show (w_l1 D n pl k (sp_it (w_l1 D n pl) k w)).2.1 = _
    generalize sp_it (w_l1 D n pl) k w = z at ih ⊢
    rw [← ih]
    unfold w_l1
    split <;> rfl
theorem w_ev_s {D : w_D} {C : w_C} {n q : Nat} (h : (w_W D C n).2.2.1.testBit q = true) : (w_W D C (n + 1)).2.2.1.testBit q = true := by
  cases hat : w_at D C n with
  | none => rw [w_W_n hat]; exact h
  | some pl =>
    rw [w_W_s hat]
    dsimp only
    unfold w_af w_lv
    rw [w_ev_lv]
    split
    · exact h
    · exact w_ev_fl 9 h
theorem w_ev_m {D : w_D} {C : w_C} {n q : Nat} (h : (w_W D C n).2.2.1.testBit q = true) : ∀ j, (w_W D C (n + j)).2.2.1.testBit q = true
  | 0 => h
  | j + 1 => w_ev_s (w_ev_m h j)
theorem w_cr_ev (hV : m_PV P) {n p : Nat} (hn : n < 61) (h : (w_cr P.1 (m_C P) n).testBit p = true) : (w_W P.1 (m_C P) 61).2.2.1.testBit p = true := by
  unfold w_cr at h
  cases hat : w_at P.1 (m_C P) n with
  | none => rw [hat] at h; simp at h
  | some pl =>
    rw [hat] at h
    have h1 := (w_W_ok (C := m_C P) hV.1.2.2.1 (n + 1)).2.2.1 p h
    have := w_ev_m h1 (61 - (n + 1))
    rw [show n + 1 + (61 - (n + 1)) = 61 by omega] at this
    exact this
theorem w_or_lt (hV : m_PV P) {p : Nat} (h : (w_W P.1 (m_C P) 61).2.2.1.testBit p = true) : w_or P.1 (m_C P) p < 100 := by
  have hok := w_W_ok (D := P.1) (C := m_C P) hV.1.2.2.1 61
  have h1 := hok.2.2.2.1 p h
  have h2 := hok.2.2.2.2.2.2
  have h3 := w_pc_lt (w_W P.1 (m_C P) 61).2.2.1
  unfold w_or
  omega
/-- who of some fell in first -/
def m_el (bit : Nat → Bool) (od : Nat → Nat) : Nat → Option Nat
  | 0 => none
  | p + 1 => if bit p then (match m_el bit od p with
    | none => some p
    | some k => if od p < od k then some p else some k) else m_el bit od p
theorem m_el_s (bit : Nat → Bool) (od : Nat → Nat) (p : Nat) : m_el bit od (p + 1) = if bit p then (match m_el bit od p with
    | none => some p
    | some k => if od p < od k then some p else some k) else m_el bit od p := rfl
theorem m_el_b {bit : Nat → Bool} {od : Nat → Nat} : ∀ {p k : Nat}, m_el bit od p = some k → k < p ∧ bit k = true
  | 0, k, h => by cases h
  | p + 1, k, h => by
    rw [m_el_s] at h
    by_cases c : bit p = true
    · rw [if_pos c] at h
      cases hm : m_el bit od p with
      | none => rw [hm] at h; cases h; exact ⟨by omega, c⟩
      | some j =>
        rw [hm] at h
        have := m_el_b hm
        dsimp only at h
        by_cases c2 : od p < od j
        · rw [if_pos c2] at h; cases h; exact ⟨by omega, c⟩
        · rw [if_neg c2] at h; cases h; exact ⟨by omega, this.2⟩
    · rw [if_neg c] at h
      have := m_el_b h
      exact ⟨by omega, this.2⟩
theorem Q_eldest (a : Int32) : m_OK (fun s => fX8_eldest s a) (fun s => fX9_eldest s a) := m_ok_q (fun M => m_st M a 61) (fun M => oI (m_el (fun p => (w_cr M.2.2.1.1 (m_C M.2.2.1) a.toNatClampNeg).testBit p) (w_or M.2.2.1.1 (m_C M.2.2.1)) (M.2.2.1.1.1 5)))
  (fun M s hV hI => by
    unfold fX8_eldest
    exact c_q hV hI (g8_step hI.1 hV) m_st_l (fun hb t h1 h2 => by
      obtain ⟨k, hk, rfl⟩ := m_st_k (by omega) hb
      have hP := m_MV_P hV
      have v5 := hP.1.2.2.1
      have e6 : t.1 25 6 = nI (M.2.2.1.1.1 5) := T_np h1.1.2.2.1.1 (j := 5) (by omega)
      refine ⟨t, ?_, c_mw_refl t⟩
      simp (disch := omega) only [b_lq, b_t, oI_q]
      refine sp_lq (fun f (x : Int32) i => fX8_eldest_L19 (nI k) t f x i) (M.2.2.1.1.1 5) (fun i x => x = oI (m_el (fun p => (w_cr M.2.2.1.1 (m_C M.2.2.1) k).testBit p) (w_or M.2.2.1.1 (m_C M.2.2.1)) i)) (fun r => r = some (t, oI (m_el (fun p => (w_cr M.2.2.1.1 (m_C M.2.2.1) k).testBit p) (w_or M.2.2.1.1 (m_C M.2.2.1)) (M.2.2.1.1.1 5)))) (fun f i x hi hx => ?_) (fun f x hx => ?_) (oI none) rfl am_fu (am_fu_gt (by omega))
      · left
        subst hx
        refine ⟨_, rfl, ?_⟩
        have e1 := c_isIn hP h2 (p := i) (by omega) hk
        rw [fX8_eldest_L19, m_el_s]
        cases hb : (w_cr M.2.2.1.1 (m_C M.2.2.1) k).testBit i with
        | false =>
          rw [hb] at e1
          simp (disch := omega) only [↓am_lq, b_lq, oI_q, e6, b_le, e1, am_rq, b_tf, if_neg, if_true, if_false, b_add, Bool.false_eq_true]
        | true =>
          rw [hb] at e1
          have ev := w_cr_ev hP hk hb
          have o1 := T_or h2 (p := i) (by omega) ev
          have l1 := w_or_lt hP ev
          cases hm : m_el (fun p => (w_cr M.2.2.1.1 (m_C M.2.2.1) k).testBit p) (w_or M.2.2.1.1 (m_C M.2.2.1)) i with
          | none =>
            simp (disch := omega) only [↓am_lq, b_lq, oI_q, e6, b_le, b_eq, e1, am_rq, b_tt, if_neg, if_true, if_false, b_add, oI_t]
          | some j =>
            have hj := m_el_b hm
            have ev2 := w_cr_ev hP hk hj.2
            have o2 := T_or h2 (p := j) (by omega) ev2
            have l2 := w_or_lt hP ev2
            have b1 : (nI j = oI none) = False := b_nn (by omega)
            simp (disch := omega) only [↓am_lq, b_lq, oI_q, oI_t, e6, b_le, b_eq, b_lt, b_t, am_g_t, b1, e1, am_rq, b_tt, if_neg, if_true, if_false, b_add, o1, o2]
            by_cases c : w_or M.2.2.1.1 (m_C M.2.2.1) j ≤ w_or M.2.2.1.1 (m_C M.2.2.1) i
            · rw [if_pos c, if_neg (by omega)]; rfl
            · rw [if_neg c, if_pos (by omega)]; rfl
      · subst hx
        rw [fX8_eldest_L19]
        simp (disch := omega) only [b_lq, e6, b_le, if_pos, if_true]))
  (fun M s hV hI => by
    unfold fX9_eldest
    exact r_q hV hI (fun t h => g9_step h hV) m_st_l (fun hb t h1 h2 => by
      obtain ⟨k, hk, rfl⟩ := m_st_k (by omega) hb
      have hP := m_MV_P hV
      have v5 := hP.1.2.2.1
      have e6 := r_people h2.2.1
      refine ⟨t, ?_, r_mv_refl t⟩
      simp (disch := omega) only [b_lq, b_t, oI_q]
      refine sp_lq (fun f (x : Int32) i => fX9_eldest_L24 (nI k) t f x i) (M.2.2.1.1.1 5) (fun i x => x = oI (m_el (fun p => (w_cr M.2.2.1.1 (m_C M.2.2.1) k).testBit p) (w_or M.2.2.1.1 (m_C M.2.2.1)) i)) (fun r => r = some (t, oI (m_el (fun p => (w_cr M.2.2.1.1 (m_C M.2.2.1) k).testBit p) (w_or M.2.2.1.1 (m_C M.2.2.1)) (M.2.2.1.1.1 5)))) (fun f i x hi hx => ?_) (fun f x hx => ?_) (oI none) rfl am_fu (am_fu_gt (by omega))
      · left
        subst hx
        refine ⟨_, rfl, ?_⟩
        have e1 := r_isIn hP h2 (p := i) (by omega) hk
        rw [fX9_eldest_L24, m_el_s]
        cases hb : (w_cr M.2.2.1.1 (m_C M.2.2.1) k).testBit i with
        | false =>
          rw [hb] at e1
          simp (disch := omega) only [↓am_lq, b_lq, oI_q, e6, b_le, b_lt, b_t, am_g_t, e1, am_rq, b_tf, if_neg, if_true, if_false, b_add, Bool.false_eq_true]
        | true =>
          rw [hb] at e1
          have ev := w_cr_ev hP hk hb
          have o1 := R_or h2 (p := i) (by omega) ev
          have l1 := w_or_lt hP ev
          cases hm : m_el (fun p => (w_cr M.2.2.1.1 (m_C M.2.2.1) k).testBit p) (w_or M.2.2.1.1 (m_C M.2.2.1)) i with
          | none =>
            simp (disch := omega) only [↓am_lq, b_lq, oI_q, e6, b_le, b_eq, b_lt, b_t, am_g_t, e1, am_rq, b_tt, if_neg, if_true, if_false, b_add, oI_t]
          | some j =>
            have hj := m_el_b hm
            have ev2 := w_cr_ev hP hk hj.2
            have o2 := R_or h2 (p := j) (by omega) ev2
            have l2 := w_or_lt hP ev2
            have b1 : (nI j = oI none) = False := b_nn (by omega)
            simp (disch := omega) only [↓am_lq, b_lq, oI_q, oI_t, e6, b_le, b_eq, b_lt, b_t, am_g_t, b1, e1, am_rq, b_tt, if_neg, if_true, if_false, b_add, o1, o2]
            by_cases c : w_or M.2.2.1.1 (m_C M.2.2.1) j ≤ w_or M.2.2.1.1 (m_C M.2.2.1) i
            · rw [if_pos c, if_neg (by omega)]; rfl
            · rw [if_neg c, if_pos (by omega)]; rfl
      · subst hx
        rw [fX9_eldest_L24]
        simp (disch := omega) only [b_lq, e6, am_rq, b_le, if_pos, if_true]))
/-- the first that is greatest, if above 0 -/
def m_ca (f : Nat → Nat) : Nat → Option Nat × Nat
  | 0 => (none, 0)
  | k + 1 => if (m_ca f k).2 < f k then (some k, f k) else m_ca f k
theorem m_ca_s (f : Nat → Nat) (k : Nat) : m_ca f (k + 1) = if (m_ca f k).2 < f k then (some k, f k) else m_ca f k := rfl
theorem m_ca_le {f : Nat → Nat} {b : Nat} (h : ∀ k, f k ≤ b) : ∀ k, (m_ca f k).2 ≤ b
  | 0 => Nat.zero_le _
  | k + 1 => by
    rw [m_ca_s]
    split
    · exact h k
    · exact m_ca_le h k
/-- how many in it at a step have a reason -/
def m_hv (P : m_P) (n k : Nat) : Nat → Nat := m_sum (fun p => if (w_cr P.1 (m_C P) n).testBit p && (P.1.2.2.1 p 2 == k) then 1 else 0)
theorem m_hv_le (P : m_P) (n k : Nat) : ∀ p, m_hv P n k p ≤ p
  | 0 => Nat.le_refl _
  | p + 1 => by
    have ih := m_hv_le P n k p
    show m_hv P n k p + (if (w_cr P.1 (m_C P) n).testBit p && (P.1.2.2.1 p 2 == k) then 1 else 0) ≤ _
    split <;> omega
theorem c_inItWith (hV : m_PV P) (hP : c_PL 25 P.1 t) (h : c_T P t) {n k : Nat} (hn : n < 61) (hk : k < 10) : fX8_inItWith t (nI n) (nI k) = some (nI (m_hv P n k (P.1.1 5))) := by
  have v5 := hV.1.2.2.1
  have vp := hV.1.2.2.2.2.1
  have e6 : t.1 25 6 = nI (P.1.1 5) := T_np hP (j := 5) (by omega)
  unfold fX8_inItWith m_hv
  simp only [b_lq]
  refine sp_sum (fun f x i => fX8_inItWith_L5 (nI n) (nI k) t f x i) (P.1.1 5) _ (fun x => some x) (fun f i m hi => ?_) (fun f m => ?_) am_fu (am_fu_gt (by omega))
  · have e := c_isIn hV h (p := i) (by omega) hn
    have e2 := T_pe hP hi (show 2 < 5 by omega)
    have := vp i hi
    rw [fX8_inItWith_L5]
    cases hb : (w_cr P.1 (m_C P) n).testBit i with
    | false =>
      rw [hb] at e
      simp (disch := omega) only [↓am_lq, b_lq, e6, b_le, e, am_rq, b_tf, if_neg, if_true, if_false, b_add, Bool.false_and, Bool.false_eq_true, Nat.add_zero]
    | true =>
      rw [hb] at e
      simp (disch := omega) only [↓am_lq, b_lq, e6, b_le, b_eq, b_lt, b_t, am_g_t, e, am_rq, b_tt, if_neg, if_true, if_false, b_add, e2, Bool.true_and, beq_iff_eq]
      by_cases c : P.1.2.2.1 i 2 = k
      · rw [if_pos c, if_pos c]
      · rw [if_neg c, if_neg c]; rfl
  · rw [fX8_inItWith_L5]
    simp (disch := omega) only [b_lq, e6, b_le, if_pos, if_true]
theorem Q_cause (a : Int32) : m_OK (fun s => fX8_cause s a) (fun s => fX9_cause s a) := m_ok_q (fun M => m_st M a 61) (fun M => oI (m_ca (fun k => m_hv M.2.2.1 a.toNatClampNeg k (M.2.2.1.1.1 5)) 6).1)
  (fun M s hV hI => by
    unfold fX8_cause
    exact c_q hV hI (g8_step hI.1 hV) m_st_l (fun hb t h1 h2 => by
      obtain ⟨k, hk, rfl⟩ := m_st_k (by omega) hb
      have hP := m_MV_P hV
      have v5 := hP.1.2.2.1
      refine ⟨t, ?_, c_mw_refl t⟩
      simp (disch := omega) only [b_lq, b_t, oI_q]
      have lb : ∀ r, m_hv M.2.2.1 k r (M.2.2.1.1.1 5) ≤ 8 := fun r => Nat.le_trans (m_hv_le _ _ _ _) v5
      refine sp_lq (fun f (x : Int32 × Int32) i => fX8_cause_L22 (nI k) t f x.1 x.2 i) 6 (fun i x => x = (oI (m_ca (fun r => m_hv M.2.2.1 k r (M.2.2.1.1.1 5)) i).1, nI (m_ca (fun r => m_hv M.2.2.1 k r (M.2.2.1.1.1 5)) i).2)) (fun r => r = some (t, oI (m_ca (fun r => m_hv M.2.2.1 k r (M.2.2.1.1.1 5)) 6).1)) (fun f i x hi hx => ?_) (fun f x hx => ?_) (oI none, nI 0) rfl am_fu (am_fu_gt (by omega))
      · left
        subst hx
        refine ⟨_, rfl, ?_⟩
        have e := c_inItWith hP h1.1.2.2.1.1 h2 hk (show i < 10 by omega)
        have l1 := lb i
        have l2 := m_ca_le lb i
        dsimp only at l2 ⊢
        rw [fX8_cause_L22, m_ca_s]
        simp (disch := omega) only [↓am_lq, b_lq, b_le, e, am_rq, if_neg, if_false, b_add]
        by_cases c : m_hv M.2.2.1 k i (M.2.2.1.1.1 5) ≤ (m_ca (fun r => m_hv M.2.2.1 k r (M.2.2.1.1.1 5)) i).2
        · rw [if_pos c, if_neg (by omega)]
        · rw [if_neg c, if_pos (by omega)]; rfl
      · subst hx
        dsimp only
        rw [fX8_cause_L22]
        simp (disch := omega) only [b_lq, b_le, if_pos, if_true]))
  (fun M s hV hI => by
    unfold fX9_cause
    exact r_q hV hI (fun t h => g9_step h hV) m_st_l (fun hb t h1 h2 => by
      obtain ⟨k, hk, rfl⟩ := m_st_k (by omega) hb
      have hP := m_MV_P hV
      have v5 := hP.1.2.2.1
      have vp := hP.1.2.2.2.2.1
      have e6 := r_people h2.2.1
      refine ⟨t, ?_, r_mv_refl t⟩
      simp (disch := omega) only [b_lq, b_t, oI_q]
      have lb : ∀ r, m_hv M.2.2.1 k r (M.2.2.1.1.1 5) ≤ 8 := fun r => Nat.le_trans (m_hv_le _ _ _ _) v5
      refine sp_lq (fun f (x : Int32 × Int32) i => fX9_cause_L27 (nI k) t f x.1 x.2 i) 6 (fun i x => x = (oI (m_ca (fun r => m_hv M.2.2.1 k r (M.2.2.1.1.1 5)) i).1, nI (m_ca (fun r => m_hv M.2.2.1 k r (M.2.2.1.1.1 5)) i).2)) (fun r => r = some (t, oI (m_ca (fun r => m_hv M.2.2.1 k r (M.2.2.1.1.1 5)) 6).1)) (fun f i x hi hx => ?_) (fun f x hx => ?_) (oI none, nI 0) rfl am_fu (am_fu_gt (by omega))
      · left
        subst hx
        refine ⟨_, rfl, ?_⟩
        have l1 := lb i
        have l2 := m_ca_le lb i
        have inner : ∀ J : Int32 → Option (AS × Int32), fX9_cause_L40 (nI k) t (nI i) J am_fu (nI 0) (nI 0) = J (nI (m_hv M.2.2.1 k i (M.2.2.1.1.1 5))) := fun J => by
          unfold m_hv
          refine sp_sum (fun f x j => fX9_cause_L40 (nI k) t (nI i) J f x j) (M.2.2.1.1.1 5) _ J (fun f j m hj => ?_) (fun f m => ?_) am_fu (am_fu_gt (by omega))
          · have e := r_isIn hP h2 (p := j) (by omega) hk
            have e2 := r_reason hP.1 h2.2.1 hj
            have := vp j hj
            rw [fX9_cause_L40]
            cases hb : (w_cr M.2.2.1.1 (m_C M.2.2.1) k).testBit j with
            | false =>
              rw [hb] at e
              simp (disch := omega) only [↓am_lq, b_lq, e6, am_rq, b_le, b_lt, b_t, am_g_t, e, b_tf, if_neg, if_true, if_false, b_add, Bool.false_and, Bool.false_eq_true]
            | true =>
              rw [hb] at e
              simp (disch := omega) only [↓am_lq, b_lq, e6, am_rq, b_le, b_eq, b_lt, b_t, am_g_t, e, b_tt, if_neg, if_true, if_false, b_add, e2, Bool.true_and, beq_iff_eq]
              by_cases c : M.2.2.1.1.2.2.1 j 2 = i
              · rw [if_pos c, if_pos c]
              · rw [if_neg c, if_neg c]
          · rw [fX9_cause_L40]
            simp (disch := omega) only [b_lq, e6, am_rq, b_le, if_pos, if_true]
        dsimp only at l2 ⊢
        rw [fX9_cause_L27, m_ca_s]
        simp (disch := omega) only [↓am_lq, b_lq, b_le, b_lt, inner, if_neg, if_false, b_add]
        by_cases c : (m_ca (fun r => m_hv M.2.2.1 k r (M.2.2.1.1.1 5)) i).2 < m_hv M.2.2.1 k i (M.2.2.1.1.1 5)
        · rw [if_pos c, if_pos c]; rfl
        · rw [if_neg c, if_neg c]
      · subst hx
        dsimp only
        rw [fX9_cause_L27]
        simp (disch := omega) only [b_lq, b_le, if_pos, if_true]))
end QD
