/-! QUESTIONS: loop. -/
section QI
variable {M : m_M} {s t : AS} {P : m_P}
/-- the last step at which someone falls in, of the first n persons -/
def m_lm (P : m_P) : Nat → Nat
  | 0 => 0
  | n + 1 => max (m_lm P n) ((w_fe P.1 (m_C P) n).getD 0)
theorem m_lm_s (P : m_P) (n : Nat) : m_lm P (n + 1) = max (m_lm P n) ((w_fe P.1 (m_C P) n).getD 0) := Eq.trans rfl rfl
theorem m_lm_lt (P : m_P) : ∀ n, m_lm P n < 61
  | 0 => by show 0 < 61; omega
  | n + 1 => by
    have ih := m_lm_lt P n
    rw [m_lm_s]
    cases h : w_fe P.1 (m_C P) n with
    | none => rw [Option.getD_none]; omega
    | some k =>
      have := w_fe_lt h
      rw [Option.getD_some]; omega
theorem c_lastFall (hV : m_PV P) (hP : c_PL 25 P.1 t) (h : c_T P t) : ∃ x, fX8_lastFall t = some x ∧ ((x = oI none ∧ m_lm P (P.1.1 5) = 0) ∨ x = nI (m_lm P (P.1.1 5))) := by
  have v5 := hV.1.2.2.1
  have e6 : t.1 25 6 = nI (P.1.1 5) := T_np hP (j := 5) (by omega)
  unfold fX8_lastFall
  simp only [b_lq, oI_q]
  refine sp_lq (fun f (x : Int32) i => fX8_lastFall_L4 t f x i) (P.1.1 5) (fun i x => (x = oI none ∧ m_lm P i = 0) ∨ x = nI (m_lm P i)) (fun r => ∃ x, r = some x ∧ ((x = oI none ∧ m_lm P (P.1.1 5) = 0) ∨ x = nI (m_lm P (P.1.1 5)))) (fun f i x hi hx => ?_) (fun f x hx => ?_) (oI none) (.inl ⟨rfl, rfl⟩) am_fu (am_fu_gt (by omega))
  · left
    have i8 : i < 8 := by omega
    have g0 : ¬ (nI i < nI 0 ∨ 8 ≤ i) := by rw [b_lt (by omega) (by omega)]; omega
    have e1 := T_fe h i8
    rw [fX8_lastFall_L4, m_lm_s]
    cases hf : w_fe P.1 (m_C P) i with
    | none =>
      rw [hf] at e1
      rw [Option.getD_none, Nat.max_zero]
      refine ⟨x, hx, ?_⟩
      have b : (x < oI none) = False := by
        rcases hx with ⟨rfl, -⟩ | rfl
        · decide
        · have := m_lm_lt P i
          exact b_ltn (by omega)
      simp (disch := omega) only [↓am_lq, b_lq, e6, b_le, b_t, b_add, am_g_t, e1, b, if_neg, if_false]
    | some k =>
      have hk := w_fe_lt hf
      rw [hf, oI_s] at e1
      rw [Option.getD_some]
      have hm := m_lm_lt P i
      refine ⟨nI (max (m_lm P i) k), .inr rfl, ?_⟩
      rcases hx with ⟨rfl, h0⟩ | rfl
      · simp (disch := omega) only [↓am_lq, b_lq, e6, b_le, b_t, b_add, am_g_t, e1, b_nlt, h0, if_neg, if_true, Nat.zero_max]
      · simp (disch := omega) only [↓am_lq, b_lq, e6, b_le, b_lt, b_t, b_add, am_g_t, e1, if_neg]
        by_cases c : m_lm P i < k
        · rw [if_pos c, Nat.max_eq_right (by omega)]
        · rw [if_neg c, Nat.max_eq_left (by omega)]
  · rw [fX8_lastFall_L4]
    refine ⟨x, ?_, hx⟩
    simp (disch := omega) only [b_lq, e6, b_le, if_pos, if_true]
theorem R_last (hV : m_PV P) (hP : r_PL P.1 t) (h : r_T P t) (J : Int32 → Option (AS × Int32)) : fX9_loop_L33 t J am_fu (nI 0) (nI 0) = J (nI (m_lm P (P.1.1 5))) := by
  have v5 := hV.1.2.2.1
  have e6 := r_people hP
  refine sp_lq (fun f (x : Int32) i => fX9_loop_L33 t J f x i) (P.1.1 5) (fun i x => x = nI (m_lm P i)) (fun r => r = J (nI (m_lm P (P.1.1 5)))) (fun f i x hi hx => ?_) (fun f x hx => ?_) (nI 0) rfl am_fu (am_fu_gt (by omega))
  · left
    subst hx
    have i8 : i < 8 := by omega
    have g0 : ¬ (nI i < nI 0 ∨ 8 ≤ i) := by rw [b_lt (by omega) (by omega)]; omega
    have e1 := R_fe h i8
    have hm := m_lm_lt P i
    refine ⟨_, rfl, ?_⟩
    rw [fX9_loop_L33, m_lm_s]
    cases hf : w_fe P.1 (m_C P) i with
    | none =>
      rw [hf] at e1
      simp (disch := omega) only [↓am_lq, b_lq, e6, am_rq, b_le, b_t, b_add, am_g_t, e1, b_nle, if_neg, if_true, Option.getD_none, Nat.max_zero]
    | some k =>
      have hk := w_fe_lt hf
      rw [hf, oI_s] at e1
      simp (disch := omega) only [↓am_lq, b_lq, e6, am_rq, b_le, b_t, b_add, am_g_t, e1, if_neg, Option.getD_some]
      by_cases c : k ≤ m_lm P i
      · rw [if_pos c, Nat.max_eq_left c]
      · rw [if_neg c, Nat.max_eq_right (by omega)]
  · subst hx
    rw [fX9_loop_L33]
    simp (disch := omega) only [b_lq, e6, am_rq, b_le, if_pos, if_true]
/-- from the end k back it is as at the end, and nobody falls in behind -/
def m_lp (P : m_P) (k : Nat) : Bool := decide (1 ≤ k) && (decide (w_at P.1 (m_C P) (60 - k) = w_at P.1 (m_C P) 60) && (decide (w_cr P.1 (m_C P) (60 - k) = w_cr P.1 (m_C P) 60) && decide (m_lm P (P.1.1 5) + k ≤ 60)))
theorem m_lp_0 (P : m_P) {j : Nat} (h : j < 1) : m_lp P j = false := by
  have : j = 0 := by omega
  subst this
  unfold m_lp
  simp
theorem w_on_lt {D : w_D} {C : w_C} {m k : Nat} (h : w_on D C m = some k) : k < m := (y_fd_s.mp h).1
theorem Q_loop : m_OK (fun s => fX8_loop s) (fun s => fX9_loop s) := m_ok_q (fun M => decide (0 < M.2.2.1.1.1 6)) (fun M => match w_on M.2.2.1.1 (m_C M.2.2.1) 61 with
    | none => oI (y_fd (m_lp M.2.2.1) 61)
    | some _ => oI none)
  (fun M s hV hI => by
    unfold fX8_loop
    exact c_q hV hI (g8_march hI.1 hV) of_decide_eq_true (fun hb t h1 h2 => by
      have hl := of_decide_eq_true hb
      have hP := m_MV_P hV
      refine ⟨t, ?_, c_mw_refl t⟩
      have e := T_ov h2
      cases ho : w_on M.2.2.1.1 (m_C M.2.2.1) 61 with
      | some k =>
        have hk := w_on_lt ho
        rw [ho, oI_s] at e
        have b1 : (nI k = oI none) = False := b_nn (by omega)
        simp (disch := omega) only [b_lq, b_t, oI_q, e, b1, if_false]
      | none =>
        rw [ho] at e
        simp (disch := omega) only [b_lq, b_t, oI_q, e, if_true]
        obtain ⟨y, ey, hy⟩ := c_lastFall hP h1.1.2.2.1.1 h2
        have hm := m_lm_lt M.2.2.1 (M.2.2.1.1.1 5)
        refine sp_lk (fun f (x : Unit) i => fX8_loop_L29 t f i) 61 1 (fun i _ => ∀ j, j < i → m_lp M.2.2.1 j = false) (fun r => r = some (t, oI (y_fd (m_lp M.2.2.1) 61))) (fun f i x hk hi hx => ?_) (fun f x hx => ?_) (by omega) () (fun j hj => m_lp_0 _ hj) am_fu (am_fu_gt (by omega))
        · have E1 : (t.1 164 (60 - i) = t.1 164 60) = (w_at M.2.2.1.1 (m_C M.2.2.1) (60 - i) = w_at M.2.2.1.1 (m_C M.2.2.1) 60) := by
            rw [T_at h2 (show 60 - i < 61 by omega), T_at h2 (show 60 < 61 by omega), b_oo (fun k hk => by have := w_at_10 hP hl hk; omega) (fun k hk => by have := w_at_10 hP hl hk; omega)]
          have E2 : (t.1 165 (60 - i) = t.1 165 60) = (w_cr M.2.2.1.1 (m_C M.2.2.1) (60 - i) = w_cr M.2.2.1.1 (m_C M.2.2.1) 60) := by
            have a1 := w_cr_lt hP (60 - i)
            have a2 := w_cr_lt hP 60
            rw [T_cr h2 (show 60 - i < 61 by omega), T_cr h2 (show 60 < 61 by omega), b_eq (by omega) (by omega)]
          have E3 : (nI (60 - i) < y) = ¬ (m_lm M.2.2.1 (M.2.2.1.1.1 5) + i ≤ 60) := by
            rcases hy with ⟨rfl, h0⟩ | rfl
            · rw [b_ltn (by omega), h0]; exact propext ⟨False.elim, fun _ => by omega⟩
            · rw [b_lt (by omega) (by omega)]; exact propext ⟨fun _ => by omega, fun _ => by omega⟩
          have key : fX8_loop_L29 t (f + 1) (nI i) = if m_lp M.2.2.1 i = true then some (t, nI i) else fX8_loop_L29 t f (nI (i + 1)) := by
            rw [fX8_loop_L29]
            unfold m_lp
            have d1 : (1 ≤ i) = True := eq_true hk
            by_cases ca : w_at M.2.2.1.1 (m_C M.2.2.1) (60 - i) = w_at M.2.2.1.1 (m_C M.2.2.1) 60
            · by_cases cc : w_cr M.2.2.1.1 (m_C M.2.2.1) (60 - i) = w_cr M.2.2.1.1 (m_C M.2.2.1) 60
              · by_cases cl : m_lm M.2.2.1 (M.2.2.1.1.1 5) + i ≤ 60
                · simp (disch := omega) only [↓am_lq, b_lq, b_lt, b_t, b_sub, b_add, b_eq, am_g_t, E1, E2, ey, am_rq, E3, d1, ca, cc, cl, if_neg, if_true, if_false, decide_true, Bool.and_true, not_true]
                · simp (disch := omega) only [↓am_lq, b_lq, b_lt, b_t, b_sub, b_add, b_eq, am_g_t, E1, E2, ey, am_rq, E3, d1, ca, cc, cl, if_neg, if_true, if_false, decide_true, decide_false, Bool.and_true, Bool.and_false, not_false_eq_true, Bool.false_eq_true]
              · simp (disch := omega) only [↓am_lq, b_lq, b_lt, b_t, b_sub, b_add, b_eq, am_g_t, E1, E2, d1, ca, cc, if_neg, if_true, if_false, decide_true, decide_false, Bool.and_true, Bool.and_false, Bool.false_and, Bool.false_eq_true]
            · simp (disch := omega) only [↓am_lq, b_lq, b_lt, b_t, b_sub, b_add, b_eq, am_g_t, E1, E2, d1, ca, if_neg, if_true, if_false, decide_true, decide_false, Bool.and_true, Bool.and_false, Bool.false_and, Bool.false_eq_true]
          cases hp : m_lp M.2.2.1 i with
          | true =>
            right
            show fX8_loop_L29 t (f + 1) (nI i) = _
            rw [key, hp, if_pos rfl, y_fd_s.mpr ⟨hi, hp, hx⟩]
            rfl
          | false =>
            left
            refine ⟨(), fun j hj => ?_, ?_⟩
            · by_cases e : j = i
              · subst e; exact hp
              · exact hx j (by omega)
            · show fX8_loop_L29 t (f + 1) (nI i) = _
              rw [key, hp, if_neg (by decide)]
        · show fX8_loop_L29 t (f + 1) (nI 61) = _
          rw [fX8_loop_L29, y_fd_n.mpr hx]
          simp (disch := omega) only [b_lq, oI_q, b_lt, if_pos]))
  (fun M s hV hI => by
    unfold fX9_loop
    exact r_q hV hI (fun t h => g9_march h hV) of_decide_eq_true (fun hb t h1 h2 => by
      have hl := of_decide_eq_true hb
      have hP := m_MV_P hV
      refine ⟨t, ?_, r_mv_refl t⟩
      have e := R_ov h2
      cases ho : w_on M.2.2.1.1 (m_C M.2.2.1) 61 with
      | some k =>
        have hk := w_on_lt ho
        rw [ho, oI_s] at e
        have b1 : (nI k = oI none) = False := b_nn (by omega)
        simp (disch := omega) only [b_lq, b_t, oI_q, e, b1, if_false]
      | none =>
        rw [ho] at e
        have hm := m_lm_lt M.2.2.1 (M.2.2.1.1.1 5)
        simp (disch := omega) only [↓am_lq, b_lq, b_t, oI_q, e, if_true]
        rw [R_last hP h2.2.1 h2]
        refine sp_lk (fun f (x : Unit) i => fX9_loop_L70 t (nI (m_lm M.2.2.1 (M.2.2.1.1.1 5))) f i) (61 - m_lm M.2.2.1 (M.2.2.1.1.1 5)) 1 (fun i _ => ∀ j, j < i → m_lp M.2.2.1 j = false) (fun r => r = some (t, oI (y_fd (m_lp M.2.2.1) 61))) (fun f i x hk hi hx => ?_) (fun f x hx => ?_) (by omega) () (fun j hj => m_lp_0 _ hj) am_fu (am_fu_gt (by omega))
        · have E1 : (t.1 229 (60 - i) = t.1 229 60) = (w_at M.2.2.1.1 (m_C M.2.2.1) (60 - i) = w_at M.2.2.1.1 (m_C M.2.2.1) 60) := by
            rw [R_at h2 (show 60 - i < 61 by omega), R_at h2 (show 60 < 61 by omega), b_oo (fun k hk => by have := w_at_10 hP hl hk; omega) (fun k hk => by have := w_at_10 hP hl hk; omega)]
          have E2 : (t.1 230 (60 - i) = t.1 230 60) = (w_cr M.2.2.1.1 (m_C M.2.2.1) (60 - i) = w_cr M.2.2.1.1 (m_C M.2.2.1) 60) := by
            have a1 := w_cr_lt hP (60 - i)
            have a2 := w_cr_lt hP 60
            rw [R_cr h2 (show 60 - i < 61 by omega), R_cr h2 (show 60 < 61 by omega), b_eq (by omega) (by omega)]
          have key : fX9_loop_L70 t (nI (m_lm M.2.2.1 (M.2.2.1.1.1 5))) (f + 1) (nI i) = if m_lp M.2.2.1 i = true then some (t, nI i) else fX9_loop_L70 t (nI (m_lm M.2.2.1 (M.2.2.1.1.1 5))) f (nI (i + 1)) := by
            rw [fX9_loop_L70]
            unfold m_lp
            have d1 : (1 ≤ i) = True := eq_true hk
            have cl : (m_lm M.2.2.1 (M.2.2.1.1.1 5) + i ≤ 60) = True := eq_true (by omega)
            by_cases ca : w_at M.2.2.1.1 (m_C M.2.2.1) (60 - i) = w_at M.2.2.1.1 (m_C M.2.2.1) 60
            · by_cases cc : w_cr M.2.2.1.1 (m_C M.2.2.1) (60 - i) = w_cr M.2.2.1.1 (m_C M.2.2.1) 60
              · simp (disch := omega) only [↓am_lq, b_lq, b_lt, b_t, b_sub, b_add, b_eq, am_g_t, E1, E2, d1, ca, cc, cl, if_neg, if_true, if_false, decide_true, Bool.and_true]
              · simp (disch := omega) only [↓am_lq, b_lq, b_lt, b_t, b_sub, b_add, b_eq, am_g_t, E1, E2, d1, ca, cc, if_neg, if_true, if_false, decide_true, decide_false, Bool.and_true, Bool.and_false, Bool.false_and, Bool.false_eq_true]
            · simp (disch := omega) only [↓am_lq, b_lq, b_lt, b_t, b_sub, b_add, b_eq, am_g_t, E1, E2, d1, ca, if_neg, if_true, if_false, decide_true, decide_false, Bool.and_true, Bool.and_false, Bool.false_and, Bool.false_eq_true]
          cases hp : m_lp M.2.2.1 i with
          | true =>
            right
            show fX9_loop_L70 t _ (f + 1) (nI i) = _
            rw [key, hp, if_pos rfl, y_fd_s.mpr ⟨by omega, hp, hx⟩]
            rfl
          | false =>
            left
            refine ⟨(), fun j hj => ?_, ?_⟩
            · by_cases e : j = i
              · subst e; exact hp
              · exact hx j (by omega)
            · show fX9_loop_L70 t _ (f + 1) (nI i) = _
              rw [key, hp, if_neg (by decide)]
        · show fX9_loop_L70 t _ (f + 1) (nI (61 - m_lm M.2.2.1 (M.2.2.1.1.1 5))) = _
          have all : ∀ j, j < 61 → m_lp M.2.2.1 j = false := fun j hj => by
            by_cases c : j < 61 - m_lm M.2.2.1 (M.2.2.1.1.1 5)
            · exact hx j c
            · unfold m_lp
              rw [show decide (m_lm M.2.2.1 (M.2.2.1.1.1 5) + j ≤ 60) = false from decide_eq_false (by omega)]
              simp
          rw [fX9_loop_L70, y_fd_n.mpr all]
          simp (disch := omega) only [b_lq, oI_q, b_sub, b_lt, if_pos]))
end QI
