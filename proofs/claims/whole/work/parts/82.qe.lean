/-! QUESTIONS: most, peak, missed, waits. -/
/-- a counting loop from k0 on -/
theorem sp_lk {S R : Type} (F : Nat → S → Int32 → R) (N k0 : Nat) (I : Nat → S → Prop) (Q : R → Prop)
    (hs : ∀ n i s, k0 ≤ i → i < N → I i s → (∃ s', I (i + 1) s' ∧ F (n + 1) s (nI i) = F n s' (nI (i + 1))) ∨ Q (F (n + 1) s (nI i)))
    (h0 : ∀ n s, I N s → Q (F (n + 1) s (nI N))) (hk : k0 ≤ N) (s : S) (h : I k0 s) (fuel : Nat) (hf : N < fuel) : Q (F fuel s (nI k0)) := by
  have key : ∀ (j i : Nat) (s : S), k0 ≤ i → i + j = N → I i s → ∀ fuel, j < fuel → Q (F fuel s (nI i)) := by
    intro j
    induction j with
    | zero =>
      intro i s hki hi h fuel hf
      obtain ⟨f, rfl⟩ : ∃ f, fuel = f + 1 := ⟨fuel - 1, by omega⟩
      have : i = N := by omega
      subst this
      exact h0 f s h
    | succ j ih =>
      intro i s hki hi h fuel hf
      obtain ⟨f, rfl⟩ : ∃ f, fuel = f + 1 := ⟨fuel - 1, by omega⟩
      rcases hs f i s hki (by omega) h with ⟨s', h1, h2⟩ | h1
      · rw [h2]
        exact ih (i + 1) s' (by omega) (by omega) h1 f (by omega)
      · exact h1
  exact key (N - k0) k0 s (Nat.le_refl _) (by omega) h fuel (by omega)
/-- the first step at which most are -/
def m_pk (f : Nat → Nat) : Nat → Option Nat
  | 0 => none
  | n + 1 => if (match m_pk f n with | none => 0 | some b => f b) < f n then some n else m_pk f n
theorem m_pk_s (f : Nat → Nat) (n : Nat) : m_pk f (n + 1) = if (match m_pk f n with | none => 0 | some b => f b) < f n then some n else m_pk f n := rfl
theorem m_pk_n {f : Nat → Nat} : ∀ {n : Nat}, m_pk f n = none → ∀ j, j < n → f j = 0
  | 0, _, j, hj => by omega
  | n + 1, h, j, hj => by
    rw [m_pk_s] at h
    cases hm : m_pk f n with
    | none =>
      rw [hm] at h
      dsimp only at h
      by_cases c : 0 < f n
      · rw [if_pos c] at h; cases h
      · by_cases e : j = n
        · rw [e]; omega
        · exact m_pk_n hm j (by omega)
    | some b =>
      rw [hm] at h
      dsimp only at h
      by_cases c : f b < f n
      · rw [if_pos c] at h; cases h
      · rw [if_neg c] at h; cases h
theorem m_pk_p {f : Nat → Nat} : ∀ {n b : Nat}, m_pk f n = some b → b < n ∧ 0 < f b
  | 0, b, h => by cases h
  | n + 1, b, h => by
    rw [m_pk_s] at h
    cases hm : m_pk f n with
    | none =>
      rw [hm] at h
      dsimp only at h
      by_cases c : 0 < f n
      · rw [if_pos c] at h; cases h; exact ⟨by omega, c⟩
      · rw [if_neg c] at h; cases h
    | some z =>
      have ih := m_pk_p hm
      rw [hm] at h
      dsimp only at h
      by_cases c : f z < f n
      · rw [if_pos c] at h; cases h; exact ⟨by omega, by omega⟩
      · rw [if_neg c] at h; cases h; exact ⟨by omega, ih.2⟩
theorem w_pc_0 : ∀ x, x < 256 → w_pc x = 0 → x = 0 := by decide +kernel
section QE
variable {M : m_M} {s t : AS} {P : m_P}
abbrev m_cn (P : m_P) (n : Nat) : Nat := w_pc (w_cr P.1 (m_C P) n)
theorem c_fullest (hV : m_PV P) (h : c_T P t) : fX8_fullestStep t = some (nI ((m_pk (m_cn P) 61).getD 0)) := by
  unfold fX8_fullestStep
  simp only [b_lq]
  have g0 : ∀ n, 1 ≤ n → (m_pk (m_cn P) n).getD 0 < n := fun n hn => by
    cases hm : m_pk (m_cn P) n with
    | none => exact hn
    | some b => exact (m_pk_p hm).1
  refine sp_lk (fun f (x : Int32) i => fX8_fullestStep_L4 t f x i) 61 1 (fun i x => x = nI ((m_pk (m_cn P) i).getD 0)) (fun r => r = some (nI ((m_pk (m_cn P) 61).getD 0))) (fun f i x hk hi hx => ?_) (fun f x hx => ?_) (by omega) (nI 0) ?_ am_fu (am_fu_gt (by omega))
  · left
    subst hx
    refine ⟨_, rfl, ?_⟩
    have gi := g0 i hk
    have c1 := w_cr_lt hV i
    have c2 := w_cr_lt hV ((m_pk (m_cn P) i).getD 0)
    have p1 := w_pc_lt (w_cr P.1 (m_C P) i)
    have p2 := w_pc_lt (w_cr P.1 (m_C P) ((m_pk (m_cn P) i).getD 0))
    have e1 := T_cr h hi
    have e2 := T_cr h (show (m_pk (m_cn P) i).getD 0 < 61 by omega)
    rw [fX8_fullestStep_L4, m_pk_s]
    simp (disch := omega) only [↓am_lq, b_lq, b_le, b_lt, b_t, am_g_t, e1, e2, b_bc, am_rq, if_neg, if_false, b_add]
    cases hm : m_pk (m_cn P) i with
    | none =>
      have z0 := m_pk_n hm 0 (by omega)
      unfold m_cn at z0
      simp only [Option.getD_none, z0]
      by_cases c : w_pc (w_cr P.1 (m_C P) i) ≤ 0
      · rw [if_pos c, if_neg (by unfold m_cn; omega)]; rfl
      · rw [if_neg c, if_pos (by unfold m_cn; omega)]; rfl
    | some b =>
      simp only [Option.getD_some]
      by_cases c : w_pc (w_cr P.1 (m_C P) i) ≤ w_pc (w_cr P.1 (m_C P) b)
      · rw [if_pos c, if_neg (by unfold m_cn; omega)]; rfl
      · rw [if_neg c, if_pos (by unfold m_cn; omega)]; rfl
  · subst hx
    rw [fX8_fullestStep_L4]
    simp (disch := omega) only [b_lq, b_le, if_pos, if_true]
  · rw [m_pk_s]
    by_cases c : (match m_pk (m_cn P) 0 with | none => 0 | some b => m_cn P b) < m_cn P 0
    · rw [if_pos c]; rfl
    · rw [if_neg c]; rfl
theorem r_peakOf (hV : m_PV P) (h : r_T P t) : fX9_peakOf t = some (oI (m_pk (m_cn P) 61)) := by
  unfold fX9_peakOf
  simp only [b_lq, oI_q]
  refine sp_lq (fun f (x : Int32) i => fX9_peakOf_L4 t f x i) 61 (fun i x => x = oI (m_pk (m_cn P) i)) (fun r => r = some (oI (m_pk (m_cn P) 61))) (fun f i x hi hx => ?_) (fun f x hx => ?_) (oI none) rfl am_fu (am_fu_gt (by omega))
  · left
    subst hx
    refine ⟨_, rfl, ?_⟩
    have c1 := w_cr_lt hV i
    have p1 := w_pc_lt (w_cr P.1 (m_C P) i)
    have e1 := R_cr h hi
    rw [fX9_peakOf_L4, m_pk_s]
    cases hm : m_pk (m_cn P) i with
    | none =>
      simp (disch := omega) only [↓am_lq, b_lq, oI_q, b_le, b_lt, b_t, am_g_t, e1, r_size, am_rq, if_neg, if_true, if_false, b_add]
      by_cases c : w_pc (w_cr P.1 (m_C P) i) ≤ 0
      · rw [if_pos c, if_neg (by unfold m_cn; omega)]
      · rw [if_neg c, if_pos (by unfold m_cn; omega)]; rfl
    | some b =>
      have hb := m_pk_p hm
      have c2 := w_cr_lt hV b
      have p2 := w_pc_lt (w_cr P.1 (m_C P) b)
      have e2 := R_cr h (show b < 61 by omega)
      have b1 : (nI b = oI none) = False := b_nn (by omega)
      simp (disch := omega) only [↓am_lq, b_lq, oI_q, oI_t, b1, b_le, b_lt, b_t, am_g_t, e1, e2, r_size, am_rq, if_neg, if_true, if_false, b_add]
      by_cases c : w_pc (w_cr P.1 (m_C P) i) ≤ w_pc (w_cr P.1 (m_C P) b)
      · rw [if_pos c, if_neg (by unfold m_cn; omega)]; rfl
      · rw [if_neg c, if_pos (by unfold m_cn; omega)]; rfl
  · subst hx
    rw [fX9_peakOf_L4]
    simp (disch := omega) only [b_lq, b_lt, if_pos, if_true]
theorem Q_most : m_OK (fun s => fX8_most s) (fun s => fX9_most s) := m_ok_q (fun M => decide (0 < M.2.2.1.1.1 6)) (fun M => nI (match m_pk (m_cn M.2.2.1) 61 with | none => 0 | some b => m_cn M.2.2.1 b))
  (fun M s hV hI => by
    unfold fX8_most
    exact c_q hV hI (g8_march hI.1 hV) of_decide_eq_true (fun hb t h1 h2 => by
      have hP := m_MV_P hV
      refine ⟨t, ?_, c_mw_refl t⟩
      rw [c_fullest hP h2, am_rq]
      cases hm : m_pk (m_cn M.2.2.1) 61 with
      | none =>
        have z0 := m_pk_n hm 0 (by omega)
        unfold m_cn at z0
        have c1 := w_cr_lt hP 0
        have e1 := T_cr h2 (show 0 < 61 by omega)
        simp (disch := omega) only [Option.getD_none, b_lq, b_lt, b_t, am_g_t, e1, b_bc, am_rq, z0]
      | some b =>
        have hbb := m_pk_p hm
        have c1 := w_cr_lt hP b
        have e1 := T_cr h2 hbb.1
        simp (disch := omega) only [Option.getD_some, b_lq, b_lt, b_t, am_g_t, e1, b_bc, am_rq]))
  (fun M s hV hI => by
    unfold fX9_most
    exact r_q hV hI (fun t h => g9_march h hV) of_decide_eq_true (fun hb t h1 h2 => by
      have hP := m_MV_P hV
      refine ⟨t, ?_, r_mv_refl t⟩
      rw [r_peakOf hP h2, am_rq]
      cases hm : m_pk (m_cn M.2.2.1) 61 with
      | none =>
        simp (disch := omega) only [↓am_lq, b_lq, oI_q, if_true]
      | some b =>
        have hbb := m_pk_p hm
        have c1 := w_cr_lt hP b
        have e1 := R_cr h2 hbb.1
        have b1 : (nI b = oI none) = False := b_nn (by omega)
        simp (disch := omega) only [↓am_lq, b_lq, oI_q, oI_t, b1, if_false, b_lt, b_t, am_g_t, e1, r_size, am_rq]))
theorem Q_peak : m_OK (fun s => fX8_peak s) (fun s => fX9_peak s) := m_ok_q (fun M => decide (0 < M.2.2.1.1.1 6)) (fun M => oI (m_pk (m_cn M.2.2.1) 61))
  (fun M s hV hI => by
    unfold fX8_peak
    exact c_q hV hI (g8_march hI.1 hV) of_decide_eq_true (fun hb t h1 h2 => by
      have hP := m_MV_P hV
      refine ⟨t, ?_, c_mw_refl t⟩
      rw [c_fullest hP h2, am_rq]
      cases hm : m_pk (m_cn M.2.2.1) 61 with
      | none =>
        have z0 := m_pk_n hm 0 (by omega)
        unfold m_cn at z0
        have c1 := w_cr_lt hP 0
        have e1 := T_cr h2 (show 0 < 61 by omega)
        rw [w_pc_0 _ c1 z0] at e1
        simp (disch := omega) only [↓am_lq, Option.getD_none, b_lq, oI_q, b_lt, b_t, am_g_t, e1, if_true]
      | some b =>
        have hbb := m_pk_p hm
        have c1 := w_cr_lt hP b
        have e1 := T_cr h2 hbb.1
        have b1 : ¬ w_cr M.2.2.1.1 (m_C M.2.2.1) b = 0 := fun z => by
          have := hbb.2
          unfold m_cn at this
          rw [z] at this
          exact absurd this (by decide)
        simp (disch := omega) only [↓am_lq, Option.getD_some, b_lq, oI_q, b_lt, b_t, b_eq, am_g_t, e1, b1, if_false, oI_t]))
  (fun M s hV hI => by
    unfold fX9_peak
    exact r_q hV hI (fun t h => g9_march h hV) of_decide_eq_true (fun hb t h1 h2 => by
      refine ⟨t, ?_, r_mv_refl t⟩
      rw [r_peakOf (m_MV_P hV) h2, am_rq]))
/-- steps that are written are steps -/
def w_bd (m : Nat) (w : w_S) : Prop := (∀ p k, w.2.2.2.1 p = some k → k < m) ∧ ∀ p k, w.2.2.2.2.1 p = some k → k < m
theorem w_bd_f1 {D : w_D} {C : w_C} {n pl p : Nat} {w : w_S × Bool} (h : w_bd (n + 1) w.1) : w_bd (n + 1) (w_f1 D C n pl p w).1 := by
  unfold w_f1
  split
  · refine ⟨fun q k hk => ?_, h.2⟩
    dsimp only at hk
    by_cases e : q = p
    · rw [e, w_us] at hk; cases hk; omega
    · rw [w_uo _ _ e] at hk; exact h.1 q k hk
  · exact h
theorem w_bd_rd {D : w_D} {C : w_C} {n pl : Nat} {w : w_S} (h : w_bd (n + 1) w) : ∀ k, w_bd (n + 1) (sp_it (w_f1 D C n pl) k (w, false)).1
  | 0 => h
  | k + 1 => w_bd_f1 (w_bd_rd h k)
theorem w_bd_fl {D : w_D} {C : w_C} {n pl : Nat} : ∀ (k : Nat) {w : w_S}, w_bd (n + 1) w → w_bd (n + 1) (w_fl D C n pl k w)
  | 0, _, h => h
  | k + 1, w, h => by
    unfold w_fl
    split
    · exact w_bd_fl k (w_bd_rd h _)
    · exact w_bd_rd h _
theorem w_bd_l1 {D : w_D} {n pl p : Nat} {w : w_S} (h : w_bd (n + 1) w) : w_bd (n + 1) (w_l1 D n pl p w) := by
  unfold w_l1
  split
  · refine ⟨h.1, fun q k hk => ?_⟩
    dsimp only at hk
    by_cases e : q = p
    · rw [e, w_us] at hk; cases hk; omega
    · rw [w_uo _ _ e] at hk; exact h.2 q k hk
  · exact h
theorem w_bd_lv {D : w_D} {n pl : Nat} {w : w_S} (h : w_bd (n + 1) w) : ∀ k, w_bd (n + 1) (sp_it (w_l1 D n pl) k w)
  | 0 => h
  | k + 1 => w_bd_l1 (w_bd_lv h k)
theorem w_bd_m {m n : Nat} {w : w_S} (h : w_bd m w) (k : m ≤ n) : w_bd n w := ⟨fun p q e => Nat.lt_of_lt_of_le (h.1 p q e) k, fun p q e => Nat.lt_of_lt_of_le (h.2 p q e) k⟩
theorem w_bd_W {D : w_D} {C : w_C} : ∀ n, w_bd n (w_W D C n).2
  | 0 => ⟨fun p k h => (by cases h), fun p k h => (by cases h)⟩
  | n + 1 => by
    have ih := w_bd_m (w_bd_W (D := D) (C := C) n) (show n ≤ n + 1 by omega)
    cases hat : w_at D C n with
    | none => rw [w_W_n hat]; exact ih
    | some pl =>
      rw [w_W_s hat]
      dsimp only
      unfold w_af w_lv
      split
      · exact w_bd_lv ih _
      · exact w_bd_lv (w_bd_fl 9 ih) _
theorem w_fe_lt {D : w_D} {C : w_C} {p k : Nat} (h : w_fe D C p = some k) : k < 61 := (w_bd_W (D := D) (C := C) 61).1 p k h
theorem w_le_lt {D : w_D} {C : w_C} {p k : Nat} (h : w_le D C p = some k) : k < 61 := (w_bd_W (D := D) (C := C) 61).2 p k h
theorem m_seen {D : w_D} {C : w_C} (q : Nat) : (y_fd (fun k => decide (0 ≤ k) && (w_at D C k == some q)) 61).isSome = (w_se D C 61).testBit q := by
  cases hy : y_fd (fun k => decide (0 ≤ k) && (w_at D C k == some q)) 61 with
  | none =>
    have h := y_fd_n.mp hy
    symm
    apply Bool.eq_false_iff.mpr
    intro c
    obtain ⟨k, h1, h2⟩ := (w_se_t D C q 61).mp c
    have := h k h1
    rw [h2] at this
    simp at this
  | some k =>
    have h := y_fd_s.mp hy
    symm
    apply (w_se_t D C q 61).mpr
    refine ⟨k, h.1, ?_⟩
    have := h.2.1
    simpa using this
theorem Q_missed : m_OK (fun s => fX8_missed s) (fun s => fX9_missed s) := m_ok_q (fun M => decide (0 < M.2.2.1.1.1 6)) (fun M => nI (m_or (fun p => if (w_fe M.2.2.1.1 (m_C M.2.2.1) p).isNone && (w_se M.2.2.1.1 (m_C M.2.2.1) 61).testBit (M.2.2.1.1.2.2.1 p 0) then some p else none) (M.2.2.1.1.1 5)))
  (fun M s hV hI => by
    unfold fX8_missed
    exact c_q hV hI (g8_march hI.1 hV) of_decide_eq_true (fun hb t h1 h2 => by
      have hl := of_decide_eq_true hb
      have hP := m_MV_P hV
      have v0 := hP.1.1
      have v5 := hP.1.2.2.1
      have vp := hP.1.2.2.2.2.1
      have hse := w_se_lt hP.1 (m_CK hP hl) 61
      have e6 : t.1 25 6 = nI (M.2.2.1.1.1 5) := T_np h1.1.2.2.1.1 (j := 5) (by omega)
      refine ⟨t, ?_, c_mw_refl t⟩
      simp only [b_lq]
      refine sp_or (fun f x i => fX8_missed_L18 t f x i) (M.2.2.1.1.1 5) _ (fun x => some (t, x)) (fun i z hi hz => ?_) (fun f i m hi hm => ?_) (fun f m hm => ?_) am_fu (am_fu_gt (by omega))
      · split at hz
        · cases hz; omega
        · cases hz
      · have e1 := T_fe h2 (p := i) (by omega)
        have e2 := T_pe h1.1.2.2.1.1 hi (show 0 < 5 by omega)
        have e3 := T_se h2
        have := vp i hi
        rw [fX8_missed_L18]
        cases hf : w_fe M.2.2.1.1 (m_C M.2.2.1) i with
        | some k =>
          have := w_fe_lt hf
          rw [hf, oI_s] at e1
          simp (disch := omega) only [↓am_lq, b_lq, oI_q, e6, b_le, b_lt, b_t, am_g_t, e1, b_nn, if_neg, if_false, b_add, Option.isNone_some, Bool.false_and, Bool.false_eq_true]
        | none =>
          rw [hf] at e1
          have hh := c_holds (x := w_se M.2.2.1.1 (m_C M.2.2.1) 61) (p := M.2.2.1.1.2.2.1 i 0) (by omega) (by omega)
          cases hb : (w_se M.2.2.1.1 (m_C M.2.2.1) 61).testBit (M.2.2.1.1.2.2.1 i 0) with
          | true =>
            rw [hb] at hh
            simp (disch := omega) only [↓am_lq, b_lq, oI_q, e6, b_le, b_lt, b_t, b_eq, am_g_t, e1, e2, e3, hh, am_rq, b_tt, if_neg, if_true, if_false, b_add, Option.isNone_none, Bool.and_self, b_sh, b_ins]
          | false =>
            rw [hb] at hh
            simp (disch := omega) only [↓am_lq, b_lq, oI_q, e6, b_le, b_lt, b_t, b_eq, am_g_t, e1, e2, e3, hh, am_rq, b_tf, if_neg, if_true, if_false, b_add, Option.isNone_none, Bool.and_false, Bool.false_eq_true]
      · rw [fX8_missed_L18]
        simp (disch := omega) only [b_lq, e6, b_le, if_pos, if_true]))
  (fun M s hV hI => by
    unfold fX9_missed
    exact r_q hV hI (fun t h => g9_march h hV) of_decide_eq_true (fun hb t h1 h2 => by
      have hl := of_decide_eq_true hb
      have hP := m_MV_P hV
      have v0 := hP.1.1
      have v5 := hP.1.2.2.1
      have vp := hP.1.2.2.2.2.1
      have e6 := r_people h2.2.1
      refine ⟨t, ?_, r_mv_refl t⟩
      simp only [b_lq]
      refine sp_or (fun f x i => fX9_missed_L23 t f x i) (M.2.2.1.1.1 5) _ (fun x => some (t, x)) (fun i z hi hz => ?_) (fun f i m hi hm => ?_) (fun f m hm => ?_) am_fu (am_fu_gt (by omega))
      · split at hz
        · cases hz; omega
        · cases hz
      · have e1 := R_fe h2 (p := i) (by omega)
        have e2 := h2.2.1.2.2.1 i 0 hi (by omega)
        rw [Nat.add_zero] at e2
        have := vp i hi
        rw [fX9_missed_L23]
        cases hf : w_fe M.2.2.1.1 (m_C M.2.2.1) i with
        | some k =>
          have := w_fe_lt hf
          rw [hf, oI_s] at e1
          simp (disch := omega) only [↓am_lq, b_lq, oI_q, e6, am_rq, b_le, b_lt, b_t, am_g_t, e1, b_nn, if_neg, if_false, b_add, Option.isNone_some, Bool.false_and, Bool.false_eq_true, b_or0]
        | none =>
          rw [hf] at e1
          have hh := R_first hP hl h2 (pl := M.2.2.1.1.2.2.1 i 0) (f := 0) (by omega) (by omega)
          rw [← m_seen]
          cases hb : y_fd (fun k => decide (0 ≤ k) && (w_at M.2.2.1.1 (m_C M.2.2.1) k == some (M.2.2.1.1.2.2.1 i 0))) 61 with
          | none =>
            rw [hb] at hh
            simp (disch := omega) only [↓am_lq, b_lq, oI_q, e6, am_rq, b_le, b_lt, b_t, b_mul, am_g_t, e1, e2, hh, if_neg, if_true, if_false, b_add, Option.isNone_none, Option.isSome_none, Bool.and_false, Bool.false_eq_true, b_or0]
          | some k =>
            have := (y_fd_s.mp hb).1
            rw [hb, oI_s] at hh
            simp (disch := omega) only [↓am_lq, b_lq, oI_q, e6, am_rq, b_le, b_lt, b_t, b_mul, am_g_t, e1, e2, hh, b_nn, if_neg, if_true, if_false, b_add, Option.isNone_none, Option.isSome_some, Bool.and_self, b_sh, b_ins]
      · rw [fX9_missed_L23]
        simp (disch := omega) only [b_lq, e6, am_rq, b_le, if_pos, if_true]))
def m_wt (P : m_P) (a n : Nat) : Nat := if w_at P.1 (m_C P) n = some (P.1.2.2.1 a 0) then (match w_fe P.1 (m_C P) a with
  | none => 1
  | some k => if k ≤ n then 0 else 1) else 0
theorem Q_waits (a : Int32) : m_OK (fun s => fX8_waits s a) (fun s => fX9_waits s a) := m_ok_q (fun M => m_in a (M.2.2.1.1.1 5)) (fun M => nI (m_sum (m_wt M.2.2.1 a.toNatClampNeg) 61))
  (fun M s hV hI => by
    unfold fX8_waits
    exact c_q hV hI (g8_person hI.1) (hl_person hV) (fun hb t h1 h2 => by
      have hl := hl_person hV hb
      obtain ⟨k, hk, hk2, rfl⟩ := k_person hV hb
      have hP := m_MV_P hV
      have v0 := hP.1.1
      have vp := hP.1.2.2.2.2.1 k hk
      have e2 := T_pe h1.1.2.2.1.1 hk (show 0 < 5 by omega)
      have e3 := T_fe h2 hk2
      refine ⟨t, ?_, c_mw_refl t⟩
      simp (disch := omega) only [↓am_lq, b_lq, b_lt, b_t, am_g_t, e3]
      refine sp_sum (fun f x i => fX8_waits_L30 (nI k) t (oI (w_fe M.2.2.1.1 (m_C M.2.2.1) k)) f x i) 61 _ (fun x => some (t, x)) (fun f i m hi => ?_) (fun f m => ?_) am_fu (am_fu_gt (by omega))
      · have e1 := T_at h2 hi
        rw [fX8_waits_L30]
        cases hw : w_at M.2.2.1.1 (m_C M.2.2.1) i with
        | none =>
          rw [hw] at e1
          rw [show m_wt M.2.2.1 k i = 0 by unfold m_wt; rw [hw]; simp]
          simp (disch := omega) only [↓am_lq, b_lq, oI_q, b_le, b_lt, b_t, am_g_t, e1, e2, b_nn2, if_neg, if_false, b_add, reduceCtorEq]
          rfl
        | some q =>
          have := (w_at_10 hP hl hw).2
          rw [hw, oI_s] at e1
          by_cases c : q = M.2.2.1.1.2.2.1 k 0
          · cases hf : w_fe M.2.2.1.1 (m_C M.2.2.1) k with
            | none =>
              rw [show m_wt M.2.2.1 k i = 1 by unfold m_wt; rw [hw, hf, c]; simp]
              simp (disch := omega) only [↓am_lq, b_lq, oI_q, b_le, b_lt, b_eq, b_t, am_g_t, e1, e2, c, if_neg, if_true, if_false, b_add]
            | some j =>
              have := w_fe_lt hf
              have b1 : (nI j = oI none) = False := b_nn (by omega)
              rw [show m_wt M.2.2.1 k i = if j ≤ i then 0 else 1 by unfold m_wt; rw [hw, hf, c]; simp]
              simp (disch := omega) only [↓am_lq, b_lq, oI_q, oI_t, b1, b_le, b_lt, b_eq, b_t, am_g_t, e1, e2, c, if_neg, if_true, if_false, b_add]
              by_cases c2 : j ≤ i
              · rw [if_pos c2, if_pos c2]; rfl
              · rw [if_neg c2, if_neg c2]
          · rw [show m_wt M.2.2.1 k i = 0 by unfold m_wt; rw [hw]; simp [c]]
            simp (disch := omega) only [↓am_lq, b_lq, oI_q, b_le, b_lt, b_eq, b_t, am_g_t, e1, e2, c, if_neg, if_false, b_add]
            rfl
      · rw [fX8_waits_L30]
        simp (disch := omega) only [b_lq, b_le, if_pos, if_true]))
  (fun M s hV hI => by
    unfold fX9_waits
    exact r_q hV hI (fun t h => g9_person h hV) (hl_person hV) (fun hb t h1 h2 => by
      have hl := hl_person hV hb
      obtain ⟨k, hk, hk2, rfl⟩ := k_person hV hb
      have hP := m_MV_P hV
      have v0 := hP.1.1
      have vp := hP.1.2.2.2.2.1 k hk
      have e2 := h2.2.1.2.2.1 k 0 hk (by omega)
      rw [Nat.add_zero] at e2
      have e3 := R_fe h2 hk2
      refine ⟨t, ?_, r_mv_refl t⟩
      simp (disch := omega) only [b_lq, b_t]
      refine sp_sum (fun f x i => fX9_waits_L25 (nI k) t f x i) 61 _ (fun x => some (t, x)) (fun f i m hi => ?_) (fun f m => ?_) am_fu (am_fu_gt (by omega))
      · have e1 := R_at h2 hi
        rw [fX9_waits_L25]
        cases hw : w_at M.2.2.1.1 (m_C M.2.2.1) i with
        | none =>
          rw [hw] at e1
          rw [show m_wt M.2.2.1 k i = 0 by unfold m_wt; rw [hw]; simp]
          simp (disch := omega) only [↓am_lq, b_lq, oI_q, b_le, b_lt, b_t, b_mul, am_g_t, e1, e2, b_nn2, if_neg, if_false, b_add, reduceCtorEq]
        | some q =>
          have := (w_at_10 hP hl hw).2
          rw [hw, oI_s] at e1
          by_cases c : q = M.2.2.1.1.2.2.1 k 0
          · cases hf : w_fe M.2.2.1.1 (m_C M.2.2.1) k with
            | none =>
              rw [hf] at e3
              rw [show m_wt M.2.2.1 k i = 1 by unfold m_wt; rw [hw, hf, c]; simp]
              simp (disch := omega) only [↓am_lq, b_lq, oI_q, b_le, b_lt, b_eq, b_t, b_mul, am_g_t, e1, e2, e3, c, if_neg, if_true, if_false, b_add]
            | some j =>
              have := w_fe_lt hf
              have b1 : (nI j = oI none) = False := b_nn (by omega)
              rw [show m_wt M.2.2.1 k i = if j ≤ i then 0 else 1 by unfold m_wt; rw [hw, hf, c]; simp]
              rw [hf, oI_s] at e3
              simp (disch := omega) only [↓am_lq, b_lq, oI_q, oI_t, b1, b_le, b_lt, b_eq, b_t, b_mul, am_g_t, e1, e2, e3, c, if_neg, if_true, if_false, b_add]
              by_cases c2 : j ≤ i
              · rw [if_pos c2, if_pos c2]
              · rw [if_neg c2, if_neg c2]
          · rw [show m_wt M.2.2.1 k i = 0 by unfold m_wt; rw [hw]; simp [c]]
            simp (disch := omega) only [↓am_lq, b_lq, oI_q, b_le, b_lt, b_eq, b_t, b_mul, am_g_t, e1, e2, c, if_neg, if_false, b_add]
      · rw [fX9_waits_L25]
        simp (disch := omega) only [b_lq, b_lt, if_pos, if_true]))
end QE
