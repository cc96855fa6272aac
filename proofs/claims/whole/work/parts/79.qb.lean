/-! QUESTIONS: comes, often, boards, weighs, parties, together, missed. -/
section QB
variable {M : m_M} {t : AS} {P : m_P}
theorem hl_place (hV : m_MV M) {a : Int32} (hb : m_in a (M.2.2.1.1.1 0) = true) : 0 < M.2.2.1.1.1 6 := m_pl hV (j := 0) (by omega) (m_in_pos (by have := (m_MV_P hV).1.1; omega) hb)
theorem hl_person (hV : m_MV M) {a : Int32} (hb : m_in a (M.2.2.1.1.1 5) = true) : 0 < M.2.2.1.1.1 6 := m_pl hV (j := 5) (by omega) (m_in_pos (by have := (m_MV_P hV).1.2.2.1; omega) hb)
theorem k_place (hV : m_MV M) {a : Int32} (hb : m_in a (M.2.2.1.1.1 0) = true) : ∃ k, k < M.2.2.1.1.1 0 ∧ k < 10 ∧ a = nI k := by
  have v := (m_MV_P hV).1.1
  obtain ⟨k, h1, h2⟩ := m_in_k (by omega) hb
  exact ⟨k, h1, by omega, h2⟩
theorem k_person (hV : m_MV M) {a : Int32} (hb : m_in a (M.2.2.1.1.1 5) = true) : ∃ k, k < M.2.2.1.1.1 5 ∧ k < 8 ∧ a = nI k := by
  have v := (m_MV_P hV).1.2.2.1
  obtain ⟨k, h1, h2⟩ := m_in_k (by omega) hb
  exact ⟨k, h1, by omega, h2⟩
theorem T_first (hV : m_PV P) (hl : 0 < P.1.1 6) (h : c_T P t) {pl f : Nat} (hpl : pl < 10) (hf : f ≤ 61) : fX6_firstAt t 163 (nI pl) (nI f) = some (oI (y_fd (fun k => decide (f ≤ k) && (w_at P.1 (m_C P) k == some pl)) 61)) := c_firstAt (o := 163) t (fun _ hk => T_at h hk) (fun k q hq => (w_at_10 hV hl hq).2) hpl hf
theorem R_first (hV : m_PV P) (hl : 0 < P.1.1 6) (h : r_T P t) {pl f : Nat} (hpl : pl < 10) (hf : f ≤ 61) : fX9_firstAt t (nI pl) (nI f) = some (oI (y_fd (fun k => decide (f ≤ k) && (w_at P.1 (m_C P) k == some pl)) 61)) := r_firstAt t (fun _ hk => R_at h hk) (fun k q hq => (w_at_10 hV hl hq).2) hpl hf
theorem Q_comes (a : Int32) : m_OK (fun s => fX8_comes s a) (fun s => fX9_comes s a) := m_ok_q (fun M => m_in a (M.2.2.1.1.1 0)) (fun M => oI (y_fd (fun k => decide (0 ≤ k) && (w_at M.2.2.1.1 (m_C M.2.2.1) k == some a.toNatClampNeg)) 61))
  (fun M s hV hI => by
    unfold fX8_comes
    exact c_q hV hI (g8_place hI.1) (hl_place hV) (fun hb t h1 h2 => by
      have hl := hl_place hV hb
      obtain ⟨k, hk, hk2, rfl⟩ := k_place hV hb
      refine ⟨t, ?_, c_mw_refl t⟩
      simp (disch := omega) only [b_lq, T_first (m_MV_P hV) hl h2 hk2, am_rq, b_t]))
  (fun M s hV hI => by
    unfold fX9_comes
    exact r_q hV hI (fun t h => g9_place h hV) (hl_place hV) (fun hb t h1 h2 => by
      have hl := hl_place hV hb
      obtain ⟨k, hk, hk2, rfl⟩ := k_place hV hb
      refine ⟨t, ?_, r_mv_refl t⟩
      simp (disch := omega) only [b_lq, R_first (m_MV_P hV) hl h2 hk2, am_rq, b_t]))
theorem Q_often (a : Int32) : m_OK (fun s => fX8_often s a) (fun s => fX9_often s a) := m_ok_q (fun M => m_in a (M.2.2.1.1.1 0)) (fun M => nI (m_sum (fun k => if w_at M.2.2.1.1 (m_C M.2.2.1) k = some a.toNatClampNeg then 1 else 0) 61))
  (fun M s hV hI => by
    unfold fX8_often
    exact c_q hV hI (g8_place hI.1) (hl_place hV) (fun hb t h1 h2 => by
      have hl := hl_place hV hb
      obtain ⟨k, hk, hk2, rfl⟩ := k_place hV hb
      refine ⟨t, ?_, c_mw_refl t⟩
      simp (disch := omega) only [b_lq, b_t]
      refine sp_sum (fun f x i => fX8_often_L19 (nI k) t f x i) 61 _ (fun x => some (t, x)) (fun f i m hi => ?_) (fun f m => ?_) am_fu (am_fu_gt (by omega))
      · have e := T_at h2 hi
        rw [fX8_often_L19]
        cases hw : w_at M.2.2.1.1 (m_C M.2.2.1) i with
        | none =>
          rw [hw] at e
          simp (disch := omega) only [↓am_lq, b_lq, b_le, b_lt, b_t, am_g_t, e, b_nn2, if_neg, if_false, b_add, reduceCtorEq]
          rfl
        | some q =>
          have := (w_at_10 (m_MV_P hV) hl hw).2
          rw [hw, oI_s] at e
          simp (disch := omega) only [↓am_lq, b_lq, b_le, b_lt, b_eq, b_t, am_g_t, e, if_neg, if_false, b_add, Option.some.injEq]
          by_cases c : q = k
          · rw [if_pos c, if_pos c]
          · rw [if_neg c, if_neg c]; rfl
      · rw [fX8_often_L19]
        simp (disch := omega) only [b_lq, b_le, if_pos, if_true]))
  (fun M s hV hI => by
    unfold fX9_often
    exact r_q hV hI (fun t h => g9_place h hV) (hl_place hV) (fun hb t h1 h2 => by
      have hl := hl_place hV hb
      obtain ⟨k, hk, hk2, rfl⟩ := k_place hV hb
      refine ⟨t, ?_, r_mv_refl t⟩
      simp (disch := omega) only [b_lq, b_t]
      refine sp_sum (fun f x i => fX9_often_L25 (nI k) t f x i) 61 _ (fun x => some (t, x)) (fun f i m hi => ?_) (fun f m => ?_) am_fu (am_fu_gt (by omega))
      · have e := R_at h2 hi
        rw [fX9_often_L25]
        cases hw : w_at M.2.2.1.1 (m_C M.2.2.1) i with
        | none =>
          rw [hw] at e
          simp (disch := omega) only [↓am_lq, b_lq, b_le, b_lt, b_t, am_g_t, e, b_nn2, if_neg, if_false, b_add, reduceCtorEq]
        | some q =>
          have := (w_at_10 (m_MV_P hV) hl hw).2
          rw [hw, oI_s] at e
          simp (disch := omega) only [↓am_lq, b_lq, b_le, b_lt, b_eq, b_t, am_g_t, e, if_neg, if_false, b_add, Option.some.injEq]
          by_cases c : q = k
          · rw [if_pos c, if_pos c]
          · rw [if_neg c, if_neg c]
      · rw [fX9_often_L25]
        simp (disch := omega) only [b_lq, b_lt, if_pos, if_true]))
theorem c_isIn (hV : m_PV P) (h : c_T P t) {p n : Nat} (hp : p < 8) (hn : n < 61) : fX8_isIn t (nI p) (nI n) = some (nI ((w_cr P.1 (m_C P) n).testBit p).toNat) := by
  have := w_cr_lt hV n
  unfold fX8_isIn
  simp (disch := omega) only [b_lq, b_lt, b_t, am_g_t, T_cr h hn, c_holds, am_rq, b_b0, b_b1, b_ft, am_gT]
theorem r_isIn (hV : m_PV P) (h : r_T P t) {p n : Nat} (hp : p < 8) (hn : n < 61) : fX9_isBit (t.1 230 n) (nI p) = some (nI ((w_cr P.1 (m_C P) n).testBit p).toNat) := by
  have := w_cr_lt hV n
  rw [R_cr h hn, c_isBit (by omega) (by omega)]
theorem Q_boards (a : Int32) : m_OK (fun s => fX8_boards s a) (fun s => fX9_boards s a) := m_ok_q (fun M => m_st M a 61) (fun M => nI (m_or (fun p => if (w_cr M.2.2.1.1 (m_C M.2.2.1) a.toNatClampNeg).testBit p then some (M.2.2.1.1.2.2.1 p 2) else none) (M.2.2.1.1.1 5)))
  (fun M s hV hI => by
    unfold fX8_boards
    exact c_q hV hI (g8_step hI.1 hV) m_st_l (fun hb t h1 h2 => by
      obtain ⟨k, hk, rfl⟩ := m_st_k (by omega) hb
      have hP := m_MV_P hV
      have v5 := hP.1.2.2.1
      have vp := hP.1.2.2.2.2.1
      have e6 : t.1 25 6 = nI (M.2.2.1.1.1 5) := T_np h1.1.2.2.1.1 (j := 5) (by omega)
      refine ⟨t, ?_, c_mw_refl t⟩
      simp (disch := omega) only [b_lq, b_t]
      refine sp_or (fun f x i => fX8_boards_L19 (nI k) t f x i) (M.2.2.1.1.1 5) _ (fun x => some (t, x)) (fun i q hi hq => ?_) (fun f i m hi hm => ?_) (fun f m hm => ?_) am_fu (am_fu_gt (by omega))
      · have := vp i hi
        split at hq
        · cases hq; omega
        · cases hq
      · have e := c_isIn hP h2 (p := i) (by omega) hk
        have e2 := T_pe h1.1.2.2.1.1 hi (show 2 < 5 by omega)
        have := vp i hi
        rw [fX8_boards_L19]
        cases hw : (w_cr M.2.2.1.1 (m_C M.2.2.1) k).testBit i with
        | false =>
          rw [hw] at e
          simp (disch := omega) only [↓am_lq, b_lq, e6, b_le, e, am_rq, b_tf, if_neg, if_true, if_false, b_add, Bool.false_eq_true]
        | true =>
          rw [hw] at e
          simp (disch := omega) only [↓am_lq, b_lq, e6, b_le, b_eq, b_lt, b_t, am_g_t, e, am_rq, b_tt, if_neg, if_true, if_false, b_add, e2, b_sh, b_ins]
      · rw [fX8_boards_L19]
        simp (disch := omega) only [b_lq, e6, b_le, if_pos, if_true]))
  (fun M s hV hI => by
    unfold fX9_boards
    exact r_q hV hI (fun t h => g9_step h hV) m_st_l (fun hb t h1 h2 => by
      obtain ⟨k, hk, rfl⟩ := m_st_k (by omega) hb
      have hP := m_MV_P hV
      have v5 := hP.1.2.2.1
      have vp := hP.1.2.2.2.2.1
      have e6 := r_people h2.2.1
      refine ⟨t, ?_, r_mv_refl t⟩
      simp (disch := omega) only [b_lq, b_t]
      refine sp_or (fun f x i => fX9_boards_L24 (nI k) t f x i) (M.2.2.1.1.1 5) _ (fun x => some (t, x)) (fun i q hi hq => ?_) (fun f i m hi hm => ?_) (fun f m hm => ?_) am_fu (am_fu_gt (by omega))
      · have := vp i hi
        split at hq
        · cases hq; omega
        · cases hq
      · have e := r_isIn hP h2 (p := i) (by omega) hk
        have e2 := r_reason hP.1 h2.2.1 hi
        have := vp i hi
        rw [fX9_boards_L24]
        cases hw : (w_cr M.2.2.1.1 (m_C M.2.2.1) k).testBit i with
        | false =>
          rw [hw] at e
          simp (disch := omega) only [↓am_lq, b_lq, e6, am_rq, b_le, b_lt, b_t, am_g_t, e, b_tf, if_neg, if_true, if_false, b_add, b_or0, Bool.false_eq_true]
        | true =>
          rw [hw] at e
          simp (disch := omega) only [↓am_lq, b_lq, e6, am_rq, b_le, b_eq, b_lt, b_t, am_g_t, e, b_tt, if_neg, if_true, if_false, b_add, e2, b_sh, b_ins]
      · rw [fX9_boards_L24]
        simp (disch := omega) only [b_lq, e6, am_rq, b_le, if_pos, if_true]))
theorem Q_weighs (a : Int32) : m_OK (fun s => fX8_weighs s a) (fun s => fX9_weighs s a) := m_ok_q (fun M => m_st M a 61) (fun M => nI (m_sum (fun p => if (w_cr M.2.2.1.1 (m_C M.2.2.1) a.toNatClampNeg).testBit p then M.2.2.1.1.2.2.1 p 4 else 0) (M.2.2.1.1.1 5)))
  (fun M s hV hI => by
    unfold fX8_weighs
    exact c_q hV hI (g8_step hI.1 hV) m_st_l (fun hb t h1 h2 => by
      obtain ⟨k, hk, rfl⟩ := m_st_k (by omega) hb
      have hP := m_MV_P hV
      have v5 := hP.1.2.2.1
      have vp := hP.1.2.2.2.2.1
      have e6 : t.1 25 6 = nI (M.2.2.1.1.1 5) := T_np h1.1.2.2.1.1 (j := 5) (by omega)
      refine ⟨t, ?_, c_mw_refl t⟩
      simp (disch := omega) only [b_lq, b_t]
      refine sp_sum (fun f x i => fX8_weighs_L19 (nI k) t f x i) (M.2.2.1.1.1 5) _ (fun x => some (t, x)) (fun f i m hi => ?_) (fun f m => ?_) am_fu (am_fu_gt (by omega))
      · have e := c_isIn hP h2 (p := i) (by omega) hk
        have e2 := T_pe h1.1.2.2.1.1 hi (show 4 < 5 by omega)
        have := vp i hi
        rw [fX8_weighs_L19]
        cases hw : (w_cr M.2.2.1.1 (m_C M.2.2.1) k).testBit i with
        | false =>
          rw [hw] at e
          simp (disch := omega) only [↓am_lq, b_lq, e6, b_le, e, am_rq, b_tf, if_neg, if_true, if_false, b_add, Bool.false_eq_true]
          rfl
        | true =>
          rw [hw] at e
          simp (disch := omega) only [↓am_lq, b_lq, e6, b_le, b_eq, b_lt, b_t, am_g_t, e, am_rq, b_tt, if_neg, if_true, if_false, b_add, e2]
      · rw [fX8_weighs_L19]
        simp (disch := omega) only [b_lq, e6, b_le, if_pos, if_true]))
  (fun M s hV hI => by
    unfold fX9_weighs
    exact r_q hV hI (fun t h => g9_step h hV) m_st_l (fun hb t h1 h2 => by
      obtain ⟨k, hk, rfl⟩ := m_st_k (by omega) hb
      have hP := m_MV_P hV
      have v5 := hP.1.2.2.1
      have vp := hP.1.2.2.2.2.1
      have e6 := r_people h2.2.1
      refine ⟨t, ?_, r_mv_refl t⟩
      simp (disch := omega) only [b_lq, b_t]
      refine sp_sum (fun f x i => fX9_weighs_L24 (nI k) t f x i) (M.2.2.1.1.1 5) _ (fun x => some (t, x)) (fun f i m hi => ?_) (fun f m => ?_) am_fu (am_fu_gt (by omega))
      · have e := r_isIn hP h2 (p := i) (by omega) hk
        have e2 := h2.2.1.2.2.1 i 4 hi (by omega)
        have := vp i hi
        rw [fX9_weighs_L24]
        cases hw : (w_cr M.2.2.1.1 (m_C M.2.2.1) k).testBit i with
        | false =>
          rw [hw] at e
          simp (disch := omega) only [↓am_lq, b_lq, e6, am_rq, b_le, b_lt, b_t, am_g_t, e, b_tf, if_neg, if_true, if_false, b_add, Bool.false_eq_true]
        | true =>
          rw [hw] at e
          simp (disch := omega) only [↓am_lq, b_lq, e6, am_rq, b_le, b_eq, b_lt, b_t, b_mul, am_g_t, e, b_tt, if_neg, if_true, if_false, b_add, e2]
      · rw [fX9_weighs_L24]
        simp (disch := omega) only [b_lq, e6, am_rq, b_le, if_pos, if_true]))
theorem Q_parties (a : Int32) : m_OK (fun s => fX8_parties s a) (fun s => fX9_parties s a) := m_ok_q (fun M => m_st M a 61) (fun M => nI (w_pc (m_or (fun p => if (w_cr M.2.2.1.1 (m_C M.2.2.1) a.toNatClampNeg).testBit p then some (M.2.2.1.1.2.2.1 p 1) else none) (M.2.2.1.1.1 5))))
  (fun M s hV hI => by
    unfold fX8_parties
    exact c_q hV hI (g8_step hI.1 hV) m_st_l (fun hb t h1 h2 => by
      obtain ⟨k, hk, rfl⟩ := m_st_k (by omega) hb
      have hP := m_MV_P hV
      have v0 := hP.1.1
      have v5 := hP.1.2.2.1
      have vp := hP.1.2.2.2.2.1
      have e6 : t.1 25 6 = nI (M.2.2.1.1.1 5) := T_np h1.1.2.2.1.1 (j := 5) (by omega)
      refine ⟨t, ?_, c_mw_refl t⟩
      simp (disch := omega) only [b_lq, b_t]
      have hq : ∀ i q, i < M.2.2.1.1.1 5 → (if (w_cr M.2.2.1.1 (m_C M.2.2.1) k).testBit i then some (M.2.2.1.1.2.2.1 i 1) else none) = some q → q < 10 := fun i q hi hq => by
        have := vp i hi
        split at hq
        · cases hq; omega
        · cases hq
      rw [sp_or (fun f x i => fX8_parties_L19 (nI k) t f x i) (M.2.2.1.1.1 5) (fun p => if (w_cr M.2.2.1.1 (m_C M.2.2.1) k).testBit p then some (M.2.2.1.1.2.2.1 p 1) else none) (fun x => am_r (fJ6_bitCount_0f7a4 x) (fun v6 => some (t, v6))) hq (fun f i m hi hm => ?_) (fun f m hm => ?_) am_fu (am_fu_gt (by omega))]
      · rw [b_bc _ (m_or_lt hq), am_rq]
      · have e := c_isIn hP h2 (p := i) (by omega) hk
        have e2 := T_pe h1.1.2.2.1.1 hi (show 1 < 5 by omega)
        have := vp i hi
        rw [fX8_parties_L19]
        cases hw : (w_cr M.2.2.1.1 (m_C M.2.2.1) k).testBit i with
        | false =>
          rw [hw] at e
          simp (disch := omega) only [↓am_lq, b_lq, e6, b_le, e, am_rq, b_tf, if_neg, if_true, if_false, b_add, Bool.false_eq_true]
        | true =>
          rw [hw] at e
          simp (disch := omega) only [↓am_lq, b_lq, e6, b_le, b_eq, b_lt, b_t, am_g_t, e, am_rq, b_tt, if_neg, if_true, if_false, b_add, e2, b_sh, b_ins]
      · rw [fX8_parties_L19]
        simp (disch := omega) only [b_lq, e6, b_le, if_pos, if_true]))
  (fun M s hV hI => by
    unfold fX9_parties
    exact r_q hV hI (fun t h => g9_step h hV) m_st_l (fun hb t h1 h2 => by
      obtain ⟨k, hk, rfl⟩ := m_st_k (by omega) hb
      have hP := m_MV_P hV
      have v0 := hP.1.1
      have v5 := hP.1.2.2.1
      have vp := hP.1.2.2.2.2.1
      have e6 := r_people h2.2.1
      refine ⟨t, ?_, r_mv_refl t⟩
      simp (disch := omega) only [b_lq, b_t]
      have hq : ∀ i q, i < M.2.2.1.1.1 5 → (if (w_cr M.2.2.1.1 (m_C M.2.2.1) k).testBit i then some (M.2.2.1.1.2.2.1 i 1) else none) = some q → q < 10 := fun i q hi hq => by
        have := vp i hi
        split at hq
        · cases hq; omega
        · cases hq
      rw [sp_or (fun f x i => fX9_parties_L24 (nI k) t f x i) (M.2.2.1.1.1 5) (fun p => if (w_cr M.2.2.1.1 (m_C M.2.2.1) k).testBit p then some (M.2.2.1.1.2.2.1 p 1) else none) (fun x => am_r (fX9_sizeOf x) (fun v6 => some (t, v6))) hq (fun f i m hi hm => ?_) (fun f m hm => ?_) am_fu (am_fu_gt (by omega))]
      · rw [r_size (m_or_lt hq), am_rq]
      · have e := r_isIn hP h2 (p := i) (by omega) hk
        have e2 := r_wants hP.1 h2.2.1 hi
        have := vp i hi
        rw [fX9_parties_L24]
        cases hw : (w_cr M.2.2.1.1 (m_C M.2.2.1) k).testBit i with
        | false =>
          rw [hw] at e
          simp (disch := omega) only [↓am_lq, b_lq, e6, am_rq, b_le, b_lt, b_t, am_g_t, e, b_tf, if_neg, if_true, if_false, b_add, b_or0, Bool.false_eq_true]
        | true =>
          rw [hw] at e
          simp (disch := omega) only [↓am_lq, b_lq, e6, am_rq, b_le, b_eq, b_lt, b_t, am_g_t, e, b_tt, if_neg, if_true, if_false, b_add, e2, b_sh, b_ins]
      · rw [fX9_parties_L24]
        simp (disch := omega) only [b_lq, e6, am_rq, b_le, if_pos, if_true]))
end QB
