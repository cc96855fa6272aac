/-! QUESTIONS: way, next, reach, farthest, loop. -/
section QG
variable {M : m_M} {s t : AS} {P : m_P}
/-- what arePlaces() leaves, where it says yes -/
def r_A (P : m_P) (t : AS) : Prop := r_PL P.1 t ∧ r_B P t ∧ r_WY P.1 (m_BA P) t
theorem r_arePlaces (hV : m_MV M) (hI : r_I M s) (a b : Int32) : ∃ t, fX9_arePlaces s a b = some (t, nI (m_in a (M.2.2.1.1.1 0) && m_in b (M.2.2.1.1.1 0)).toNat) ∧ r_I M t ∧ r_mv s t ∧ ((m_in a (M.2.2.1.1.1 0) && m_in b (M.2.2.1.1.1 0)) = true → r_A M.2.2.1 t) := by
  have hP := m_MV_P hV
  unfold fX9_arePlaces
  simp only [↓am_lq, b_lq, g9_place hI hV, am_rq, m_if0]
  cases h1 : m_in a (M.2.2.1.1.1 0) with
  | false => exact ⟨s, rfl, hI, r_mv_refl s, fun h => by cases h⟩
  | true =>
    cases h2 : m_in b (M.2.2.1.1.1 0) with
    | false => exact ⟨s, rfl, hI, r_mv_refl s, fun h => by cases h⟩
    | true =>
      obtain ⟨t1, a1, a2, a3, a4⟩ := r_lays hP s hI.2.2.1
      have P1 := r_PA_PL (r_PA_eq hI.2.2.1 (fun c _ _ => a4 c (by omega)))
      obtain ⟨t2, b1, b2, b3⟩ := r_laysWays (sh := m_BA M.2.2.1) hP.1 (m_BA_lt hP) t1 P1 a3.2.1
      have m2 : r_mv s t2 := r_mv_runs a2 (fr_mono b2 (fun c (hc : c = 228) => (by omega : r_RG c))) (fun k _ _ => by rw [b2.2 _ (by omega)])
      refine ⟨t2, ?_, r_I_mv hI m2, m2, fun _ => ⟨r_PL_fr P1 b2 (fun c _ _ => by omega), ?_, b3⟩⟩
      · simp only [if_true, a1, am_cq, b1]
        rfl
      · unfold r_B at a3 ⊢
        rw [b2.2 215 (by omega), b2.1]
        exact a3
theorem m_fin (hV : m_PV P) (a b : Nat) : (y_ln 1000000 (P.1.1 0) (P.1.1 4) P.1.2.1 (m_BA P) a b < 1000000 ∧ y_ln 100000 (P.1.1 0) (P.1.1 4) P.1.2.1 (m_BA P) a b < 100000 ∧ y_ln 1000000 (P.1.1 0) (P.1.1 4) P.1.2.1 (m_BA P) a b = y_ln 100000 (P.1.1 0) (P.1.1 4) P.1.2.1 (m_BA P) a b) ∨ (¬ y_ln 1000000 (P.1.1 0) (P.1.1 4) P.1.2.1 (m_BA P) a b < 1000000 ∧ ¬ y_ln 100000 (P.1.1 0) (P.1.1 4) P.1.2.1 (m_BA P) a b < 100000) := by
  have h := y_ln_ff (F := 100000) (F' := 1000000) (np := P.1.1 0) (nr := P.1.1 4) (ro := P.1.2.1) (sh := m_BA P) (by omega) (by omega) hV.1.1 (fun r hr => (hV.1.2.2.2.1 r hr).2.2.2.2) a b
  have l := y_ln_b (F := 100000) (np := P.1.1 0) (nr := P.1.1 4) (ro := P.1.2.1) (sh := m_BA P) hV.1.1 (fun r hr => (hV.1.2.2.2.1 r hr).2.2.2.2) a b
  omega
abbrev m_ln (P : m_P) (a b : Nat) : Nat := y_ln 100000 (P.1.1 0) (P.1.1 4) P.1.2.1 (m_BA P) a b
theorem c_len (hV : m_PV P) (h : c_T P t) {a b : Nat} (ha : a < P.1.1 0) (hb : b < P.1.1 0) : fX7_lengthOf t 138 (nI a) (nI b) = some (if m_ln P a b < 100000 then nI (m_ln P a b) else oI none) := by
  rw [c_lengthOf hV.1 t h.1 ha hb]
  rcases m_fin hV a b with ⟨h1, h2, h3⟩ | ⟨h1, h2⟩
  · rw [if_pos h1, if_pos h2, h3]
  · rw [if_neg h1, if_neg h2]
theorem Q_way (a b : Int32) : m_OK (fun s => fX8_way s a b) (fun s => fX9_way s a b) := m_ok_q (fun M => m_in a (M.2.2.1.1.1 0) && m_in b (M.2.2.1.1.1 0)) (fun M => if m_ln M.2.2.1 a.toNatClampNeg b.toNatClampNeg < 100000 then nI (m_ln M.2.2.1 a.toNatClampNeg b.toNatClampNeg) else oI none)
  (fun M s hV hI => by
    unfold fX8_way
    exact c_q2 hV hI (g8_place hI.1) (g8_place hI.1) (fun hb _ => hl_place hV hb) (fun hb hb2 t h1 h2 => by
      obtain ⟨k, hk, hk2, rfl⟩ := k_place hV hb
      obtain ⟨j, hj, hj2, rfl⟩ := k_place hV hb2
      refine ⟨t, ?_, c_mw_refl t⟩
      rw [c_len (m_MV_P hV) h2 hk hj, am_rq, b_t (by omega), b_t (by omega)]))
  (fun M s hV hI => by
    obtain ⟨I1, m1⟩ := r_0 hI
    obtain ⟨t, a1, a2, a3, a4⟩ := r_arePlaces hV I1 a b
    refine ⟨t, ?_, a2, r_F_tr m1.1 a3.1⟩
    unfold fX9_way
    simp only [↓am_lq, b_lq, oI_q]
    rw [a1, am_cq, m_if0]
    cases hb : (m_in a (M.2.2.1.1.1 0) && m_in b (M.2.2.1.1.1 0)) with
    | false => rfl
    | true =>
      have hA := a4 hb
      have v0 := (m_MV_P hV).1.1
      rw [Bool.and_eq_true] at hb
      obtain ⟨k, hk, hk2, rfl⟩ := k_place hV hb.1
      obtain ⟨j, hj, hj2, rfl⟩ := k_place hV hb.2
      have e := hA.2.2 k j (by omega) (by omega)
      have l := y_ln_le (F := 100000) (np := M.2.2.1.1.1 0) (nr := M.2.2.1.1.1 4) (ro := M.2.2.1.1.2.1) (sh := m_BA M.2.2.1) k j
      simp (disch := omega) only [if_true, b_mul, b_add, b_lt, b_t, am_g_t, e]
      by_cases c : y_ln 100000 (M.2.2.1.1.1 0) (M.2.2.1.1.1 4) M.2.2.1.1.2.1 (m_BA M.2.2.1) k j < 100000
      · rw [if_pos c, if_pos c]
      · rw [if_neg c, if_neg c])
theorem Q_next (a b : Int32) : m_OK (fun s => fX8_next s a b) (fun s => fX9_next s a b) := m_ok_q (fun M => m_in a (M.2.2.1.1.1 0) && m_in b (M.2.2.1.1.1 0)) (fun M => oI (y_N M.2.2.1.1 (m_BA M.2.2.1) a.toNatClampNeg b.toNatClampNeg))
  (fun M s hV hI => by
    unfold fX8_next
    exact c_q2 hV hI (g8_place hI.1) (g8_place hI.1) (fun hb _ => hl_place hV hb) (fun hb hb2 t h1 h2 => by
      have v0 := (m_MV_P hV).1.1
      obtain ⟨k, hk, hk2, rfl⟩ := k_place hV hb
      obtain ⟨j, hj, hj2, rfl⟩ := k_place hV hb2
      have hN := c_WY_NX (m_MV_P hV).1 h2.1
      refine ⟨t, ?_, c_mw_refl t⟩
      rw [c_nextO t (v := 138) hN.1 v0 hk hj (hN.2 k j hk hj), am_rq, b_t (by omega), b_t (by omega)]))
  (fun M s hV hI => by
    obtain ⟨I1, m1⟩ := r_0 hI
    obtain ⟨t, a1, a2, a3, a4⟩ := r_arePlaces hV I1 a b
    refine ⟨t, ?_, a2, r_F_tr m1.1 a3.1⟩
    unfold fX9_next
    simp only [↓am_lq, b_lq]
    rw [a1, am_cq, m_if0]
    cases hb : (m_in a (M.2.2.1.1.1 0) && m_in b (M.2.2.1.1.1 0)) with
    | false => rfl
    | true =>
      have hA := a4 hb
      have v0 := (m_MV_P hV).1.1
      rw [Bool.and_eq_true] at hb
      obtain ⟨k, hk, hk2, rfl⟩ := k_place hV hb.1
      obtain ⟨j, hj, hj2, rfl⟩ := k_place hV hb.2
      rw [if_pos rfl, if_pos rfl, r_nextOf (m_MV_P hV).1 (m_BA_lt (m_MV_P hV)) t hA.1 hA.2.1.2.1 hA.2.2 hk hj, am_rq, b_t (by omega), b_t (by omega)])
theorem Q_reach (a : Int32) : m_OK (fun s => fX8_reach s a) (fun s => fX9_reach s a) := m_ok_q (fun M => m_in a (M.2.2.1.1.1 0)) (fun M => nI (m_or (fun q => if m_ln M.2.2.1 a.toNatClampNeg q < 100000 then some q else none) (M.2.2.1.1.1 0)))
  (fun M s hV hI => by
    unfold fX8_reach
    exact c_q hV hI (g8_place hI.1) (hl_place hV) (fun hb t h1 h2 => by
      have hP := m_MV_P hV
      have v0 := hP.1.1
      obtain ⟨k, hk, hk2, rfl⟩ := k_place hV hb
      have e6 : t.1 25 1 = nI (M.2.2.1.1.1 0) := T_np h1.1.2.2.1.1 (j := 0) (by omega)
      refine ⟨t, ?_, c_mw_refl t⟩
      simp (disch := omega) only [b_lq, b_t]
      refine sp_or (fun f x i => fX8_reach_L19 (nI k) t f x i) (M.2.2.1.1.1 0) _ (fun x => some (t, x)) (fun i q hi hq => ?_) (fun f i m hi hm => ?_) (fun f m hm => ?_) am_fu (am_fu_gt (by omega))
      · split at hq
        · cases hq; omega
        · cases hq
      · have e := c_len hP h2 hk hi
        rw [fX8_reach_L19]
        by_cases c : m_ln M.2.2.1 k i < 100000
        · rw [if_pos c] at e
          rw [if_pos c]
          simp (disch := omega) only [↓am_lq, b_lq, oI_q, e6, b_le, b_lt, b_nn, e, am_rq, if_neg, if_false, b_add, b_sh, b_ins]
        · rw [if_neg c] at e
          rw [if_neg c]
          simp (disch := omega) only [↓am_lq, b_lq, oI_q, e6, b_le, e, am_rq, if_neg, if_false, if_true, b_add]
      · rw [fX8_reach_L19]
        simp (disch := omega) only [b_lq, e6, b_le, if_pos, if_true]))
  (fun M s hV hI => by
    obtain ⟨I1, m1⟩ := r_0 hI
    obtain ⟨t, a1, a2, a3, a4⟩ := r_arePlaces hV I1 a a
    refine ⟨t, ?_, a2, r_F_tr m1.1 a3.1⟩
    unfold fX9_reach
    simp only [↓am_lq, b_lq]
    rw [a1, am_cq, m_if0]
    rw [Bool.and_self] at a4 ⊢
    cases hb : m_in a (M.2.2.1.1.1 0) with
    | false => rfl
    | true =>
      have hA := a4 hb
      have v0 := (m_MV_P hV).1.1
      obtain ⟨k, hk, hk2, rfl⟩ := k_place hV hb
      have e6 := hA.1.1 0 (by omega)
      rw [if_pos rfl, if_pos rfl, b_t (by omega)]
      refine sp_or (fun f x i => fX9_reach_L21 (nI k) t f x i) (M.2.2.1.1.1 0) _ (fun x => some (t, x)) (fun i q hi hq => ?_) (fun f i m hi hm => ?_) (fun f m hm => ?_) am_fu (am_fu_gt (by omega))
      · split at hq
        · cases hq; omega
        · cases hq
      · have e := hA.2.2 k i (by omega) (by omega)
        have l := y_ln_le (F := 100000) (np := M.2.2.1.1.1 0) (nr := M.2.2.1.1.1 4) (ro := M.2.2.1.1.2.1) (sh := m_BA M.2.2.1) k i
        rw [fX9_reach_L21]
        simp (disch := omega) only [↓am_lq, b_lq, e6, b_le, b_lt, b_t, b_mul, b_add, am_g_t, e, if_neg, if_false, b_or0, b_sh, b_ins]
        by_cases c : y_ln 100000 (M.2.2.1.1.1 0) (M.2.2.1.1.1 4) M.2.2.1.1.2.1 (m_BA M.2.2.1) k i < 100000
        · rw [if_neg (by omega), if_pos (show m_ln M.2.2.1 k i < 100000 from c)]
        · rw [if_pos (by omega), if_neg (show ¬ m_ln M.2.2.1 k i < 100000 from c)]
      · rw [fX9_reach_L21]
        simp (disch := omega) only [b_lq, e6, b_le, b_lt, b_t, am_g_t, if_pos, if_true])
/-- where it turns, somebody votes for -/
theorem w_sm_x {D : w_D} {vt : Nat → Option Nat} {q : Nat} {byB : Bool} : ∀ {p : Nat}, 0 < w_sm D vt q byB p → ∃ j, vt j = some q
  | 0, h => by unfold w_sm at h; omega
  | p + 1, h => by
    rw [w_sm_s] at h
    by_cases c : vt p = some q
    · exact ⟨p, c⟩
    · rw [if_neg c, Nat.add_zero] at h
      exact w_sm_x h
theorem w_bp_x {D : w_D} {vt : Nat → Option Nat} {byB : Bool} : ∀ {k q : Nat}, (w_bp D vt byB k).1 = some q → ∃ j, vt j = some q
  | 0, q, h => by cases h
  | k + 1, q, h => by
    rw [w_bp_s] at h
    by_cases c : (w_bp D vt byB k).2 < w_sm D vt k byB (D.1 5)
    · rw [if_pos c] at h
      cases h
      exact w_sm_x (Nat.lt_of_le_of_lt (Nat.zero_le _) c)
    · rw [if_neg c] at h
      exact w_bp_x h
theorem w_tn_x {D : w_D} {C : w_C} {w : w_S} {vt : Nat → Option Nat} {q : Nat} (h : w_tn D C w vt = some q) : ∃ j, vt j = some q := by
  unfold w_tn at h
  split at h
  · exact w_bp_x h
  · cases hh : w_wh vt w.2.2.2.2.2 (C.2.1 == 2) (D.1 5) with
    | none => rw [hh] at h; cases h
    | some k => rw [hh] at h; exact ⟨k, h⟩
/-- each step goes to a place beside -/
theorem w_adj {n x y : Nat} (h1 : w_at P.1 (m_C P) n = some x) (h2 : w_at P.1 (m_C P) (n + 1) = some y) : y_bs 100000 P.1.2.1 (m_BA P) x y (P.1.1 4) < 100000 := by
  unfold w_at at h2
  rw [w_W_s h1] at h2
  obtain ⟨j, hj⟩ := w_tn_x h2
  unfold w_vt at hj
  split at hj
  · exact (y_nx_lt hj).2
  · cases hj
/-- what it comes to can be reached -/
theorem w_rch (hV : m_PV P) (hl : 0 < P.1.1 6) : ∀ {n q : Nat}, w_at P.1 (m_C P) n = some q → m_ln P (P.1.1 1) q < 100000
  | 0, q, h => by
    cases h
    show y_ln 100000 _ _ _ _ (P.1.1 1) (P.1.1 1) < 100000
    rw [y_ln_d]
    omega
  | n + 1, q, h => by
    cases hn : w_at P.1 (m_C P) n with
    | none =>
      have := (w_at_n hn (n + 1) (by omega)).1
      rw [h] at this
      cases this
    | some x =>
      have ih := w_rch hV hl hn
      exact y_ln_go (by omega) hV.1.1 (fun r hr => (hV.1.2.2.2.1 r hr).2.2.2.2) (w_at_10 hV hl hn).1 ih (w_adj hn h)
/-- the farthest of some -/
def m_fa (g : Nat → Nat) (b : Nat → Bool) : Nat → Option Nat
  | 0 => none
  | q + 1 => if b q then (match m_fa g b q with
    | none => some q
    | some k => if g k < g q then some q else some k) else m_fa g b q
theorem m_fa_s (g : Nat → Nat) (b : Nat → Bool) (q : Nat) : m_fa g b (q + 1) = if b q then (match m_fa g b q with
    | none => some q
    | some k => if g k < g q then some q else some k) else m_fa g b q := rfl
theorem m_fa_b {g : Nat → Nat} {b : Nat → Bool} : ∀ {q k : Nat}, m_fa g b q = some k → k < q ∧ b k = true
  | 0, k, h => by cases h
  | q + 1, k, h => by
    rw [m_fa_s] at h
    by_cases c : b q = true
    · rw [if_pos c] at h
      cases hm : m_fa g b q with
      | none => rw [hm] at h; cases h; exact ⟨by omega, c⟩
      | some j =>
        rw [hm] at h
        have := m_fa_b hm
        dsimp only at h
        by_cases c2 : g j < g q
        · rw [if_pos c2] at h; cases h; exact ⟨by omega, c⟩
        · rw [if_neg c2] at h; cases h; exact ⟨by omega, this.2⟩
    · rw [if_neg c] at h
      have := m_fa_b h
      exact ⟨by omega, this.2⟩
theorem Q_farthest : m_OK (fun s => fX8_farthest s) (fun s => fX9_farthest s) := m_ok_q (fun M => decide (0 < M.2.2.1.1.1 6)) (fun M => oI (m_fa (m_ln M.2.2.1 (M.2.2.1.1.1 1)) (fun q => (w_se M.2.2.1.1 (m_C M.2.2.1) 61).testBit q) (M.2.2.1.1.1 0)))
  (fun M s hV hI => by
    unfold fX8_farthest
    exact c_q hV hI (g8_march hI.1 hV) of_decide_eq_true (fun hb t h1 h2 => by
      have hl := of_decide_eq_true hb
      have hP := m_MV_P hV
      have v0 := hP.1.1
      have vs := hP.1.2.2.2.2.2.2.1 hl
      have hse := w_se_lt hP.1 (m_CK hP hl) 61
      have e6 : t.1 25 1 = nI (M.2.2.1.1.1 0) := T_np h1.1.2.2.1.1 (j := 0) (by omega)
      have e7 : t.1 25 2 = nI (M.2.2.1.1.1 1) := T_np h1.1.2.2.1.1 (j := 1) (by omega)
      have e8 := T_se h2
      have rch : ∀ q, (w_se M.2.2.1.1 (m_C M.2.2.1) 61).testBit q = true → m_ln M.2.2.1 (M.2.2.1.1.1 1) q < 100000 := fun q hq => by
        obtain ⟨k, _, hk⟩ := (w_se_t _ _ q 61).mp hq
        exact w_rch hP hl hk
      refine ⟨t, ?_, c_mw_refl t⟩
      simp only [b_lq, oI_q]
      refine sp_lq (fun f (x : Int32 × Int32) i => fX8_farthest_L20 t f x.1 x.2 i) (M.2.2.1.1.1 0) (fun i x => x = (oI (m_fa (m_ln M.2.2.1 (M.2.2.1.1.1 1)) (fun q => (w_se M.2.2.1.1 (m_C M.2.2.1) 61).testBit q) i), (match m_fa (m_ln M.2.2.1 (M.2.2.1.1.1 1)) (fun q => (w_se M.2.2.1.1 (m_C M.2.2.1) 61).testBit q) i with | none => oI none | some k => nI (m_ln M.2.2.1 (M.2.2.1.1.1 1) k)))) (fun r => r = some (t, oI (m_fa (m_ln M.2.2.1 (M.2.2.1.1.1 1)) (fun q => (w_se M.2.2.1.1 (m_C M.2.2.1) 61).testBit q) (M.2.2.1.1.1 0)))) (fun f i x hi hx => ?_) (fun f x hx => ?_) (oI none, oI none) rfl am_fu (am_fu_gt (by omega))
      · left
        subst hx
        refine ⟨_, rfl, ?_⟩
        have e := c_len hP h2 vs hi
        have hh := c_holds (x := w_se M.2.2.1.1 (m_C M.2.2.1) 61) (p := i) (by omega) (by omega)
        dsimp only
        rw [fX8_farthest_L20, m_fa_s]
        cases hb2 : (w_se M.2.2.1.1 (m_C M.2.2.1) 61).testBit i with
        | false =>
          rw [hb2] at hh
          simp (disch := omega) only [↓am_lq, b_lq, e6, e7, e8, b_le, e, hh, am_rq, b_tf, if_neg, if_false, if_true, b_add, Bool.false_eq_true]
        | true =>
          have r1 := rch i hb2
          rw [hb2] at hh
          rw [if_pos r1] at e
          cases hm : m_fa (m_ln M.2.2.1 (M.2.2.1.1.1 1)) (fun q => (w_se M.2.2.1.1 (m_C M.2.2.1) 61).testBit q) i with
          | none =>
            simp (disch := omega) only [↓am_lq, b_lq, e6, e7, e8, b_le, b_eq, b_len, e, hh, am_rq, b_tt, if_neg, if_false, if_true, b_add]
            rfl
          | some j =>
            have hj := m_fa_b hm
            have r2 := rch j hj.2
            simp (disch := omega) only [↓am_lq, b_lq, e6, e7, e8, b_le, b_eq, e, hh, am_rq, b_tt, if_neg, if_false, if_true, b_add]
            by_cases c : m_ln M.2.2.1 (M.2.2.1.1.1 1) i ≤ m_ln M.2.2.1 (M.2.2.1.1.1 1) j
            · rw [if_pos c, if_neg (by omega : ¬ m_ln M.2.2.1 (M.2.2.1.1.1 1) j < m_ln M.2.2.1 (M.2.2.1.1.1 1) i)]
            · rw [if_neg c, if_pos (by omega : m_ln M.2.2.1 (M.2.2.1.1.1 1) j < m_ln M.2.2.1 (M.2.2.1.1.1 1) i)]
              rfl
      · subst hx
        dsimp only
        rw [fX8_farthest_L20]
        simp (disch := omega) only [b_lq, e6, b_le, if_pos, if_true]))
  (fun M s hV hI => by
    unfold fX9_farthest
    exact r_q hV hI (fun t h => g9_march h hV) of_decide_eq_true (fun hb t h1 h2 => by
      have hl := of_decide_eq_true hb
      have hP := m_MV_P hV
      have v0 := hP.1.1
      have vs := hP.1.2.2.2.2.2.2.1 hl
      have e6 := h2.2.1.1 0 (by omega)
      have e7 := h2.2.2
      have hW := (R_sh h2).2
      refine ⟨t, ?_, r_mv_refl t⟩
      simp only [b_lq, oI_q]
      refine sp_lq (fun f (x : Int32) i => fX9_farthest_L23 t f x i) (M.2.2.1.1.1 0) (fun i x => x = oI (m_fa (m_ln M.2.2.1 (M.2.2.1.1.1 1)) (fun q => (w_se M.2.2.1.1 (m_C M.2.2.1) 61).testBit q) i)) (fun r => r = some (t, oI (m_fa (m_ln M.2.2.1 (M.2.2.1.1.1 1)) (fun q => (w_se M.2.2.1.1 (m_C M.2.2.1) 61).testBit q) (M.2.2.1.1.1 0)))) (fun f i x hi hx => ?_) (fun f x hx => ?_) (oI none) rfl am_fu (am_fu_gt (by omega))
      · left
        subst hx
        refine ⟨_, rfl, ?_⟩
        have e := R_first hP hl h2 (pl := i) (f := 0) (by omega) (by omega)
        have l1 := y_ln_le (F := 100000) (np := M.2.2.1.1.1 0) (nr := M.2.2.1.1.1 4) (ro := M.2.2.1.1.2.1) (sh := m_BA M.2.2.1) (M.2.2.1.1.1 1) i
        have w1 := hW (M.2.2.1.1.1 1) i (by omega) (by omega)
        rw [fX9_farthest_L23, m_fa_s, ← m_seen]
        cases hy : y_fd (fun k => decide (0 ≤ k) && (w_at M.2.2.1.1 (m_C M.2.2.1) k == some i)) 61 with
        | none =>
          rw [hy] at e
          simp (disch := omega) only [↓am_lq, b_lq, oI_q, e6, b_le, b_lt, b_t, am_g_t, e, am_rq, if_neg, if_false, if_true, b_add, Option.isSome_none, Bool.false_eq_true]
        | some k =>
          have := (y_fd_s.mp hy).1
          rw [hy, oI_s] at e
          cases hm : m_fa (m_ln M.2.2.1 (M.2.2.1.1.1 1)) (fun q => (w_se M.2.2.1.1 (m_C M.2.2.1) 61).testBit q) i with
          | none =>
            simp (disch := omega) only [↓am_lq, b_lq, oI_q, e6, b_le, b_lt, b_t, am_g_t, e, b_nn, am_rq, if_neg, if_false, if_true, b_add, Option.isSome_some, oI_t]
          | some j =>
            have hj := m_fa_b hm
            have l2 := y_ln_le (F := 100000) (np := M.2.2.1.1.1 0) (nr := M.2.2.1.1.1 4) (ro := M.2.2.1.1.2.1) (sh := m_BA M.2.2.1) (M.2.2.1.1.1 1) j
            have w2 := hW (M.2.2.1.1.1 1) j (by omega) (by omega)
            have b1 : (nI j = oI none) = False := b_nn (by omega)
            simp (disch := omega) only [↓am_lq, b_lq, oI_q, oI_t, b1, e6, e7, b_le, b_lt, b_t, b_mul, am_g_t, e, b_nn, am_rq, if_neg, if_false, if_true, b_add, Option.isSome_some, w1, w2]
            by_cases c : y_ln 100000 (M.2.2.1.1.1 0) (M.2.2.1.1.1 4) M.2.2.1.1.2.1 (m_BA M.2.2.1) (M.2.2.1.1.1 1) i ≤ y_ln 100000 (M.2.2.1.1.1 0) (M.2.2.1.1.1 4) M.2.2.1.1.2.1 (m_BA M.2.2.1) (M.2.2.1.1.1 1) j
            · rw [if_pos c, if_neg (show ¬ m_ln M.2.2.1 (M.2.2.1.1.1 1) j < m_ln M.2.2.1 (M.2.2.1.1.1 1) i by show ¬ y_ln _ _ _ _ _ _ _ < y_ln _ _ _ _ _ _ _; omega)]
              rfl
            · rw [if_neg c, if_pos (show m_ln M.2.2.1 (M.2.2.1.1.1 1) j < m_ln M.2.2.1 (M.2.2.1.1.1 1) i by show y_ln _ _ _ _ _ _ _ < y_ln _ _ _ _ _ _ _; omega)]
              rfl
      · subst hx
        rw [fX9_farthest_L23]
        simp (disch := omega) only [b_lq, e6, b_le, b_lt, b_t, am_g_t, if_pos, if_true]))
end QG
