/-! QUESTIONS: two arguments; votes, together, carries, turned, eldest, cause, most, peak. -/
section QC
variable {M : m_M} {s t : AS} {P : m_P}
theorem c_q2 (hV : m_MV M) (hI : c_I M s) {g1 g2 : Option Int32} {b1 b2 : Bool} (hg1 : g1 = some (nI b1.toNat)) (hg2 : g2 = some (nI b2.toNat)) (hl : b1 = true → b2 = true → 0 < M.2.2.1.1.1 6) {body : AS → Unit → Option (AS × Int32)} {r : Int32} (hb : b1 = true → b2 = true → ∀ t, c_I M t → c_T M.2.2.1 t → ∃ u, body t () = some (u, r) ∧ c_mw t u) : ∃ t, am_r g1 (fun v1 => am_let (some (s, (-2 : Int32))) (fun J => if v1 = 0 then J else am_r g2 (fun v2 => if v2 = 0 then J else am_c (fX8_tell s) body))) = some (t, if b1 && b2 then r else -2) ∧ c_I M t ∧ c_F s t := by
  rw [hg1, am_rq, am_lq]
  cases b1 with
  | false =>
    refine ⟨s, ?_, hI, fun _ _ => ⟨rfl, rfl⟩⟩
    rw [if_pos (show nI false.toNat = 0 from rfl), if_neg (by simp)]
  | true =>
    rw [if_neg (by decide)]
    obtain ⟨u, h1, h2, h3⟩ := c_q (b := b2) hV hI hg2 (hl rfl) (hb rfl)
    exact ⟨u, h1, h2, h3⟩
theorem r_q2 (hV : m_MV M) (hI : r_I M s) {g1 g2 : AS → Option Int32} {b1 b2 : Bool} (hg1 : ∀ t, r_I M t → g1 t = some (nI b1.toNat)) (hg2 : ∀ t, r_I M t → g2 t = some (nI b2.toNat)) (hl : b1 = true → b2 = true → 0 < M.2.2.1.1.1 6) {body : AS → Unit → Option (AS × Int32)} {r : Int32} (hb : b1 = true → b2 = true → ∀ t, r_I M t → r_T M.2.2.1 t → ∃ u, body t () = some (u, r) ∧ r_mv t u) : ∃ t, am_let (am_si s 215 0 (0 : Int32)) (fun s1 => am_r (g1 s1) (fun v1 => am_let (some (s1, (-2 : Int32))) (fun J => if v1 = 0 then J else am_r (g2 s1) (fun v2 => if v2 = 0 then J else am_c (fX9_laysNow s1) body)))) = some (t, if b1 && b2 then r else -2) ∧ r_I M t ∧ r_F s t := by
  have m0 : r_mv s (am_si s 215 0 (0 : Int32)) := r_mv_si (r_mv_refl s) _ (by omega)
  have I0 := r_I_mv hI m0
  rw [am_lq, hg1 _ I0, am_rq, am_lq]
  cases b1 with
  | false =>
    refine ⟨_, ?_, I0, m0.1⟩
    rw [if_pos (show nI false.toNat = 0 from rfl), if_neg (by simp)]
  | true =>
    rw [if_neg (by decide)]
    obtain ⟨u, h1, h2, h3⟩ := r_q (b := b2) hV hI hg2 (hl rfl) (hb rfl)
    rw [am_lq] at h1
    exact ⟨u, h1, h2, h3⟩
/-- for whom one votes, were he in it -/
def m_vv (P : m_P) (n p : Nat) : Option Nat := match w_at P.1 (m_C P) n with
  | none => none
  | some pl => y_N P.1 (m_BA P) pl (P.1.2.2.1 p 1)
theorem m_vo (P : m_P) (n p : Nat) : w_vo P.1 (m_C P) n p = if (w_cr P.1 (m_C P) n).testBit p then m_vv P n p else none := by
  unfold w_vo w_cr m_vv
  cases w_at P.1 (m_C P) n with
  | none => simp
  | some pl => rfl
theorem m_vo_lt (hV : m_PV P) {n p q : Nat} (h : w_vo P.1 (m_C P) n p = some q) : q < P.1.1 0 ∧ q < 10 := by
  have v := hV.1.1
  rw [m_vo] at h
  split at h
  · unfold m_vv at h
    split at h
    · cases h
    · have := (y_nx_lt h).1
      exact ⟨this, by omega⟩
  · cases h
theorem c_voteOf (hV : m_PV P) (hl : 0 < P.1.1 6) (hP : c_PL 25 P.1 t) (h : c_T P t) {p n : Nat} (hp : p < P.1.1 5) (hn : n < 61) : fX8_voteOf t (nI p) (nI n) = some (oI (m_vv P n p)) := by
  have v0 := hV.1.1
  have v5 := hV.1.2.2.1
  have vp := hV.1.2.2.2.2.1 p hp
  have e := T_at h hn
  have e2 := T_pe hP hp (show 1 < 5 by omega)
  have hN := c_WY_NX hV.1 h.1
  unfold fX8_voteOf m_vv
  cases hw : w_at P.1 (m_C P) n with
  | none =>
    rw [hw] at e
    simp (disch := omega) only [↓am_lq, b_lq, oI_q, b_lt, b_t, am_g_t, e, if_true]
  | some pl =>
    have hpl := w_at_10 hV hl hw
    rw [hw, oI_s] at e
    have e3 := c_nextO t (v := 138) hN.1 v0 hpl.1 vp.2.1 (hN.2 pl (P.1.2.2.1 p 1) hpl.1 vp.2.1)
    simp (disch := omega) only [↓am_lq, b_lq, oI_q, b_lt, b_t, am_g_t, e, b_nn, if_false, e2, e3, am_rq]
theorem c_votesFor (hV : m_PV P) (hl : 0 < P.1.1 6) (hP : c_PL 25 P.1 t) (h : c_T P t) {n q : Nat} (hn : n < 61) (hq : q < 10) : fX8_votesFor t (nI n) (nI q) = some (nI (w_sm P.1 (w_vo P.1 (m_C P) n) q false (P.1.1 5))) := by
  have v5 := hV.1.2.2.1
  have e6 : t.1 25 6 = nI (P.1.1 5) := T_np hP (j := 5) (by omega)
  unfold fX8_votesFor
  simp only [b_lq]
  refine sp_lq (fun f (x : Int32) i => fX8_votesFor_L5 (nI n) (nI q) t f x i) (P.1.1 5) (fun i x => x = nI (w_sm P.1 (w_vo P.1 (m_C P) n) q false i)) (fun r => r = some (nI (w_sm P.1 (w_vo P.1 (m_C P) n) q false (P.1.1 5)))) (fun f i x hi hx => ?_) (fun f x hx => ?_) (nI 0) rfl am_fu (am_fu_gt (by omega))
  · left
    subst hx
    refine ⟨_, rfl, ?_⟩
    have e := c_isIn hV h (p := i) (by omega) hn
    have e2 := c_voteOf hV hl hP h hi hn
    have hvv : ∀ z, w_vo P.1 (m_C P) n i = some z → z < P.1.1 0 ∧ z < 10 := fun z hz => m_vo_lt hV hz
    rw [fX8_votesFor_L5, w_sm_s]
    rw [m_vo] at hvv ⊢
    cases hb : (w_cr P.1 (m_C P) n).testBit i with
    | false =>
      rw [hb] at e
      simp (disch := omega) only [↓am_lq, b_lq, e6, b_le, e, am_rq, b_tf, if_neg, if_true, if_false, b_add, Bool.false_eq_true, reduceCtorEq, Nat.add_zero]
    | true =>
      rw [hb] at e hvv
      cases hw : m_vv P n i with
      | none =>
        rw [hw] at e2
        simp (disch := omega) only [↓am_lq, b_lq, e6, b_le, b_eq, e, am_rq, b_tt, if_neg, if_true, if_false, b_add, e2, b_nn2, reduceCtorEq, Nat.add_zero]
      | some z =>
        have := hvv z (by rw [hw]; rfl)
        rw [hw, oI_s] at e2
        simp (disch := omega) only [↓am_lq, b_lq, e6, b_le, b_eq, e, am_rq, b_tt, if_neg, if_true, if_false, b_add, e2, Option.some.injEq]
        by_cases c : z = q
        · rw [if_pos c, if_pos c]
          simp
        · rw [if_neg c, if_neg c]; rfl
  · subst hx
    rw [fX8_votesFor_L5]
    simp (disch := omega) only [b_lq, e6, b_le, if_pos, if_true]
theorem R_votesFor (hV : m_PV P) (h : r_T P t) {n q : Nat} (hn : n < 61) (hq : q < 10) : fX9_votesFor t (nI n) (nI q) (nI 0) = some (nI (w_sm P.1 (w_vo P.1 (m_C P) n) q false (P.1.1 5))) := r_votesFor hV.1 hn hq false (fun p q h => (m_vo_lt hV h).2) h.2.1 (R_vo h hn)
theorem Q_votes (a b : Int32) : m_OK (fun s => fX8_votes s a b) (fun s => fX9_votes s a b) := m_ok_q (fun M => m_st M a 61 && m_in b (M.2.2.1.1.1 0)) (fun M => nI (w_sm M.2.2.1.1 (w_vo M.2.2.1.1 (m_C M.2.2.1) a.toNatClampNeg) b.toNatClampNeg false (M.2.2.1.1.1 5)))
  (fun M s hV hI => by
    unfold fX8_votes
    exact c_q2 hV hI (g8_step hI.1 hV) (g8_place hI.1) (fun hb _ => m_st_l hb) (fun hb hb2 t h1 h2 => by
      have hl := m_st_l hb
      obtain ⟨k, hk, rfl⟩ := m_st_k (by omega) hb
      obtain ⟨j, hj, hj2, rfl⟩ := k_place hV hb2
      refine ⟨t, ?_, c_mw_refl t⟩
      simp (disch := omega) only [c_votesFor (m_MV_P hV) hl h1.1.2.2.1.1 h2 hk hj2, am_rq, b_t]))
  (fun M s hV hI => by
    unfold fX9_votes
    exact r_q2 hV hI (fun t h => g9_step h hV) (fun t h => g9_place h hV) (fun hb _ => m_st_l hb) (fun hb hb2 t h1 h2 => by
      obtain ⟨k, hk, rfl⟩ := m_st_k (by omega) hb
      obtain ⟨j, hj, hj2, rfl⟩ := k_place hV hb2
      refine ⟨t, ?_, r_mv_refl t⟩
      simp (disch := omega) only [b_lq, R_votesFor (m_MV_P hV) h2 hk hj2, am_rq, b_t]))
theorem Q_together (a b : Int32) : m_OK (fun s => fX8_together s a b) (fun s => fX9_together s a b) := m_ok_q (fun M => m_in a (M.2.2.1.1.1 5) && m_in b (M.2.2.1.1.1 5)) (fun M => nI (m_sum (fun k => if (w_cr M.2.2.1.1 (m_C M.2.2.1) k).testBit a.toNatClampNeg && (w_cr M.2.2.1.1 (m_C M.2.2.1) k).testBit b.toNatClampNeg then 1 else 0) 61))
  (fun M s hV hI => by
    unfold fX8_together
    exact c_q2 hV hI (g8_person hI.1) (g8_person hI.1) (fun hb _ => hl_person hV hb) (fun hb hb2 t h1 h2 => by
      obtain ⟨k, hk, hk2, rfl⟩ := k_person hV hb
      obtain ⟨j, hj, hj2, rfl⟩ := k_person hV hb2
      have hP := m_MV_P hV
      refine ⟨t, ?_, c_mw_refl t⟩
      simp (disch := omega) only [b_lq, b_t]
      refine sp_sum (fun f x i => fX8_together_L28 (nI k) (nI j) t f x i) 61 _ (fun x => some (t, x)) (fun f i m hi => ?_) (fun f m => ?_) am_fu (am_fu_gt (by omega))
      · have e1 := c_isIn hP h2 hk2 hi
        have e2 := c_isIn hP h2 hj2 hi
        rw [fX8_together_L28]
        cases hb1 : (w_cr M.2.2.1.1 (m_C M.2.2.1) i).testBit k <;> cases hb2 : (w_cr M.2.2.1.1 (m_C M.2.2.1) i).testBit j <;> rw [hb1] at e1 <;> rw [hb2] at e2 <;> simp (disch := omega) only [↓am_lq, b_lq, b_le, b_eq, e1, e2, am_rq, b_tt, b_tf, if_neg, if_true, if_false, b_add, Bool.and_true, Bool.and_false, Bool.false_eq_true, Bool.and_self, Nat.add_zero]
      · rw [fX8_together_L28]
        simp (disch := omega) only [b_lq, b_le, if_pos, if_true]))
  (fun M s hV hI => by
    unfold fX9_together
    exact r_q2 hV hI (fun t h => g9_person h hV) (fun t h => g9_person h hV) (fun hb _ => hl_person hV hb) (fun hb hb2 t h1 h2 => by
      obtain ⟨k, hk, hk2, rfl⟩ := k_person hV hb
      obtain ⟨j, hj, hj2, rfl⟩ := k_person hV hb2
      have hP := m_MV_P hV
      refine ⟨t, ?_, r_mv_refl t⟩
      simp (disch := omega) only [b_lq, b_t]
      refine sp_sum (fun f x i => fX9_together_L35 (nI k) (nI j) t f x i) 61 _ (fun x => some (t, x)) (fun f i m hi => ?_) (fun f m => ?_) am_fu (am_fu_gt (by omega))
      · have e1 := r_isIn hP h2 hk2 hi
        have e2 := r_isIn hP h2 hj2 hi
        rw [fX9_together_L35]
        cases hb1 : (w_cr M.2.2.1.1 (m_C M.2.2.1) i).testBit k <;> cases hb2 : (w_cr M.2.2.1.1 (m_C M.2.2.1) i).testBit j <;> rw [hb1] at e1 <;> rw [hb2] at e2 <;> simp (disch := omega) only [↓am_lq, b_lq, b_le, b_lt, b_t, am_g_t, b_eq, e1, e2, am_rq, b_tt, b_tf, if_neg, if_true, if_false, b_add, Bool.and_true, Bool.and_false, Bool.false_eq_true, Bool.and_self, Nat.add_zero]
      · rw [fX9_together_L35]
        simp (disch := omega) only [b_lq, b_lt, if_pos, if_true]))
theorem w_go_10 (hV : m_PV P) (hl : 0 < P.1.1 6) {k q : Nat} (h : w_go P.1 (m_C P) k = some q) : q < P.1.1 0 ∧ q < 10 := w_at_10 hV hl h
theorem Q_carries (a : Int32) : m_OK (fun s => fX8_carries s a) (fun s => fX9_carries s a) := m_ok_q (fun M => m_st M a 61) (fun M => match w_go M.2.2.1.1 (m_C M.2.2.1) a.toNatClampNeg with
    | none => oI none
    | some q => nI (w_sm M.2.2.1.1 (w_vo M.2.2.1.1 (m_C M.2.2.1) a.toNatClampNeg) q false (M.2.2.1.1.1 5)))
  (fun M s hV hI => by
    unfold fX8_carries
    exact c_q hV hI (g8_step hI.1 hV) m_st_l (fun hb t h1 h2 => by
      have hl := m_st_l hb
      obtain ⟨k, hk, rfl⟩ := m_st_k (by omega) hb
      refine ⟨t, ?_, c_mw_refl t⟩
      have e := T_go h2 hk
      rw [b_t (by omega)]
      cases hw : w_go M.2.2.1.1 (m_C M.2.2.1) k with
      | none =>
        rw [hw] at e
        simp (disch := omega) only [↓am_lq, b_lq, oI_q, b_lt, b_t, am_g_t, e, if_true]
      | some q =>
        have hq := w_go_10 (m_MV_P hV) hl hw
        rw [hw, oI_s] at e
        simp (disch := omega) only [↓am_lq, b_lq, oI_q, b_lt, b_t, am_g_t, e, b_nn, if_false, c_votesFor (m_MV_P hV) hl h1.1.2.2.1.1 h2 hk hq.2, am_rq]))
  (fun M s hV hI => by
    unfold fX9_carries
    exact r_q hV hI (fun t h => g9_step h hV) m_st_l (fun hb t h1 h2 => by
      have hl := m_st_l hb
      obtain ⟨k, hk, rfl⟩ := m_st_k (by omega) hb
      refine ⟨t, ?_, r_mv_refl t⟩
      have e := R_go h2 hk
      rw [b_t (by omega)]
      cases hw : w_go M.2.2.1.1 (m_C M.2.2.1) k with
      | none =>
        rw [hw] at e
        simp (disch := omega) only [↓am_lq, b_lq, oI_q, b_lt, b_t, am_g_t, e, if_true]
      | some q =>
        have hq := w_go_10 (m_MV_P hV) hl hw
        rw [hw, oI_s] at e
        simp (disch := omega) only [↓am_lq, b_lq, oI_q, b_lt, b_t, am_g_t, e, b_nn, if_false, R_votesFor (m_MV_P hV) h2 hk hq.2, am_rq]))
end QC
