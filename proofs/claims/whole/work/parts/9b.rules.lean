/-! WOULD: rules. -/
section RL
variable {M : m_M} {s t : AS} {P : m_P} {a : Int32}
theorem c_rulesBy (hV : m_MV M) (hl : 0 < M.2.2.1.1.1 6) {j w : Nat} (hj : j < 4) (hw : (M.2.2.2.2 j).1 = some w) (ht : m_tpp M.2.2.1.1 (M.2.2.2.2 j) = true) (s : AS) (hI : c_I M s) : ∃ t, fX8_rulesBy s (130 + 2 * j) = some (t, nI (m_bs (m_ro M.2.2.1 (M.2.2.2.2 j)) 4)) ∧ c_I M t ∧ c_F s t := by
  have hP := m_MV_P hV
  have hV' := hP.1
  obtain ⟨v0, v4, v5, vr, vp, vg, vs, vr2, vo, vl, vz⟩ := hV'
  rw [Bool.and_eq_true] at ht
  obtain ⟨ht1, ht2⟩ := ht
  have ht1 := of_decide_eq_true ht1
  obtain ⟨t, h1, h2, h3, h4, -⟩ := c_tell hV hl s hI
  have key : ∃ u, fX8_rulesBy_L8 (130 + 2 * j) am_fu t (nI 0) (nI 0) = some (u, nI (m_bs (m_ro M.2.2.1 (M.2.2.2.2 j)) 4)) ∧ c_mw t u := by
    refine sp_lq (fun f (x : AS × Int32) i => fX8_rulesBy_L8 (130 + 2 * j) f x.1 x.2 i) 4 (fun i x => c_mw t x.1 ∧ x.2 = nI (m_bs (m_ro M.2.2.1 (M.2.2.2.2 j)) i)) (fun r => ∃ u, r = some (u, nI (m_bs (m_ro M.2.2.1 (M.2.2.2.2 j)) 4)) ∧ c_mw t u) (fun f i x hi hx => ?_) (fun f x hx => ?_) (t, nI 0) ⟨c_mw_refl t, rfl⟩ am_fu (am_fu_gt (by omega))
    · left
      obtain ⟨u, x⟩ := x
      obtain ⟨k1, k2⟩ := hx
      dsimp only at k1 k2 ⊢
      subst k2
      have I1 := c_I_mw hV h2 k1
      have T1 := c_T_mw hP h3 k1
      have hm : m_bs (m_ro M.2.2.1 (M.2.2.2.2 j)) i < 1024 := m_bs_lt (n := 10) _ i (by omega)
      obtain ⟨t1, a1, a2, ⟨b0, b1, b2, b3, b4, b5, b7, b8, b9, b10, b11, b12, b6⟩, a4⟩ := c_asItIs u I1.1.2.2.1
      have m2 : c_mw u (am_si t1 172 1 (nI i)) := c_mw_tr a2 ⟨fun c hc => by rw [r_so _ _ _ (by omega)], fun _ _ => rfl⟩
      obtain ⟨t2, d1, d2, d3, d4⟩ := c_wd3 (x := M.2.2.1.1.1 1) (y := i) hP (vs hl) (by omega) (am_si t1 172 1 (nI i)) (c_PA_eq I1.1.2.2.1 hP (fun c _ _ => m2.1 c (by omega)) (fun c _ _ => m2.1 c (by omega))).1 (by simp (disch := omega) only [r_si, r_uo, b0]) (by rw [r_si, r_us]) (by simp (disch := omega) only [r_si, r_uo, b2]) (by simp (disch := omega) only [r_si, r_uo, b3]) (by simp (disch := omega) only [r_si, r_uo, b4]) (by simp (disch := omega) only [r_si, r_uo, b5]) (by simp (disch := omega) only [r_si, r_uo, b7]) (by simp (disch := omega) only [r_si, r_uo, b8]) (by simp (disch := omega) only [r_si, r_uo, b10]) b6 (c_WY_eq hP.1 T1.1 (fun c _ _ => m2.1 c (by omega)))
      have w1 : ∀ p, p < 61 → t2.1 199 p = oI (w_at M.2.2.1.1 (m_sc M.2.2.1 (M.2.2.1.1.1 1) i) p) := fun p hp => by
        have := d4.2.1 p hp
        rw [if_pos hp] at this
        exact this
      have m3 := c_mw_tr m2 d2
      have I3 := c_I_mw hV I1 m3
      obtain ⟨x1, x2, x3⟩ := c_slot I3.1 hV hj hw
      have ag := c_agreesP (g := w_at M.2.2.1.1 (m_sc M.2.2.1 (M.2.2.1.1.1 1) i)) (D := M.2.2.1.1) x1 ht1 x2 x3 (fun k hk => by
        rw [g8_step I3.1 hV]
        unfold m_st
        rw [m_in_n hk (by omega), decide_eq_true hl]; rfl) w1 ht2
      refine ⟨(t2, nI (m_bs (m_ro M.2.2.1 (M.2.2.2.2 j)) (i + 1))), ⟨c_mw_tr k1 m3, rfl⟩, ?_⟩
      rw [fX8_rulesBy_L8, m_bs_s]
      have e2 : m_ro M.2.2.1 (M.2.2.2.2 j) i = m_al (m_ae (w_at M.2.2.1.1 (m_sc M.2.2.1 (M.2.2.1.1.1 1) i)) (M.2.2.2.2 j).2.2) ((M.2.2.2.2 j).2.1 / 2) := rfl
      rw [← e2] at ag
      simp (disch := omega) only [↓am_lq, b_lq, b_le, b_lt, b_t, am_g_t, a1, am_cq, d1, b_add, ag, am_rq, m_if0, b_sh, b_ins, if_neg]
      cases m_ro M.2.2.1 (M.2.2.2.2 j) i <;> rfl
    · obtain ⟨u, x⟩ := x
      obtain ⟨k1, k2⟩ := hx
      dsimp only at k1 k2 ⊢
      subst k2
      refine ⟨u, ?_, k1⟩
      rw [fX8_rulesBy_L8]
      simp (disch := omega) only [b_lq, b_le, if_pos, if_true]
  obtain ⟨u, u1, u2⟩ := key
  refine ⟨u, ?_, c_I_mw hV h2 u2, c_F_tr h4 (c_mw_F u2)⟩
  unfold fX8_rulesBy
  rw [h1, am_cq]
  exact u1
theorem r_rulesOf (hV : m_MV M) (hl : 0 < M.2.2.1.1.1 6) {j w : Nat} (hj : j < 4) (hw : (M.2.2.2.2 j).1 = some w) (ht : m_tpp M.2.2.1.1 (M.2.2.2.2 j) = true) (s : AS) (hI : r_I M s) : ∃ t, am_c (fX9_lays s) (fun (s8 : AS) (_ : Unit) => fX9_rules_L130 (nI j) am_fu s8 (nI 0) (nI 0)) = some (t, nI (m_bs (m_ro M.2.2.1 (M.2.2.2.2 j)) 4)) ∧ r_mv s t := by
  have hP := m_MV_P hV
  have hV' := hP.1
  obtain ⟨v0, v4, v5, vr, vp, vg, vs, vr2, vo, vl, vz⟩ := hV'
  rw [Bool.and_eq_true] at ht
  obtain ⟨ht1, ht2⟩ := ht
  have ht1 := of_decide_eq_true ht1
  obtain ⟨t, a1, a2, a3, a4⟩ := r_lays hP s hI.2.2.1
  have P1 := r_PA_PL (r_PA_eq hI.2.2.1 (fun c _ _ => a4 c (by omega)))
  have key : ∃ u, fX9_rules_L130 (nI j) am_fu t (nI 0) (nI 0) = some (u, nI (m_bs (m_ro M.2.2.1 (M.2.2.2.2 j)) 4)) ∧ r_mv t u := by
    refine sp_lq (fun f (x : AS × Int32) i => fX9_rules_L130 (nI j) f x.1 x.2 i) 4 (fun i x => (r_mv t x.1 ∧ r_PL M.2.2.1.1 x.1 ∧ ∃ z, r_W (M.2.2.1.1.1 1) z (m_AN M.2.2.1) (m_BA M.2.2.1) none x.1) ∧ x.2 = nI (m_bs (m_ro M.2.2.1 (M.2.2.2.2 j)) i)) (fun r => ∃ u, r = some (u, nI (m_bs (m_ro M.2.2.1 (M.2.2.2.2 j)) 4)) ∧ r_mv t u) (fun f i x hi hx => ?_) (fun f x hx => ?_) (t, nI 0) ⟨⟨r_mv_refl t, P1, _, a3⟩, rfl⟩ am_fu (am_fu_gt (by omega))
    · left
      obtain ⟨u, x⟩ := x
      obtain ⟨⟨k1, k3, z, k4⟩, k2⟩ := hx
      dsimp only at k1 k2 k3 k4 ⊢
      subst k2
      have hm : m_bs (m_ro M.2.2.1 (M.2.2.2.2 j)) i < 1024 := m_bs_lt (n := 10) _ i (by omega)
      have k5 : r_mv u (am_si u 215 26 (nI i)) := r_mv_si (r_mv_refl u) _ (by omega)
      obtain ⟨d1, d2, d3, d4, d5, d6, d7, d8⟩ := k4
      obtain ⟨w', w1, w2, w3, w4, w5, w6⟩ := r_wd3 (x := M.2.2.1.1.1 1) (y := i) hP (vs hl) (by omega) (am_si u 215 26 (nI i)) (r_PL_fr (R := fun c => c = 215) k3 (fr_si (fr_refl _ u) _ _ rfl) (fun c _ _ => by omega)) ⟨by simp (disch := omega) only [r_si, r_uo, d1], by simp (disch := omega) only [r_si, r_uo, d2], by simp (disch := omega) only [r_si, r_uo, d3], by rw [r_si, r_us], by simp (disch := omega) only [r_si, r_uo, d5], by simp (disch := omega) only [r_si, r_uo, d6], by simp (disch := omega) only [r_si, r_uo, d7], d8⟩
      have I3 := r_I_mv (r_I_mv (r_I_mv (r_I_mv hI a2) k1) k5) w2
      obtain ⟨x1, x2, x3, x4, x5⟩ := r_slot I3 hV hj hw
      refine ⟨(w', nI (m_bs (m_ro M.2.2.1 (M.2.2.2.2 j)) (i + 1))), ⟨⟨r_mv_tr (r_mv_tr k1 k5) w2, w4, i, w3⟩, rfl⟩, ?_⟩
      rw [fX9_rules_L130, m_bs_s]
      simp (disch := omega) only [↓am_lq, b_lq, b_le, w1, am_cq, b_add, if_neg]
      rw [r_agreesP (g := w_at M.2.2.1.1 (m_sc M.2.2.1 (M.2.2.1.1.1 1) i)) (D := M.2.2.1.1) hj x1 ht1 x4 x5 (fun p hp => w5.2.1 p hp) ht2]
      have e2 : m_ro M.2.2.1 (M.2.2.2.2 j) i = m_al (m_ae (w_at M.2.2.1.1 (m_sc M.2.2.1 (M.2.2.1.1.1 1) i)) (M.2.2.2.2 j).2.2) ((M.2.2.2.2 j).2.1 / 2) := rfl
      rw [← e2]
      simp (disch := omega) only [↓am_lq, b_lq, m_if0, b_sh, b_add]
      cases m_ro M.2.2.1 (M.2.2.2.2 j) i
      · simp (disch := omega) only [b_or0, if_false, Bool.false_eq_true]
      · simp (disch := omega) only [b_ins, if_true]
    · obtain ⟨u, x⟩ := x
      obtain ⟨⟨k1, k3, k4⟩, k2⟩ := hx
      dsimp only at k1 k2 k3 k4 ⊢
      subst k2
      refine ⟨u, ?_, k1⟩
      rw [fX9_rules_L130]
      simp (disch := omega) only [b_lq, b_le, if_pos, if_true]
  obtain ⟨u, u1, u2⟩ := key
  refine ⟨u, ?_, r_mv_tr a2 u2⟩
  rw [a1, am_cq]
  exact u1
theorem Q_rules (a : Int32) : m_OK (fun s => fX8_rules s a) (fun s => fX9_rules s a) := m_ok_v (fun M => m_rk M a (m_tpp M.2.2.1.1 (M.2.2.2.2 a.toNatClampNeg)) (nI (m_bs (m_ro M.2.2.1 (M.2.2.2.2 a.toNatClampNeg)) 4)))
  (fun M s hV hI => by
    unfold fX8_rules
    rw [c_lacks hI.1 hV, am_rq]
    cases hb : m_in a 4 && decide (0 < M.2.2.1.1.1 6) with
    | false =>
      obtain ⟨h1, -⟩ := m_lk_f hb (b := true) (r := nI 0)
      rw [h1, (m_lk_f hb).2]
      exact ⟨s, if_neg (by decide), hI, c_F_refl s⟩
    | true =>
      have hb' := hb
      rw [Bool.and_eq_true] at hb
      have hl := of_decide_eq_true hb.2
      obtain ⟨j, hj, rfl⟩ := m_in_k (by omega) hb.1
      rw [b_t (by omega)]
      cases hw : (M.2.2.2.2 j).1 with
      | none =>
        obtain ⟨h1, -⟩ := m_lk_n hj hb' hw (b := true) (r := nI 0)
        rw [h1, (m_lk_n hj hb' hw).2]
        exact ⟨s, if_neg (by decide), hI, c_F_refl s⟩
      | some w =>
        obtain ⟨h1, -⟩ := m_lk_s hj hb' hw (b := true) (r := nI 0)
        rw [h1, (m_lk_s hj hb' hw).2]
        obtain ⟨x1, x2, x3⟩ := c_slot hI.1 hV hj hw
        have e1 : s.1 25 1 = nI (M.2.2.1.1.1 0) := T_np hI.1.2.2.1.1 (j := 0) (by omega)
        have ct := c_tellsPlaces (D := M.2.2.1.1) x1 x2 x3 e1
        simp (disch := omega) only [↓am_lq, b_lq, b_lt, b_t, am_g_t, ct, am_rq, m_if0, if_true]
        cases ht : m_tpp M.2.2.1.1 (M.2.2.2.2 j) with
        | false =>
          have ht' : (decide ((M.2.2.2.2 j).2.1 % 2 = 0) && m_al (m_op M.2.2.1.1 (M.2.2.2.2 j).2.2) ((M.2.2.2.2 j).2.1 / 2)) = false := ht
          rw [ht']
          exact ⟨s, rfl, hI, c_F_refl s⟩
        | true =>
          have ht' : (decide ((M.2.2.2.2 j).2.1 % 2 = 0) && m_al (m_op M.2.2.1.1 (M.2.2.2.2 j).2.2) ((M.2.2.2.2 j).2.1 / 2)) = true := ht
          rw [ht']
          obtain ⟨t, t1, t2, t3⟩ := c_rulesBy hV hl hj hw ht s hI
          refine ⟨t, ?_, t2, t3⟩
          rw [if_pos rfl, if_pos rfl, t1, am_cq])
  (fun M s hV hI => by
    obtain ⟨I1, m1⟩ := r_0 hI
    unfold fX9_rules m_rk
    simp only [↓am_lq, b_lq]
    generalize am_si s 215 0 (nI 0) = s1 at I1 m1 ⊢
    rw [g9_slot, am_rq, m_if0]
    cases hb : m_in a 4 with
    | false => exact ⟨s1, rfl, I1, m1.1⟩
    | true =>
      obtain ⟨j, hj, rfl⟩ := m_in_k (by omega) hb
      rw [g9_march I1 hV, am_rq, m_if0, b_t (by omega), if_pos rfl, Bool.true_and]
      have x1 := (I1.2.2.2.2 j hj).1
      cases hl : decide (0 < M.2.2.1.1.1 6) with
      | false => exact ⟨s1, rfl, I1, m1.1⟩
      | true =>
        have hl := of_decide_eq_true hl
        cases hw : (M.2.2.2.2 j).1 with
        | none =>
          rw [hw] at x1
          refine ⟨s1, ?_, I1, m1.1⟩
          simp (disch := omega) only [b_lt, b_t, am_g_t, oI_q, x1, if_true]
        | some w =>
          obtain ⟨y1, y2, y3, y4, y5⟩ := r_slot I1 hV hj hw
          have b1 : (nI w = oI none) = False := b_nn (by omega)
          have v0 := (m_MV_P hV).1.1
          have e0 : s1.1 222 0 = nI (M.2.2.1.1.1 0) := (r_PA_PL I1.2.2.1).1 0 (by omega)
          simp (disch := omega) only [b_lt, b_t, b_eq, am_g_t, oI_q, y2, y4, b1, b_m2, if_true, if_false]
          by_cases c : (M.2.2.2.2 j).2.1 % 2 = 0
          · rw [if_pos c, r_whyP (D := M.2.2.1.1) hj y1 c v0 y4 y5 e0]
            cases ht : m_al (m_op M.2.2.1.1 (M.2.2.2.2 j).2.2) ((M.2.2.2.2 j).2.1 / 2) with
            | false =>
              refine ⟨s1, ?_, I1, m1.1⟩
              unfold m_tpp
              rw [ht, Bool.and_false]
              rfl
            | true =>
              have ht' : m_tpp M.2.2.1.1 (M.2.2.2.2 j) = true := by
                unfold m_tpp
                rw [ht, decide_eq_true c]; rfl
              obtain ⟨t, t1, t2⟩ := r_rulesOf hV hl hj hw ht' s1 I1
              refine ⟨t, ?_, r_I_mv I1 t2, r_F_tr m1.1 t2.1⟩
              rw [if_pos rfl, ht', if_pos rfl]
              exact t1
          · refine ⟨s1, ?_, I1, m1.1⟩
            rw [if_neg c]
            unfold m_tpp
            rw [decide_eq_false c]
            rfl)
end RL
