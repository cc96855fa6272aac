/-! RAIN: chance, mean, the reference's; and both. -/
section RJ
variable {M : m_M} {s t : AS} {P : m_P} {n : Nat}
theorem r_step9 (hV : m_PV P) (hl : 0 < P.1.1 6) {i : Nat} (hi : i < 512) (u : AS) (hP : r_PL P.1 u) (hW : r_V P u) : ∃ w, fX9_runs (am_sj u 215 33 (nI i).toInt64) = some (w, ()) ∧ r_mv u w ∧ r_V P w ∧ r_PL P.1 w ∧ r_GI P.1 (m_rs P i) none (m_BA P) 61 w := by
  obtain ⟨w, w1, w2, w3, w4, w5, w6⟩ := r_rain (R := fun k => i.testBit k) hV hl (am_sj u 215 33 (nI i).toInt64) (fun k hk => by rw [r_ji, r_ls]; exact m_rb_n i hi k hk) hP (r_V_sj hW)
  exact ⟨w, w1, r_mv_tr (r_mv_sj (r_mv_refl u) _) w2, w3, w4, w5⟩
theorem r_rainsC (hV : m_PV P) (hl : 0 < P.1.1 6) (hn : n ≤ 8) {pl : Nat} (hp : pl < 10) (s : AS) (hP : r_PA 0 P s) : ∃ t, fX9_rains s (nI n) (nI pl) = some (t, nJ (m_sum (m_c9 P n pl) (2 ^ (n + 1)))) ∧ r_mv s t := by
  obtain ⟨v0, v4, v5, vr, vp, vg, vs, vr2, vo, vl, vz⟩ := id hV.1
  have h9 := m_pow9 (show n + 1 ≤ 9 by omega)
  have hsl : ∀ i, i ≤ 512 → m_sum (m_c9 P n pl) i ≤ 512000000000 := fun i hi => by
    have := m_sum_lc (n := i) (fun k _ => m_c9_le vo hn pl k)
    have : i * 10 ^ 9 ≤ 512 * 10 ^ 9 := Nat.mul_le_mul_right _ hi
    omega
  have e9 : ∀ x8, (nI 2 <<< (nI n &&& nI 31) ≤ nI x8) = (nI (2 ^ (n + 1)) ≤ nI x8) := fun x8 => by rw [(b_shl n (by omega)).2]
  have e1 : (nI pl = oI none) = False := b_nn (by omega)
  obtain ⟨t, a1, a2, a3, a4⟩ := r_lays hV s hP
  have P1 := r_PA_PL (r_PA_eq hP (fun c _ _ => a4 c (by omega)))
  have key : ∃ u, fX9_rains_L9 (nI n) (nI pl) am_fu t (nJ 0) (nI 0) = some (u, nJ (m_sum (m_c9 P n pl) (2 ^ (n + 1)))) ∧ r_mv t u := by
    refine sp_lq (fun f (x : AS × Int64) i => fX9_rains_L9 (nI n) (nI pl) f x.1 x.2 i) (2 ^ (n + 1)) (fun i x => (r_mv t x.1 ∧ r_PL P.1 x.1 ∧ r_V P x.1) ∧ x.2 = nJ (m_sum (m_c9 P n pl) i)) (fun r => ∃ u, r = some (u, nJ (m_sum (m_c9 P n pl) (2 ^ (n + 1)))) ∧ r_mv t u) (fun f i x hi hx => ?_) (fun f x hx => ?_) (t, nJ 0) ⟨⟨r_mv_refl t, P1, (r_B_V a3).1⟩, rfl⟩ am_fu (am_fu_gt (by omega))
    · left
      obtain ⟨u, x⟩ := x
      obtain ⟨⟨k1, k3, k4⟩, k2⟩ := hx
      dsimp only at k1 k2 k3 k4 ⊢
      subst k2
      have wl := m_wgt_le vo i (n + 1)
      have hb : 10 ^ (n + 1) ≤ 10 ^ 9 := Nat.pow_le_pow_right (by omega) (by omega)
      have s1 := hsl i (by omega)
      rw [fX9_rains_L9]
      simp (disch := omega) only [↓am_lq, b_lq, j_lq, e9, b_le, if_neg]
      rw [r_weightOf vo (k3.1 3 (by omega)) (by omega) (by omega)]
      by_cases c : m_wgt (P.1.1 3) i (n + 1) = 0
      · refine ⟨(u, nJ (m_sum (m_c9 P n pl) (i + 1))), ⟨⟨k1, k3, k4⟩, rfl⟩, ?_⟩
        have : m_c9 P n pl i = 0 := by
          unfold m_c9
          split
          · exact c
          · rfl
        rw [m_sum_s, this, Nat.add_zero]
        simp (disch := omega) only [j_eq, j_neq, c, if_true, b_add, Nat.add_zero]
      · obtain ⟨w, w1, w2, w3, w4, w5⟩ := r_step9 hV hl (show i < 512 by omega) u k3 k4
        have f1 := r_firstAt w (wa := w_at P.1 (m_rs P i)) (fun k hk => w5.2.1 k hk) (fun k q hq => by have := w_at_lt (m_rcK hV hl _) hq; omega) hp (from_ := 0) (by omega)
        refine ⟨(w, nJ (m_sum (m_c9 P n pl) (i + 1))), ⟨⟨r_mv_tr k1 w2, w4, w3⟩, rfl⟩, ?_⟩
        rw [m_sum_s]
        simp (disch := omega) only [↓am_lq, b_lq, oI_q, j_eq, j_neq, c, if_false, w1, am_cq, e1, f1, am_rq, j_add, b_add]
        have ec : m_c9 P n pl i = if m_cb P i n pl then m_wgt (P.1.1 3) i (n + 1) else 0 := rfl
        cases h : y_fd (fun k => decide (0 ≤ k) && (w_at P.1 (m_rs P i) k == some pl)) 61 with
        | none =>
          have hc : m_cb P i n pl = false := by
            cases hc : m_cb P i n pl with
            | false => rfl
            | true =>
              obtain ⟨k, hk, hk2⟩ := m_cb_t.mp hc
              have := y_fd_n.mp h k (by omega)
              rw [hk2] at this
              simp at this
          rw [if_pos rfl, ec, hc, if_neg (by simp)]
        | some k =>
          obtain ⟨h1, h2, h3⟩ := y_fd_s.mp h
          rw [oI_t, if_neg (by rw [b_nn (by omega)]; exact fun z => z)]
          simp (disch := omega) only [b_lt]
          by_cases hk : n < k
          · have hc : m_cb P i n pl = false := by
              cases hc : m_cb P i n pl with
              | false => rfl
              | true =>
                obtain ⟨j, hj, hj2⟩ := m_cb_t.mp hc
                have := h3 j (by omega)
                rw [hj2] at this
                simp at this
            rw [if_pos hk, ec, hc, if_neg (by simp)]
          · have hc : m_cb P i n pl = true := m_cb_t.mpr ⟨k, by omega, by
              rw [Bool.and_eq_true] at h2
              exact eq_of_beq h2.2⟩
            rw [if_neg hk, ec, hc, if_pos rfl]
    · obtain ⟨u, x⟩ := x
      obtain ⟨⟨k1, k3, k4⟩, k2⟩ := hx
      dsimp only at k1 k2 k3 k4 ⊢
      subst k2
      refine ⟨u, ?_, k1⟩
      rw [fX9_rains_L9]
      simp (disch := omega) only [b_lq, e9, b_le, if_pos]
  obtain ⟨u, u1, u2⟩ := key
  refine ⟨u, ?_, r_mv_tr a2 u2⟩
  unfold fX9_rains
  rw [a1, am_cq]
  exact u1
theorem r_rainsM (hV : m_PV P) (hl : 0 < P.1.1 6) (hn : n ≤ 8) (s : AS) (hP : r_PA 0 P s) : ∃ t, fX9_rains s (nI n) (oI none) = some (t, nJ (m_sum (m_me P n) (2 ^ (n + 1)))) ∧ r_mv s t := by
  obtain ⟨v0, v4, v5, vr, vp, vg, vs, vr2, vo, vl, vz⟩ := id hV.1
  have h9 := m_pow9 (show n + 1 ≤ 9 by omega)
  have hsl : ∀ i, i ≤ 512 → m_sum (m_me P n) i ≤ 5120000000000 := fun i hi => by
    have := m_sum_lc (n := i) (fun k _ => m_me_le vo hn k)
    have : i * 10 ^ 10 ≤ 512 * 10 ^ 10 := Nat.mul_le_mul_right _ hi
    omega
  have e9 : ∀ x8, (nI 2 <<< (nI n &&& nI 31) ≤ nI x8) = (nI (2 ^ (n + 1)) ≤ nI x8) := fun x8 => by rw [(b_shl n (by omega)).2]
  obtain ⟨t, a1, a2, a3, a4⟩ := r_lays hV s hP
  have P1 := r_PA_PL (r_PA_eq hP (fun c _ _ => a4 c (by omega)))
  have key : ∃ u, fX9_rains_L9 (nI n) (oI none) am_fu t (nJ 0) (nI 0) = some (u, nJ (m_sum (m_me P n) (2 ^ (n + 1)))) ∧ r_mv t u := by
    refine sp_lq (fun f (x : AS × Int64) i => fX9_rains_L9 (nI n) (oI none) f x.1 x.2 i) (2 ^ (n + 1)) (fun i x => (r_mv t x.1 ∧ r_PL P.1 x.1 ∧ r_V P x.1) ∧ x.2 = nJ (m_sum (m_me P n) i)) (fun r => ∃ u, r = some (u, nJ (m_sum (m_me P n) (2 ^ (n + 1)))) ∧ r_mv t u) (fun f i x hi hx => ?_) (fun f x hx => ?_) (t, nJ 0) ⟨⟨r_mv_refl t, P1, (r_B_V a3).1⟩, rfl⟩ am_fu (am_fu_gt (by omega))
    · left
      obtain ⟨u, x⟩ := x
      obtain ⟨⟨k1, k3, k4⟩, k2⟩ := hx
      dsimp only at k1 k2 k3 k4 ⊢
      subst k2
      have wl := m_wgt_le vo i (n + 1)
      have hb : 10 ^ (n + 1) ≤ 10 ^ 9 := Nat.pow_le_pow_right (by omega) (by omega)
      have s1 := hsl i (by omega)
      rw [fX9_rains_L9]
      simp (disch := omega) only [↓am_lq, b_lq, j_lq, e9, b_le, if_neg]
      rw [r_weightOf vo (k3.1 3 (by omega)) (by omega) (by omega)]
      by_cases c : m_wgt (P.1.1 3) i (n + 1) = 0
      · refine ⟨(u, nJ (m_sum (m_me P n) (i + 1))), ⟨⟨k1, k3, k4⟩, rfl⟩, ?_⟩
        have : m_me P n i = 0 := by
          unfold m_me
          rw [c, Nat.zero_mul]
        rw [m_sum_s, this, Nat.add_zero]
        simp (disch := omega) only [j_eq, j_neq, c, if_true, b_add, Nat.add_zero]
      · obtain ⟨w, w1, w2, w3, w4, w5⟩ := r_step9 hV hl (show i < 512 by omega) u k3 k4
        rw [j_i (show i < 2147483648 by omega)] at w1
        have e230 : w.1 230 n = nI (w_cr P.1 (m_rs P i) n) := w5.2.2.1 n (by omega)
        have hcr := w_cr_256 hV (m_rs P i) n
        have hpc := w_pc_10 (w_cr P.1 (m_rs P i) n)
        have ebc := r_size (x := w_cr P.1 (m_rs P i) n) (by omega)
        refine ⟨(w, nJ (m_sum (m_me P n) (i + 1))), ⟨⟨r_mv_tr k1 w2, w4, w3⟩, rfl⟩, ?_⟩
        rw [m_sum_s, show m_me P n i = m_wgt (P.1.1 3) i (n + 1) * w_pc (w_cr P.1 (m_rs P i) n) from rfl]
        simp (disch := omega) only [↓am_lq, b_lq, oI_q, j_eq, j_neq, c, if_false, if_true, j_i, w1, am_cq, b_lt, b_t, am_g_t, e230, ebc, am_rq, j_mul, j_add, b_add]
    · obtain ⟨u, x⟩ := x
      obtain ⟨⟨k1, k3, k4⟩, k2⟩ := hx
      dsimp only at k1 k2 k3 k4 ⊢
      subst k2
      refine ⟨u, ?_, k1⟩
      rw [fX9_rains_L9]
      simp (disch := omega) only [b_lq, e9, b_le, if_pos]
  obtain ⟨u, u1, u2⟩ := key
  refine ⟨u, ?_, r_mv_tr a2 u2⟩
  unfold fX9_rains
  rw [a1, am_cq]
  exact u1
theorem Q_chance (a b c : Int32) : m_OKj (fun s => fX8_chance s a b c) (fun s => fX9_chance s a b c) := m_okj_q (fun M => m_in a (M.2.2.1.1.1 0) && m_st M b 9 && m_in c 2) (fun M => nJ (m_pt (m_sum (m_c8 M.2.2.1 b.toNatClampNeg a.toNatClampNeg) (2 ^ b.toNatClampNeg)) (10 ^ b.toNatClampNeg) c.toNatClampNeg))
  (fun M s hV hI => by
    unfold fX8_chance
    rw [g8_place hI.1, am_rq]
    simp only [↓am_lq, b_lq, j_lq, m_if0]
    cases ha : m_in a (M.2.2.1.1.1 0) with
    | false => exact ⟨s, rfl, hI, c_F_refl s⟩
    | true =>
      rw [g8_rain hI.1 hV, am_rq, m_if0]
      cases hb : m_st M b 9 with
      | false => exact ⟨s, rfl, hI, c_F_refl s⟩
      | true =>
        rw [g8_half, am_rq, m_if0]
        cases hc : m_in c 2 with
        | false => exact ⟨s, rfl, hI, c_F_refl s⟩
        | true =>
          have hl := m_st_l hb
          obtain ⟨pl, hp, hp2, rfl⟩ := k_place hV ha
          obtain ⟨n, hn, rfl⟩ := m_st_k (by omega) hb
          obtain ⟨w, hw, rfl⟩ := m_in_k (by omega) hc
          obtain ⟨t, a1, a2, a3, a4, -⟩ := c_tell hV hl s hI
          obtain ⟨u, u1, u2⟩ := c_chanceL hV hl (show n ≤ 8 by omega) hp2 hw t a2 a3
          refine ⟨u, ?_, c_I_mw hV a2 u2, c_F_tr a4 (c_mw_F u2)⟩
          rw [if_pos rfl, if_pos rfl, if_pos rfl, if_pos (show (true && true && true) = true from rfl), a1, am_cq, b_t (by omega), b_t (by omega), b_t (by omega)]
          exact u1)
  (fun M s hV hI => by
    obtain ⟨I1, m1⟩ := r_0 hI
    unfold fX9_chance
    simp only [↓am_lq, b_lq, j_lq]
    generalize am_si s 215 0 (nI 0) = s1 at I1 m1 ⊢
    rw [g9_place I1 hV, am_rq, m_if0]
    cases ha : m_in a (M.2.2.1.1.1 0) with
    | false => exact ⟨s1, rfl, I1, m1.1⟩
    | true =>
      rw [g9_rain I1 hV, am_rq, m_if0]
      cases hb : m_st M b 9 with
      | false => exact ⟨s1, rfl, I1, m1.1⟩
      | true =>
        rw [g9_half, am_rq, m_if0]
        cases hc : m_in c 2 with
        | false => exact ⟨s1, rfl, I1, m1.1⟩
        | true =>
          have hl := m_st_l hb
          obtain ⟨pl, hp, hp2, rfl⟩ := k_place hV ha
          obtain ⟨n, hn, rfl⟩ := m_st_k (by omega) hb
          obtain ⟨w, hw, rfl⟩ := m_in_k (by omega) hc
          have hP := m_MV_P hV
          have vo := hP.1.2.2.2.2.2.2.2.2.1
          obtain ⟨u, u1, u2⟩ := r_rainsC hP hl (show n ≤ 8 by omega) hp2 s1 I1.2.2.1
          have h9 := m_pow9 (show n + 1 ≤ 9 by omega)
          have sl := m_sum_lc (n := 2 ^ (n + 1)) (fun k _ => m_c9_le (P := M.2.2.1) (n := n) vo (by omega) pl k)
          have sl2 : 2 ^ (n + 1) * 10 ^ 9 ≤ 512 * 10 ^ 9 := Nat.mul_le_mul_right _ h9
          refine ⟨u, ?_, r_I_mv I1 u2, r_F_tr m1.1 u2.1⟩
          rw [if_pos rfl, if_pos rfl, if_pos rfl, if_pos (show (true && true && true) = true from rfl), u1, am_cq, r_told (by omega) (by omega) hw, am_rq, m_c98 vo, m_pt_10, b_t (by omega), b_t (by omega), b_t (by omega)])
theorem Q_mean (a b : Int32) : m_OKj (fun s => fX8_mean s a b) (fun s => fX9_mean s a b) := m_okj_q (fun M => m_st M a 9 && m_in b 2) (fun M => nJ (m_pt (m_sum (m_me M.2.2.1 a.toNatClampNeg) (2 ^ (a.toNatClampNeg + 1))) (10 ^ (a.toNatClampNeg + 1)) b.toNatClampNeg))
  (fun M s hV hI => by
    unfold fX8_mean
    rw [g8_rain hI.1 hV, am_rq]
    simp only [↓am_lq, b_lq, j_lq, m_if0]
    cases hb : m_st M a 9 with
    | false => exact ⟨s, rfl, hI, c_F_refl s⟩
    | true =>
      rw [g8_half, am_rq, m_if0]
      cases hc : m_in b 2 with
      | false => exact ⟨s, rfl, hI, c_F_refl s⟩
      | true =>
        have hl := m_st_l hb
        obtain ⟨n, hn, rfl⟩ := m_st_k (by omega) hb
        obtain ⟨w, hw, rfl⟩ := m_in_k (by omega) hc
        obtain ⟨t, a1, a2, a3, a4, -⟩ := c_tell hV hl s hI
        obtain ⟨u, u1, u2⟩ := c_meanL hV hl (show n ≤ 8 by omega) hw t a2 a3
        refine ⟨u, ?_, c_I_mw hV a2 u2, c_F_tr a4 (c_mw_F u2)⟩
        rw [if_pos rfl, if_pos rfl, if_pos (show (true && true) = true from rfl), a1, am_cq, b_t (by omega), b_t (by omega)]
        exact u1)
  (fun M s hV hI => by
    obtain ⟨I1, m1⟩ := r_0 hI
    unfold fX9_mean
    simp only [↓am_lq, b_lq, oI_q, j_lq]
    generalize am_si s 215 0 (nI 0) = s1 at I1 m1 ⊢
    rw [g9_rain I1 hV, am_rq, m_if0]
    cases hb : m_st M a 9 with
    | false => exact ⟨s1, rfl, I1, m1.1⟩
    | true =>
      rw [g9_half, am_rq, m_if0]
      cases hc : m_in b 2 with
      | false => exact ⟨s1, rfl, I1, m1.1⟩
      | true =>
        have hl := m_st_l hb
        obtain ⟨n, hn, rfl⟩ := m_st_k (by omega) hb
        obtain ⟨w, hw, rfl⟩ := m_in_k (by omega) hc
        have hP := m_MV_P hV
        have vo := hP.1.2.2.2.2.2.2.2.2.1
        obtain ⟨u, u1, u2⟩ := r_rainsM hP hl (show n ≤ 8 by omega) s1 I1.2.2.1
        have h9 := m_pow9 (show n + 1 ≤ 9 by omega)
        have sl := m_sum_lc (n := 2 ^ (n + 1)) (fun k _ => m_me_le (P := M.2.2.1) (n := n) vo (by omega) k)
        have sl2 : 2 ^ (n + 1) * 10 ^ 10 ≤ 512 * 10 ^ 10 := Nat.mul_le_mul_right _ h9
        refine ⟨u, ?_, r_I_mv I1 u2, r_F_tr m1.1 u2.1⟩
        rw [if_pos rfl, if_pos rfl, if_pos (show (true && true) = true from rfl), u1, am_cq, r_told (by omega) (by omega) hw, am_rq, b_t (by omega), b_t (by omega)])
end RJ
