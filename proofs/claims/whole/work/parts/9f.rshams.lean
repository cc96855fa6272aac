/-! WOULD: shams, shammers, the reference's; and both. -/
section RS
variable {M : m_M} {s t : AS} {P : m_P} {n p q : Nat}
theorem r_areBeside {D : w_D} {sh : Nat} (hD : w_V D) (hsh : sh < 1024) (hP : r_PL D s) (h24 : s.1 215 24 = nI sh) {a b : Nat} (ha : a < 10) (hb : b < 10) : fX9_areBeside s (nI a) (nI b) = some (nI (decide (y_bs 1000000 D.2.1 sh a b (D.1 4) < 1000000)).toNat) := by
  obtain ⟨v0, v4, v5, vr, vp, vg, vs, vr2, vo, vl, vz⟩ := id hD
  have e4 : s.1 222 4 = nI (D.1 4) := hP.1 4 (by omega)
  unfold fX9_areBeside
  simp only [↓am_lq, b_lq]
  refine sp_lq (fun f (_ : Unit) i => fX9_areBeside_L2 (nI a) (nI b) s (some (nI 1)) f i) (D.1 4) (fun i _ => ∀ r, r < i → y_e D.2.1 sh r a b = false) (fun r => r = some (nI (decide (y_bs 1000000 D.2.1 sh a b (D.1 4) < 1000000)).toNat)) (fun f i x hi hx => ?_) (fun f x hx => ?_) () (fun r hr => by omega) am_fu (am_fu_gt (by omega))
  · have r0 := vr i hi
    have e0 : s.1 223 (3 * i) = nI (D.2.1 i 0) := hP.2.1 i 0 hi (by omega)
    have e1 : s.1 223 (3 * i + 1) = nI (D.2.1 i 1) := hP.2.1 i 1 hi (by omega)
    have k : fX9_areBeside_L2 (nI a) (nI b) s (some (nI 1)) (f + 1) (nI i) = if y_e D.2.1 sh i a b then some (nI 1) else fX9_areBeside_L2 (nI a) (nI b) s (some (nI 1)) f (nI (i + 1)) := by
      rw [fX9_areBeside_L2]
      simp (disch := omega) only [↓am_lq, b_lq, b_lt, b_t, b_le, b_eq, b_mul, b_add, am_g_t, e4, e0, e1, h24, c_isBit, am_rq, m_if0, if_neg]
      unfold y_e
      cases sh.testBit i
      · by_cases c1 : D.2.1 i 0 = a <;> by_cases c2 : D.2.1 i 1 = b <;> by_cases c3 : D.2.1 i 0 = b <;> by_cases c4 : D.2.1 i 1 = a <;> simp [c1, c2, c3, c4] <;> (intros; exfalso; omega)
      · simp
    try dsimp only
    rw [k]
    cases h : y_e D.2.1 sh i a b with
    | false =>
      left
      refine ⟨(), fun r hr => ?_, if_neg (by simp)⟩
      by_cases e : r = i
      · rw [e]; exact h
      · exact hx r (by omega)
    | true =>
      right
      have := y_bs_r 1000000 D.2.1 sh a b hi h
      rw [decide_eq_true (by omega)]
      rfl
  · try dsimp only
    have : ¬ y_bs 1000000 D.2.1 sh a b (D.1 4) < 1000000 := by
      intro c
      obtain ⟨r, r1, r2, -⟩ := y_bs_x 1000000 D.2.1 sh a b c
      rw [hx r r1] at r2
      cases r2
    rw [fX9_areBeside_L2, decide_eq_false this]
    simp (disch := omega) only [b_lq, b_lt, b_t, b_le, am_g_t, e4, if_pos, if_true]
    rfl
/-- the reference's case, but for the false vote -/
def r_U (P : m_P) (s : AS) : Prop := s.1 215 23 = nI (m_AN P) ∧ s.1 215 24 = nI (m_BA P) ∧ s.1 215 25 = nI (P.1.1 1) ∧ s.1 215 26 = nI (P.1.1 2) ∧ s.1 215 30 = oI none ∧ s.1 215 31 = oI none ∧ s.2 215 33 = 0
theorem r_sham (hV : m_PV P) (hl : 0 < P.1.1 6) (hq : q < P.1.1 0) (s : AS) (hn : n < 61) (hp : p < 8) (hP : r_PL P.1 s) (hW : r_U P s) (h27 : s.1 215 27 = nI n) (h28 : s.1 215 28 = nI p) (h29 : s.1 215 29 = nI q) : ∃ t, fX9_runs s = some (t, ()) ∧ r_mv s t ∧ r_U P t ∧ r_PL P.1 t ∧ r_GI P.1 (m_sm P n p q) none (m_BA P) 61 t := by
  have hW' := hW
  obtain ⟨b1, b2, b3, b4, b6, b7, b8⟩ := hW'
  obtain ⟨t, h1, h2, h3, h4⟩ := r_runs (D := P.1) (C := m_sm P n p q) (tr := none) (sh := m_BA P) hV.1 (m_smK hV hl hq) (m_BA_lt hV) (fun n _ => rfl) s hP ⟨b4, ⟨b1, fun p hp => by rw [b6, b_nn (by omega)]; exact ⟨fun z => z.elim, fun z => (by cases z)⟩⟩, fun m a hm ha => ⟨by rw [m_sf_t, h27, h28, b_eq (by omega) (by omega), b_eq (by omega) (by omega)], fun x hx => by rw [m_sf_x hx, h29]; rfl⟩, ⟨b7, fun m k h => (by cases h)⟩, fun n hn => r_rn_0 b8 hn⟩ b2 b3
  refine ⟨t, h1, r_mv_runs (r_mv_refl s) h2 h3, ⟨?_, ?_, ?_, ?_, ?_, ?_, ?_⟩, r_PL_fr hP h2 (fun c _ _ => by omega), h4⟩
  · rw [h3 23 (by omega) (by omega)]; exact b1
  · obtain ⟨-, -, -, -, -, -, -, z, z1, z2, z3, z4, z5⟩ := h4
    rw [z2, z5 rfl]
  · rw [h3 25 (by omega) (by omega)]; exact b3
  · rw [h3 26 (by omega) (by omega)]; exact b4
  · rw [h3 30 (by omega) (by omega)]; exact b6
  · rw [h3 31 (by omega) (by omega)]; exact b7
  · rw [h2.1]; exact b8
theorem r_U_si {k : Nat} {v : Int32} (h : r_U P s) (hk : 27 ≤ k ∧ k < 30) : r_U P (am_si s 215 k v) := by
  obtain ⟨b1, b2, b3, b4, b6, b7, b8⟩ := h
  refine ⟨?_, ?_, ?_, ?_, ?_, ?_, b8⟩
  all_goals rw [r_si, r_uo _ _ (by omega)]; assumption
theorem r_shamsOf (hV : m_PV P) (hl : 0 < P.1.1 6) (hn : n < 61) (hp : p < P.1.1 5) (s : AS) (hP : r_PA 0 P s) : ∃ t, fX9_shamsOf s (nI p) (nI n) = some (t, nI (m_sb P n p)) ∧ r_mv s t := by
  have hV' := hV.1
  obtain ⟨v0, v4, v5, vr, vp, vg, vs, vr2, vo, vl, vz⟩ := hV'
  have hw := (vp p hp).2.1
  obtain ⟨t, a1, a2, a3, a4⟩ := r_laysNow2 hV hl s hP
  unfold fX9_shamsOf m_sb
  rw [a1, am_cq]
  have e := R_at a3 hn
  have ecr : fX9_isBit (t.1 230 n) (nI p) = some (nI ((w_cr P.1 (m_C P) n).testBit p).toNat) := r_isIn hV a3 (by omega) hn
  have eov := R_ov a3
  have evo : t.1 232 (8 * n + p) = oI (w_vo P.1 (m_C P) n p) := R_vo a3 hn p (by omega)
  rw [m_vo] at evo
  simp (disch := omega) only [↓am_lq, b_lq, b_lt, b_t, am_g_t, ecr, am_rq, m_if0]
  cases hin : (w_cr P.1 (m_C P) n).testBit p with
  | false =>
    refine ⟨t, ?_, a2⟩
    rw [if_neg (by simp)]
    cases w_at P.1 (m_C P) n <;> rfl
  | true =>
    rw [if_pos rfl]
    rw [hin, if_pos rfl] at evo
    cases hat : w_at P.1 (m_C P) n with
    | none =>
      exfalso
      unfold w_cr at hin
      rw [hat] at hin
      simp at hin
    | some h =>
      have hh := w_at_lt (m_CK hV hl) hat
      rw [hat, oI_s] at e
      try dsimp only
      rw [if_pos rfl, eov]
      by_cases cov : w_at P.1 (m_C P) (n + 1) = none
      · have : w_on P.1 (m_C P) 61 = some n := by
          unfold w_on
          refine y_fd_s.mpr ⟨hn, by rw [hat, cov]; rfl, fun j hj => ?_⟩
          cases hj2 : w_at P.1 (m_C P) (j + 1) with
          | some x => simp
          | none =>
            have := (w_at_n hj2 n (by omega)).1
            rw [hat] at this
            cases this
        refine ⟨t, ?_, a2⟩
        rw [this, oI_s, if_pos rfl, m_sb_over hV hl hat hin cov]
      · have hno : (oI (w_on P.1 (m_C P) 61) = nI n) = False := by
          cases ho : w_on P.1 (m_C P) 61 with
          | none => exact b_nn2 (by omega)
          | some k =>
            have hk := w_on_lt ho
            rw [oI_s, b_eq (by omega) (by omega)]
            refine propext ⟨fun z => ?_, False.elim⟩
            subst z
            unfold w_on at ho
            have := (y_fd_s.mp ho).2.1
            rw [Bool.and_eq_true] at this
            cases hz : w_at P.1 (m_C P) (k + 1) with
            | none => exact cov hz
            | some x => rw [hz] at this; simp at this
        have f2 := r_firstAt t (wa := w_at P.1 (m_C P)) (fun k hk => R_at a3 hk) (fun k x hx => by have := w_at_lt (m_CK hV hl) hx; omega) (pl := P.1.2.2.1 p 1) (from_ := n + 1) (by omega) (by omega)
        simp (disch := omega) only [hno, if_false, b_lt, b_t, b_mul, b_add, am_g_t, e, evo, r_wants hV.1 a3.2.1 hp, am_rq, f2]
        have U0 : r_U P t := ⟨a4.1, a4.2.1, a4.2.2.1, a4.2.2.2.1, a4.2.2.2.2.2.1, a4.2.2.2.2.2.2.1, a4.2.2.2.2.2.2.2⟩
        have key : ∃ u, fX9_shamsOf_L67 (nI p) (nI n) (nI h) (oI (m_vv P n p)) (oI (y_fd (fun k => decide (n + 1 ≤ k) && (w_at P.1 (m_C P) k == some (P.1.2.2.1 p 1))) 61)) am_fu t (nI 0) (nI 0) = some (u, nI (m_bs (m_sq P n p h) (P.1.1 0))) ∧ r_mv t u := by
          refine sp_lq (fun f (x : AS × Int32) i => fX9_shamsOf_L67 (nI p) (nI n) (nI h) (oI (m_vv P n p)) (oI (y_fd (fun k => decide (n + 1 ≤ k) && (w_at P.1 (m_C P) k == some (P.1.2.2.1 p 1))) 61)) f x.1 x.2 i) (P.1.1 0) (fun i x => (r_mv t x.1 ∧ r_PL P.1 x.1 ∧ r_U P x.1) ∧ x.2 = nI (m_bs (m_sq P n p h) i)) (fun r => ∃ u, r = some (u, nI (m_bs (m_sq P n p h) (P.1.1 0))) ∧ r_mv t u) (fun f i x hi hx => ?_) (fun f x hx => ?_) (t, nI 0) ⟨⟨r_mv_refl t, a3.2.1, U0⟩, rfl⟩ am_fu (am_fu_gt (by omega))
          · left
            obtain ⟨u, x⟩ := x
            obtain ⟨⟨k1, k3, k4⟩, k2⟩ := hx
            dsimp only at k1 k2 k3 k4 ⊢
            subst k2
            have e0 : u.1 222 0 = nI (P.1.1 0) := k3.1 0 (by omega)
            have hm : m_bs (m_sq P n p h) i < 1024 := m_bs_lt (n := 10) _ i (by omega)
            have hbd : fX9_areBeside u (nI h) (nI i) = some (nI (m_bd P h i).toNat) := r_areBeside hV.1 (m_BA_lt hV) k3 k4.2.1 (by omega) (by omega)
            have hvv : (nI i = oI (m_vv P n p)) = (m_vv P n p = some i) := by
              cases hv : m_vv P n p with
              | none => rw [b_nn (by omega)]; exact propext ⟨fun z => z.elim, fun z => (by cases z)⟩
              | some x =>
                have : x < P.1.1 0 := by
                  unfold m_vv at hv
                  rw [hat] at hv
                  exact (y_nx_lt hv).1
                rw [oI_s, b_eq (by omega) (by omega)]
                exact propext ⟨fun z => by rw [z], fun z => by injection z with z; exact z.symm⟩
            have k5 : r_mv u (am_si (am_si (am_si u 215 27 (nI n)) 215 28 (nI p)) 215 29 (nI i)) := r_mv_si (r_mv_si (r_mv_si (r_mv_refl u) _ (by omega)) _ (by omega)) _ (by omega)
            obtain ⟨w, w1, w2, w3, w4, w5⟩ := r_sham hV hl hi (am_si (am_si (am_si u 215 27 (nI n)) 215 28 (nI p)) 215 29 (nI i)) hn (show p < 8 by omega) (r_PL_fr (R := fun c => c = 215) k3 (fr_si (R := fun c => c = 215) (fr_si (R := fun c => c = 215) (fr_si (R := fun c => c = 215) (fr_refl _ u) _ _ rfl) _ _ rfl) _ _ rfl) (fun c _ _ => by omega)) (r_U_si (r_U_si (r_U_si k4 (by omega)) (by omega)) (by omega)) (by simp (disch := omega) only [r_si, r_us, r_uo]) (by simp (disch := omega) only [r_si, r_us, r_uo]) (by simp (disch := omega) only [r_si, r_us, r_uo])
            have f1 := r_firstAt w (wa := w_at P.1 (m_sm P n p i)) (fun k hk => w5.2.1 k hk) (fun k x hx => by have := w_at_lt (m_smK hV hl hi) hx; omega) (pl := P.1.2.2.1 p 1) (from_ := n + 1) (by omega) (by omega)
            rw [fX9_shamsOf_L67]
            by_cases c1 : m_vv P n p = some i
            · refine ⟨(u, nI (m_bs (m_sq P n p h) (i + 1))), ⟨⟨k1, k3, k4⟩, rfl⟩, ?_⟩
              rw [m_bs_s, show m_sq P n p h i = (!decide (m_vv P n p = some i) && m_bd P h i && m_hp P n p i) from rfl]
              simp (disch := omega) only [↓am_lq, b_lq, e0, b_le, b_lt, b_t, am_g_t, hvv, b_add, if_neg, if_pos c1, decide_eq_true c1, Bool.not_true, Bool.false_and, Bool.false_eq_true, if_false]
            · cases c2 : m_bd P h i with
              | false =>
                rw [c2] at hbd
                refine ⟨(u, nI (m_bs (m_sq P n p h) (i + 1))), ⟨⟨k1, k3, k4⟩, rfl⟩, ?_⟩
                rw [m_bs_s, show m_sq P n p h i = (!decide (m_vv P n p = some i) && m_bd P h i && m_hp P n p i) from rfl]
                simp (disch := omega) only [↓am_lq, b_lq, e0, b_le, b_lt, b_t, am_g_t, hvv, b_add, if_neg, if_neg c1, hbd, am_rq, m_if0, c2, decide_eq_false c1, Bool.not_false, Bool.and_false, Bool.false_and, Bool.false_eq_true, if_false]
              | true =>
                rw [c2] at hbd
                refine ⟨(w, nI (m_bs (m_sq P n p h) (i + 1))), ⟨⟨r_mv_tr (r_mv_tr k1 k5) w2, w4, w3⟩, rfl⟩, ?_⟩
                rw [m_bs_s, show m_sq P n p h i = (!decide (m_vv P n p = some i) && m_bd P h i && m_hp P n p i) from rfl]
                simp (disch := omega) only [↓am_lq, b_lq, oI_q, e0, b_le, b_lt, b_t, am_g_t, hvv, b_add, if_neg, if_neg c1, hbd, am_rq, m_if0, c2, w1, am_cq, r_wants hV.1 w4 hp, f1, decide_eq_false c1, Bool.not_false, Bool.true_and, if_true, b_sh]
                unfold m_hp m_fi
                cases e1 : y_fd (fun k => decide (n + 1 ≤ k) && (w_at P.1 (m_sm P n p i) k == some (P.1.2.2.1 p 1))) 61 with
                | none => simp only [if_true, b_or0, Bool.false_eq_true, if_false]
                | some a =>
                  have ha := (y_fd_s.mp e1).1
                  have c3 : (nI a = oI none) = False := b_nn (by omega)
                  cases e2 : y_fd (fun k => decide (n + 1 ≤ k) && (w_at P.1 (m_C P) k == some (P.1.2.2.1 p 1))) 61 with
                  | none => simp (disch := omega) only [oI_t, c3, if_false, if_true, b_ins]
                  | some b =>
                    have hb := (y_fd_s.mp e2).1
                    have c4 : (nI b = oI none) = False := b_nn (by omega)
                    simp (disch := omega) only [oI_t, c3, c4, if_false, b_le, b_ins, b_or0]
                    by_cases c : b ≤ a
                    · rw [if_pos c, if_neg (by rw [decide_eq_true_eq]; omega)]
                    · rw [if_neg c, if_pos (by rw [decide_eq_true_eq]; omega)]
          · obtain ⟨u, x⟩ := x
            obtain ⟨⟨k1, k3, k4⟩, k2⟩ := hx
            dsimp only at k1 k2 k3 k4 ⊢
            subst k2
            have e0 : u.1 222 0 = nI (P.1.1 0) := k3.1 0 (by omega)
            refine ⟨u, ?_, k1⟩
            rw [fX9_shamsOf_L67]
            simp (disch := omega) only [b_lq, e0, b_le, b_lt, b_t, am_g_t, if_pos, if_true]
        obtain ⟨u, u1, u2⟩ := key
        exact ⟨u, u1, r_mv_tr a2 u2⟩
theorem Q_shams (a b : Int32) : m_OK (fun s => fX8_shams s a b) (fun s => fX9_shams s a b) := m_ok_q (fun M => m_in a (M.2.2.1.1.1 5) && m_st M b 61) (fun M => nI (m_sb M.2.2.1 b.toNatClampNeg a.toNatClampNeg))
  (fun M s hV hI => by
    unfold fX8_shams
    rw [g8_person hI.1, am_rq]
    simp only [↓am_lq, b_lq, m_if0]
    cases ha : m_in a (M.2.2.1.1.1 5) with
    | false => exact ⟨s, rfl, hI, c_F_refl s⟩
    | true =>
      rw [g8_step hI.1 hV, am_rq, m_if0]
      cases hb : m_st M b 61 with
      | false => exact ⟨s, rfl, hI, c_F_refl s⟩
      | true =>
        have hl := m_st_l hb
        obtain ⟨n, hn, rfl⟩ := m_st_k (by omega) hb
        obtain ⟨p, hp, hp2, rfl⟩ := k_person hV ha
        have hP := m_MV_P hV
        obtain ⟨t, a1, a2, a3, a4, -⟩ := c_tell hV hl s hI
        obtain ⟨u, u1, u2⟩ := c_shamsOf hP hl hn hp t a2.1.2.2.1 a3
        refine ⟨u, ?_, c_I_mw hV a2 u2, c_F_tr a4 (c_mw_F u2)⟩
        rw [if_pos rfl, if_pos rfl, if_pos (show (true && true) = true from rfl), a1, am_cq, u1, am_cq, b_t (by omega), b_t (by omega)])
  (fun M s hV hI => by
    obtain ⟨I1, m1⟩ := r_0 hI
    unfold fX9_shams
    simp only [↓am_lq, b_lq]
    generalize am_si s 215 0 (nI 0) = s1 at I1 m1 ⊢
    rw [g9_person I1 hV, am_rq, m_if0]
    cases ha : m_in a (M.2.2.1.1.1 5) with
    | false => exact ⟨s1, rfl, I1, m1.1⟩
    | true =>
      rw [g9_step I1 hV, am_rq, m_if0]
      cases hb : m_st M b 61 with
      | false => exact ⟨s1, rfl, I1, m1.1⟩
      | true =>
        have hl := m_st_l hb
        obtain ⟨n, hn, rfl⟩ := m_st_k (by omega) hb
        obtain ⟨p, hp, hp2, rfl⟩ := k_person hV ha
        obtain ⟨u, u1, u2⟩ := r_shamsOf (m_MV_P hV) hl hn hp s1 I1.2.2.1
        refine ⟨u, ?_, r_I_mv I1 u2, r_F_tr m1.1 u2.1⟩
        rw [if_pos rfl, if_pos rfl, if_pos (show (true && true) = true from rfl), u1, am_cq, b_t (by omega), b_t (by omega)])
theorem Q_shammers (a : Int32) : m_OK (fun s => fX8_shammers s a) (fun s => fX9_shammers s a) := m_ok_q (fun M => m_st M a 61) (fun M => nI (m_bs (fun p => !decide (m_sb M.2.2.1 a.toNatClampNeg p = 0)) (M.2.2.1.1.1 5)))
  (fun M s hV hI => by
    unfold fX8_shammers
    rw [g8_step hI.1 hV, am_rq]
    simp only [b_lq, m_if0]
    cases hb : m_st M a 61 with
    | false => exact ⟨s, rfl, hI, c_F_refl s⟩
    | true =>
      have hl := m_st_l hb
      obtain ⟨n, hn, rfl⟩ := m_st_k (by omega) hb
      have hP := m_MV_P hV
      have v0 := hP.1.1
      have v5 := hP.1.2.2.1
      obtain ⟨t, a1, a2, a3, a4, -⟩ := c_tell hV hl s hI
      rw [if_pos rfl, if_pos rfl, a1, am_cq, b_t (by omega)]
      have key : ∃ u, fX8_shammers_L19 (nI n) am_fu t (nI 0) (nI 0) = some (u, nI (m_bs (fun p => !decide (m_sb M.2.2.1 n p = 0)) (M.2.2.1.1.1 5))) ∧ c_mw t u := by
        refine sp_lq (fun f (x : AS × Int32) i => fX8_shammers_L19 (nI n) f x.1 x.2 i) (M.2.2.1.1.1 5) (fun i x => c_mw t x.1 ∧ x.2 = nI (m_bs (fun p => !decide (m_sb M.2.2.1 n p = 0)) i)) (fun r => ∃ u, r = some (u, nI (m_bs (fun p => !decide (m_sb M.2.2.1 n p = 0)) (M.2.2.1.1.1 5))) ∧ c_mw t u) (fun f i x hi hx => ?_) (fun f x hx => ?_) (t, nI 0) ⟨c_mw_refl t, rfl⟩ am_fu (am_fu_gt (by omega))
        · left
          obtain ⟨v, x⟩ := x
          obtain ⟨k1, k2⟩ := hx
          dsimp only at k1 k2 ⊢
          subst k2
          have I1 := c_I_mw hV a2 k1
          have T1 := c_T_mw hP a3 k1
          have e6 : v.1 25 6 = nI (M.2.2.1.1.1 5) := T_np I1.1.2.2.1.1 (j := 5) (by omega)
          have hm : m_bs (fun p => !decide (m_sb M.2.2.1 n p = 0)) i < 1024 := m_bs_lt (n := 10) _ i (by omega)
          obtain ⟨u, u1, u2⟩ := c_shamsOf hP hl hn hi v I1.1.2.2.1 T1
          have hsb : m_sb M.2.2.1 n i < 1024 := by
            unfold m_sb
            split
            · omega
            · split
              · exact m_bs_lt (n := 10) _ _ (by omega)
              · omega
          refine ⟨(u, nI (m_bs (fun p => !decide (m_sb M.2.2.1 n p = 0)) (i + 1))), ⟨c_mw_tr k1 u2, rfl⟩, ?_⟩
          rw [fX8_shammers_L19, m_bs_s]
          simp (disch := omega) only [↓am_lq, b_lq, e6, b_le, u1, am_cq, b_eq, b_sh, b_ins, b_add, if_neg]
          by_cases c : m_sb M.2.2.1 n i = 0
          · rw [if_pos c, decide_eq_true c]; rfl
          · rw [if_neg c, decide_eq_false c]; rfl
        · obtain ⟨v, x⟩ := x
          obtain ⟨k1, k2⟩ := hx
          dsimp only at k1 k2 ⊢
          subst k2
          have I1 := c_I_mw hV a2 k1
          have e6 : v.1 25 6 = nI (M.2.2.1.1.1 5) := T_np I1.1.2.2.1.1 (j := 5) (by omega)
          refine ⟨v, ?_, k1⟩
          rw [fX8_shammers_L19]
          simp (disch := omega) only [e6, b_le, if_pos]
      obtain ⟨u, u1, u2⟩ := key
      exact ⟨u, u1, c_I_mw hV a2 u2, c_F_tr a4 (c_mw_F u2)⟩)
  (fun M s hV hI => by
    obtain ⟨I1, m1⟩ := r_0 hI
    unfold fX9_shammers
    simp only [↓am_lq, b_lq]
    generalize am_si s 215 0 (nI 0) = s1 at I1 m1 ⊢
    rw [g9_step I1 hV, am_rq, m_if0]
    cases hb : m_st M a 61 with
    | false => exact ⟨s1, rfl, I1, m1.1⟩
    | true =>
      have hl := m_st_l hb
      obtain ⟨n, hn, rfl⟩ := m_st_k (by omega) hb
      have hP := m_MV_P hV
      have v0 := hP.1.1
      have v5 := hP.1.2.2.1
      rw [if_pos rfl, if_pos rfl, b_t (by omega)]
      have key : ∃ u, fX9_shammers_L20 (nI n) am_fu s1 (nI 0) (nI 0) = some (u, nI (m_bs (fun p => !decide (m_sb M.2.2.1 n p = 0)) (M.2.2.1.1.1 5))) ∧ r_mv s1 u := by
        refine sp_lq (fun f (x : AS × Int32) i => fX9_shammers_L20 (nI n) f x.1 x.2 i) (M.2.2.1.1.1 5) (fun i x => r_mv s1 x.1 ∧ x.2 = nI (m_bs (fun p => !decide (m_sb M.2.2.1 n p = 0)) i)) (fun r => ∃ u, r = some (u, nI (m_bs (fun p => !decide (m_sb M.2.2.1 n p = 0)) (M.2.2.1.1.1 5))) ∧ r_mv s1 u) (fun f i x hi hx => ?_) (fun f x hx => ?_) (s1, nI 0) ⟨r_mv_refl s1, rfl⟩ am_fu (am_fu_gt (by omega))
        · left
          obtain ⟨v, x⟩ := x
          obtain ⟨k1, k2⟩ := hx
          dsimp only at k1 k2 ⊢
          subst k2
          have I2 := r_I_mv I1 k1
          have e6 := r_people (r_PA_PL I2.2.2.1)
          have hm : m_bs (fun p => !decide (m_sb M.2.2.1 n p = 0)) i < 1024 := m_bs_lt (n := 10) _ i (by omega)
          obtain ⟨u, u1, u2⟩ := r_shamsOf hP hl hn hi v I2.2.2.1
          have hsb : m_sb M.2.2.1 n i < 1024 := by
            unfold m_sb
            split
            · omega
            · split
              · exact m_bs_lt (n := 10) _ _ (by omega)
              · omega
          refine ⟨(u, nI (m_bs (fun p => !decide (m_sb M.2.2.1 n p = 0)) (i + 1))), ⟨r_mv_tr k1 u2, rfl⟩, ?_⟩
          rw [fX9_shammers_L20, m_bs_s, e6, am_rq]
          simp (disch := omega) only [↓am_lq, b_lq, b_le, u1, am_cq, b_eq, b_sh, b_ins, b_or0, b_add, if_neg]
          by_cases c : m_sb M.2.2.1 n i = 0
          · rw [if_pos c, decide_eq_true c]; rfl
          · rw [if_neg c, decide_eq_false c]; rfl
        · obtain ⟨v, x⟩ := x
          obtain ⟨k1, k2⟩ := hx
          dsimp only at k1 k2 ⊢
          subst k2
          have I2 := r_I_mv I1 k1
          have e6 := r_people (r_PA_PL I2.2.2.1)
          refine ⟨v, ?_, k1⟩
          rw [fX9_shammers_L20, e6, am_rq]
          simp (disch := omega) only [b_le, if_pos]
      obtain ⟨u, u1, u2⟩ := key
      exact ⟨u, u1, r_I_mv I1 u2, r_F_tr m1.1 u2.1⟩)
end RS
