/-! WOULD: trap. -/
section TP
variable {M : m_M} {s t : AS} {P : m_P}
/-- from step a on, r shut too -/
abbrev m_trp (P : m_P) (a r : Nat) : w_C := (P.1.1 1, P.1.1 2, m_AN P, fun _ => false, fun _ => false, fun _ _ => none, fun n => y_N P.1 (if n < a then m_BA P else w_ins (m_BA P) r))
theorem m_trpK (hV : m_PV P) (hl : 0 < P.1.1 6) (a r : Nat) : w_CK P.1 (m_trp P a r) := by
  have hV' := hV.1
  obtain ⟨v0, v4, v5, vr, vp, vg, vs, vr2, vo, vl, vz⟩ := hV'
  exact ⟨vs hl, vr2, m_AN_lt hV, fun n p q hq => (by cases hq), fun n a b q hq => (y_nx_lt hq).1⟩
def m_fi (P : m_P) (C : w_C) (a pl : Nat) : Option Nat := y_fd (fun k => decide (a ≤ k) && (w_at P.1 C k == some pl)) 61
theorem m_ins_lt (hV : m_PV P) {r : Nat} (hr : r < 10) : w_ins (m_BA P) r < 1024 := w_ins_lt (k := 10) (m_BA_lt hV) hr
theorem c_trap1 (hV : m_PV P) (hl : 0 < P.1.1 6) {a r pl : Nat} (ha : a < 61) (hr : r < 10) (hp : pl < 10) (s : AS) (hP : c_PA 25 47 P s) (hY : c_WY 138 P.1 (m_BA P) s) : ∃ t0 t1 t2 t3, fX7_measure s 173 25 (nI (w_ins (m_BA P) r)) = some (t0, ()) ∧ fX8_asItIs t0 = some (t1, ()) ∧ fX1_turnsAt t1 172 (nI a) 173 = some (t2, ()) ∧ fX6_go t2 198 25 172 = some (t3, ()) ∧ c_mw s t3 ∧ fX6_firstAt t3 198 (nI pl) (nI a) = some (oI (m_fi P (m_trp P a r) a pl)) := by
  have hV' := hV.1
  obtain ⟨v0, v4, v5, vr, vp, vg, vs, vr2, vo, vl, vz⟩ := hV'
  obtain ⟨t0, z1, z2, z3⟩ := c_measure (v := 173) (op := 25) (sh := w_ins (m_BA P) r) hV.1 (m_ins_lt hV hr) (by omega) s hP.1
  have m0 : c_mw s t0 := c_mw_fr z2 (fun c hc => by have : 173 ≤ c ∧ c < 173 + 25 := hc; omega)
  have P0 := c_PA_eq hP hV (fun c _ _ => m0.1 c (by omega)) (fun c _ _ => m0.1 c (by omega))
  obtain ⟨t1, a1, a2, ⟨b0, b1, b2, b3, b4, b5, b7, b8, b9, b10, b11, b12, b6⟩, hr1⟩ := c_asItIs t0 P0
  have m2 : c_mw s (am_si (am_si t1 172 9 (nI a)) 172 8 (nI 173)) := c_mw_tr (c_mw_tr m0 a2) ⟨fun c hc => by rw [r_so _ _ _ (by omega), r_so _ _ _ (by omega)], fun _ _ => rfl⟩
  have P2 := c_PA_eq hP hV (fun c _ _ => m2.1 c (by omega)) (fun c _ _ => m2.1 c (by omega))
  have Y1 : c_WY 138 P.1 (m_BA P) (am_si (am_si t1 172 9 (nI a)) 172 8 (nI 173)) := c_WY_eq hV.1 hY (fun c _ _ => m2.1 c (by omega))
  have Y2 : c_WY 173 P.1 (w_ins (m_BA P) r) (am_si (am_si t1 172 9 (nI a)) 172 8 (nI 173)) := c_WY_eq hV.1 z3 (fun c _ _ => by rw [r_so _ _ _ (by omega), r_so _ _ _ (by omega), hr1 c (by omega)])
  have g0 : (am_si (am_si t1 172 9 (nI a)) 172 8 (nI 173)).1 172 0 = nI (P.1.1 1) := by simp (disch := omega) only [r_si, r_uo, b0]
  have g1 : (am_si (am_si t1 172 9 (nI a)) 172 8 (nI 173)).1 172 1 = nI (P.1.1 2) := by simp (disch := omega) only [r_si, r_uo, b1]
  have g2 : (am_si (am_si t1 172 9 (nI a)) 172 8 (nI 173)).1 172 2 = nI (m_AN P) := by simp (disch := omega) only [r_si, r_uo, b2]
  have g3 : (am_si (am_si t1 172 9 (nI a)) 172 8 (nI 173)).1 172 3 = nI 0 := by simp (disch := omega) only [r_si, r_uo, b3]
  have g4 : (am_si (am_si t1 172 9 (nI a)) 172 8 (nI 173)).1 172 4 = oI none := by simp (disch := omega) only [r_si, r_uo, b4]
  have g5 : (am_si (am_si t1 172 9 (nI a)) 172 8 (nI 173)).1 172 5 = nI 60 := by simp (disch := omega) only [r_si, r_uo, b5]
  have g7 : (am_si (am_si t1 172 9 (nI a)) 172 8 (nI 173)).1 172 7 = nI 138 := by simp (disch := omega) only [r_si, r_uo, b7]
  have g8 : (am_si (am_si t1 172 9 (nI a)) 172 8 (nI 173)).1 172 8 = nI 173 := by rw [r_si, r_us]
  have g9 : (am_si (am_si t1 172 9 (nI a)) 172 8 (nI 173)).1 172 9 = nI a := by simp (disch := omega) only [r_si, r_us, r_uo]
  have g10 : (am_si (am_si t1 172 9 (nI a)) 172 8 (nI 173)).1 172 10 = oI none := by simp (disch := omega) only [r_si, r_uo, b10]
  have g6 : (am_si (am_si t1 172 9 (nI a)) 172 8 (nI 173)).2 172 6 = 0 := b6
  have e2 : fX1_turnsAt t1 172 (nI a) 173 = some (am_si (am_si t1 172 9 (nI a)) 172 8 (nI 173), ()) := rfl
  revert P2 Y1 Y2 g0 g1 g2 g3 g4 g5 g6 g7 g8 g9 g10 m2 e2
  generalize am_si (am_si t1 172 9 (nI a)) 172 8 (nI 173) = t2
  intro m2 P2 Y1 Y2 g0 g1 g2 g3 g4 g5 g7 g8 g9 g10 g6 e2
  have hwv : ∀ n, n < 61 → c_wv (t2.1 172) n = if n < a then 138 else 173 := by
    intro n hn
    unfold c_wv
    rw [g7, g8, g9, b_t (by omega), b_t (by omega)]
    by_cases c : n < a
    · rw [if_pos c, if_pos (by rw [b_lt (by omega) (by omega)]; exact c)]
    · rw [if_neg c, if_neg (by rw [b_lt (by omega) (by omega)]; exact c)]
  obtain ⟨t3, h1, h2, h3⟩ := c_go (o := 198) (op := 25) (oc := 172) (D := P.1) (C := m_trp P a r) (g := none) (last := 60) hV.1 (m_trpK hV hl a r) (by omega) (by omega) (fun q h => (by cases h)) (by omega) t2 P2.1 ⟨g1, ⟨g2, 0, by omega, g3, fun p hp => by simp⟩, c_SH_0 (fun _ _ => rfl) g10, fun n hn => c_rn_0 g6 hn⟩ (fun n hn => by
    rw [hwv n hn]
    by_cases c : n < a
    · have e : (m_trp P a r).2.2.2.2.2.2 n = y_N P.1 (m_BA P) := by
        show y_N P.1 (if n < a then m_BA P else w_ins (m_BA P) r) = _
        rw [if_pos c]
      rw [if_pos c, e]
      exact ⟨by omega, by omega, c_WY_NX hV.1 Y1⟩
    · have e : (m_trp P a r).2.2.2.2.2.2 n = y_N P.1 (w_ins (m_BA P) r) := by
        show y_N P.1 (if n < a then m_BA P else w_ins (m_BA P) r) = _
        rw [if_neg c]
      rw [if_neg c, e]
      exact ⟨by omega, by omega, c_WY_NX hV.1 Y2⟩) g0 g4 g5 (fun n p hn hp h => by cases h)
  have G := h3.1 (fun k hk q hq h => by cases h)
  refine ⟨t0, t1, t2, t3, z1, a1, e2, h1, c_mw_tr m2 (c_mw_fr h2 (fun c hc => by have : 198 ≤ c ∧ c < 198 + 9 := hc; omega)), ?_⟩
  exact c_firstAt (o := 198) t3 (wa := w_at P.1 (m_trp P a r)) (fun k hk => by rw [G.2.1 k hk, if_pos (by omega)]) (fun k q hq => by have := w_at_lt (m_trpK hV hl a r) hq; omega) hp (by omega)
theorem r_trap1 (hV : m_PV P) (hl : 0 < P.1.1 6) {a r pl : Nat} (ha : a < 61) (hr : r < 10) (hp : pl < 10) (s : AS) (hP : r_PA 0 P s) : ∃ t0 t1, fX9_lays s = some (t0, ()) ∧ fX9_runs (am_si (am_si t0 215 31 (nI a)) 215 32 (nI r)) = some (t1, ()) ∧ r_mv s t1 ∧ fX9_firstAt t1 (nI pl) (nI a) = some (oI (m_fi P (m_trp P a r) a pl)) := by
  have hV' := hV.1
  obtain ⟨v0, v4, v5, vr, vp, vg, vs, vr2, vo, vl, vz⟩ := hV'
  obtain ⟨t0, a1, a2, ⟨b1, b2, b3, b4, b5, b6, b7, b8⟩, a4⟩ := r_lays hV s hP
  have P1 := r_PA_PL (r_PA_eq hP (fun c _ _ => a4 c (by omega)))
  have m1 : r_mv s (am_si (am_si t0 215 31 (nI a)) 215 32 (nI r)) := r_mv_si (r_mv_si a2 _ (by omega)) _ (by omega)
  obtain ⟨t1, h1, h2, h3, h4⟩ := r_runs (D := P.1) (C := m_trp P a r) (tr := some (a, r)) (sh := m_BA P) hV.1 (m_trpK hV hl a r) (m_BA_lt hV) (fun n _ => by
    show y_N P.1 (if n < a then m_BA P else w_ins (m_BA P) r) = y_N P.1 (if a < n + 1 then w_ins (m_BA P) r else m_BA P)
    by_cases c : n < a
    · rw [if_pos c, if_neg (by omega)]
    · rw [if_neg c, if_pos (by omega)]) (am_si (am_si t0 215 31 (nI a)) 215 32 (nI r)) (r_PL_fr (R := fun c => c = 215) P1 (fr_si (R := fun c => c = 215) (fr_si (R := fun c => c = 215) (fr_refl _ t0) _ _ rfl) _ _ rfl) (fun c _ _ => by omega)) ⟨by simp (disch := omega) only [r_si, r_uo, b4], ⟨by simp (disch := omega) only [r_si, r_uo, b1], fun p hp => by
      simp (disch := omega) only [r_si, r_uo, b6]
      rw [b_nn (by omega)]
      exact ⟨fun z => z.elim, fun z => (by cases z)⟩⟩, fun n p hn hp => ⟨⟨fun z => (by cases z), fun z => by
        have := z.1
        simp (disch := omega) only [r_si, r_uo, b5] at this
        rw [b_nn (by omega)] at this
        exact this.elim⟩, fun x hx => (by cases hx)⟩, ⟨by simp (disch := omega) only [r_si, r_us, r_uo]; rfl, fun m k h => by
        injection h with h
        injection h with e1 e2
        subst e1 e2
        exact ⟨ha, hr, by rw [r_si, r_us]⟩⟩, fun n hn => r_rn_0 b8 hn⟩ (by simp (disch := omega) only [r_si, r_uo, b2]) (by simp (disch := omega) only [r_si, r_uo, b3])
  refine ⟨t0, t1, a1, h1, r_mv_runs m1 h2 h3, ?_⟩
  exact r_firstAt t1 (wa := w_at P.1 (m_trp P a r)) (fun k hk => h4.2.1 k hk) (fun k q hq => by have := w_at_lt (m_trpK hV hl a r) hq; omega) hp (by omega)
theorem m_fi_lt {C : w_C} {a pl k : Nat} (h : m_fi P C a pl = some k) : k < 61 := (y_fd_s.mp h).1
theorem Q_trap (a b : Int32) : m_OK (fun s => fX8_trap s a b) (fun s => fX9_trap s a b) := m_ok_q (fun M => m_st M a 61 && m_in b (M.2.2.1.1.1 0)) (fun M => oI (y_fd (fun r => (m_fi M.2.2.1 (m_trp M.2.2.1 a.toNatClampNeg r) a.toNatClampNeg b.toNatClampNeg).isNone) (M.2.2.1.1.1 4)))
  (fun M s hV hI => by
    unfold fX8_trap
    exact c_q2 hV hI (g8_step hI.1 hV) (g8_place hI.1) (fun hb _ => m_st_l hb) (fun hb hb2 t h1 h2 => by
      have hl := m_st_l hb
      obtain ⟨k, hk, rfl⟩ := m_st_k (by omega) hb
      obtain ⟨j, hj, hj2, rfl⟩ := k_place hV hb2
      have hP := m_MV_P hV
      have v4 := hP.1.2.1
      rw [b_t (by omega), b_t (by omega)]
      simp only [b_lq]
      refine sp_lq (fun f (x : AS) i => fX8_trap_L25 (nI k) (nI j) f x i) (M.2.2.1.1.1 4) (fun i x => c_mw t x ∧ ∀ r, r < i → (m_fi M.2.2.1 (m_trp M.2.2.1 k r) k j).isNone = false) (fun r => ∃ u, r = some (u, oI (y_fd (fun r => (m_fi M.2.2.1 (m_trp M.2.2.1 k r) k j).isNone) (M.2.2.1.1.1 4))) ∧ c_mw t u) (fun f i x hi hx => ?_) (fun f x hx => ?_) t ⟨c_mw_refl t, fun r h => by omega⟩ am_fu (am_fu_gt (by omega))
      · obtain ⟨k1, k2⟩ := hx
        have I1 := c_I_mw hV h1 k1
        have T1 := c_T_mw hP h2 k1
        have i10 : i < 10 := by omega
        have hba := m_BA_lt hP
        have e5 : x.1 25 5 = nI (M.2.2.1.1.1 4) := T_np I1.1.2.2.1.1 (j := 4) (by omega)
        have e47 : x.1 47 2 = nI (m_BA M.2.2.1) := I1.1.2.2.1.2.2.2.1
        obtain ⟨t0, t1, t2, t3, z0, z1, z2, z3, z4, z5⟩ := c_trap1 hP hl hk i10 hj2 x I1.1.2.2.1 T1.1
        cases hf : m_fi M.2.2.1 (m_trp M.2.2.1 k i) k j with
        | none =>
          right
          rw [hf] at z5
          refine ⟨t3, ?_, c_mw_tr k1 z4⟩
          rw [y_fd_s.mpr ⟨hi, by rw [hf]; rfl, k2⟩, fX8_trap_L25]
          simp (disch := omega) only [↓am_lq, b_lq, oI_q, e5, e47, b_sh, b_ins, b_le, z0, z1, z2, z3, z5, am_cq, am_rq, if_neg, if_true, oI_t]
        | some q =>
          have hq := m_fi_lt hf
          rw [hf, oI_s] at z5
          have b1 : (nI q = oI none) = False := b_nn (by omega)
          left
          refine ⟨t3, ⟨c_mw_tr k1 z4, fun r hr => ?_⟩, ?_⟩
          · by_cases e : r = i
            · rw [e, hf]; rfl
            · exact k2 r (by omega)
          · rw [fX8_trap_L25]
            simp (disch := omega) only [↓am_lq, b_lq, oI_q, e5, e47, b_sh, b_ins, b_le, b_add, z0, z1, z2, z3, z5, am_cq, am_rq, b1, if_neg, if_false]
      · obtain ⟨k1, k2⟩ := hx
        have I1 := c_I_mw hV h1 k1
        have e5 : x.1 25 5 = nI (M.2.2.1.1.1 4) := T_np I1.1.2.2.1.1 (j := 4) (by omega)
        refine ⟨x, ?_, k1⟩
        rw [fX8_trap_L25, y_fd_n.mpr k2]
        simp (disch := omega) only [b_lq, oI_q, e5, b_le, if_pos, if_true]))
  (fun M s hV hI => by
    obtain ⟨I1, m1⟩ := r_0 hI
    unfold fX9_trap
    simp only [↓am_lq, b_lq]
    rw [g9_step I1 hV, am_rq, m_if0]
    cases hb : m_st M a 61 with
    | false => exact ⟨_, rfl, I1, m1.1⟩
    | true =>
      rw [if_pos rfl, g9_place I1 hV, am_rq, m_if0]
      cases hb2 : m_in b (M.2.2.1.1.1 0) with
      | false => exact ⟨_, rfl, I1, m1.1⟩
      | true =>
        have hl := m_st_l hb
        obtain ⟨k, hk, rfl⟩ := m_st_k (by omega) hb
        obtain ⟨j, hj, hj2, rfl⟩ := k_place hV hb2
        have hP := m_MV_P hV
        have v4 := hP.1.2.1
        rw [if_pos rfl, if_pos (show (true && true) = true from rfl), b_t (by omega), b_t (by omega)]
        generalize am_si s 215 0 (nI 0) = s1 at I1 m1
        have key : ∃ u, fX9_trap_L27 (nI k) (nI j) am_fu s1 (nI 0) = some (u, oI (y_fd (fun r => (m_fi M.2.2.1 (m_trp M.2.2.1 k r) k j).isNone) (M.2.2.1.1.1 4))) ∧ r_mv s1 u := by
          refine sp_lq (fun f (x : AS) i => fX9_trap_L27 (nI k) (nI j) f x i) (M.2.2.1.1.1 4) (fun i x => r_mv s1 x ∧ ∀ r, r < i → (m_fi M.2.2.1 (m_trp M.2.2.1 k r) k j).isNone = false) (fun r => ∃ u, r = some (u, oI (y_fd (fun r => (m_fi M.2.2.1 (m_trp M.2.2.1 k r) k j).isNone) (M.2.2.1.1.1 4))) ∧ r_mv s1 u) (fun f i x hi hx => ?_) (fun f x hx => ?_) s1 ⟨r_mv_refl s1, fun r h => by omega⟩ am_fu (am_fu_gt (by omega))
          · obtain ⟨k1, k2⟩ := hx
            have I2 := r_I_mv I1 k1
            have i10 : i < 10 := by omega
            have e5 : x.1 222 4 = nI (M.2.2.1.1.1 4) := (r_PA_PL I2.2.2.1).1 4 (by omega)
            obtain ⟨t0, t1, z0, z1, z2, z3⟩ := r_trap1 hP hl hk i10 hj2 x I2.2.2.1
            cases hf : m_fi M.2.2.1 (m_trp M.2.2.1 k i) k j with
            | none =>
              right
              rw [hf] at z3
              refine ⟨t1, ?_, r_mv_tr k1 z2⟩
              rw [y_fd_s.mpr ⟨hi, by rw [hf]; rfl, k2⟩, fX9_trap_L27]
              simp (disch := omega) only [↓am_lq, b_lq, oI_q, e5, b_le, b_lt, b_t, am_g_t, z0, z1, z3, am_cq, am_rq, if_neg, if_true, oI_t]
            | some q =>
              have hq := m_fi_lt hf
              rw [hf, oI_s] at z3
              have b1 : (nI q = oI none) = False := b_nn (by omega)
              left
              refine ⟨t1, ⟨r_mv_tr k1 z2, fun r hr => ?_⟩, ?_⟩
              · by_cases e : r = i
                · rw [e, hf]; rfl
                · exact k2 r (by omega)
              · rw [fX9_trap_L27]
                simp (disch := omega) only [↓am_lq, b_lq, oI_q, e5, b_le, b_lt, b_t, b_add, am_g_t, z0, z1, z3, am_cq, am_rq, b1, if_neg, if_false]
          · obtain ⟨k1, k2⟩ := hx
            have I2 := r_I_mv I1 k1
            have e5 : x.1 222 4 = nI (M.2.2.1.1.1 4) := (r_PA_PL I2.2.2.1).1 4 (by omega)
            refine ⟨x, ?_, k1⟩
            rw [fX9_trap_L27, y_fd_n.mpr k2]
            simp (disch := omega) only [b_lq, oI_q, e5, b_le, b_lt, b_t, am_g_t, if_pos, if_true]
        obtain ⟨u, u1, u2⟩ := key
        exact ⟨u, u1, r_I_mv I1 u2, r_F_tr m1.1 u2.1⟩)
end TP
