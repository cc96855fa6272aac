/-! WOULD: stop, stops. -/
section ST
variable {M : m_M} {s t : AS} {P : m_P}
/-- the cheapest that will do, of the first n -/
def m_sel (c : Nat → Nat) (ok : Nat → Bool) : Nat → Option Nat
  | 0 => none
  | n + 1 => match m_sel c ok n with
    | none => if ok n = true then some n else none
    | some b => if c n < c b then (if ok n = true then some n else some b) else some b
theorem m_sel_s (c : Nat → Nat) (ok : Nat → Bool) (n : Nat) : m_sel c ok (n + 1) = match m_sel c ok n with
    | none => if ok n = true then some n else none
    | some b => if c n < c b then (if ok n = true then some n else some b) else some b := Eq.trans rfl rfl
theorem m_sel_lt {c : Nat → Nat} {ok : Nat → Bool} : ∀ {n b : Nat}, m_sel c ok n = some b → b < n
  | 0, b, h => by cases h
  | n + 1, b, h => by
    rw [m_sel_s] at h
    cases h1 : m_sel c ok n with
    | none =>
      rw [h1] at h
      dsimp only at h
      split at h
      · injection h with h; omega
      · cases h
    | some d =>
      have := m_sel_lt h1
      rw [h1] at h
      dsimp only at h
      split at h
      · split at h
        · injection h with h; omega
        · injection h with h; omega
      · injection h with h; omega
/-- with these answered -/
abbrev m_ac (P : m_P) (A : Nat) : w_C := m_X P (P.1.1 1) (P.1.1 2) A (fun _ => false) (m_BA P)
/-- it comes to pl -/
def m_cs (P : m_P) (C : w_C) (pl : Nat) : Bool := (y_fd (fun k => decide (0 ≤ k) && (w_at P.1 C k == some pl)) 61).isSome
theorem m_cs_t {C : w_C} {pl : Nat} : m_cs P C pl = true ↔ ∃ k, k ≤ 60 ∧ w_at P.1 C k = some pl := by
  unfold m_cs
  cases h : y_fd (fun k => decide (0 ≤ k) && (w_at P.1 C k == some pl)) 61 with
  | none =>
    have a := y_fd_n.mp h
    refine ⟨fun z => (by cases z), fun ⟨k, h1, h2⟩ => ?_⟩
    have := a k (by omega)
    rw [h2] at this
    simp at this
  | some k =>
    obtain ⟨a, b, -⟩ := y_fd_s.mp h
    refine ⟨fun _ => ⟨k, by omega, ?_⟩, fun _ => rfl⟩
    rw [Bool.and_eq_true] at b
    exact eq_of_beq b.2
theorem c_comesA (hV : m_PV P) (hl : 0 < P.1.1 6) {A pl : Nat} (hA : A < 1024) (hp : pl < 10) (s : AS) (hP : c_PA 25 47 P s) (hY : c_WY 138 P.1 (m_BA P) s) : ∃ t, fX8_comesAnswered s (nI pl) (nI A) = some (t, nI (m_cs P (m_ac P A) pl).toNat) ∧ c_mw s t := by
  have hV' := hV.1
  obtain ⟨v0, v4, v5, vr, vp, vg, vs, vr2, vo, vl, vz⟩ := hV'
  obtain ⟨t1, a1, a2, a3, a4⟩ := c_asItIs s hP
  obtain ⟨b0, b1, b2, b3, b4, b5, b7, b8, b9, b10, b11, b12, b6⟩ := a3
  have m2 : c_mw s (am_si (am_si t1 172 2 (nI A)) 172 4 (nI pl)) := c_mw_tr a2 ⟨fun c hc => by rw [r_so _ _ _ (by omega), r_so _ _ _ (by omega)], fun _ _ => rfl⟩
  obtain ⟨t2, d1, d2, d3, d4⟩ := c_wd (K := fun _ => false) (g := some pl) (last := 60) (v := 138) (sh := m_BA P) (x := P.1.1 1) (y := P.1.1 2) (A := A) hV (vs hl) vr2 hA (fun q h => by injection h with h; omega) (by omega) (.inl rfl) (am_si (am_si t1 172 2 (nI A)) 172 4 (nI pl)) (c_PA_eq hP hV (fun c _ _ => m2.1 c (by omega)) (fun c _ _ => m2.1 c (by omega))).1 (by simp (disch := omega) only [r_si, r_uo, b0]) (by simp (disch := omega) only [r_si, r_uo, b1]) (by simp (disch := omega) only [r_si, r_us, r_uo]) ⟨0, by omega, by simp (disch := omega) only [r_si, r_uo, b3], fun p hp => by simp⟩ (by simp (disch := omega) only [r_si, r_us]; rfl) (by simp (disch := omega) only [r_si, r_uo, b5]) (by simp (disch := omega) only [r_si, r_uo, b7]) (by simp (disch := omega) only [r_si, r_uo, b8]) (by simp (disch := omega) only [r_si, r_uo, b10]) b6 (c_WY_eq hV.1 hY (fun c _ _ => m2.1 c (by omega)))
  obtain ⟨se, s1, s2, s3⟩ := d4.2
  have e : se.testBit pl = m_cs P (m_ac P A) pl := by
    have := s3 pl (.inr rfl)
    rw [← m_cs_t] at this
    exact Bool.eq_iff_iff.mpr this
  refine ⟨t2, ?_, c_mw_tr m2 d2⟩
  unfold fX8_comesAnswered
  rw [a1, am_cq]
  simp (disch := omega) only [↓am_lq, b_lq, d1, am_cq, s2, c_holds, am_rq, e]
  cases m_cs P (m_ac P A) pl
  · exact am_g_t (.inl rfl)
  · exact am_g_t (.inr rfl)
theorem c_stopping {M : m_M} (hV : m_MV M) (hl : 0 < M.2.2.1.1.1 6) {pl : Nat} (hp : pl < 10) (s : AS) (hI : c_I M s) : ∃ t, fX8_stoppingSet s (nI pl) = some (t, oI (m_sel (m_cost M.2.2.1.1) (fun A => !m_cs M.2.2.1 (m_ac M.2.2.1 A) pl) 64)) ∧ c_I M t ∧ c_F s t := by
  have hP := m_MV_P hV
  obtain ⟨t, h1, h2, h3, h4, -⟩ := c_tell hV hl s hI
  have key : ∃ u, fX8_stoppingSet_L8 (nI pl) am_fu t (oI none) (nI 0) = some (u, oI (m_sel (m_cost M.2.2.1.1) (fun A => !m_cs M.2.2.1 (m_ac M.2.2.1 A) pl) 64)) ∧ c_mw t u := by
    refine sp_lq (fun f (x : AS × Int32) i => fX8_stoppingSet_L8 (nI pl) f x.1 x.2 i) 64 (fun i x => c_mw t x.1 ∧ x.2 = oI (m_sel (m_cost M.2.2.1.1) (fun A => !m_cs M.2.2.1 (m_ac M.2.2.1 A) pl) i)) (fun r => ∃ u, r = some (u, oI (m_sel (m_cost M.2.2.1.1) (fun A => !m_cs M.2.2.1 (m_ac M.2.2.1 A) pl) 64)) ∧ c_mw t u) (fun f i x hi hx => ?_) (fun f x hx => ?_) (t, oI none) ⟨c_mw_refl t, rfl⟩ am_fu (am_fu_gt (by omega))
    · left
      obtain ⟨u, x⟩ := x
      obtain ⟨k1, k2⟩ := hx
      dsimp only at k1 k2 ⊢
      subst k2
      have I1 := c_I_mw hV h2 k1
      have T1 := c_T_mw hP h3 k1
      have m1 := m_cost_le hP.1 i
      have c1 := c_costOf I1.1.2.2.1.1 (set := i) (by omega)
      obtain ⟨w, w1, w2⟩ := c_comesA hP hl (A := i) (by omega) hp u I1.1.2.2.1 T1.1
      rw [fX8_stoppingSet_L8]
      cases hs : m_sel (m_cost M.2.2.1.1) (fun A => !m_cs M.2.2.1 (m_ac M.2.2.1 A) pl) i with
      | none =>
        refine ⟨(w, oI (m_sel (m_cost M.2.2.1.1) (fun A => !m_cs M.2.2.1 (m_ac M.2.2.1 A) pl) (i + 1))), ⟨c_mw_tr k1 w2, rfl⟩, ?_⟩
        rw [m_sel_s, hs]
        cases hc : m_cs M.2.2.1 (m_ac M.2.2.1 i) pl <;> rw [hc] at w1 <;> simp (disch := omega) only [↓am_lq, b_lq, oI_q, b_le, b_lt, b_eq, b_t, b_add, w1, am_cq, b_tt, b_tf, if_neg, if_true, if_false, Bool.not_true, Bool.not_false, Bool.false_eq_true, oI_t]
      | some b =>
        have hb := m_sel_lt hs
        have m2 := m_cost_le hP.1 b
        have c2 := c_costOf I1.1.2.2.1.1 (set := b) (by omega)
        have b1 : (nI b = oI none) = False := b_nn (by omega)
        by_cases c : m_cost M.2.2.1.1 i < m_cost M.2.2.1.1 b
        · refine ⟨(w, oI (m_sel (m_cost M.2.2.1.1) (fun A => !m_cs M.2.2.1 (m_ac M.2.2.1 A) pl) (i + 1))), ⟨c_mw_tr k1 w2, rfl⟩, ?_⟩
          rw [m_sel_s, hs]
          cases hc : m_cs M.2.2.1 (m_ac M.2.2.1 i) pl <;> rw [hc] at w1 <;> simp (disch := omega) only [↓am_lq, b_lq, oI_q, b_le, b_lt, b_eq, b_t, b_add, w1, am_cq, b_tt, b_tf, b1, c1, c2, am_rq, c, if_pos, if_neg, if_true, if_false, Bool.not_true, Bool.not_false, Bool.false_eq_true, oI_t]
        · refine ⟨(u, oI (m_sel (m_cost M.2.2.1.1) (fun A => !m_cs M.2.2.1 (m_ac M.2.2.1 A) pl) (i + 1))), ⟨k1, rfl⟩, ?_⟩
          rw [m_sel_s, hs]
          simp (disch := omega) only [↓am_lq, b_lq, oI_q, b_le, b_lt, b_eq, b_t, b_add, b1, c1, c2, am_rq, c, if_pos, if_neg, if_true, if_false, oI_t]
    · obtain ⟨u, x⟩ := x
      obtain ⟨k1, k2⟩ := hx
      dsimp only at k1 k2 ⊢
      subst k2
      refine ⟨u, ?_, k1⟩
      rw [fX8_stoppingSet_L8]
      simp (disch := omega) only [b_lq, b_le, if_pos, if_true]
  obtain ⟨u, u1, u2⟩ := key
  refine ⟨u, ?_, c_I_mw hV h2 u2, c_F_tr h4 (c_mw_F u2)⟩
  unfold fX8_stoppingSet
  rw [h1, am_cq]
  exact u1
theorem r_stops (hV : m_PV P) (hl : 0 < P.1.1 6) {pl : Nat} (hp : pl < 10) (s : AS) (hP : r_PA 0 P s) : ∃ t, fX9_stopsOf s (nI pl) = some (t, oI (m_sel (m_cost P.1) (fun A => !m_cs P (m_ac P A) pl) 64)) ∧ r_mv s t ∧ r_PL P.1 t := by
  have hV' := hV.1
  obtain ⟨v0, v4, v5, vr, vp, vg, vs, vr2, vo, vl, vz⟩ := hV'
  obtain ⟨t, a1, a2, a3, a4⟩ := r_lays hV s hP
  have P1 := r_PA_PL (r_PA_eq hP (fun c _ _ => a4 c (by omega)))
  have key : ∃ u, fX9_stopsOf_L8 (nI pl) am_fu t (oI none) (nI 0) = some (u, oI (m_sel (m_cost P.1) (fun A => !m_cs P (m_ac P A) pl) 64)) ∧ r_mv t u ∧ r_PL P.1 u := by
    refine sp_lq (fun f (x : AS × Int32) i => fX9_stopsOf_L8 (nI pl) f x.1 x.2 i) 64 (fun i x => (r_mv t x.1 ∧ r_PL P.1 x.1 ∧ ∃ A, r_W (P.1.1 1) (P.1.1 2) A (m_BA P) none x.1) ∧ x.2 = oI (m_sel (m_cost P.1) (fun A => !m_cs P (m_ac P A) pl) i)) (fun r => ∃ u, r = some (u, oI (m_sel (m_cost P.1) (fun A => !m_cs P (m_ac P A) pl) 64)) ∧ r_mv t u ∧ r_PL P.1 u) (fun f i x hi hx => ?_) (fun f x hx => ?_) (t, oI none) ⟨⟨r_mv_refl t, P1, m_AN P, a3⟩, rfl⟩ am_fu (am_fu_gt (by omega))
    · left
      obtain ⟨u, x⟩ := x
      obtain ⟨⟨k1, k3, A, k4⟩, k2⟩ := hx
      dsimp only at k1 k2 k3 k4 ⊢
      subst k2
      have m1 := m_cost_le hV.1 i
      have c1 := r_costOf k3 (set := i) (by omega)
      have k5 : r_mv u (am_si u 215 23 (nI i)) := r_mv_si (r_mv_refl u) _ (by omega)
      have k4' := k4
      obtain ⟨d1, d2, d3, d4, d5, d6, d7, d8⟩ := k4
      obtain ⟨w, w1, w2, w3, w4, w5, w6⟩ := r_wd (K := fun _ => false) (ab := none) (x := P.1.1 1) (y := P.1.1 2) (A := i) (sh := m_BA P) hV (vs hl) vr2 (by omega) (m_BA_lt hV) (fun q hq => by rw [b_nn (by omega)]; exact ⟨fun z => z.elim, fun z => (by cases z)⟩) (am_si u 215 23 (nI i)) (r_PL_fr (R := fun c => c = 215) k3 (fr_si (fr_refl _ u) _ _ rfl) (fun c _ _ => by omega)) ⟨by rw [r_si, r_us], by simp (disch := omega) only [r_si, r_uo, d2], by simp (disch := omega) only [r_si, r_uo, d3], by simp (disch := omega) only [r_si, r_uo, d4], by simp (disch := omega) only [r_si, r_uo, d5], by simp (disch := omega) only [r_si, r_uo, d6], by simp (disch := omega) only [r_si, r_uo, d7], d8⟩
      have f1 := r_firstAt w (wa := w_at P.1 (m_ac P i)) (fun k hk => w5.2.1 k hk) (fun k q hq => by have := w_at_lt (m_XK hV (vs hl) vr2 (by omega)) hq; omega) hp (from_ := 0) (by omega)
      have e : ∀ {α : Type} (X Y : α), (if oI (y_fd (fun k => decide (0 ≤ k) && (w_at P.1 (m_ac P i) k == some pl)) 61) = oI none then X else Y) = if m_cs P (m_ac P i) pl = true then Y else X := by
        intro α X Y
        unfold m_cs
        cases h : y_fd (fun k => decide (0 ≤ k) && (w_at P.1 (m_ac P i) k == some pl)) 61 with
        | none => rw [if_pos rfl, if_neg (by simp)]
        | some k =>
          have := (y_fd_s.mp h).1
          rw [oI_s, if_neg (by rw [b_nn (by omega)]; exact fun z => z), if_pos (show (some k).isSome = true from rfl)]
      rw [fX9_stopsOf_L8]
      have fin : (fun A => !m_cs P (m_ac P A) pl) i = !m_cs P (m_ac P i) pl := rfl
      cases hs : m_sel (m_cost P.1) (fun A => !m_cs P (m_ac P A) pl) i with
      | none =>
        refine ⟨(w, oI (m_sel (m_cost P.1) (fun A => !m_cs P (m_ac P A) pl) (i + 1))), ⟨⟨r_mv_tr (r_mv_tr k1 k5) w2, w4, i, w3⟩, rfl⟩, ?_⟩
        rw [m_sel_s, hs]
        simp (disch := omega) only [↓am_lq, b_lq, oI_q, b_le, b_lt, b_eq, b_t, b_add, w1, am_cq, f1, am_rq, e, if_neg, if_true, if_false]
        cases hc : m_cs P (m_ac P i) pl <;> simp only [if_true, if_false, Bool.not_true, Bool.not_false, Bool.false_eq_true, oI_t]
      | some b =>
        have hb := m_sel_lt hs
        have m2 := m_cost_le hV.1 b
        have c2 := r_costOf k3 (set := b) (by omega)
        have b1 : (nI b = oI none) = False := b_nn (by omega)
        by_cases c : m_cost P.1 i < m_cost P.1 b
        · refine ⟨(w, oI (m_sel (m_cost P.1) (fun A => !m_cs P (m_ac P A) pl) (i + 1))), ⟨⟨r_mv_tr (r_mv_tr k1 k5) w2, w4, i, w3⟩, rfl⟩, ?_⟩
          rw [m_sel_s, hs]
          simp (disch := omega) only [↓am_lq, b_lq, oI_q, b_le, b_lt, b_eq, b_t, b_add, b1, c1, c2, c, w1, am_cq, f1, am_rq, e, if_neg, if_true, if_false, oI_t]
          cases hc : m_cs P (m_ac P i) pl <;> simp only [if_true, if_false, Bool.not_true, Bool.not_false, Bool.false_eq_true, oI_t]
        · refine ⟨(u, oI (m_sel (m_cost P.1) (fun A => !m_cs P (m_ac P A) pl) (i + 1))), ⟨⟨k1, k3, A, k4'⟩, rfl⟩, ?_⟩
          rw [m_sel_s, hs]
          simp (disch := omega) only [↓am_lq, b_lq, oI_q, b_le, b_lt, b_eq, b_t, b_add, b1, c1, c2, c, am_rq, if_neg, if_true, if_false, oI_t]
    · obtain ⟨u, x⟩ := x
      obtain ⟨⟨k1, k3, A, k4⟩, k2⟩ := hx
      dsimp only at k1 k2 k3 k4 ⊢
      subst k2
      refine ⟨u, ?_, k1, k3⟩
      rw [fX9_stopsOf_L8]
      simp (disch := omega) only [b_lq, b_le, if_pos, if_true]
  obtain ⟨u, u1, u2, u3⟩ := key
  refine ⟨u, ?_, r_mv_tr a2 u2, u3⟩
  unfold fX9_stopsOf
  rw [a1, am_cq]
  exact u1
theorem Q_stops (a : Int32) : m_OK (fun s => fX8_stops s a) (fun s => fX9_stops s a) := m_ok_q (fun M => m_in a (M.2.2.1.1.1 0)) (fun M => oI (m_sel (m_cost M.2.2.1.1) (fun A => !m_cs M.2.2.1 (m_ac M.2.2.1 A) a.toNatClampNeg) 64))
  (fun M s hV hI => by
    unfold fX8_stops
    rw [g8_place hI.1, am_rq]
    simp only [↓am_lq, b_lq, m_if0]
    cases hb : m_in a (M.2.2.1.1.1 0) with
    | false => exact ⟨s, rfl, hI, fun _ _ => ⟨rfl, rfl⟩⟩
    | true =>
      obtain ⟨j, hj, hj2, rfl⟩ := k_place hV hb
      obtain ⟨t, h1, h2, h3⟩ := c_stopping hV (hl_place hV hb) hj2 s hI
      refine ⟨t, ?_, h2, h3⟩
      rw [if_pos rfl, if_pos rfl, h1, am_cq, b_t (by omega)])
  (fun M s hV hI => by
    obtain ⟨I1, m1⟩ := r_0 hI
    unfold fX9_stops
    simp only [↓am_lq, b_lq]
    rw [g9_place I1 hV, am_rq, m_if0]
    cases hb : m_in a (M.2.2.1.1.1 0) with
    | false => exact ⟨_, rfl, I1, m1.1⟩
    | true =>
      obtain ⟨j, hj, hj2, rfl⟩ := k_place hV hb
      obtain ⟨t, h1, h2, h3⟩ := r_stops (m_MV_P hV) (hl_place hV hb) hj2 _ I1.2.2.1
      refine ⟨t, ?_, r_I_mv I1 h2, r_F_tr m1.1 h2.1⟩
      rw [if_pos rfl, if_pos rfl, h1, am_cq, b_t (by omega)])
theorem Q_stop (a : Int32) : m_OK (fun s => fX8_stop s a) (fun s => fX9_stop s a) := m_ok_q (fun M => m_in a (M.2.2.1.1.1 0)) (fun M => oI ((m_sel (m_cost M.2.2.1.1) (fun A => !m_cs M.2.2.1 (m_ac M.2.2.1 A) a.toNatClampNeg) 64).map (m_cost M.2.2.1.1)))
  (fun M s hV hI => by
    unfold fX8_stop
    rw [g8_place hI.1, am_rq]
    simp only [↓am_lq, b_lq, m_if0]
    cases hb : m_in a (M.2.2.1.1.1 0) with
    | false => exact ⟨s, rfl, hI, fun _ _ => ⟨rfl, rfl⟩⟩
    | true =>
      obtain ⟨j, hj, hj2, rfl⟩ := k_place hV hb
      obtain ⟨t, h1, h2, h3⟩ := c_stopping hV (hl_place hV hb) hj2 s hI
      refine ⟨t, ?_, h2, h3⟩
      rw [if_pos rfl, if_pos rfl, h1, am_cq, b_t (by omega)]
      cases hs : m_sel (m_cost M.2.2.1.1) (fun A => !m_cs M.2.2.1 (m_ac M.2.2.1 A) j) 64 with
      | none => rfl
      | some b =>
        have hb := m_sel_lt hs
        rw [oI_s, oI_q, if_neg (by rw [b_nn (by omega)]; exact fun z => z), c_costOf h2.1.2.2.1.1 (by omega), am_rq]
        rfl)
  (fun M s hV hI => by
    obtain ⟨I1, m1⟩ := r_0 hI
    unfold fX9_stop
    simp only [↓am_lq, b_lq]
    rw [g9_place I1 hV, am_rq, m_if0]
    cases hb : m_in a (M.2.2.1.1.1 0) with
    | false => exact ⟨_, rfl, I1, m1.1⟩
    | true =>
      obtain ⟨j, hj, hj2, rfl⟩ := k_place hV hb
      obtain ⟨t, h1, h2, h3⟩ := r_stops (m_MV_P hV) (hl_place hV hb) hj2 _ I1.2.2.1
      refine ⟨t, ?_, r_I_mv I1 h2, r_F_tr m1.1 h2.1⟩
      rw [if_pos rfl, if_pos rfl, h1, am_cq, b_t (by omega)]
      cases hs : m_sel (m_cost M.2.2.1.1) (fun A => !m_cs M.2.2.1 (m_ac M.2.2.1 A) j) 64 with
      | none => rfl
      | some b =>
        have hb := m_sel_lt hs
        rw [oI_s, oI_q, if_neg (by rw [b_nn (by omega)]; exact fun z => z), r_costOf h3 (by omega), am_rq]
        rfl)
end ST
