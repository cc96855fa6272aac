/-! WOULD: ends, soonest. -/
section EN
variable {M : m_M} {s t : AS} {P : m_P}
def m_oa (P : m_P) (A : Nat) : Option Nat := w_on P.1 (m_ac P A) 61
/-- which set ends it soonest, and when, of the first n -/
def m_end (P : m_P) : Nat → Option (Nat × Nat)
  | 0 => none
  | n + 1 => match m_oa P n with
    | none => m_end P n
    | some o => match m_end P n with
      | none => some (n, o)
      | some (b, q) => if o < q then some (n, o) else if o = q then (if m_cost P.1 n < m_cost P.1 b then some (n, o) else some (b, q)) else some (b, q)
theorem m_end_s (P : m_P) (n : Nat) : m_end P (n + 1) = match m_oa P n with
    | none => m_end P n
    | some o => match m_end P n with
      | none => some (n, o)
      | some (b, q) => if o < q then some (n, o) else if o = q then (if m_cost P.1 n < m_cost P.1 b then some (n, o) else some (b, q)) else some (b, q) := Eq.trans rfl rfl
theorem m_end_p {P : m_P} : ∀ {n b q : Nat}, m_end P n = some (b, q) → b < n ∧ m_oa P b = some q
  | 0, b, q, h => by cases h
  | n + 1, b, q, h => by
    rw [m_end_s] at h
    cases ho : m_oa P n with
    | none =>
      rw [ho] at h
      have := m_end_p (n := n) h
      exact ⟨by omega, this.2⟩
    | some o =>
      rw [ho] at h
      dsimp only at h
      have new : some (n, o) = some (b, q) → b < n + 1 ∧ m_oa P b = some q := fun e => by
        injection e with e
        injection e with e1 e2
        subst e1; subst e2
        exact ⟨by omega, ho⟩
      cases h1 : m_end P n with
      | none => rw [h1] at h; exact new h
      | some x =>
        obtain ⟨b', q'⟩ := x
        have old : some (b', q') = some (b, q) → b < n + 1 ∧ m_oa P b = some q := fun e => by
          have := m_end_p (n := n) (h1.trans e)
          exact ⟨by omega, this.2⟩
        rw [h1] at h
        dsimp only at h
        split at h
        · exact new h
        · split at h
          · split at h
            · exact new h
            · exact old h
          · exact old h
theorem m_oa_lt {A o : Nat} (h : m_oa P A = some o) : o < 61 := w_on_lt h
theorem c_overA (hV : m_PV P) (hl : 0 < P.1.1 6) {A : Nat} (hA : A < 1024) (s : AS) (hP : c_PA 25 47 P s) (hY : c_WY 138 P.1 (m_BA P) s) : ∃ t, fX8_overAnswered s (nI A) = some (t, oI (m_oa P A)) ∧ c_mw s t := by
  have hV' := hV.1
  obtain ⟨v0, v4, v5, vr, vp, vg, vs, vr2, vo, vl, vz⟩ := hV'
  obtain ⟨t1, a1, a2, a3, a4⟩ := c_asItIs s hP
  obtain ⟨b0, b1, b2, b3, b4, b5, b7, b8, b9, b10, b11, b12, b6⟩ := a3
  have m2 : c_mw s (am_si t1 172 2 (nI A)) := c_mw_tr a2 ⟨fun c hc => by rw [r_so _ _ _ (by omega)], fun _ _ => rfl⟩
  obtain ⟨t2, d1, d2, d3, d4⟩ := c_wd (K := fun _ => false) (g := none) (last := 60) (v := 138) (sh := m_BA P) (x := P.1.1 1) (y := P.1.1 2) (A := A) hV (vs hl) vr2 hA (fun q h => by cases h) (by omega) (.inl rfl) (am_si t1 172 2 (nI A)) (c_PA_eq hP hV (fun c _ _ => m2.1 c (by omega)) (fun c _ _ => m2.1 c (by omega))).1 (by simp (disch := omega) only [r_si, r_uo, b0]) (by simp (disch := omega) only [r_si, r_uo, b1]) (by simp (disch := omega) only [r_si, r_us, r_uo]) ⟨0, by omega, by simp (disch := omega) only [r_si, r_uo, b3], fun p hp => by simp⟩ (by simp (disch := omega) only [r_si, r_uo, b4]) (by simp (disch := omega) only [r_si, r_uo, b5]) (by simp (disch := omega) only [r_si, r_uo, b7]) (by simp (disch := omega) only [r_si, r_uo, b8]) (by simp (disch := omega) only [r_si, r_uo, b10]) b6 (c_WY_eq hV.1 hY (fun c _ _ => m2.1 c (by omega)))
  have G := d4.1 (fun k hk q hq h => by cases h)
  refine ⟨t2, ?_, c_mw_tr m2 d2⟩
  unfold fX8_overAnswered
  rw [a1, am_cq]
  simp (disch := omega) only [↓am_lq, b_lq, d1, am_cq]
  rw [show t2.1 198 6 = oI (m_oa P A) from G.2.2.2.2.1]
theorem c_ending {M : m_M} (hV : m_MV M) (hl : 0 < M.2.2.1.1.1 6) (s : AS) (hI : c_I M s) : ∃ t, fX8_endingSet s = some (t, oI ((m_end M.2.2.1 64).map fun x => x.1)) ∧ c_I M t ∧ c_T M.2.2.1 t ∧ c_F s t := by
  have hP := m_MV_P hV
  obtain ⟨t, h1, h2, h3, h4, -⟩ := c_tell hV hl s hI
  have key : ∃ u, fX8_endingSet_L11 am_fu t (oI none) (nI 61) (nI 0) = some (u, oI ((m_end M.2.2.1 64).map fun x => x.1)) ∧ c_mw t u := by
    refine sp_lq (fun f (x : AS × Int32 × Int32) i => fX8_endingSet_L11 f x.1 x.2.1 x.2.2 i) 64 (fun i x => c_mw t x.1 ∧ x.2.1 = oI ((m_end M.2.2.1 i).map fun x => x.1) ∧ x.2.2 = nI (((m_end M.2.2.1 i).map fun x => x.2).getD 61)) (fun r => ∃ u, r = some (u, oI ((m_end M.2.2.1 64).map fun x => x.1)) ∧ c_mw t u) (fun f i x hi hx => ?_) (fun f x hx => ?_) (t, oI none, nI 61) ⟨c_mw_refl t, rfl, rfl⟩ am_fu (am_fu_gt (by omega))
    · left
      obtain ⟨u, x, y⟩ := x
      obtain ⟨k1, k2, k3⟩ := hx
      dsimp only at k1 k2 k3 ⊢
      subst k2 k3
      have I1 := c_I_mw hV h2 k1
      have T1 := c_T_mw hP h3 k1
      obtain ⟨w, w1, w2⟩ := c_overA hP hl (A := i) (by omega) u I1.1.2.2.1 T1.1
      have k4 := c_mw_tr k1 w2
      have I2 := c_I_mw hV h2 k4
      have m1 := m_cost_le hP.1 i
      have c1 := c_costOf I2.1.2.2.1.1 (set := i) (by omega)
      refine ⟨(w, oI ((m_end M.2.2.1 (i + 1)).map fun x => x.1), nI (((m_end M.2.2.1 (i + 1)).map fun x => x.2).getD 61)), ⟨k4, rfl, rfl⟩, ?_⟩
      rw [fX8_endingSet_L11, m_end_s]
      dsimp only
      cases he : m_end M.2.2.1 i with
      | none =>
        cases ho : m_oa M.2.2.1 i with
        | none =>
          rw [ho] at w1
          simp (disch := omega) only [↓am_lq, b_lq, oI_q, b_le, b_lt, b_eq, b_t, b_add, w1, am_cq, if_neg, if_true, if_false, Option.map_none, Option.getD_none]
        | some o =>
          have h61 := m_oa_lt ho
          have b1 : (nI o = oI none) = False := b_nn (by omega)
          rw [ho, oI_s] at w1
          simp (disch := omega) only [↓am_lq, b_lq, oI_q, b_le, b_lt, b_eq, b_t, b_add, w1, am_cq, b1, if_pos, if_neg, if_true, if_false, Option.map_none, Option.getD_none, Option.map_some, Option.getD_some, oI_t]
      | some z =>
        obtain ⟨b, q⟩ := z
        have hb := m_end_p he
        have hq := m_oa_lt hb.2
        have m2 := m_cost_le hP.1 b
        have c2 := c_costOf I2.1.2.2.1.1 (set := b) (by omega)
        have b2 : (nI b = oI none) = False := b_nn (by omega)
        have b3 : (nI q = oI none) = False := b_nn (by omega)
        cases ho : m_oa M.2.2.1 i with
        | none =>
          rw [ho] at w1
          by_cases c : m_cost M.2.2.1.1 i < m_cost M.2.2.1.1 b
          · simp (disch := omega) only [↓am_lq, b_lq, oI_q, b_le, b_lt, b_eq, b_t, b_add, w1, am_cq, b2, c1, c2, c, am_rq, if_neg, if_true, if_false, Option.map_some, Option.getD_some, oI_t]
          · simp (disch := omega) only [↓am_lq, b_lq, oI_q, b_le, b_lt, b_eq, b_t, b_add, w1, am_cq, b2, c1, c2, c, am_rq, if_pos, if_neg, if_true, if_false, Option.map_some, Option.getD_some, oI_t]
        | some o =>
          have h61 := m_oa_lt ho
          have b1 : (nI o = oI none) = False := b_nn (by omega)
          rw [ho, oI_s] at w1
          by_cases c : m_cost M.2.2.1.1 i < m_cost M.2.2.1.1 b
          · have c' : (m_cost M.2.2.1.1 b ≤ m_cost M.2.2.1.1 i) = False := eq_false (by omega)
            by_cases d : o < q
            · simp (disch := omega) only [↓am_lq, b_lq, oI_q, b_le, b_lt, b_eq, b_t, b_add, w1, am_cq, b1, b2, c1, c2, c, c', d, am_rq, if_true, if_false, if_neg, Option.map_some, Option.getD_some, oI_t]
            · by_cases e : o = q
              · simp (disch := omega) only [↓am_lq, b_lq, oI_q, b_le, b_lt, b_eq, b_t, b_add, w1, am_cq, b1, b2, b3, c1, c2, c, c', d, e, am_rq, if_true, if_false, if_neg, Nat.lt_irrefl, Option.map_some, Option.getD_some, oI_t]
              · simp (disch := omega) only [↓am_lq, b_lq, oI_q, b_le, b_lt, b_eq, b_t, b_add, w1, am_cq, b1, b2, b3, c1, c2, c, c', d, e, am_rq, if_true, if_false, if_neg, Option.map_some, Option.getD_some, oI_t]
          · have c' : (m_cost M.2.2.1.1 b ≤ m_cost M.2.2.1.1 i) = True := eq_true (by omega)
            by_cases d : o < q
            · simp (disch := omega) only [↓am_lq, b_lq, oI_q, b_le, b_lt, b_eq, b_t, b_add, w1, am_cq, b1, b2, c1, c2, c, c', d, am_rq, if_true, if_false, if_neg, Option.map_some, Option.getD_some, oI_t]
            · by_cases e : o = q
              · simp (disch := omega) only [↓am_lq, b_lq, oI_q, b_le, b_lt, b_eq, b_t, b_add, w1, am_cq, b1, b2, b3, c1, c2, c, c', d, e, am_rq, if_true, if_false, if_neg, Nat.lt_irrefl, Option.map_some, Option.getD_some, oI_t]
              · simp (disch := omega) only [↓am_lq, b_lq, oI_q, b_le, b_lt, b_eq, b_t, b_add, w1, am_cq, b1, b2, b3, c1, c2, c, c', d, e, am_rq, if_true, if_false, if_neg, Option.map_some, Option.getD_some, oI_t]
    · obtain ⟨u, x, y⟩ := x
      obtain ⟨k1, k2, k3⟩ := hx
      dsimp only at k1 k2 k3 ⊢
      subst k2 k3
      refine ⟨u, ?_, k1⟩
      rw [fX8_endingSet_L11]
      simp (disch := omega) only [b_lq, b_le, if_pos, if_true]
  obtain ⟨u, u1, u2⟩ := key
  refine ⟨u, ?_, c_I_mw hV h2 u2, c_T_mw hP h3 u2, c_F_tr h4 (c_mw_F u2)⟩
  unfold fX8_endingSet
  rw [h1, am_cq]
  exact u1
theorem r_lays47L : ∀ (n : Nat) (s : AS) (x : Int32) (t : AS) (u : Unit), fX9_lays_L12 n s x = some (t, u) → t.1 215 47 = s.1 215 47
  | 0, s, x, t, u, h => by cases h
  | n + 1, s, x, t, u, h => by
    rw [fX9_lays_L12] at h
    simp only [am_lq, am_g] at h
    repeat' split at h
    all_goals first
      | (cases h; done)
      | (cases h; simp (disch := omega) only [r_j1, r_si, r_uo])
      | (have := r_lays47L n _ _ _ _ h; rw [this]; simp (disch := omega) only [r_si, r_uo])
theorem r_lays47 {s t : AS} {u : Unit} (h : fX9_lays s = some (t, u)) : t.1 215 47 = s.1 215 47 := by
  unfold fX9_lays at h
  simp only [am_lq] at h
  rw [r_lays47L _ _ _ _ _ h]
  simp (disch := omega) only [r_si, r_uo]
theorem r_ends (hV : m_PV P) (hl : 0 < P.1.1 6) (s : AS) (hP : r_PA 0 P s) : ∃ t, fX9_endsOf s = some (t, oI ((m_end P 64).map fun x => x.1)) ∧ r_mv s t ∧ t.1 215 47 = oI ((m_end P 64).map fun x => x.2) := by
  have hV' := hV.1
  obtain ⟨v0, v4, v5, vr, vp, vg, vs, vr2, vo, vl, vz⟩ := hV'
  have m0 : r_mv s (am_si s 215 47 (oI none)) := r_mv_si (r_mv_refl s) _ (by omega)
  have P0 := r_PA_eq (t := am_si s 215 47 (oI none)) hP (fun c _ _ => r_so _ _ _ (by omega))
  obtain ⟨t, a1, a2, a3, a4⟩ := r_lays hV _ P0
  have k47 : t.1 215 47 = oI none := by rw [r_lays47 a1, r_si, r_us]
  have P1 := r_PA_PL (r_PA_eq P0 (fun c _ _ => a4 c (by omega)))
  have key : ∃ u, fX9_endsOf_L13 am_fu t (oI none) (nI 0) = some (u, oI ((m_end P 64).map fun x => x.1)) ∧ r_mv t u ∧ u.1 215 47 = oI ((m_end P 64).map fun x => x.2) := by
    refine sp_lq (fun f (x : AS × Int32) i => fX9_endsOf_L13 f x.1 x.2 i) 64 (fun i x => (r_mv t x.1 ∧ r_PL P.1 x.1 ∧ (∃ A, r_W (P.1.1 1) (P.1.1 2) A (m_BA P) none x.1) ∧ x.1.1 215 47 = oI ((m_end P i).map fun x => x.2)) ∧ x.2 = oI ((m_end P i).map fun x => x.1)) (fun r => ∃ u, r = some (u, oI ((m_end P 64).map fun x => x.1)) ∧ r_mv t u ∧ u.1 215 47 = oI ((m_end P 64).map fun x => x.2)) (fun f i x hi hx => ?_) (fun f x hx => ?_) (t, oI none) ⟨⟨r_mv_refl t, P1, ⟨m_AN P, a3⟩, k47⟩, rfl⟩ am_fu (am_fu_gt (by omega))
    · left
      obtain ⟨u, x⟩ := x
      obtain ⟨⟨k1, k3, ⟨A, k4⟩, k6⟩, k2⟩ := hx
      dsimp only at k1 k2 k3 k4 k6 ⊢
      subst k2
      have m1 := m_cost_le hV.1 i
      have k5 : r_mv u (am_si u 215 23 (nI i)) := r_mv_si (r_mv_refl u) _ (by omega)
      obtain ⟨d1, d2, d3, d4, d5, d6, d7, d8⟩ := k4
      obtain ⟨w, w1, w2, w3, w4, w5, w6⟩ := r_wd (K := fun _ => false) (ab := none) (x := P.1.1 1) (y := P.1.1 2) (A := i) (sh := m_BA P) hV (vs hl) vr2 (by omega) (m_BA_lt hV) (fun q hq => by rw [b_nn (by omega)]; exact ⟨fun z => z.elim, fun z => (by cases z)⟩) (am_si u 215 23 (nI i)) (r_PL_fr (R := fun c => c = 215) k3 (fr_si (fr_refl _ u) _ _ rfl) (fun c _ _ => by omega)) ⟨by rw [r_si, r_us], by simp (disch := omega) only [r_si, r_uo, d2], by simp (disch := omega) only [r_si, r_uo, d3], by simp (disch := omega) only [r_si, r_uo, d4], by simp (disch := omega) only [r_si, r_uo, d5], by simp (disch := omega) only [r_si, r_uo, d6], by simp (disch := omega) only [r_si, r_uo, d7], d8⟩
      have c1 := r_costOf w4 (set := i) (by omega)
      have w47 : w.1 215 47 = oI ((m_end P i).map fun x => x.2) := by
        rw [w6 47 (by omega) (by omega), r_si, r_uo _ _ (by omega)]
        exact k6
      have w45 : w.1 215 45 = oI (m_oa P i) := w5.2.2.2.2.2.1
      have kw := r_mv_tr (r_mv_tr k1 k5) w2
      have keep : m_end P (i + 1) = m_end P i → (∃ s' : AS × Int32, ((r_mv t s'.1 ∧ r_PL P.1 s'.1 ∧ (∃ A, r_W (P.1.1 1) (P.1.1 2) A (m_BA P) none s'.1) ∧ s'.1.1 215 47 = oI ((m_end P (i + 1)).map fun x => x.2)) ∧ s'.2 = oI ((m_end P (i + 1)).map fun x => x.1)) ∧ fX9_endsOf_L13 f w (oI ((m_end P i).map fun x => x.1)) (nI (i + 1)) = fX9_endsOf_L13 f s'.1 s'.2 (nI (i + 1))) := fun e =>
        ⟨(w, oI ((m_end P i).map fun x => x.1)), ⟨⟨kw, w4, ⟨i, w3⟩, by rw [e]; exact w47⟩, by rw [e]⟩, rfl⟩
      have take : ∀ o, m_end P (i + 1) = some (i, o) → (∃ s' : AS × Int32, ((r_mv t s'.1 ∧ r_PL P.1 s'.1 ∧ (∃ A, r_W (P.1.1 1) (P.1.1 2) A (m_BA P) none s'.1) ∧ s'.1.1 215 47 = oI ((m_end P (i + 1)).map fun x => x.2)) ∧ s'.2 = oI ((m_end P (i + 1)).map fun x => x.1)) ∧ fX9_endsOf_L13 f (am_si w 215 47 (nI o)) (nI i) (nI (i + 1)) = fX9_endsOf_L13 f s'.1 s'.2 (nI (i + 1))) := fun o e => by
        obtain ⟨d1, d2, d3, d4, d5, d6, d7, d8⟩ := w3
        exact ⟨(am_si w 215 47 (nI o), nI i), ⟨⟨r_mv_si kw _ (by omega), r_PL_fr (R := fun c => c = 215) w4 (fr_si (fr_refl _ w) _ _ rfl) (fun c _ _ => by omega), ⟨i, by simp (disch := omega) only [r_si, r_uo, d1], by simp (disch := omega) only [r_si, r_uo, d2], by simp (disch := omega) only [r_si, r_uo, d3], by simp (disch := omega) only [r_si, r_uo, d4], by simp (disch := omega) only [r_si, r_uo, d5], by simp (disch := omega) only [r_si, r_uo, d6], by simp (disch := omega) only [r_si, r_uo, d7], d8⟩, by rw [e, r_si, r_us]; rfl⟩, by rw [e]; rfl⟩, rfl⟩
      cases ho : m_oa P i with
      | none =>
        rw [ho] at w45
        have e : fX9_endsOf_L13 (f + 1) u (oI ((m_end P i).map fun x => x.1)) (nI i) = fX9_endsOf_L13 f w (oI ((m_end P i).map fun x => x.1)) (nI (i + 1)) := by
          rw [fX9_endsOf_L13]
          simp (disch := omega) only [↓am_lq, b_lq, oI_q, b_le, b_add, w1, am_cq, w45, if_neg, if_true]
        rw [e]
        exact keep (by rw [m_end_s, ho])
      | some o =>
        have h61 := m_oa_lt ho
        have b1 : (nI o = oI none) = False := b_nn (by omega)
        rw [ho, oI_s] at w45
        cases he : m_end P i with
        | none =>
          have e : fX9_endsOf_L13 (f + 1) u (oI none) (nI i) = fX9_endsOf_L13 f (am_si w 215 47 (nI o)) (nI i) (nI (i + 1)) := by
            rw [fX9_endsOf_L13]
            simp (disch := omega) only [↓am_lq, b_lq, oI_q, b_le, b_add, w1, am_cq, w45, b1, if_neg, if_true, if_false]
          rw [Option.map_none, e]
          exact take o (by rw [m_end_s, ho, he])
        | some z =>
          obtain ⟨b, q⟩ := z
          have hb := m_end_p he
          have hq := m_oa_lt hb.2
          have m2 := m_cost_le hV.1 b
          have c2 := r_costOf w4 (set := b) (by omega)
          have b2 : (nI b = oI none) = False := b_nn (by omega)
          rw [he, Option.map_some, oI_t] at w47
          rw [he] at keep
          rw [Option.map_some, oI_t] at keep ⊢
          dsimp only at w47 keep ⊢
          rcases Nat.lt_trichotomy o q with d | d | d
          · have e : fX9_endsOf_L13 (f + 1) u (nI b) (nI i) = fX9_endsOf_L13 f (am_si w 215 47 (nI o)) (nI i) (nI (i + 1)) := by
              have d2 : (q < o) = False := eq_false (by omega)
              have d3 : (o = q) = False := eq_false (by omega)
              rw [fX9_endsOf_L13]
              simp (disch := omega) only [↓am_lq, b_lq, oI_q, b_le, b_lt, b_eq, b_add, w1, am_cq, w45, w47, b1, b2, d2, d3, if_neg, if_true, if_false]
            rw [e]
            exact take o (by rw [m_end_s, ho, he]; exact if_pos d)
          · by_cases c : m_cost P.1 i < m_cost P.1 b
            · have e : fX9_endsOf_L13 (f + 1) u (nI b) (nI i) = fX9_endsOf_L13 f (am_si w 215 47 (nI o)) (nI i) (nI (i + 1)) := by
                have d2 : (q < o) = False := eq_false (by omega)
                have d3 : (o = q) = True := eq_true (by omega)
                rw [fX9_endsOf_L13]
                simp (disch := omega) only [↓am_lq, b_lq, oI_q, b_le, b_lt, b_eq, b_add, w1, am_cq, w45, w47, b1, b2, d2, d3, c1, c2, c, am_rq, if_neg, if_true, if_false]
              rw [e]
              exact take o (by
                rw [m_end_s, ho, he]
                show (if o < q then _ else if o = q then (if m_cost P.1 i < m_cost P.1 b then _ else _) else _) = _
                rw [if_neg (by omega), if_pos d, if_pos c])
            · have e : fX9_endsOf_L13 (f + 1) u (nI b) (nI i) = fX9_endsOf_L13 f w (nI b) (nI (i + 1)) := by
                have d2 : (q < o) = False := eq_false (by omega)
                have d3 : (o = q) = True := eq_true (by omega)
                rw [fX9_endsOf_L13]
                simp (disch := omega) only [↓am_lq, b_lq, oI_q, b_le, b_lt, b_eq, b_add, w1, am_cq, w45, w47, b1, b2, d2, d3, c1, c2, c, am_rq, if_neg, if_true, if_false]
              rw [e]
              exact keep (by
                rw [m_end_s, ho, he]
                show (if o < q then _ else if o = q then (if m_cost P.1 i < m_cost P.1 b then _ else _) else _) = _
                rw [if_neg (by omega), if_pos d, if_neg c])
          · have e : fX9_endsOf_L13 (f + 1) u (nI b) (nI i) = fX9_endsOf_L13 f w (nI b) (nI (i + 1)) := by
              have d2 : (q < o) = True := eq_true (by omega)
              rw [fX9_endsOf_L13]
              simp (disch := omega) only [↓am_lq, b_lq, oI_q, b_le, b_lt, b_eq, b_add, w1, am_cq, w45, w47, b1, b2, d2, if_neg, if_true, if_false]
            rw [e]
            exact keep (by
              rw [m_end_s, ho, he]
              show (if o < q then _ else if o = q then (if m_cost P.1 i < m_cost P.1 b then _ else _) else _) = _
              rw [if_neg (by omega), if_neg (by omega)])
    · obtain ⟨u, x⟩ := x
      obtain ⟨⟨k1, k3, k4, k6⟩, k2⟩ := hx
      dsimp only at k1 k2 k3 k4 k6 ⊢
      subst k2
      refine ⟨u, ?_, k1, k6⟩
      rw [fX9_endsOf_L13]
      simp (disch := omega) only [b_lq, b_le, if_pos, if_true]
  obtain ⟨u, u1, u2, u3⟩ := key
  refine ⟨u, ?_, r_mv_tr (r_mv_tr m0 a2) u2, u3⟩
  unfold fX9_endsOf
  simp only [am_lq, b_lq, oI_q]
  rw [a1, am_cq]
  exact u1
theorem Q_ends : m_OK (fun s => fX8_ends s) (fun s => fX9_ends s) := m_ok_q (fun M => decide (0 < M.2.2.1.1.1 6)) (fun M => oI ((m_end M.2.2.1 64).map fun x => x.1))
  (fun M s hV hI => by
    unfold fX8_ends
    rw [g8_march hI.1 hV, am_rq]
    simp only [↓am_lq, b_lq, m_if0]
    cases hb : decide (0 < M.2.2.1.1.1 6) with
    | false => exact ⟨s, rfl, hI, fun _ _ => ⟨rfl, rfl⟩⟩
    | true =>
      obtain ⟨t, h1, h2, -, h3⟩ := c_ending hV (of_decide_eq_true hb) s hI
      refine ⟨t, ?_, h2, h3⟩
      rw [if_pos rfl, if_pos rfl, h1, am_cq])
  (fun M s hV hI => by
    obtain ⟨I1, m1⟩ := r_0 hI
    unfold fX9_ends
    simp only [↓am_lq, b_lq]
    rw [g9_march I1 hV, am_rq, m_if0]
    cases hb : decide (0 < M.2.2.1.1.1 6) with
    | false => exact ⟨_, rfl, I1, m1.1⟩
    | true =>
      obtain ⟨t, h1, h2, h3⟩ := r_ends (m_MV_P hV) (of_decide_eq_true hb) _ I1.2.2.1
      refine ⟨t, ?_, r_I_mv I1 h2, r_F_tr m1.1 h2.1⟩
      rw [if_pos rfl, if_pos rfl, h1, am_cq])
theorem Q_soonest : m_OK (fun s => fX8_soonest s) (fun s => fX9_soonest s) := m_ok_q (fun M => decide (0 < M.2.2.1.1.1 6)) (fun M => oI ((m_end M.2.2.1 64).map fun x => x.2))
  (fun M s hV hI => by
    unfold fX8_soonest
    rw [g8_march hI.1 hV, am_rq]
    simp only [↓am_lq, b_lq, m_if0]
    cases hb : decide (0 < M.2.2.1.1.1 6) with
    | false => exact ⟨s, rfl, hI, fun _ _ => ⟨rfl, rfl⟩⟩
    | true =>
      obtain ⟨t, h1, h2, h3, h4⟩ := c_ending hV (of_decide_eq_true hb) s hI
      rw [if_pos rfl, if_pos rfl, h1, am_cq]
      cases he : m_end M.2.2.1 64 with
      | none => exact ⟨t, rfl, h2, h4⟩
      | some z =>
        obtain ⟨b, q⟩ := z
        have hb2 := m_end_p he
        have b2 : (nI b = oI none) = False := b_nn (by omega)
        obtain ⟨w, w1, w2⟩ := c_overA (m_MV_P hV) (of_decide_eq_true hb) (A := b) (by omega) t h2.1.2.2.1 h3.1
        refine ⟨w, ?_, c_I_mw hV h2 w2, c_F_tr h4 (c_mw_F w2)⟩
        simp (disch := omega) only [Option.map_some, oI_t, oI_q, b2, if_false, w1, am_cq, hb2.2])
  (fun M s hV hI => by
    obtain ⟨I1, m1⟩ := r_0 hI
    unfold fX9_soonest
    simp only [↓am_lq, b_lq]
    rw [g9_march I1 hV, am_rq, m_if0]
    cases hb : decide (0 < M.2.2.1.1.1 6) with
    | false => exact ⟨_, rfl, I1, m1.1⟩
    | true =>
      obtain ⟨t, h1, h2, h3⟩ := r_ends (m_MV_P hV) (of_decide_eq_true hb) _ I1.2.2.1
      refine ⟨t, ?_, r_I_mv I1 h2, r_F_tr m1.1 h2.1⟩
      rw [if_pos rfl, if_pos rfl, h1, am_cq, h3])
end EN
