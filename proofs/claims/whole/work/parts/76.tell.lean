/-! TELL, AND LAYS: the march as it is, on both sides. -/
theorem m_MV_P {M : m_M} (h : m_MV M) : m_PV M.2.2.1 := h.2.2.2.1
theorem m_BA_lt {P : m_P} (h : m_PV P) : m_BA P < 1024 := m_ba_lt (fun j hj => (h.2.2 j hj).1)
theorem m_AN_lt {P : m_P} (h : m_PV P) : m_AN P < 1024 := m_an_lt (fun j hj => (h.2.2 j hj).1)
/-- the ways at v serve as next places -/
theorem c_WY_NX {v sh : Nat} {D : w_D} {s : AS} (hD : w_V D) (h : c_WY v D sh s) : c_NX v D (y_N D sh) s := by
  refine ⟨h.1, fun a b ha hb => ?_⟩
  rw [h.2.2.2 a b ha hb, y_nx_ff (F := 100000) (by omega) (by omega) hD.1 (fun r hr => (hD.2.2.2.1 r hr).2.2.2.2)]
/-- a case begun: what asItIs() leaves -/
def c_B (P : m_P) (s : AS) : Prop := s.1 172 0 = nI (P.1.1 1) ∧ s.1 172 1 = nI (P.1.1 2) ∧ s.1 172 2 = nI (m_AN P) ∧ s.1 172 3 = nI 0 ∧ s.1 172 4 = oI none ∧ s.1 172 5 = nI 60 ∧ s.1 172 7 = nI 138 ∧ s.1 172 8 = nI 138 ∧ s.1 172 9 = nI 0 ∧ s.1 172 10 = oI none ∧ s.1 172 11 = oI none ∧ s.1 172 12 = oI none ∧ s.2 172 6 = 0
theorem c_begin {P : m_P} {v : Nat} (hv : v < 1000) (s : AS) (hP : c_PL 25 P.1 s) {x : Int32} : ∃ t, fX1_begin s 172 25 x v = some (t, ()) ∧ c_mw s t ∧ t.1 172 0 = nI (P.1.1 1) ∧ t.1 172 1 = nI (P.1.1 2) ∧ t.1 172 2 = x ∧ t.1 172 3 = nI 0 ∧ t.1 172 4 = oI none ∧ t.1 172 5 = nI 60 ∧ t.1 172 7 = nI v ∧ t.1 172 8 = nI v ∧ t.1 172 9 = nI 0 ∧ t.1 172 10 = oI none ∧ t.1 172 11 = oI none ∧ t.1 172 12 = oI none ∧ t.2 172 6 = 0 ∧ ∀ c, c ≠ 172 → t.1 c = s.1 c := by
  have h1 : s.1 25 2 = nI (P.1.1 1) := hP.1 1 (by omega)
  have h2 : s.1 25 3 = nI (P.1.1 2) := hP.1 2 (by omega)
  refine ⟨_, by
    unfold fX1_begin
    simp (disch := omega) only [↓am_lq, b_lq, b_oq, oI_q, h1, h2, r_so, r_j1]; rfl, ⟨fun c hc => ?_, fun c hc => ?_⟩, ?_, ?_, ?_, ?_, ?_, ?_, ?_, ?_, ?_, ?_, ?_, ?_, ?_, fun c hc => ?_⟩
  · simp (disch := omega) only [r_so, r_j1]
  · simp (disch := omega) only [r_s2, r_jo]
  all_goals simp (disch := omega) only [r_s2, r_ji, r_ls, r_si, r_so, r_us, r_uo, r_j1]
theorem c_asItIs {P : m_P} (s : AS) (hP : c_PA 25 47 P s) : ∃ t, fX8_asItIs s = some (t, ()) ∧ c_mw s t ∧ c_B P t ∧ ∀ c, c ≠ 172 → t.1 c = s.1 c := by
  obtain ⟨t, h0, h1, a0, a1, a2, a3, a4, a5, a7, a8, a9, a10, a11, a12, j6, hr⟩ := c_begin (v := 138) (by omega) s hP.1 (x := nI (m_AN P))
  refine ⟨t, ?_, h1, ⟨a0, a1, a2, a3, a4, a5, a7, a8, a9, a10, a11, a12, j6⟩, hr⟩
  unfold fX8_asItIs
  rw [show s.1 47 1 = nI (m_AN P) from hP.2.2.1, h0, am_cq]
theorem c_rn_0 {j : Nat → Int64} (h : j 6 = 0) {n : Nat} (hn : n < 61) : c_rn j n = false := by
  have key : ∀ n, n < 61 → decide (lg_cmp (((0 : Int64) >>> ((nI n).toInt64 &&& 63)) &&& 1) 1 = 0) = false := by decide +kernel
  unfold c_rn
  rw [h]
  exact key n hn
/-- nobody shams -/
theorem c_SH_0 {r : Nat → Int32} {C : w_C} (h : ∀ n p, C.2.2.2.2.2.1 n p = none) (h10 : r 10 = oI none) : c_SH r C := by
  intro n p hn hp
  rw [h, h10]
  refine ⟨⟨fun z => (by cases z), fun z => ?_⟩, fun x hx => (by cases hx)⟩
  have := z.1
  rw [b_nn (by omega)] at this
  exact this.elim
/-- the walk as it is, told at o -/
theorem c_goNow {P : m_P} {o : Nat} (hV : m_PV P) (hl : 0 < P.1.1 6) (ho : o = 163 ∨ o = 198) (s : AS) (hP : c_PL 25 P.1 s) (hB : c_B P s) (hY : c_WY 138 P.1 (m_BA P) s) : ∃ t, fX6_go s o 25 172 = some (t, ()) ∧ fr (c_RG o) s t ∧ c_GI o P.1 (m_C P) 61 t := by
  obtain ⟨b0, b1, b2, b3, b4, b5, b7, b8, b9, b10, b11, b12, b6⟩ := hB
  have hwv : ∀ n, n < 61 → c_wv (s.1 172) n = 138 := by
    intro n hn
    unfold c_wv
    rw [b9, b8, if_neg (by rw [b_lt0 (by omega)]; exact fun z => z), b_t (by omega)]
  obtain ⟨t, h1, h2, h3, h4⟩ := c_go (o := o) (op := 25) (oc := 172) (D := P.1) (C := m_C P) (g := none) (last := 60) hV.1 (m_CK hV hl) (by omega) (by omega) (fun q h => (by cases h)) (by omega) s hP ⟨b1, ⟨b2, 0, by omega, b3, fun p _ => by simp [m_C]⟩, c_SH_0 (fun _ _ => rfl) b10, fun n hn => c_rn_0 b6 hn⟩ (fun n hn => by rw [hwv n hn]; exact ⟨by omega, by omega, c_WY_NX hV.1 hY⟩) b0 b4 b5 (fun n p hn hp h => (by cases h))
  exact ⟨t, h1, h2, h3 (fun k hk q hq h => by cases h)⟩
theorem c_tell {M : m_M} (hV : m_MV M) (hl : 0 < M.2.2.1.1.1 6) (s : AS) (hI : c_I M s) : ∃ t, fX8_tell s = some (t, ()) ∧ c_I M t ∧ c_T M.2.2.1 t ∧ c_F s t ∧ ∀ c, 0 < c ∧ c < 138 → t.1 c = s.1 c := by
  have hP := m_MV_P hV
  unfold fX8_tell
  rcases hI.2 with h8 | ⟨h8, hT, -⟩
  · obtain ⟨t1, a1, a2, a3⟩ := c_measure (v := 138) (op := 25) (sh := m_BA M.2.2.1) hP.1 (m_BA_lt hP) (by omega) s hI.1.2.2.1.1
    have m1 : c_mv s t1 := c_mv_fr a2 (fun c hc => by have : 138 ≤ c ∧ c < 138 + 25 := hc; omega)
    have I1 := c_I0_mv hV hI.1 m1
    obtain ⟨t2, b1, b2, b3, b4⟩ := c_asItIs t1 I1.2.2.1
    have m2 := c_mv_tr m1 (c_mw_mv b2)
    have I2 := c_I0_mv hV hI.1 m2
    obtain ⟨t3, d1, d2, d3⟩ := c_goNow hP hl (.inl rfl) t2 I2.2.2.1.1 b3 (c_WY_eq hP.1 a3 (fun c _ _ => b4 c (by omega)))
    have m3 : c_mv s (am_si t3 0 8 (nI 1)) := c_mv_tr (c_mv_tr m2 (c_mv_fr d2 (fun c hc => by have : 163 ≤ c ∧ c < 163 + 9 := hc; omega))) ⟨fun c hc => by rw [r_so _ _ _ (by omega)], fun k hk => by rw [r_si, r_uo _ _ hk], fun _ _ => rfl⟩
    have T3 : c_T M.2.2.1 (am_si t3 0 8 (nI 1)) := ⟨c_WY_eq hP.1 a3 (fun c _ _ => by rw [r_so _ _ _ (by omega), d2.2 c (by omega), b4 c (by omega)]), c_GI_eq d3 (fun c _ _ => by rw [r_so _ _ _ (by omega)])⟩
    refine ⟨am_si t3 0 8 (nI 1), ?_, ⟨c_I0_mv hV hI.1 m3, .inr ⟨by rw [r_si, r_us], T3, hl⟩⟩, T3, c_mv_F m3, fun c hc => m3.1 c (.inl hc)⟩
    have e2 : s.1 47 2 = nI (m_BA M.2.2.1) := hI.1.2.2.1.2.2.2.1
    simp (disch := omega) only [↓am_lq, b_lq, h8, if_true, e2, a1, am_cq, b1, d1]
  · refine ⟨s, ?_, hI, hT, fun _ _ => ⟨rfl, rfl⟩, fun _ _ => rfl⟩
    simp (disch := omega) only [↓am_lq, b_lq, h8, b_eq, if_neg]
/-- what lays() leaves -/
def r_B (P : m_P) (s : AS) : Prop := s.1 215 23 = nI (m_AN P) ∧ s.1 215 24 = nI (m_BA P) ∧ s.1 215 25 = nI (P.1.1 1) ∧ s.1 215 26 = nI (P.1.1 2) ∧ s.1 215 27 = oI none ∧ s.1 215 30 = oI none ∧ s.1 215 31 = oI none ∧ s.2 215 33 = 0
theorem r_lays {P : m_P} (hV : m_PV P) (s : AS) (hP : r_PA 0 P s) : ∃ t, fX9_lays s = some (t, ()) ∧ r_mv s t ∧ r_B P t ∧ (∀ c, c ≠ 215 → t.1 c = s.1 c) := by
  obtain ⟨hD, h40, hk⟩ := hV
  have f0 : r_mv s (am_si (am_si s 215 23 (nI 0)) 215 24 (nI 0)) := r_mv_si (r_mv_si (r_mv_refl s) _ (by omega)) _ (by omega)
  have key := sp_lq (fun f (t : AS) i => fX9_lays_L12 f t i) P.2.1 (fun i t => r_mv s t ∧ (∀ c, c ≠ 215 → t.1 c = s.1 c) ∧ t.1 215 23 = nI (m_an P.2.2 i) ∧ t.1 215 24 = nI (m_ba P.2.2 i)) (fun r => ∃ t, r = some (t, ()) ∧ r_mv s t ∧ r_B P t ∧ (∀ c, c ≠ 215 → t.1 c = s.1 c)) (fun f i t hi h => by
    obtain ⟨h1, h2, h3, h4⟩ := h
    have hP' := r_PA_eq hP (fun c _ _ => h2 c (by omega))
    obtain ⟨a1, a2, a3, a4, a5, a6, a7⟩ := hP'
    simp only [Nat.mul_zero, Nat.zero_add] at a6 a7
    obtain ⟨c1, c2, c3⟩ := a7 i hi
    obtain ⟨k1, k2⟩ := hk i hi
    have b1 : m_an P.2.2 i < 1024 := m_an_lt (fun j hj => (hk j (by omega)).1)
    have b2 : m_ba P.2.2 i < 1024 := m_ba_lt (fun j hj => (hk j (by omega)).1)
    left
    have A : m_an P.2.2 (i + 1) = if (P.2.2 i).1 = 0 then (if (P.2.2 i).2.2 then w_ins (m_an P.2.2 i) (P.2.2 i).2.1 else w_del (m_an P.2.2 i) (P.2.2 i).2.1) else m_an P.2.2 i := rfl
    have B : m_ba P.2.2 (i + 1) = if (P.2.2 i).1 = 0 then m_ba P.2.2 i else (if (P.2.2 i).2.2 then w_ins (m_ba P.2.2 i) (P.2.2 i).2.1 else w_del (m_ba P.2.2 i) (P.2.2 i).2.1) := rfl
    rcases k2 with k2 | k2
    · refine ⟨am_si t 215 23 (nI (m_an P.2.2 (i + 1))), ⟨r_mv_si h1 _ (by omega), fun c hc => by rw [r_so _ _ _ hc]; exact h2 c hc, by rw [r_si, r_us], ?_⟩, ?_⟩
      · rw [r_si, r_uo _ _ (by omega), h4, B, if_pos k2]
      · rw [fX9_lays_L12, A, if_pos k2]
        rw [k2] at c1
        cases h5 : (P.2.2 i).2.2 with
        | true =>
          rw [h5] at c3
          simp (disch := omega) only [↓am_lq, b_lq, oI_q, a6, b_le, b_lt, b_t, b_eq, b_mul, b_add, am_g_t, if_neg, if_true, if_false, c1, c2, c3, b_tt, b_sh, h3, b_ins, if_pos]
        | false =>
          rw [h5] at c3
          simp (disch := omega) only [↓am_lq, b_lq, oI_q, a6, b_le, b_lt, b_t, b_eq, b_mul, b_add, am_g_t, if_neg, if_true, if_false, c1, c2, c3, b_tf, b_sh, h3, b_del, if_pos, Bool.false_eq_true]
    · refine ⟨am_si t 215 24 (nI (m_ba P.2.2 (i + 1))), ⟨r_mv_si h1 _ (by omega), fun c hc => by rw [r_so _ _ _ hc]; exact h2 c hc, ?_, by rw [r_si, r_us]⟩, ?_⟩
      · rw [r_si, r_uo _ _ (by omega), h3, A, if_neg (by omega)]
      · rw [fX9_lays_L12, B, if_neg (by omega : ¬ (P.2.2 i).1 = 0)]
        rw [k2] at c1
        cases h5 : (P.2.2 i).2.2 with
        | true =>
          rw [h5] at c3
          simp (disch := omega) only [↓am_lq, b_lq, oI_q, a6, b_le, b_lt, b_t, b_eq, b_mul, b_add, am_g_t, if_neg, if_true, if_false, c1, c2, c3, b_tt, b_sh, h4, b_ins, if_pos]
        | false =>
          rw [h5] at c3
          simp (disch := omega) only [↓am_lq, b_lq, oI_q, a6, b_le, b_lt, b_t, b_eq, b_mul, b_add, am_g_t, if_neg, if_true, if_false, c1, c2, c3, b_tf, b_sh, h4, b_del, if_pos, Bool.false_eq_true]) (fun f t h => by
    obtain ⟨h1, h2, h3, h4⟩ := h
    have hP' := r_PA_eq hP (fun c _ _ => h2 c (by omega))
    obtain ⟨a1, a2, a3, a4, a5, a6, a7⟩ := hP'
    have e1 := a1 1 (by omega)
    have e2 := a1 2 (by omega)
    simp only [Nat.mul_zero, Nat.zero_add] at a6 e1 e2
    refine ⟨am_sj (am_si (am_si (am_si (am_si (am_si t 215 25 (nI (P.1.1 1))) 215 26 (nI (P.1.1 2))) 215 27 (oI none)) 215 30 (oI none)) 215 31 (oI none)) 215 33 0, ?_, r_mv_sj (r_mv_si (r_mv_si (r_mv_si (r_mv_si (r_mv_si h1 _ (by omega)) _ (by omega)) _ (by omega)) _ (by omega)) _ (by omega)) _, ⟨?_, ?_, ?_, ?_, ?_, ?_, ?_, ?_⟩, fun c hc => ?_⟩
    · rw [fX9_lays_L12]
      simp (disch := omega) only [↓am_lq, b_lq, oI_q, a6, b_le, b_lt, b_t, am_g_t, if_pos, if_true, e1, e2, r_so]
    all_goals simp (disch := omega) only [r_j1, r_ji, r_ls, r_si, r_us, r_uo, r_so, h3, h4]
    exact h2 c hc) (am_si (am_si s 215 23 (nI 0)) 215 24 (nI 0)) ⟨f0, fun c hc => by simp (disch := omega) only [r_so], by simp (disch := omega) only [r_si, r_us, r_uo]; rfl, by simp (disch := omega) only [r_si, r_us, r_uo]; rfl⟩ am_fu (am_fu_gt (by omega))
  unfold fX9_lays
  simp (disch := omega) only [↓am_lq, b_lq]
  exact key
theorem r_rn_0 {j : Nat → Int64} (h : j 33 = 0) {n : Nat} (hn : n < 61) : r_rn j n = false := by
  have key : ∀ n, n < 61 → decide (¬ lg_cmp (((0 : Int64) >>> ((nI n).toInt64 &&& 63)) &&& 1) 0 = 0) = false := by decide +kernel
  unfold r_rn
  rw [h]
  exact key n hn
/-- the case as it is -/
theorem r_B_CS {P : m_P} {s : AS} (h : r_B P s) : r_CS (m_C P) none s := by
  obtain ⟨b1, b2, b3, b4, b5, b6, b7, b8⟩ := h
  refine ⟨b4, ⟨b1, fun p hp => ?_⟩, fun n p hn hp => ⟨⟨fun z => (by cases z), fun z => ?_⟩, fun x hx => (by cases hx)⟩, ⟨b7, fun m k h => (by cases h)⟩, fun n hn => r_rn_0 b8 hn⟩
  · rw [b6, b_nn (by omega)]
    exact ⟨fun z => z.elim, fun z => (by cases z)⟩
  · have := z.1
    rw [b5, b_nn (by omega)] at this
    exact this.elim
theorem r_laysNow {P : m_P} (hV : m_PV P) (hl : 0 < P.1.1 6) (s : AS) (hP : r_PA 0 P s) : ∃ t, fX9_laysNow s = some (t, ()) ∧ r_mv s t ∧ r_GI P.1 (m_C P) none (m_BA P) 61 t ∧ r_PL P.1 t ∧ t.1 215 25 = nI (P.1.1 1) := by
  obtain ⟨t1, a1, a2, a3, a4⟩ := r_lays hV s hP
  have P1 := r_PA_PL (r_PA_eq hP (fun c _ _ => a4 c (by omega)))
  obtain ⟨t2, b1, b2, b3, b4⟩ := r_runs (D := P.1) (C := m_C P) (tr := none) (sh := m_BA P) hV.1 (m_CK hV hl) (m_BA_lt hV) (fun n _ => rfl) t1 P1 (r_B_CS a3) a3.2.1 a3.2.2.1
  refine ⟨t2, ?_, r_mv_runs a2 b2 b3, b4, r_PL_fr P1 b2 (fun c _ _ => by omega), by rw [b3 25 (by omega) (by omega)]; exact a3.2.2.1⟩
  unfold fX9_laysNow
  rw [a1, am_cq, b1, am_cq]
