/-! WOULD: starts, rules. -/
section SA
variable {M : m_M} {s t : AS} {P : m_P} {a : Int32}
/-- set out from x by the rule y -/
abbrev m_sc (P : m_P) (x y : Nat) : w_C := m_X P x y (m_AN P) (fun _ => false) (m_BA P)
theorem c_wd3 (hV : m_PV P) {x y : Nat} (hx : x < P.1.1 0) (hy : y ≤ 3) (s : AS) (hP : c_PL 25 P.1 s) (b0 : s.1 172 0 = nI x) (b1 : s.1 172 1 = nI y) (b2 : s.1 172 2 = nI (m_AN P)) (b3 : s.1 172 3 = nI 0) (b4 : s.1 172 4 = oI none) (b5 : s.1 172 5 = nI 60) (b7 : s.1 172 7 = nI 138) (b8 : s.1 172 8 = nI 138) (b10 : s.1 172 10 = oI none) (b6 : s.2 172 6 = 0) (hY : c_WY 138 P.1 (m_BA P) s) : ∃ t, fX6_go s 198 25 172 = some (t, ()) ∧ c_mw s t ∧ (∀ c, c < 198 ∨ 207 ≤ c → t.1 c = s.1 c) ∧ c_GI 198 P.1 (m_sc P x y) 61 t := by
  have hwv : ∀ n, n < 61 → c_wv (s.1 172) n = 138 := by
    intro n hn
    unfold c_wv
    rw [b7, b8, b_t (by omega)]
    split <;> rfl
  obtain ⟨t, h1, h2, h3⟩ := c_go (o := 198) (op := 25) (oc := 172) (D := P.1) (C := m_sc P x y) (g := none) (last := 60) hV.1 (m_XK hV hx hy (m_AN_lt hV)) (by omega) (by omega) (fun q h => (by cases h)) (by omega) s hP ⟨b1, ⟨b2, 0, by omega, b3, fun p hp => by simp⟩, c_SH_0 (fun _ _ => rfl) b10, fun n hn => c_rn_0 b6 hn⟩ (fun n hn => by rw [hwv n hn]; exact ⟨by omega, by omega, c_WY_NX hV.1 hY⟩) b0 b4 b5 (fun n p hn hp h => by cases h)
  refine ⟨t, h1, c_mw_fr h2 (fun c hc => by have : 198 ≤ c ∧ c < 198 + 9 := hc; omega), fun c hc => h2.2 c (fun z => by have : 198 ≤ c ∧ c < 198 + 9 := z; omega), h3.1 (fun k hk q hq h => by cases h)⟩
theorem r_wd3 (hV : m_PV P) {x y : Nat} (hx : x < P.1.1 0) (hy : y ≤ 3) (s : AS) (hP : r_PL P.1 s) (hW : r_W x y (m_AN P) (m_BA P) none s) : ∃ t, fX9_runs s = some (t, ()) ∧ r_mv s t ∧ r_W x y (m_AN P) (m_BA P) none t ∧ r_PL P.1 t ∧ r_GI P.1 (m_sc P x y) none (m_BA P) 61 t ∧ t.1 236 = s.1 236 := by
  have hW' := hW
  obtain ⟨b1, b2, b3, b4, b5, b6, b7, b8⟩ := hW'
  obtain ⟨t, h1, h2, h3, h4⟩ := r_runs (D := P.1) (C := m_sc P x y) (tr := none) (sh := m_BA P) hV.1 (m_XK hV hx hy (m_AN_lt hV)) (m_BA_lt hV) (fun n _ => rfl) s hP ⟨b4, ⟨b1, fun p hp => by rw [b6, b_nn (by omega)]; exact ⟨fun z => z.elim, fun z => (by cases z)⟩⟩, fun n p hn hp => ⟨⟨fun z => (by cases z), fun z => by
    have := z.1
    rw [b5, b_nn (by omega)] at this
    exact this.elim⟩, fun x hx => (by cases hx)⟩, ⟨b7, fun m k h => (by cases h)⟩, fun n hn => r_rn_0 b8 hn⟩ b2 b3
  refine ⟨t, h1, r_mv_runs (r_mv_refl s) h2 h3, ⟨?_, ?_, ?_, ?_, ?_, ?_, ?_, ?_⟩, r_PL_fr hP h2 (fun c _ _ => by omega), h4, h2.2 236 (by omega)⟩
  · rw [h3 23 (by omega) (by omega)]; exact b1
  · obtain ⟨-, -, -, -, -, -, -, z, z1, z2, z3, z4, z5⟩ := h4
    rw [z2, z5 rfl]
  · rw [h3 25 (by omega) (by omega)]; exact b3
  · rw [h3 26 (by omega) (by omega)]; exact b4
  · rw [h3 27 (by omega) (by omega)]; exact b5
  · rw [h3 30 (by omega) (by omega)]; exact b6
  · rw [h3 31 (by omega) (by omega)]; exact b7
  · rw [h2.1]; exact b8
/-- lacks the slot's row -/
def m_lk (M : m_M) (a : Int32) : Int32 := if m_in a 4 && decide (0 < M.2.2.1.1.1 6) then (match (M.2.2.2.2 a.toNatClampNeg).1 with | none => -nI 6 | some _ => nI 0) else -nI 2
theorem c_lacks (hI : c_I0 M s) (hV : m_MV M) : fX8_lacksRow s a = some (m_lk M a) := by
  unfold fX8_lacksRow m_lk
  rw [g8_slot, am_rq]
  simp only [↓am_lq, b_lq, m_if0]
  cases hb : m_in a 4 with
  | false => rfl
  | true =>
    obtain ⟨j, hj, rfl⟩ := m_in_k (by omega) hb
    rw [g8_march hI hV, am_rq, m_if0, b_t (by omega), if_pos rfl, Bool.true_and]
    have x1 := (hI.2.2.2.2 j hj).1
    cases hl : decide (0 < M.2.2.1.1.1 6) with
    | false => rfl
    | true =>
      simp (disch := omega) only [b_lt, b_t, am_g_t, x1, if_true, m_if0]
      cases (M.2.2.2.2 j).1 <;> rfl
/-- what a question of a row says -/
def m_rk (M : m_M) (a : Int32) (tf : Bool) (r : Int32) : Int32 := if m_in a 4 && decide (0 < M.2.2.1.1.1 6) then (match (M.2.2.2.2 a.toNatClampNeg).1 with | none => -nI 6 | some _ => if tf then r else -nI 2) else -nI 2
theorem m_lk_f (h : (m_in a 4 && decide (0 < M.2.2.1.1.1 6)) = false) {b : Bool} {r : Int32} : m_lk M a = -nI 2 ∧ m_rk M a b r = -nI 2 := by
  unfold m_lk m_rk
  rw [h]
  exact ⟨rfl, rfl⟩
theorem m_lk_n {j : Nat} (hj : j < 4) (h : (m_in (nI j) 4 && decide (0 < M.2.2.1.1.1 6)) = true) (h2 : (M.2.2.2.2 j).1 = none) {b : Bool} {r : Int32} : m_lk M (nI j) = -nI 6 ∧ m_rk M (nI j) b r = -nI 6 := by
  unfold m_lk m_rk
  rw [h, b_t (by omega), h2]
  exact ⟨rfl, rfl⟩
theorem m_lk_s {j : Nat} (hj : j < 4) (h : (m_in (nI j) 4 && decide (0 < M.2.2.1.1.1 6)) = true) {w : Nat} (h2 : (M.2.2.2.2 j).1 = some w) {b : Bool} {r : Int32} : m_lk M (nI j) = nI 0 ∧ m_rk M (nI j) b r = if b then r else -nI 2 := by
  unfold m_lk m_rk
  rw [h, b_t (by omega), h2]
  exact ⟨rfl, rfl⟩
/-- this start agrees with the row -/
def m_so (P : m_P) (x : Option Nat × Nat × (Nat → Int64)) (p : Nat) : Bool := m_al (m_ae (w_fe P.1 (m_sc P p (P.1.1 2))) x.2.2) (x.2.1 / 2)
def m_ro (P : m_P) (x : Option Nat × Nat × (Nat → Int64)) (y : Nat) : Bool := m_al (m_ae (w_at P.1 (m_sc P (P.1.1 1) y)) x.2.2) (x.2.1 / 2)
theorem c_slot (hI : c_I0 M s) (hV : m_MV M) {j w : Nat} (hj : j < 4) (hw : (M.2.2.2.2 j).1 = some w) : (M.2.2.2.2 j).2.1 ≤ 60 ∧ s.1 (130 + 2 * j) 2 = nI (M.2.2.2.2 j).2.1 ∧ ∀ i, i < (M.2.2.2.2 j).2.1 → s.2 (130 + 2 * j + 1) i = (M.2.2.2.2 j).2.2 i := by
  obtain ⟨x1, x2, x3⟩ := (hI.2.2.2.2 j hj).2 w hw
  refine ⟨(hV.2.2.2.2.2 j hj).1, x2, fun i hi => ?_⟩
  rw [show 130 + 2 * j + 1 = 131 + 2 * j by omega]
  exact x3 i hi
theorem c_startsBy (hV : m_MV M) (hl : 0 < M.2.2.1.1.1 6) {j w : Nat} (hj : j < 4) (hw : (M.2.2.2.2 j).1 = some w) (ht : m_tf M.2.2.1.1 (M.2.2.2.2 j) = true) (s : AS) (hI : c_I M s) : ∃ t, fX8_startsBy s (130 + 2 * j) = some (t, nI (m_bs (m_so M.2.2.1 (M.2.2.2.2 j)) (M.2.2.1.1.1 0))) ∧ c_I M t ∧ c_F s t ∧ ∀ q p, q < M.2.2.1.1.1 0 → p < 8 → t.1 (208 + q) p = oI (w_fe M.2.2.1.1 (m_sc M.2.2.1 q (M.2.2.1.1.1 2)) p) := by
  have hP := m_MV_P hV
  have hV' := hP.1
  obtain ⟨v0, v4, v5, vr, vp, vg, vs, vr2, vo, vl, vz⟩ := hV'
  rw [Bool.and_eq_true] at ht
  obtain ⟨ht1, ht2⟩ := ht
  have ht1 := of_decide_eq_true ht1
  obtain ⟨t, h1, h2, h3, h4, -⟩ := c_tell hV hl s hI
  have key : ∃ u, fX8_startsBy_L8 (130 + 2 * j) am_fu t (nI 0) (nI 0) = some (u, nI (m_bs (m_so M.2.2.1 (M.2.2.2.2 j)) (M.2.2.1.1.1 0))) ∧ c_mw t u ∧ ∀ q p, q < M.2.2.1.1.1 0 → p < 8 → u.1 (208 + q) p = oI (w_fe M.2.2.1.1 (m_sc M.2.2.1 q (M.2.2.1.1.1 2)) p) := by
    refine sp_lq (fun f (x : AS × Int32) i => fX8_startsBy_L8 (130 + 2 * j) f x.1 x.2 i) (M.2.2.1.1.1 0) (fun i x => (c_mw t x.1 ∧ ∀ q p, q < i → p < 8 → x.1.1 (208 + q) p = oI (w_fe M.2.2.1.1 (m_sc M.2.2.1 q (M.2.2.1.1.1 2)) p)) ∧ x.2 = nI (m_bs (m_so M.2.2.1 (M.2.2.2.2 j)) i)) (fun r => ∃ u, r = some (u, nI (m_bs (m_so M.2.2.1 (M.2.2.2.2 j)) (M.2.2.1.1.1 0))) ∧ c_mw t u ∧ ∀ q p, q < M.2.2.1.1.1 0 → p < 8 → u.1 (208 + q) p = oI (w_fe M.2.2.1.1 (m_sc M.2.2.1 q (M.2.2.1.1.1 2)) p)) (fun f i x hi hx => ?_) (fun f x hx => ?_) (t, nI 0) ⟨⟨c_mw_refl t, fun q p hq => by omega⟩, rfl⟩ am_fu (am_fu_gt (by omega))
    · left
      obtain ⟨u, x⟩ := x
      obtain ⟨⟨k1, k3⟩, k2⟩ := hx
      dsimp only at k1 k2 k3 ⊢
      subst k2
      have i7 : i < 7 := by omega
      have I1 := c_I_mw hV h2 k1
      have T1 := c_T_mw hP h3 k1
      have e1 : u.1 25 1 = nI (M.2.2.1.1.1 0) := T_np I1.1.2.2.1.1 (j := 0) (by omega)
      have hm : m_bs (m_so M.2.2.1 (M.2.2.2.2 j)) i < 1024 := m_bs_lt (n := 10) _ i (by omega)
      obtain ⟨t1, a1, a2, ⟨b0, b1, b2, b3, b4, b5, b7, b8, b9, b10, b11, b12, b6⟩, a4⟩ := c_asItIs u I1.1.2.2.1
      have m2 : c_mw u (am_si t1 172 0 (nI i)) := c_mw_tr a2 ⟨fun c hc => by rw [r_so _ _ _ (by omega)], fun _ _ => rfl⟩
      obtain ⟨t2, d1, d2, d3, d4⟩ := c_wd3 (x := i) (y := M.2.2.1.1.1 2) hP hi vr2 (am_si t1 172 0 (nI i)) (c_PA_eq I1.1.2.2.1 hP (fun c _ _ => m2.1 c (by omega)) (fun c _ _ => m2.1 c (by omega))).1 (by rw [r_si, r_us]) (by simp (disch := omega) only [r_si, r_uo, b1]) (by simp (disch := omega) only [r_si, r_uo, b2]) (by simp (disch := omega) only [r_si, r_uo, b3]) (by simp (disch := omega) only [r_si, r_uo, b4]) (by simp (disch := omega) only [r_si, r_uo, b5]) (by simp (disch := omega) only [r_si, r_uo, b7]) (by simp (disch := omega) only [r_si, r_uo, b8]) (by simp (disch := omega) only [r_si, r_uo, b10]) b6 (c_WY_eq hP.1 T1.1 (fun c _ _ => m2.1 c (by omega)))
      have w1 : ∀ p, p < 8 → t2.1 202 p = oI (w_fe M.2.2.1.1 (m_sc M.2.2.1 i (M.2.2.1.1.1 2)) p) := fun p hp => d4.1.2.2.2.1 p hp
      have m3 : c_mw u (am_sr t2 (208 + i) (va_cpy (t2.1 202) (t2.1 (208 + i)) 0 0 8)) := c_mw_tr (c_mw_tr m2 d2) ⟨fun c hc => by rw [r_ro _ _ (by omega)], fun _ _ => rfl⟩
      have I3 := c_I_mw hV I1 m3
      obtain ⟨x1, x2, x3⟩ := c_slot I3.1 hV hj hw
      have ag := c_agreesF (g := w_fe M.2.2.1.1 (m_sc M.2.2.1 i (M.2.2.1.1.1 2))) (D := M.2.2.1.1) x1 ht1 v5 x2 x3 (fun k hk => by rw [g8_person I3.1, m_in_n hk (by omega)]; rfl) (fun p hp => by rw [r_ro _ _ (by omega)]; exact w1 p hp) ht2
      refine ⟨(am_sr t2 (208 + i) (va_cpy (t2.1 202) (t2.1 (208 + i)) 0 0 8), nI (m_bs (m_so M.2.2.1 (M.2.2.2.2 j)) (i + 1))), ⟨⟨c_mw_tr k1 m3, fun q p hq hp => ?_⟩, rfl⟩, ?_⟩
      · by_cases e : q = i
        · subst e
          try dsimp only
          rw [r_ri, va_cpy0 hp]
          exact w1 p hp
        · try dsimp only
          rw [r_ro _ _ (by omega), d3 _ (by omega), r_so _ _ _ (by omega), a4 _ (by omega)]
          exact k3 q p (by omega) hp
      · rw [fX8_startsBy_L8, m_bs_s]
        have e2 : m_so M.2.2.1 (M.2.2.2.2 j) i = m_al (m_ae (w_fe M.2.2.1.1 (m_sc M.2.2.1 i (M.2.2.1.1.1 2))) (M.2.2.2.2 j).2.2) ((M.2.2.2.2 j).2.1 / 2) := rfl
        rw [← e2] at ag
        simp (disch := omega) only [↓am_lq, b_lq, e1, b_le, b_lt, b_t, am_g_t, a1, am_cq, d1, b_add, ag, am_rq, m_if0, b_sh, b_ins, if_neg]
        cases m_so M.2.2.1 (M.2.2.2.2 j) i <;> rfl
    · obtain ⟨u, x⟩ := x
      obtain ⟨⟨k1, k3⟩, k2⟩ := hx
      dsimp only at k1 k2 k3 ⊢
      subst k2
      have I1 := c_I_mw hV h2 k1
      have e1 : u.1 25 1 = nI (M.2.2.1.1.1 0) := T_np I1.1.2.2.1.1 (j := 0) (by omega)
      refine ⟨u, ?_, k1, k3⟩
      rw [fX8_startsBy_L8]
      simp (disch := omega) only [b_lq, e1, b_le, if_pos, if_true]
  obtain ⟨u, u1, u2, u3⟩ := key
  refine ⟨u, ?_, c_I_mw hV h2 u2, c_F_tr h4 (c_mw_F u2), u3⟩
  unfold fX8_startsBy
  rw [h1, am_cq]
  exact u1
theorem r_slot (hI : r_I M s) (hV : m_MV M) {j w : Nat} (hj : j < 4) (hw : (M.2.2.2.2 j).1 = some w) : (M.2.2.2.2 j).2.1 ≤ 60 ∧ s.1 216 j = nI w ∧ w < 4 ∧ s.1 217 j = nI (M.2.2.2.2 j).2.1 ∧ ∀ i, i < (M.2.2.2.2 j).2.1 → s.2 218 (60 * j + i) = (M.2.2.2.2 j).2.2 i := by
  obtain ⟨x1, x2⟩ := hI.2.2.2.2 j hj
  obtain ⟨x3, x4⟩ := x2 w hw
  refine ⟨(hV.2.2.2.2.2 j hj).1, by rw [x1, hw]; rfl, (hV.2.2.2.2.2 j hj).2 w hw, x3, x4⟩
theorem r_startsOf (hV : m_MV M) (hl : 0 < M.2.2.1.1.1 6) {j w : Nat} (hj : j < 4) (hw : (M.2.2.2.2 j).1 = some w) (ht : m_tf M.2.2.1.1 (M.2.2.2.2 j) = true) (s : AS) (hI : r_I M s) : ∃ t, fX9_startsOf s (nI j) = some (t, nI (m_bs (m_so M.2.2.1 (M.2.2.2.2 j)) (M.2.2.1.1.1 0))) ∧ r_mv s t ∧ r_PL M.2.2.1.1 t ∧ ∃ x, r_W x (M.2.2.1.1.1 2) (m_AN M.2.2.1) (m_BA M.2.2.1) none t := by
  have hP := m_MV_P hV
  have hV' := hP.1
  obtain ⟨v0, v4, v5, vr, vp, vg, vs, vr2, vo, vl, vz⟩ := hV'
  rw [Bool.and_eq_true] at ht
  obtain ⟨ht1, ht2⟩ := ht
  have ht1 := of_decide_eq_true ht1
  obtain ⟨t, a1, a2, a3, a4⟩ := r_lays hP s hI.2.2.1
  have P1 := r_PA_PL (r_PA_eq hI.2.2.1 (fun c _ _ => a4 c (by omega)))
  have key : ∃ u, fX9_startsOf_L8 (nI j) am_fu t (nI 0) (nI 0) = some (u, nI (m_bs (m_so M.2.2.1 (M.2.2.2.2 j)) (M.2.2.1.1.1 0))) ∧ r_mv t u ∧ r_PL M.2.2.1.1 u ∧ ∃ x, r_W x (M.2.2.1.1.1 2) (m_AN M.2.2.1) (m_BA M.2.2.1) none u := by
    refine sp_lq (fun f (x : AS × Int32) i => fX9_startsOf_L8 (nI j) f x.1 x.2 i) (M.2.2.1.1.1 0) (fun i x => (r_mv t x.1 ∧ r_PL M.2.2.1.1 x.1 ∧ ∃ z, r_W z (M.2.2.1.1.1 2) (m_AN M.2.2.1) (m_BA M.2.2.1) none x.1) ∧ x.2 = nI (m_bs (m_so M.2.2.1 (M.2.2.2.2 j)) i)) (fun r => ∃ u, r = some (u, nI (m_bs (m_so M.2.2.1 (M.2.2.2.2 j)) (M.2.2.1.1.1 0))) ∧ r_mv t u ∧ r_PL M.2.2.1.1 u ∧ ∃ x, r_W x (M.2.2.1.1.1 2) (m_AN M.2.2.1) (m_BA M.2.2.1) none u) (fun f i x hi hx => ?_) (fun f x hx => ?_) (t, nI 0) ⟨⟨r_mv_refl t, P1, _, a3⟩, rfl⟩ am_fu (am_fu_gt (by omega))
    · left
      obtain ⟨u, x⟩ := x
      obtain ⟨⟨k1, k3, z, k4⟩, k2⟩ := hx
      dsimp only at k1 k2 k3 k4 ⊢
      subst k2
      have i7 : i < 7 := by omega
      have e0 : u.1 222 0 = nI (M.2.2.1.1.1 0) := k3.1 0 (by omega)
      have hm : m_bs (m_so M.2.2.1 (M.2.2.2.2 j)) i < 1024 := m_bs_lt (n := 10) _ i (by omega)
      have k5 : r_mv u (am_si u 215 25 (nI i)) := r_mv_si (r_mv_refl u) _ (by omega)
      obtain ⟨d1, d2, d3, d4, d5, d6, d7, d8⟩ := k4
      obtain ⟨w', w1, w2, w3, w4, w5, w6⟩ := r_wd3 (x := i) (y := M.2.2.1.1.1 2) hP hi vr2 (am_si u 215 25 (nI i)) (r_PL_fr (R := fun c => c = 215) k3 (fr_si (fr_refl _ u) _ _ rfl) (fun c _ _ => by omega)) ⟨by simp (disch := omega) only [r_si, r_uo, d1], by simp (disch := omega) only [r_si, r_uo, d2], by rw [r_si, r_us], by simp (disch := omega) only [r_si, r_uo, d4], by simp (disch := omega) only [r_si, r_uo, d5], by simp (disch := omega) only [r_si, r_uo, d6], by simp (disch := omega) only [r_si, r_uo, d7], d8⟩
      have I3 := r_I_mv (r_I_mv (r_I_mv (r_I_mv hI a2) k1) k5) w2
      obtain ⟨x1, x2, x3, x4, x5⟩ := r_slot I3 hV hj hw
      refine ⟨(w', nI (m_bs (m_so M.2.2.1 (M.2.2.2.2 j)) (i + 1))), ⟨⟨r_mv_tr (r_mv_tr k1 k5) w2, w4, i, w3⟩, rfl⟩, ?_⟩
      rw [fX9_startsOf_L8, m_bs_s]
      simp (disch := omega) only [↓am_lq, b_lq, e0, b_le, b_lt, b_t, am_g_t, w1, am_cq, b_add, if_neg]
      rw [r_agreesF (g := w_fe M.2.2.1.1 (m_sc M.2.2.1 i (M.2.2.1.1.1 2))) (D := M.2.2.1.1) hj x1 ht1 v5 x4 x5 (fun p hp => w5.1.2.2.2.1 p hp) ht2]
      have e2 : m_so M.2.2.1 (M.2.2.2.2 j) i = m_al (m_ae (w_fe M.2.2.1.1 (m_sc M.2.2.1 i (M.2.2.1.1.1 2))) (M.2.2.2.2 j).2.2) ((M.2.2.2.2 j).2.1 / 2) := rfl
      rw [← e2]
      simp (disch := omega) only [↓am_lq, b_lq, m_if0, b_sh, b_add]
      cases m_so M.2.2.1 (M.2.2.2.2 j) i
      · simp (disch := omega) only [b_or0, if_false, Bool.false_eq_true]
      · simp (disch := omega) only [b_ins, if_true]
    · obtain ⟨u, x⟩ := x
      obtain ⟨⟨k1, k3, k4⟩, k2⟩ := hx
      dsimp only at k1 k2 k3 k4 ⊢
      subst k2
      have e0 : u.1 222 0 = nI (M.2.2.1.1.1 0) := k3.1 0 (by omega)
      refine ⟨u, ?_, k1, k3, k4⟩
      rw [fX9_startsOf_L8]
      simp (disch := omega) only [b_lq, e0, b_le, b_lt, b_t, am_g_t, if_pos, if_true]
  obtain ⟨u, u1, u2, u3⟩ := key
  refine ⟨u, ?_, r_mv_tr a2 u2, u3⟩
  unfold fX9_startsOf
  rw [a1, am_cq]
  exact u1
theorem r_whyNot (hI : r_I M s) (hV : m_MV M) : fX9_whyNotStarts s a = some (m_rk M a (m_tf M.2.2.1.1 (M.2.2.2.2 a.toNatClampNeg)) (nI 0)) := by
  unfold fX9_whyNotStarts m_rk
  rw [g9_slot, am_rq]
  simp only [↓am_lq, b_lq, m_if0]
  cases hb : m_in a 4 with
  | false => rfl
  | true =>
    obtain ⟨j, hj, rfl⟩ := m_in_k (by omega) hb
    rw [g9_march hI hV, am_rq, m_if0, b_t (by omega), if_pos rfl, Bool.true_and]
    have x1 := (hI.2.2.2.2 j hj).1
    cases hl : decide (0 < M.2.2.1.1.1 6) with
    | false => rfl
    | true =>
      cases hw : (M.2.2.2.2 j).1 with
      | none =>
        rw [hw] at x1
        simp (disch := omega) only [b_lt, b_t, am_g_t, oI_q, x1, if_true]
      | some w =>
        obtain ⟨y1, y2, y3, y4, y5⟩ := r_slot hI hV hj hw
        have b1 : (nI w = oI none) = False := b_nn (by omega)
        have v5 := (m_MV_P hV).1.2.2.1
        have e6 : s.1 222 5 = nI (M.2.2.1.1.1 5) := (r_PA_PL hI.2.2.1).1 5 (by omega)
        simp (disch := omega) only [b_lt, b_t, b_eq, am_g_t, oI_q, y2, y4, b1, b_m2, if_true, if_false]
        by_cases c : (M.2.2.2.2 j).2.1 % 2 = 0
        · rw [if_pos c, r_whyF (D := M.2.2.1.1) hj y1 c v5 y4 y5 e6]
          unfold m_tf
          rw [decide_eq_true c, Bool.true_and]
          cases m_al (m_of M.2.2.1.1 (M.2.2.2.2 j).2.2) ((M.2.2.2.2 j).2.1 / 2) <;> rfl
        · rw [if_neg c]
          unfold m_tf
          rw [decide_eq_false c]
          rfl
theorem Q_starts (a : Int32) : m_OK (fun s => fX8_starts s a) (fun s => fX9_starts s a) := m_ok_v (fun M => m_rk M a (m_tf M.2.2.1.1 (M.2.2.2.2 a.toNatClampNeg)) (nI (m_bs (m_so M.2.2.1 (M.2.2.2.2 a.toNatClampNeg)) (M.2.2.1.1.1 0))))
  (fun M s hV hI => by
    unfold fX8_starts
    rw [c_lacks hI.1 hV, am_rq]
    cases hb : m_in a 4 && decide (0 < M.2.2.1.1.1 6) with
    | false =>
      obtain ⟨h1, -⟩ := m_lk_f hb (b := true) (r := nI 0)
      rw [h1, (m_lk_f hb).2]
      exact ⟨s, if_neg (by decide), hI, c_F_refl s⟩
    | true =>
      have hb' := hb
      rw [Bool.and_eq_true] at hb
      have hl := of_decide_eq_true hb.2
      obtain ⟨j, hj, rfl⟩ := m_in_k (by omega) hb.1
      rw [b_t (by omega)]
      cases hw : (M.2.2.2.2 j).1 with
      | none =>
        obtain ⟨h1, -⟩ := m_lk_n hj hb' hw (b := true) (r := nI 0)
        rw [h1, (m_lk_n hj hb' hw).2]
        exact ⟨s, if_neg (by decide), hI, c_F_refl s⟩
      | some w =>
        obtain ⟨h1, -⟩ := m_lk_s hj hb' hw (b := true) (r := nI 0)
        rw [h1, (m_lk_s hj hb' hw).2]
        obtain ⟨x1, x2, x3⟩ := c_slot hI.1 hV hj hw
        have e6 : s.1 25 6 = nI (M.2.2.1.1.1 5) := T_np hI.1.2.2.1.1 (j := 5) (by omega)
        have ct := c_tellsFalls (D := M.2.2.1.1) x1 x2 x3 e6
        simp (disch := omega) only [↓am_lq, b_lq, b_lt, b_t, am_g_t, ct, am_rq, m_if0, if_true]
        cases ht : m_tf M.2.2.1.1 (M.2.2.2.2 j) with
        | false =>
          have ht' : (decide ((M.2.2.2.2 j).2.1 % 2 = 0) && m_al (m_of M.2.2.1.1 (M.2.2.2.2 j).2.2) ((M.2.2.2.2 j).2.1 / 2)) = false := ht
          rw [ht']
          exact ⟨s, rfl, hI, c_F_refl s⟩
        | true =>
          have ht' : (decide ((M.2.2.2.2 j).2.1 % 2 = 0) && m_al (m_of M.2.2.1.1 (M.2.2.2.2 j).2.2) ((M.2.2.2.2 j).2.1 / 2)) = true := ht
          rw [ht']
          obtain ⟨t, t1, t2, t3, t4⟩ := c_startsBy hV hl hj hw ht s hI
          refine ⟨t, ?_, t2, t3⟩
          rw [if_pos rfl, if_pos rfl, t1, am_cq])
  (fun M s hV hI => by
    obtain ⟨I1, m1⟩ := r_0 hI
    unfold fX9_starts
    simp only [↓am_lq, b_lq]
    rw [r_whyNot I1 hV, am_rq]
    cases hb : m_in a 4 && decide (0 < M.2.2.1.1.1 6) with
    | false =>
      rw [(m_lk_f hb).2, (m_lk_f hb).2]
      exact ⟨_, if_neg (by decide), I1, m1.1⟩
    | true =>
      have hb' := hb
      rw [Bool.and_eq_true] at hb
      have hl := of_decide_eq_true hb.2
      obtain ⟨j, hj, rfl⟩ := m_in_k (by omega) hb.1
      rw [b_t (by omega)]
      cases hw : (M.2.2.2.2 j).1 with
      | none =>
        rw [(m_lk_n hj hb' hw).2, (m_lk_n hj hb' hw).2]
        exact ⟨_, if_neg (by decide), I1, m1.1⟩
      | some w =>
        rw [(m_lk_s hj hb' hw).2, (m_lk_s hj hb' hw).2]
        cases ht : m_tf M.2.2.1.1 (M.2.2.2.2 j) with
        | false => exact ⟨_, if_neg (by decide), I1, m1.1⟩
        | true =>
          obtain ⟨t, t1, t2, t3⟩ := r_startsOf hV hl hj hw ht _ I1
          refine ⟨t, ?_, r_I_mv I1 t2, r_F_tr m1.1 t2.1⟩
          rw [if_pos rfl, if_pos rfl, if_pos rfl, t1, am_cq])
end SA
