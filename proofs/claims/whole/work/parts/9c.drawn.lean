/-! RAIN: drawn, luck. -/
theorem j_and1 (y : Int64) : y &&& 1 = 0 ∨ y &&& 1 = 1 := by
  have h : (y &&& 1).toBitVec = 0#64 ∨ (y &&& 1).toBitVec = 1#64 := by
    rw [Int64.toBitVec_and]
    show y.toBitVec &&& 1#64 = 0#64 ∨ y.toBitVec &&& 1#64 = 1#64
    rw [BitVec.and_one_eq_setWidth_ofBool_getLsbD]
    cases y.toBitVec.getLsbD 0
    · exact .inl (by decide)
    · exact .inr (by decide)
  rcases h with h | h
  · exact .inl (Int64.toBitVec_inj.mp h)
  · exact .inr (Int64.toBitVec_inj.mp h)
/-- it rains at n -/
def m_rb (x : Int64) (n : Nat) : Bool := decide (lg_cmp ((x >>> ((nI n).toInt64 &&& 63)) &&& 1) 1 = 0)
theorem c_rn_b (j : Nat → Int64) (n : Nat) : c_rn j n = m_rb (j 6) n := rfl
theorem r_rn_b (j : Nat → Int64) (n : Nat) : r_rn j n = m_rb (j 33) n := by
  unfold r_rn m_rb
  rcases j_and1 (j 33 >>> ((nI n).toInt64 &&& 63)) with h | h
  · rw [h]; decide
  · rw [h]; decide
section RN
variable {M : m_M} {s t : AS} {P : m_P}
abbrev m_rc (P : m_P) (R : Nat → Bool) : w_C := (P.1.1 1, P.1.1 2, m_AN P, fun _ => false, R, fun _ _ => none, fun _ => y_N P.1 (m_BA P))
theorem m_rcK (hV : m_PV P) (hl : 0 < P.1.1 6) (R : Nat → Bool) : w_CK P.1 (m_rc P R) := by
  have hV' := hV.1
  obtain ⟨v0, v4, v5, vr, vp, vg, vs, vr2, vo, vl, vz⟩ := hV'
  exact ⟨vs hl, vr2, m_AN_lt hV, fun n p q hq => (by cases hq), fun n a b q hq => (y_nx_lt hq).1⟩
theorem c_goInRain (hV : m_PV P) (hl : 0 < P.1.1 6) {x : Int64} {R : Nat → Bool} (hR : ∀ n, n < 61 → m_rb x n = R n) {last : Nat} (hla : last ≤ 60) (s : AS) (hP : c_PA 25 47 P s) (hY : c_WY 138 P.1 (m_BA P) s) : ∃ t, fX8_goInRain s x (nI last) = some (t, ()) ∧ c_mw s t ∧ c_GP 198 P.1 (m_rc P R) none last t := by
  obtain ⟨t1, a1, a2, ⟨b0, b1, b2, b3, b4, b5, b7, b8, b9, b10, b11, b12, b6⟩, a4⟩ := c_asItIs s hP
  have m2 : c_mw s (am_si (am_sj t1 172 6 x) 172 5 (nI last)) := c_mw_tr a2 ⟨fun c hc => by rw [r_so _ _ _ (by omega), r_j1], fun c hc => by rw [r_s2, r_jo _ _ _ hc]⟩
  have P2 := c_PA_eq hP hV (fun c _ _ => m2.1 c (by omega)) (fun c _ _ => m2.1 c (by omega))
  have e6 : (am_si (am_sj t1 172 6 x) 172 5 (nI last)).2 172 6 = x := by rw [r_s2, r_ji, r_ls]
  have hwv : ∀ n, n < 61 → c_wv ((am_si (am_sj t1 172 6 x) 172 5 (nI last)).1 172) n = 138 := by
    intro n hn
    unfold c_wv
    simp (disch := omega) only [r_si, r_uo, r_j1, b7, b8, b_t]
    split <;> rfl
  obtain ⟨t2, h1, h2, h3⟩ := c_go (o := 198) (op := 25) (oc := 172) (D := P.1) (C := m_rc P R) (g := none) (last := last) hV.1 (m_rcK hV hl R) (by omega) (by omega) (fun q h => (by cases h)) hla (am_si (am_sj t1 172 6 x) 172 5 (nI last)) P2.1 ⟨by simp (disch := omega) only [r_si, r_uo, r_j1, b1], ⟨by simp (disch := omega) only [r_si, r_uo, r_j1, b2], 0, by omega, by simp (disch := omega) only [r_si, r_uo, r_j1, b3], fun p hp => by simp⟩, c_SH_0 (fun _ _ => rfl) (by simp (disch := omega) only [r_si, r_uo, r_j1, b10]), fun n hn => by rw [c_rn_b, e6]; exact hR n hn⟩ (fun n hn => by rw [hwv n hn]; exact ⟨by omega, by omega, c_WY_NX hV.1 (c_WY_eq hV.1 hY (fun c _ _ => m2.1 c (by omega)))⟩) (by simp (disch := omega) only [r_si, r_uo, r_j1, b0]) (by simp (disch := omega) only [r_si, r_uo, r_j1, b4]) (by rw [r_si, r_us]) (fun n p hn hp h => by cases h)
  refine ⟨t2, ?_, c_mw_tr m2 (c_mw_fr h2 (fun c hc => by have : 198 ≤ c ∧ c < 198 + 9 := hc; omega)), h3⟩
  unfold fX8_goInRain
  rw [a1, am_cq]
  simp only [↓am_lq, h1, am_cq]
/-- the reference's case, but for the rain -/
def r_V (P : m_P) (s : AS) : Prop := s.1 215 23 = nI (m_AN P) ∧ s.1 215 24 = nI (m_BA P) ∧ s.1 215 25 = nI (P.1.1 1) ∧ s.1 215 26 = nI (P.1.1 2) ∧ s.1 215 27 = oI none ∧ s.1 215 30 = oI none ∧ s.1 215 31 = oI none
theorem r_B_V {s : AS} (h : r_B P s) : r_V P s ∧ s.2 215 33 = 0 := ⟨⟨h.1, h.2.1, h.2.2.1, h.2.2.2.1, h.2.2.2.2.1, h.2.2.2.2.2.1, h.2.2.2.2.2.2.1⟩, h.2.2.2.2.2.2.2⟩
theorem r_rain (hV : m_PV P) (hl : 0 < P.1.1 6) {R : Nat → Bool} (s : AS) (hR : ∀ n, n < 61 → m_rb (s.2 215 33) n = R n) (hP : r_PL P.1 s) (hW : r_V P s) : ∃ t, fX9_runs s = some (t, ()) ∧ r_mv s t ∧ r_V P t ∧ r_PL P.1 t ∧ r_GI P.1 (m_rc P R) none (m_BA P) 61 t ∧ t.2 = s.2 := by
  have hW' := hW
  obtain ⟨b1, b2, b3, b4, b5, b6, b7⟩ := hW'
  obtain ⟨t, h1, h2, h3, h4⟩ := r_runs (D := P.1) (C := m_rc P R) (tr := none) (sh := m_BA P) hV.1 (m_rcK hV hl R) (m_BA_lt hV) (fun n _ => rfl) s hP ⟨b4, ⟨b1, fun p hp => by rw [b6, b_nn (by omega)]; exact ⟨fun z => z.elim, fun z => (by cases z)⟩⟩, fun n p hn hp => ⟨⟨fun z => (by cases z), fun z => by
    have := z.1
    rw [b5, b_nn (by omega)] at this
    exact this.elim⟩, fun x hx => (by cases hx)⟩, ⟨b7, fun m k h => (by cases h)⟩, fun n hn => by rw [r_rn_b]; exact hR n hn⟩ b2 b3
  refine ⟨t, h1, r_mv_runs (r_mv_refl s) h2 h3, ⟨?_, ?_, ?_, ?_, ?_, ?_, ?_⟩, r_PL_fr hP h2 (fun c _ _ => by omega), h4, h2.1⟩
  · rw [h3 23 (by omega) (by omega)]; exact b1
  · obtain ⟨-, -, -, -, -, -, -, z, z1, z2, z3, z4, z5⟩ := h4
    rw [z2, z5 rfl]
  · rw [h3 25 (by omega) (by omega)]; exact b3
  · rw [h3 26 (by omega) (by omega)]; exact b4
  · rw [h3 27 (by omega) (by omega)]; exact b5
  · rw [h3 30 (by omega) (by omega)]; exact b6
  · rw [h3 31 (by omega) (by omega)]; exact b7
def m_d1 (x : Int64) : Int64 := ((1103515245 * x) + 12345) - ((1103515245 * x) + 12345) / 2147483648 * 2147483648
def m_d2 (y : Int64) : Int64 := (y / 65536) - (y / 65536) / 10 * 10
/-- the rain drawn, of the first n steps -/
def m_dr (od seed : Int64) : Nat → Int64 × Int64
  | 0 => (seed, 0)
  | n + 1 => (m_d1 (m_dr od seed n).1, if od ≤ m_d2 (m_d1 (m_dr od seed n).1) then (m_dr od seed n).2 else (m_dr od seed n).2 ||| (1 <<< ((nI n).toInt64 &&& 63)))
theorem m_dr_s (od seed : Int64) (n : Nat) : m_dr od seed (n + 1) = (m_d1 (m_dr od seed n).1, if od ≤ m_d2 (m_d1 (m_dr od seed n).1) then (m_dr od seed n).2 else (m_dr od seed n).2 ||| (1 <<< ((nI n).toInt64 &&& 63))) := Eq.trans rfl rfl
theorem j_n1 : ¬ (2147483648 : Int64) = 0 := by decide
theorem j_n2 : ¬ (65536 : Int64) = 0 := by decide
theorem j_n3 : ¬ (10 : Int64) = 0 := by decide
theorem j_g1 {α : Type} {k : Option α} [inst : Decidable (¬ (2147483648 : Int64) = 0)] : @am_g α (¬ (2147483648 : Int64) = 0) inst k = k := if_pos j_n1
theorem j_g2 {α : Type} {k : Option α} [inst : Decidable (¬ (65536 : Int64) = 0)] : @am_g α (¬ (65536 : Int64) = 0) inst k = k := if_pos j_n2
theorem j_g3 {α : Type} {k : Option α} [inst : Decidable (¬ (10 : Int64) = 0)] : @am_g α (¬ (10 : Int64) = 0) inst k = k := if_pos j_n3
theorem c_rainFrom {d : Nat} (e4 : s.1 25 4 = nI d) (seed : Int64) : fX8_rainFrom s seed = some (m_dr (nI d).toInt64 seed 61).2 := by
  unfold fX8_rainFrom
  simp only [b_lq]
  refine sp_lq (fun f (x : Int64 × Int64) i => fX8_rainFrom_L8 s f x.1 x.2 i) 61 (fun i x => x = m_dr (nI d).toInt64 seed i) (fun r => r = some (m_dr (nI d).toInt64 seed 61).2) (fun f i x hi hx => ?_) (fun f x hx => ?_) (seed, 0) rfl am_fu (am_fu_gt (by omega))
  · left
    refine ⟨_, rfl, ?_⟩
    try dsimp only
    subst hx
    rw [fX8_rainFrom_L8, m_dr_s]
    simp (disch := omega) only [↓am_lq, b_lq, b_le, e4, j_g1, j_g2, j_g3, j_ge, b_add, if_neg]
    unfold m_d2 m_d1
    split <;> rfl
  · subst hx
    try dsimp only
    rw [fX8_rainFrom_L8]
    simp (disch := omega) only [b_lq, b_le, if_pos]
theorem r_V_sj {k : Nat} {v : Int64} (h : r_V P s) : r_V P (am_sj s 215 k v) := h
theorem r_draws (hV : m_PV P) (hl : 0 < P.1.1 6) (seed : Int64) (s : AS) (hP : r_PA 0 P s) : ∃ t, fX9_draws s seed = some (t, ()) ∧ r_mv s t ∧ r_GI P.1 (m_rc P (m_rb (m_dr (nI (P.1.1 3)).toInt64 seed 61).2)) none (m_BA P) 61 t ∧ r_PL P.1 t := by
  obtain ⟨t, a1, a2, a3, a4⟩ := r_lays hV s hP
  have P1 := r_PA_PL (r_PA_eq hP (fun c _ _ => a4 c (by omega)))
  obtain ⟨V1, z1⟩ := r_B_V a3
  have key : ∃ u, fX9_draws_L9 am_fu t seed (nI 0) = some (u, ()) ∧ r_mv t u ∧ r_GI P.1 (m_rc P (m_rb (m_dr (nI (P.1.1 3)).toInt64 seed 61).2)) none (m_BA P) 61 u ∧ r_PL P.1 u := by
    refine sp_lq (fun f (x : AS × Int64) i => fX9_draws_L9 f x.1 x.2 i) 61 (fun i x => r_mv t x.1 ∧ r_PL P.1 x.1 ∧ r_V P x.1 ∧ x.1.2 215 33 = (m_dr (nI (P.1.1 3)).toInt64 seed i).2 ∧ x.2 = (m_dr (nI (P.1.1 3)).toInt64 seed i).1) (fun r => ∃ u, r = some (u, ()) ∧ r_mv t u ∧ r_GI P.1 (m_rc P (m_rb (m_dr (nI (P.1.1 3)).toInt64 seed 61).2)) none (m_BA P) 61 u ∧ r_PL P.1 u) (fun f i x hi hx => ?_) (fun f x hx => ?_) (t, seed) ⟨r_mv_refl t, P1, V1, z1, rfl⟩ am_fu (am_fu_gt (by omega))
    · left
      obtain ⟨u, x⟩ := x
      obtain ⟨k1, k2, k3, k4, k5⟩ := hx
      dsimp only at k1 k2 k3 k4 k5 ⊢
      subst k5
      have e3 : u.1 222 3 = nI (P.1.1 3) := k2.1 3 (by omega)
      by_cases c : (nI (P.1.1 3)).toInt64 ≤ m_d2 (m_d1 (m_dr (nI (P.1.1 3)).toInt64 seed i).1)
      · refine ⟨(u, m_d1 (m_dr (nI (P.1.1 3)).toInt64 seed i).1), ⟨k1, k2, k3, by rw [m_dr_s, if_pos c]; exact k4, by rw [m_dr_s]⟩, ?_⟩
        unfold m_d2 m_d1 at c
        rw [fX9_draws_L9]
        simp (disch := omega) only [↓am_lq, b_lq, b_lt, b_t, e3, j_g1, j_g2, j_g3, am_g_t, j_ge, b_add, if_neg]
        rw [if_pos c]
        rfl
      · refine ⟨(am_sj u 215 33 ((m_dr (nI (P.1.1 3)).toInt64 seed i).2 ||| (1 <<< ((nI i).toInt64 &&& 63))), m_d1 (m_dr (nI (P.1.1 3)).toInt64 seed i).1), ⟨r_mv_sj k1 _, k2, r_V_sj k3, by rw [m_dr_s, if_neg c, r_ji, r_ls], by rw [m_dr_s]⟩, ?_⟩
        unfold m_d2 m_d1 at c
        rw [fX9_draws_L9]
        simp (disch := omega) only [↓am_lq, b_lq, b_lt, b_t, e3, j_g1, j_g2, j_g3, am_g_t, j_ge, b_add, if_neg, k4]
        rfl
    · obtain ⟨u, x⟩ := x
      obtain ⟨k1, k2, k3, k4, k5⟩ := hx
      dsimp only at k1 k2 k3 k4 k5 ⊢
      obtain ⟨w, w1, w2, w3, w4, w5, w6⟩ := r_rain (R := m_rb (m_dr (nI (P.1.1 3)).toInt64 seed 61).2) hV hl u (fun n hn => by rw [k4]) k2 k3
      refine ⟨w, ?_, r_mv_tr k1 w2, w5, w4⟩
      rw [fX9_draws_L9]
      simp (disch := omega) only [b_lq, b_lt, if_pos, w1, am_cq]
  obtain ⟨u, u1, u2, u3⟩ := key
  refine ⟨u, ?_, r_mv_tr a2 u2, u3⟩
  unfold fX9_draws
  rw [a1, am_cq]
  exact u1
theorem m_ifg {α : Type} {a : Int32} {m : Nat} {x y : α} (hm : m ≤ 2000000000) : (if a < nI 0 then x else if nI m < a then x else y) = if m_in a (m + 1) then y else x := by
  rw [← m_if (by omega)]
  by_cases c : a < nI 0
  · rw [if_pos c, if_pos c]
  · rw [if_neg c, if_neg c]
    have e : (a < nI (m + 1)) = ¬ (nI m < a) := by
      rw [Int32.lt_iff_toInt_lt, Int32.lt_iff_toInt_lt, b_toI (by omega), b_toI (by omega)]
      apply propext
      omega
    by_cases c2 : nI m < a
    · rw [if_pos c2, if_neg (by rw [e]; exact fun z => z c2)]
    · rw [if_neg c2, if_pos (by rw [e]; exact c2)]
theorem r_seed (h : r_I M s) (hV : m_MV M) {a : Int32} : fX9_isSeed s a = some (nI (decide (0 < M.2.2.1.1.1 6) && m_in a 2000000001).toNat) := by
  unfold fX9_isSeed
  rw [g9_march h hV, am_rq, r_in (m := 2000000000) (by omega) (by decide)]
  simp (disch := omega) only [↓am_lq, am_rq, b_b0, b_lq, b_eq, or_true, true_or, am_gT]
  cases decide (0 < M.2.2.1.1.1 6) <;> cases m_in a 2000000001 <;> rfl
/-- the case of a seed -/
abbrev m_sd (P : m_P) (seed : Int64) : w_C := m_rc P (m_rb (m_dr (nI (P.1.1 3)).toInt64 seed 61).2)
theorem m_ever {D : w_D} {C : w_C} (h5 : D.1 5 ≤ 8) : m_or (fun p => if (w_fe D C p).isSome then some p else none) (D.1 5) = (w_W D C 61).2.2.1 := by
  obtain ⟨h0, h1, h2, h3, h4, h5', h6⟩ := w_W_ok (D := D) (C := C) h5 61
  have key : ∀ k, k ≤ D.1 5 → ∀ i, (m_or (fun p => if (w_fe D C p).isSome then some p else none) k).testBit i = (decide (i < k) && (w_W D C 61).2.2.1.testBit i) := by
    intro k
    induction k with
    | zero => intro _ i; simp [m_or]
    | succ k ih =>
      intro hk i
      have ih := ih (by omega) i
      have e : (w_fe D C k).isSome = (w_W D C 61).2.2.1.testBit k := h5' k
      show (match (if (w_fe D C k).isSome then some k else none) with
        | none => m_or (fun p => if (w_fe D C p).isSome then some p else none) k
        | some q => w_ins (m_or (fun p => if (w_fe D C p).isSome then some p else none) k) q).testBit i = _
      rw [e]
      by_cases c : i = k
      · subst c
        cases hb : (w_W D C 61).2.2.1.testBit i with
        | true =>
          rw [if_pos rfl]
          try dsimp only
          rw [w_ins_t]; simp
        | false =>
          rw [if_neg (by simp)]
          try dsimp only
          rw [ih, hb]; simp
      · have e1 : decide (i < k + 1) = decide (i < k) := decide_eq_decide.mpr (by omega)
        have e2 : decide (k = i) = false := decide_eq_false (fun z => c z.symm)
        rw [e1]
        cases hb : (w_W D C 61).2.2.1.testBit k with
        | true =>
          rw [if_pos rfl]
          try dsimp only
          rw [w_ins_t, ih, e2, Bool.or_false]
        | false =>
          rw [if_neg (by simp)]
          try dsimp only
          exact ih
  apply Nat.eq_of_testBit_eq
  intro i
  rw [key _ (Nat.le_refl _) i]
  by_cases c : i < D.1 5
  · rw [decide_eq_true c, Bool.true_and]
  · rw [decide_eq_false c, Bool.false_and]
    exact (Nat.testBit_lt_two_pow (Nat.lt_of_lt_of_le h1 (Nat.pow_le_pow_right (by omega) (by omega)))).symm
theorem m_or_s (f : Nat → Option Nat) (n : Nat) : m_or f (n + 1) = match f n with
    | none => m_or f n
    | some q => w_ins (m_or f n) q := Eq.trans rfl rfl
theorem r_drawn53 {J : Int32 → Option (AS × Int32)} (hP : r_PL P.1 s) (v5 : P.1.1 5 ≤ 8) {fe : Nat → Option Nat} (hf : ∀ p, p < 8 → s.1 233 p = oI (fe p)) (hb : ∀ p k, fe p = some k → k < 61) : fX9_drawn_L53 s J am_fu (nI 0) (nI 0) = J (nI (m_or (fun p => if (fe p).isSome then some p else none) (P.1.1 5))) := by
  have e6 := r_people hP
  refine sp_lq (fun f (x : Int32) i => fX9_drawn_L53 s J f x i) (P.1.1 5) (fun i x => x = nI (m_or (fun p => if (fe p).isSome then some p else none) i)) (fun r => r = J (nI (m_or (fun p => if (fe p).isSome then some p else none) (P.1.1 5)))) (fun f i x hi hx => ?_) (fun f x hx => ?_) (nI 0) rfl am_fu (am_fu_gt (by omega))
  · left
    refine ⟨_, rfl, ?_⟩
    try dsimp only
    subst hx
    have e1 := hf i (by omega)
    have hm : m_or (fun p => if (fe p).isSome then some p else none) i < 1024 := m_or_lt (fun k q hk hq => by
      split at hq
      · injection hq with hq; omega
      · cases hq)
    rw [fX9_drawn_L53, e6, am_rq, m_or_s]
    cases h : fe i with
    | none =>
      rw [h] at e1
      simp (disch := omega) only [↓am_lq, b_lq, oI_q, b_le, b_lt, b_t, am_g_t, e1, b_or0, b_add, if_neg, if_true, Option.isSome_none, Bool.false_eq_true, if_false]
    | some k =>
      have hk := hb i k h
      rw [h, oI_s] at e1
      have b1 : (nI k = oI none) = False := b_nn (by omega)
      simp (disch := omega) only [↓am_lq, b_lq, oI_q, b_le, b_lt, b_t, am_g_t, e1, b1, b_sh, b_ins, b_add, if_neg, if_true, Option.isSome_some, if_false]
  · try dsimp only
    rw [fX9_drawn_L53, hx, e6, am_rq]
    simp (disch := omega) only [b_le, if_pos]
theorem r_drawn96 {J : Int32 → Option (AS × Int32)} {D : w_D} {C : w_C} (hD : w_V D) (hC : w_CK D C) (hf : ∀ n, n < 61 → s.1 229 n = oI (w_at D C n)) : fX9_drawn_L96 s J am_fu (nI 0) (nI 0) = J (nI (w_se D C 61)) := by
  refine sp_lq (fun f (x : Int32) i => fX9_drawn_L96 s J f x i) 61 (fun i x => x = nI (w_se D C i)) (fun r => r = J (nI (w_se D C 61))) (fun f i x hi hx => ?_) (fun f x hx => ?_) (nI 0) rfl am_fu (am_fu_gt (by omega))
  · left
    refine ⟨_, rfl, ?_⟩
    try dsimp only
    subst hx
    have e1 := hf i (by omega)
    have hm := w_se_lt hD hC i
    have v0 := hD.1
    rw [fX9_drawn_L96, w_se_s]
    cases h : w_at D C i with
    | none =>
      rw [h] at e1
      simp (disch := omega) only [↓am_lq, b_lq, oI_q, b_le, b_lt, b_t, am_g_t, e1, b_or0, b_add, if_neg, if_true]
    | some k =>
      have hk := w_at_lt hC h
      rw [h, oI_s] at e1
      have b1 : (nI k = oI none) = False := b_nn (by omega)
      simp (disch := omega) only [↓am_lq, b_lq, oI_q, b_le, b_lt, b_t, am_g_t, e1, b1, b_sh, b_ins, b_add, if_neg, if_false]
  · try dsimp only
    rw [fX9_drawn_L96, hx]
    simp (disch := omega) only [b_lq, b_lt, if_pos]
def m_dq (P : m_P) (seed : Int64) (what : Int32) : Int32 := if what = nI 0 then oI (w_on P.1 (m_sd P seed) 61) else if what = nI 1 then nI (w_W P.1 (m_sd P seed) 61).2.2.1 else nI (w_se P.1 (m_sd P seed) 61)
theorem Q_drawn (a b : Int32) : m_OK (fun s => fX8_drawn s a b) (fun s => fX9_drawn s a b) := m_ok_q (fun M => decide (0 < M.2.2.1.1.1 6) && m_in a 2000000001 && m_in b 3) (fun M => m_dq M.2.2.1 a.toInt64 b)
  (fun M s hV hI => by
    unfold fX8_drawn
    rw [g8_march hI.1 hV, am_rq]
    simp only [↓am_lq, b_lq, m_if0]
    rw [m_if2 (by omega), m_ifg (by omega)]
    cases hl : decide (0 < M.2.2.1.1.1 6) with
    | false => exact ⟨s, rfl, hI, c_F_refl s⟩
    | true =>
      cases h1 : m_in a 2000000001 with
      | false => exact ⟨s, rfl, hI, c_F_refl s⟩
      | true =>
        cases h2 : m_in b 3 with
        | false => exact ⟨s, rfl, hI, c_F_refl s⟩
        | true =>
          have hl := of_decide_eq_true hl
          have hP := m_MV_P hV
          obtain ⟨t, a1, a2, a3, a4, -⟩ := c_tell hV hl s hI
          have e4 : t.1 25 4 = nI (M.2.2.1.1.1 3) := T_np a2.1.2.2.1.1 (j := 3) (by omega)
          obtain ⟨u, u1, u2, u3⟩ := c_goInRain (R := m_rb (m_dr (nI (M.2.2.1.1.1 3)).toInt64 a.toInt64 61).2) hP hl (fun n hn => rfl) (show 60 ≤ 60 by omega) t a2.1.2.2.1 a3.1
          have G := u3.1 (fun k hk q hq h => by cases h)
          have f1 : u.1 198 6 = oI (w_on M.2.2.1.1 (m_sd M.2.2.1 a.toInt64) 61) := G.2.2.2.2.1
          have f2 : u.1 198 9 = nI (w_W M.2.2.1.1 (m_sd M.2.2.1 a.toInt64) 61).2.2.1 := G.1.2.1
          have f3 : u.1 198 8 = nI (w_se M.2.2.1.1 (m_sd M.2.2.1 a.toInt64) 61) := G.2.2.2.2.2.2
          refine ⟨u, ?_, c_I_mw hV a2 u2, c_F_tr a4 (c_mw_F u2)⟩
          rw [if_pos rfl, if_pos rfl, if_pos rfl, if_pos (show (true && true && true) = true from rfl), a1, am_cq, c_rainFrom e4, am_rq, u1, am_cq, f1, f2, f3]
          unfold m_dq
          split
          · rfl
          · split <;> rfl)
  (fun M s hV hI => by
    obtain ⟨I1, m1⟩ := r_0 hI
    unfold fX9_drawn
    simp only [↓am_lq, b_lq]
    generalize am_si s 215 0 (nI 0) = s1 at I1 m1 ⊢
    rw [r_seed I1 hV, am_rq, m_if0, r_in (m := 2) (by omega) (by decide), am_rq, m_if0]
    cases hl : (decide (0 < M.2.2.1.1.1 6) && m_in a 2000000001) with
    | false => exact ⟨s1, rfl, I1, m1.1⟩
    | true =>
      rw [Bool.and_eq_true] at hl
      have hl := of_decide_eq_true hl.1
      cases h2 : m_in b (2 + 1) with
      | false =>
        have h2' : m_in b 3 = false := h2
        exact ⟨s1, rfl, I1, m1.1⟩
      | true =>
        have h2' : m_in b 3 = true := h2
        have hP := m_MV_P hV
        have v5 := hP.1.2.2.1
        obtain ⟨t, t1, t2, t3, t4⟩ := r_draws hP hl a.toInt64 s1 I1.2.2.1
        have f1 : t.1 215 45 = oI (w_on M.2.2.1.1 (m_sd M.2.2.1 a.toInt64) 61) := t3.2.2.2.2.2.1
        refine ⟨t, ?_, r_I_mv I1 t2, r_F_tr m1.1 t2.1⟩
        rw [if_pos rfl, if_pos rfl, if_pos (show (true && true) = true from rfl), t1, am_cq, f1, r_drawn96 (D := M.2.2.1.1) (C := m_sd M.2.2.1 a.toInt64) hP.1 (m_rcK hP hl _) (fun n hn => t3.2.1 n hn), r_drawn53 (P := M.2.2.1) (fe := w_fe M.2.2.1.1 (m_sd M.2.2.1 a.toInt64)) t4 v5 (fun p hp => t3.1.2.2.2.1 p hp) (fun p k h => w_fe_lt h), m_ever v5]
        unfold m_dq
        split
        · rfl
        · split <;> rfl)
/-- how often of n seeds it comes to pl -/
def m_lu (P : m_P) (a : Int64) (pl : Nat) : Nat → Nat
  | 0 => 0
  | n + 1 => if m_cs P (m_sd P (a + (nI n).toInt64)) pl then m_lu P a pl n + 1 else m_lu P a pl n
theorem m_lu_s (P : m_P) (a : Int64) (pl n : Nat) : m_lu P a pl (n + 1) = if m_cs P (m_sd P (a + (nI n).toInt64)) pl then m_lu P a pl n + 1 else m_lu P a pl n := Eq.trans rfl rfl
theorem m_cs_se {C : w_C} {pl : Nat} : (w_se P.1 C 61).testBit pl = m_cs P C pl := by
  apply Bool.eq_iff_iff.mpr
  rw [w_se_t, m_cs_t]
  exact ⟨fun ⟨k, h1, h2⟩ => ⟨k, by omega, h2⟩, fun ⟨k, h1, h2⟩ => ⟨k, by omega, h2⟩⟩
def m_1t (a : Int32) : Bool := decide (nI 1 ≤ a ∧ a ≤ nI 20)
theorem m_1t_k {a : Int32} (h : m_1t a = true) : ∃ k, 1 ≤ k ∧ k ≤ 20 ∧ a = nI k := by
  obtain ⟨h1, h2⟩ := of_decide_eq_true h
  have h1 := Int32.le_iff_toInt_le.mp h1
  have h2 := Int32.le_iff_toInt_le.mp h2
  rw [b_toI (by omega)] at h1 h2
  refine ⟨a.toInt.toNat, by omega, by omega, ?_⟩
  apply Int32.toInt_inj.mp
  rw [b_toI (by omega)]
  omega
theorem m_1t_8 {α : Type} {a : Int32} {x y : α} : (if a < nI 1 then x else if a ≤ nI 20 then y else x) = if m_1t a then y else x := by
  unfold m_1t
  by_cases c : a < nI 1
  · rw [if_pos c, decide_eq_false (fun z => absurd z.1 (Int32.not_le.mpr c))]; rfl
  · rw [if_neg c]
    by_cases c2 : a ≤ nI 20
    · rw [if_pos c2, decide_eq_true ⟨Int32.not_lt.mp c, c2⟩]; rfl
    · rw [if_neg c2, decide_eq_false (fun z => c2 z.2)]; rfl
theorem m_1t_9 {a : Int32} : fX9_in a.toInt64 1 20 = some (nI (m_1t a).toNat) := by
  rw [p_in]
  have e : (1 ≤ a.toInt64 ∧ a.toInt64 ≤ 20) ↔ (nI 1 ≤ a ∧ a ≤ nI 20) := by
    rw [Int64.le_iff_toInt_le, Int64.le_iff_toInt_le, Int32.le_iff_toInt_le, Int32.le_iff_toInt_le, Int32.toInt_toInt64]
    exact Iff.rfl
  unfold m_1t
  by_cases c : nI 1 ≤ a ∧ a ≤ nI 20
  · rw [if_pos (e.mpr c), decide_eq_true c]; rfl
  · rw [if_neg (fun z => c (e.mp z)), decide_eq_false c]; rfl
theorem Q_luck (a b c : Int32) : m_OK (fun s => fX8_luck s a b c) (fun s => fX9_luck s a b c) := m_ok_q (fun M => m_in c (M.2.2.1.1.1 0) && m_in a 2000000001 && m_1t b) (fun M => nI (m_lu M.2.2.1 a.toInt64 c.toNatClampNeg b.toNatClampNeg))
  (fun M s hV hI => by
    unfold fX8_luck
    rw [g8_place hI.1, am_rq]
    simp only [↓am_lq, b_lq, m_if0]
    rw [m_1t_8, m_ifg (by omega)]
    cases hc : m_in c (M.2.2.1.1.1 0) with
    | false => exact ⟨s, rfl, hI, c_F_refl s⟩
    | true =>
      cases h1 : m_in a 2000000001 with
      | false => exact ⟨s, rfl, hI, c_F_refl s⟩
      | true =>
        cases h2 : m_1t b with
        | false => exact ⟨s, rfl, hI, c_F_refl s⟩
        | true =>
          have hl := hl_place hV hc
          obtain ⟨pl, hp, hp2, rfl⟩ := k_place hV hc
          obtain ⟨n, hn1, hn2, rfl⟩ := m_1t_k h2
          have hP := m_MV_P hV
          obtain ⟨t, a1, a2, a3, a4, -⟩ := c_tell hV hl s hI
          rw [if_pos rfl, if_pos rfl, if_pos rfl, if_pos (show (true && true && true) = true from rfl), a1, am_cq, b_t (by omega), b_t (by omega)]
          have key : ∃ u, fX8_luck_L43 a (nI n) (nI pl) am_fu t (nI 0) (nI 0) = some (u, nI (m_lu M.2.2.1 a.toInt64 pl n)) ∧ c_mw t u := by
            refine sp_lq (fun f (x : AS × Int32) i => fX8_luck_L43 a (nI n) (nI pl) f x.1 x.2 i) n (fun i x => c_mw t x.1 ∧ x.2 = nI (m_lu M.2.2.1 a.toInt64 pl i)) (fun r => ∃ u, r = some (u, nI (m_lu M.2.2.1 a.toInt64 pl n)) ∧ c_mw t u) (fun f i x hi hx => ?_) (fun f x hx => ?_) (t, nI 0) ⟨c_mw_refl t, rfl⟩ am_fu (am_fu_gt (by omega))
            · left
              obtain ⟨v, x⟩ := x
              obtain ⟨k1, k2⟩ := hx
              dsimp only at k1 k2 ⊢
              subst k2
              have I1 := c_I_mw hV a2 k1
              have T1 := c_T_mw hP a3 k1
              have e4 : v.1 25 4 = nI (M.2.2.1.1.1 3) := T_np I1.1.2.2.1.1 (j := 3) (by omega)
              obtain ⟨u, u1, u2, u3⟩ := c_goInRain (R := m_rb (m_dr (nI (M.2.2.1.1.1 3)).toInt64 (a.toInt64 + (nI i).toInt64) 61).2) hP hl (fun n hn => rfl) (show 60 ≤ 60 by omega) v I1.1.2.2.1 T1.1
              have G := u3.1 (fun k hk q hq h => by cases h)
              have f3 : u.1 198 8 = nI (w_se M.2.2.1.1 (m_sd M.2.2.1 (a.toInt64 + (nI i).toInt64)) 61) := G.2.2.2.2.2.2
              have hs := w_se_lt hP.1 (m_rcK hP hl (m_rb (m_dr (nI (M.2.2.1.1.1 3)).toInt64 (a.toInt64 + (nI i).toInt64) 61).2)) 61
              have hh : fX8_holds (nI (w_se M.2.2.1.1 (m_sd M.2.2.1 (a.toInt64 + (nI i).toInt64)) 61)) (nI pl) = some (nI (m_cs M.2.2.1 (m_sd M.2.2.1 (a.toInt64 + (nI i).toInt64)) pl).toNat) := by rw [c_holds (Nat.lt_trans hs (by decide)) hp2, m_cs_se]
              refine ⟨(u, nI (m_lu M.2.2.1 a.toInt64 pl (i + 1))), ⟨c_mw_tr k1 u2, rfl⟩, ?_⟩
              rw [fX8_luck_L43, m_lu_s]
              simp (disch := omega) only [↓am_lq, b_lq, b_le, c_rainFrom e4, am_rq, u1, am_cq, f3, hh, m_if0, b_add, if_neg]
              cases m_cs M.2.2.1 (m_sd M.2.2.1 (a.toInt64 + (nI i).toInt64)) pl <;> rfl
            · obtain ⟨v, x⟩ := x
              obtain ⟨k1, k2⟩ := hx
              dsimp only at k1 k2 ⊢
              subst k2
              refine ⟨v, ?_, k1⟩
              rw [fX8_luck_L43]
              simp (disch := omega) only [b_le, if_pos]
          obtain ⟨u, u1, u2⟩ := key
          exact ⟨u, u1, c_I_mw hV a2 u2, c_F_tr a4 (c_mw_F u2)⟩)
  (fun M s hV hI => by
    obtain ⟨I1, m1⟩ := r_0 hI
    unfold fX9_luck
    simp only [↓am_lq, b_lq]
    generalize am_si s 215 0 (nI 0) = s1 at I1 m1 ⊢
    rw [r_seed I1 hV, am_rq, m_if0, m_1t_9, am_rq, m_if0, g9_place I1 hV, am_rq, m_if0]
    cases hc : m_in c (M.2.2.1.1.1 0) with
    | false =>
      refine ⟨s1, ?_, I1, m1.1⟩
      cases (decide (0 < M.2.2.1.1.1 6) && m_in a 2000000001) <;> cases m_1t b <;> rfl
    | true =>
      have hl := hl_place hV hc
      rw [decide_eq_true hl, Bool.true_and]
      cases h1 : m_in a 2000000001 with
      | false => exact ⟨s1, rfl, I1, m1.1⟩
      | true =>
        cases h2 : m_1t b with
        | false => exact ⟨s1, rfl, I1, m1.1⟩
        | true =>
          obtain ⟨pl, hp, hp2, rfl⟩ := k_place hV hc
          obtain ⟨n, hn1, hn2, rfl⟩ := m_1t_k h2
          have hP := m_MV_P hV
          rw [if_pos rfl, if_pos rfl, if_pos rfl, if_pos (show (true && true) = true from rfl), b_t (by omega), b_t (by omega)]
          have key : ∃ u, fX9_luck_L43 a (nI n) (nI pl) am_fu s1 (nI 0) (nI 0) = some (u, nI (m_lu M.2.2.1 a.toInt64 pl n)) ∧ r_mv s1 u := by
            refine sp_lq (fun f (x : AS × Int32) i => fX9_luck_L43 a (nI n) (nI pl) f x.1 x.2 i) n (fun i x => r_mv s1 x.1 ∧ x.2 = nI (m_lu M.2.2.1 a.toInt64 pl i)) (fun r => ∃ u, r = some (u, nI (m_lu M.2.2.1 a.toInt64 pl n)) ∧ r_mv s1 u) (fun f i x hi hx => ?_) (fun f x hx => ?_) (s1, nI 0) ⟨r_mv_refl s1, rfl⟩ am_fu (am_fu_gt (by omega))
            · left
              obtain ⟨v, x⟩ := x
              obtain ⟨k1, k2⟩ := hx
              dsimp only at k1 k2 ⊢
              subst k2
              have I2 := r_I_mv I1 k1
              obtain ⟨u, u1, u2, u3, u4⟩ := r_draws hP hl (a.toInt64 + (nI i).toInt64) v I2.2.2.1
              have v0 := hP.1.1
              have f1 := r_firstAt u (wa := w_at M.2.2.1.1 (m_sd M.2.2.1 (a.toInt64 + (nI i).toInt64))) (fun k hk => u3.2.1 k hk) (fun k q hq => by have := w_at_lt (m_rcK hP hl _) hq; omega) hp2 (from_ := 0) (by omega)
              refine ⟨(u, nI (m_lu M.2.2.1 a.toInt64 pl (i + 1))), ⟨r_mv_tr k1 u2, rfl⟩, ?_⟩
              have e : ∀ {α : Type} (X Y : α), (if oI (y_fd (fun k => decide (0 ≤ k) && (w_at M.2.2.1.1 (m_sd M.2.2.1 (a.toInt64 + (nI i).toInt64)) k == some pl)) 61) = oI none then X else Y) = if m_cs M.2.2.1 (m_sd M.2.2.1 (a.toInt64 + (nI i).toInt64)) pl = true then Y else X := by
                intro α X Y
                unfold m_cs
                cases h : y_fd (fun k => decide (0 ≤ k) && (w_at M.2.2.1.1 (m_sd M.2.2.1 (a.toInt64 + (nI i).toInt64)) k == some pl)) 61 with
                | none => rw [if_pos rfl, if_neg (by simp)]
                | some k =>
                  have := (y_fd_s.mp h).1
                  rw [oI_s, if_neg (by rw [b_nn (by omega)]; exact fun z => z), if_pos (show (some k).isSome = true from rfl)]
              rw [fX9_luck_L43, m_lu_s]
              simp (disch := omega) only [↓am_lq, b_lq, oI_q, b_le, u1, am_cq, f1, am_rq, e, b_add, if_neg]
              cases m_cs M.2.2.1 (m_sd M.2.2.1 (a.toInt64 + (nI i).toInt64)) pl <;> rfl
            · obtain ⟨v, x⟩ := x
              obtain ⟨k1, k2⟩ := hx
              dsimp only at k1 k2 ⊢
              subst k2
              refine ⟨v, ?_, k1⟩
              rw [fX9_luck_L43]
              simp (disch := omega) only [b_le, if_pos]
          obtain ⟨u, u1, u2⟩ := key
          exact ⟨u, u1, r_I_mv I1 u2, r_F_tr m1.1 u2.1⟩)
end RN
