/-! QUESTIONS that need no walk: road, person, crew, answered, barred, costs, content, buys, count. -/
theorem m_if {α : Type} {a : Int32} {n : Nat} {x y : α} (hn : n ≤ 2000000001) : (if a < nI 0 then x else if a < nI n then y else x) = if m_in a n then y else x := by
  cases h : m_in a n with
  | true =>
    obtain ⟨k, h1, h2, -⟩ := m_in_s hn h
    subst h2
    rw [if_neg (by rw [b_lt0 (by omega)]; exact fun z => z), if_pos (by rw [b_lt (by omega) (by omega)]; exact h1), if_pos rfl]
  | false =>
    have e : (if (false : Bool) = true then y else x) = x := if_neg (by simp)
    rw [e]
    by_cases c : a < nI 0
    · rw [if_pos c]
    · by_cases c2 : a < nI n
      · exfalso
        have : m_in a n = true := decide_eq_true ⟨Int32.not_lt.mp c, c2⟩
        rw [h] at this
        cases this
      · rw [if_neg c, if_neg c2]
theorem m_if2 {α : Type} {a : Int32} {m : Nat} {x y : α} (hn : m < 2000000000) : (if a < nI 0 then x else if a ≤ nI m then y else x) = if m_in a (m + 1) then y else x := by
  rw [← m_if (by omega)]
  by_cases c : a < nI 0
  · rw [if_pos c, if_pos c]
  · rw [if_neg c, if_neg c]
    have e : (a ≤ nI m) = (a < nI (m + 1)) := by
      rw [Int32.le_iff_toInt_le, Int32.lt_iff_toInt_lt, b_toI (by omega), b_toI (by omega)]
      apply propext
      omega
    by_cases c2 : a ≤ nI m
    · rw [if_pos c2, if_pos (by rw [← e]; exact c2)]
    · rw [if_neg c2, if_neg (by rw [← e]; exact c2)]
theorem m_if0 {α : Type} {b : Bool} {x y : α} : (if nI b.toNat = nI 0 then x else y) = if b then y else x := by
  cases b
  · exact (if_pos rfl).trans (if_neg (by simp)).symm
  · exact (if_neg (by decide)).trans (if_pos rfl).symm
def m_cost (D : w_D) (set : Nat) : Nat := m_sum (fun k => if set.testBit k then D.2.2.2 k else 0) 6
def m_cont (D : w_D) (set : Nat) : Nat := m_sum (fun p => if set.testBit (D.2.2.1 p 2) then 1 else 0) (D.1 5)
def m_buy (D : w_D) (n : Nat) : Nat → Nat
  | 0 => 0
  | k + 1 => if m_cost D k ≤ n then max (m_buy D n k) (m_cont D k) else m_buy D n k
section QF
variable {M : m_M} {s t : AS} {P : m_P} {D : w_D}
theorem m_sum_le {f : Nat → Nat} {b : Nat} : ∀ {n : Nat}, (∀ i, i < n → f i ≤ b) → m_sum f n ≤ b * n
  | 0, _ => Nat.zero_le _
  | n + 1, h => by
    have ih := m_sum_le (f := f) (b := b) (n := n) (fun i hi => h i (by omega))
    have := h n (by omega)
    show m_sum f n + f n ≤ _
    rw [Nat.mul_succ]
    omega
theorem m_cost_le (hD : w_V D) (set : Nat) : m_cost D set ≤ 99 * 6 := m_sum_le (fun i hi => by
  have := hD.2.2.2.2.2.1 i hi
  split <;> omega)
theorem m_cont_le (hD : w_V D) (set : Nat) : m_cont D set ≤ 8 := by
  have h := m_sum_le (f := fun p => if set.testBit (D.2.2.1 p 2) then 1 else 0) (b := 1) (n := D.1 5) (fun i hi => by split <;> omega)
  have := hD.2.2.1
  unfold m_cont
  omega
theorem c_costOf (hP : c_PL 25 P.1 t) {set : Nat} (hs : set < 1024) : fX3_costOf t 25 (nI set) = some (nI (m_cost P.1 set)) := by
  unfold fX3_costOf m_cost
  simp only [b_lq]
  refine sp_sum (fun f x i => fX3_costOf_L4 25 (nI set) t f x i) 6 _ (fun x => some x) (fun f i m hi => ?_) (fun f m => ?_) am_fu (am_fu_gt (by omega))
  · have e := c_holds (x := set) (p := i) hs (by omega)
    have e2 : t.1 (25 + 21) i = nI (P.1.2.2.2 i) := hP.2.2.2.1 i hi
    rw [fX3_costOf_L4]
    cases hb : set.testBit i with
    | false =>
      rw [hb] at e
      simp (disch := omega) only [↓am_lq, b_lq, b_le, e, am_rq, b_tf, if_neg, if_true, if_false, b_add, Bool.false_eq_true, Nat.add_zero]
    | true =>
      rw [hb] at e
      simp (disch := omega) only [↓am_lq, b_lq, b_le, b_eq, b_lt, b_t, am_g_t, e, e2, am_rq, b_tt, if_neg, if_true, if_false, b_add]
  · rw [fX3_costOf_L4]
    simp (disch := omega) only [b_lq, b_le, if_pos, if_true]
theorem r_costOf (hP : r_PL P.1 t) {set : Nat} (hs : set < 1024) : fX9_costOf t (nI set) = some (nI (m_cost P.1 set)) := by
  unfold fX9_costOf m_cost
  simp only [b_lq]
  refine sp_sum (fun f x i => fX9_costOf_L4 (nI set) t f x i) 6 _ (fun x => some x) (fun f i m hi => ?_) (fun f m => ?_) am_fu (am_fu_gt (by omega))
  · have e := c_isBit (x := set) (p := i) hs (by omega)
    have e2 := hP.2.2.2.1 i hi
    rw [fX9_costOf_L4]
    cases hb : set.testBit i with
    | false =>
      rw [hb] at e
      simp (disch := omega) only [↓am_lq, b_lq, b_le, e, am_rq, b_tf, if_neg, if_true, if_false, b_add, Bool.false_eq_true]
    | true =>
      rw [hb] at e
      simp (disch := omega) only [↓am_lq, b_lq, b_le, b_eq, b_lt, b_t, am_g_t, e, e2, am_rq, b_tt, if_neg, if_true, if_false, b_add]
  · rw [fX9_costOf_L4]
    simp (disch := omega) only [b_lq, b_le, if_pos, if_true]
theorem c_contentBy (hD : w_V P.1) (hP : c_PL 25 P.1 t) {set : Nat} (hs : set < 1024) : fX3_contentBy t 25 (nI set) = some (nI (m_cont P.1 set)) := by
  have v5 := hD.2.2.1
  have e6 : t.1 25 6 = nI (P.1.1 5) := T_np hP (j := 5) (by omega)
  unfold fX3_contentBy m_cont
  simp only [b_lq]
  refine sp_sum (fun f x i => fX3_contentBy_L4 25 (nI set) t f x i) (P.1.1 5) _ (fun x => some x) (fun f i m hi => ?_) (fun f m => ?_) am_fu (am_fu_gt (by omega))
  · have vp := hD.2.2.2.2.1 i hi
    have e := c_holds (x := set) (p := P.1.2.2.1 i 2) hs (by omega)
    have e2 : t.1 (25 + 12 + 1 + i) 2 = nI (P.1.2.2.1 i 2) := hP.2.2.1 i 2 hi (by omega)
    rw [fX3_contentBy_L4]
    cases hb : set.testBit (P.1.2.2.1 i 2) with
    | false =>
      rw [hb] at e
      simp (disch := omega) only [↓am_lq, b_lq, e6, b_le, b_lt, b_t, am_g_t, e2, e, am_rq, b_tf, if_neg, if_true, if_false, b_add, Bool.false_eq_true, Nat.add_zero]
    | true =>
      rw [hb] at e
      simp (disch := omega) only [↓am_lq, b_lq, e6, b_le, b_eq, b_lt, b_t, am_g_t, e2, e, am_rq, b_tt, if_neg, if_true, if_false, b_add]
  · rw [fX3_contentBy_L4]
    simp (disch := omega) only [b_lq, e6, b_le, if_pos, if_true]
theorem r_contentOf (hD : w_V P.1) (hP : r_PL P.1 t) {set : Nat} (hs : set < 1024) : fX9_contentOf t (nI set) = some (nI (m_cont P.1 set)) := by
  have v5 := hD.2.2.1
  have e6 := r_people hP
  unfold fX9_contentOf m_cont
  simp only [b_lq]
  refine sp_sum (fun f x i => fX9_contentOf_L4 (nI set) t f x i) (P.1.1 5) _ (fun x => some x) (fun f i m hi => ?_) (fun f m => ?_) am_fu (am_fu_gt (by omega))
  · have vp := hD.2.2.2.2.1 i hi
    have e := c_isBit (x := set) (p := P.1.2.2.1 i 2) hs (by omega)
    have e2 := r_reason hD hP hi
    rw [fX9_contentOf_L4]
    cases hb : set.testBit (P.1.2.2.1 i 2) with
    | false =>
      rw [hb] at e
      simp (disch := omega) only [↓am_lq, b_lq, e6, am_rq, b_le, e2, e, b_tf, if_neg, if_true, if_false, b_add, Bool.false_eq_true]
    | true =>
      rw [hb] at e
      simp (disch := omega) only [↓am_lq, b_lq, e6, am_rq, b_le, b_eq, e2, e, b_tt, if_neg, if_true, if_false, b_add]
  · rw [fX9_contentOf_L4]
    simp (disch := omega) only [b_lq, e6, am_rq, b_le, if_pos, if_true]
/-- the reference's first word -/
theorem r_0 (hI : r_I M s) : r_I M (am_si s 215 0 (nI 0)) ∧ r_mv s (am_si s 215 0 (nI 0)) := ⟨r_I_mv hI (r_mv_si (r_mv_refl s) _ (by omega)), r_mv_si (r_mv_refl s) _ (by omega)⟩
theorem Q_road (a b : Int32) : m_OKr (fun s => fX8_road s a b) (fun s => fX9_road s a b) := m_okr_v (fun M => if m_in a (M.2.2.1.1.1 4) && m_in b 3 then nI (M.2.2.1.1.2.1 a.toNatClampNeg b.toNatClampNeg) else -2)
  (fun M s hV hI => by
    have hP := m_MV_P hV
    have v4 := hP.1.2.1
    unfold fX8_road
    simp only [g8_road hI.1, ↓am_lq, b_lq, am_rq, m_if0]
    rw [m_if (by omega)]
    cases h1 : m_in a (M.2.2.1.1.1 4) with
    | false => rfl
    | true =>
      cases h2 : m_in b 3 with
      | false => rfl
      | true =>
        obtain ⟨k, hk, rfl⟩ := m_in_k (by omega) h1
        obtain ⟨j, hj, rfl⟩ := m_in_k (by omega) h2
        have e := T_ro hI.1.2.2.1.1 hk hj
        simp (disch := omega) only [if_true, Bool.and_self, b_lt, b_t, am_g_t, e])
  (fun M s hV hI => by
    have hP := m_MV_P hV
    have v4 := hP.1.2.1
    obtain ⟨I1, m1⟩ := r_0 hI
    refine ⟨_, ?_, I1, m1.1⟩
    have PL := r_PA_PL I1.2.2.1
    have e4 := PL.1 4 (by omega)
    unfold fX9_road
    simp (disch := omega) only [↓am_lq, b_lq, b_lt, b_t, am_g_t]
    rw [e4]
    have g1 : fX9_in a.toInt64 0 (nI (M.2.2.1.1.1 4) - nI 1).toInt64 = some (nI (m_in a (M.2.2.1.1.1 4)).toNat) := by
      by_cases c : M.2.2.1.1.1 4 = 0
      · rw [c, p_in]
        have : m_in a 0 = false := by
          apply decide_eq_false
          rintro ⟨h1, h2⟩
          exact absurd h2 (Int32.not_lt.mpr h1)
        rw [this, if_neg]
        · rfl
        · rintro ⟨h1, h2⟩
          rw [show (nI 0 - nI 1).toInt64 = -1 from by decide] at h2
          exact absurd (Int64.le_trans h1 h2) (by decide)
      · have h := r_in (a := a) (m := M.2.2.1.1.1 4 - 1) (x := (nI (M.2.2.1.1.1 4) - nI 1).toInt64) (by omega) (by
          rw [show M.2.2.1.1.1 4 - 1 + 1 = M.2.2.1.1.1 4 by omega]
          have : ∀ n, n < 11 → 0 < n → (nI n - nI 1).toInt64 = (nI n).toInt64 - 1 := by decide
          exact this _ (by omega) (by omega))
        rw [show M.2.2.1.1.1 4 - 1 + 1 = M.2.2.1.1.1 4 by omega] at h
        exact h
    rw [g1, am_rq, m_if0, r_in (m := 2) (by omega) (by decide), am_rq, m_if0]
    cases h1 : m_in a (M.2.2.1.1.1 4) with
    | false => rfl
    | true =>
      cases h2 : m_in b 3 with
      | false => rfl
      | true =>
        obtain ⟨k, hk, rfl⟩ := m_in_k (by omega) h1
        obtain ⟨j, hj, rfl⟩ := m_in_k (by omega) h2
        have e := PL.2.1 k j hk hj
        simp (disch := omega) only [if_true, Bool.and_self, b_lt, b_t, b_mul, b_add, am_g_t, e])
theorem Q_person (a b : Int32) : m_OKr (fun s => fX8_person s a b) (fun s => fX9_person s a b) := m_okr_v (fun M => if m_in a (M.2.2.1.1.1 5) && m_in b 5 then nI (M.2.2.1.1.2.2.1 a.toNatClampNeg b.toNatClampNeg) else -2)
  (fun M s hV hI => by
    have hP := m_MV_P hV
    have v5 := hP.1.2.2.1
    unfold fX8_person
    simp only [g8_person hI.1, ↓am_lq, b_lq, am_rq, m_if0]
    rw [m_if (by omega)]
    cases h1 : m_in a (M.2.2.1.1.1 5) with
    | false => rfl
    | true =>
      cases h2 : m_in b 5 with
      | false => rfl
      | true =>
        obtain ⟨k, hk, rfl⟩ := m_in_k (by omega) h1
        obtain ⟨j, hj, rfl⟩ := m_in_k (by omega) h2
        have e := T_pe hI.1.2.2.1.1 hk hj
        simp (disch := omega) only [if_true, Bool.and_self, b_lt, b_t, am_g_t, e])
  (fun M s hV hI => by
    have hP := m_MV_P hV
    have v5 := hP.1.2.2.1
    obtain ⟨I1, m1⟩ := r_0 hI
    refine ⟨_, ?_, I1, m1.1⟩
    have PL := r_PA_PL I1.2.2.1
    unfold fX9_person
    simp (disch := omega) only [↓am_lq, b_lq]
    rw [g9_person I1 hV, am_rq, m_if0, r_in (m := 4) (by omega) (by decide), am_rq, m_if0]
    cases h1 : m_in a (M.2.2.1.1.1 5) with
    | false => rfl
    | true =>
      cases h2 : m_in b 5 with
      | false => rfl
      | true =>
        obtain ⟨k, hk, rfl⟩ := m_in_k (by omega) h1
        obtain ⟨j, hj, rfl⟩ := m_in_k (by omega) h2
        have e := PL.2.2.1 k j hk hj
        simp (disch := omega) only [if_true, Bool.and_self, b_lt, b_t, b_mul, b_add, am_g_t, e])
theorem Q_crew (a : Int32) : m_OKr (fun s => fX8_crew s a) (fun s => fX9_crew s a) := m_okr_v (fun M => if m_in a (M.2.2.1.1.1 0) then nI (m_or (fun p => if M.2.2.1.1.2.2.1 p 0 = a.toNatClampNeg then some p else none) (M.2.2.1.1.1 5)) else -2)
  (fun M s hV hI => by
    have hP := m_MV_P hV
    have v0 := hP.1.1
    have v5 := hP.1.2.2.1
    unfold fX8_crew
    simp only [g8_place hI.1, b_lq, am_rq, m_if0]
    cases h1 : m_in a (M.2.2.1.1.1 0) with
    | false => rfl
    | true =>
      obtain ⟨k, hk, rfl⟩ := m_in_k (by omega) h1
      have e6 : s.1 25 6 = nI (M.2.2.1.1.1 5) := T_np hI.1.2.2.1.1 (j := 5) (by omega)
      rw [if_pos rfl, if_pos rfl, b_t (by omega)]
      refine sp_or (fun f x i => fX8_crew_L15 (nI k) s f x i) (M.2.2.1.1.1 5) _ (fun x => some x) (fun i z hi hz => ?_) (fun f i m hi hm => ?_) (fun f m hm => ?_) am_fu (am_fu_gt (by omega))
      · split at hz
        · cases hz; omega
        · cases hz
      · have e := T_pe hI.1.2.2.1.1 hi (show 0 < 5 by omega)
        have := hP.1.2.2.2.2.1 i hi
        rw [fX8_crew_L15]
        simp (disch := omega) only [↓am_lq, b_lq, e6, b_le, b_lt, b_t, b_eq, am_g_t, e, if_neg, if_false, b_add, b_sh, b_ins]
        by_cases c : M.2.2.1.1.2.2.1 i 0 = k
        · rw [if_pos c, if_pos c]
        · rw [if_neg c, if_neg c]
      · rw [fX8_crew_L15]
        simp (disch := omega) only [b_lq, e6, b_le, if_pos, if_true])
  (fun M s hV hI => by
    have hP := m_MV_P hV
    have v0 := hP.1.1
    have v5 := hP.1.2.2.1
    obtain ⟨I1, m1⟩ := r_0 hI
    refine ⟨_, ?_, I1, m1.1⟩
    have PL := r_PA_PL I1.2.2.1
    unfold fX9_crew
    simp only [↓am_lq, b_lq]
    rw [g9_place I1 hV, am_rq, m_if0]
    cases h1 : m_in a (M.2.2.1.1.1 0) with
    | false => rfl
    | true =>
      obtain ⟨k, hk, rfl⟩ := m_in_k (by omega) h1
      have e6 := r_people PL
      rw [if_pos rfl, if_pos rfl, b_t (by omega)]
      refine sp_or (fun f x i => fX9_crew_L21 (nI k) (am_si s 215 0 (nI 0)) f x i) (M.2.2.1.1.1 5) _ (fun x => some (am_si s 215 0 (nI 0), x)) (fun i z hi hz => ?_) (fun f i m hi hm => ?_) (fun f m hm => ?_) am_fu (am_fu_gt (by omega))
      · split at hz
        · cases hz; omega
        · cases hz
      · have e := PL.2.2.1 i 0 hi (by omega)
        rw [Nat.add_zero] at e
        have := hP.1.2.2.2.2.1 i hi
        rw [fX9_crew_L21]
        simp (disch := omega) only [↓am_lq, b_lq, e6, am_rq, b_le, b_lt, b_t, b_eq, b_mul, am_g_t, e, if_neg, if_false, b_add, b_or0, b_sh, b_ins]
        by_cases c : M.2.2.1.1.2.2.1 i 0 = k
        · rw [if_pos c, if_pos c]
        · rw [if_neg c, if_neg c]
      · rw [fX9_crew_L21]
        simp (disch := omega) only [b_lq, e6, am_rq, b_le, if_pos, if_true])
/-- the reference's question that needs lays() alone -/
theorem r_ql (hV : m_MV M) (hI : r_I M s) {body : AS → Unit → Option (AS × Int32)} {r : Int32} (hb : ∀ t, r_I M t → r_B M.2.2.1 t → body t () = some (t, r)) : ∃ t, am_let (am_si s 215 0 (0 : Int32)) (fun s1 => am_r (fX9_isMarch s1) (fun v1 => if v1 = 0 then some (s1, (-2 : Int32)) else am_c (fX9_lays s1) body)) = some (t, if decide (0 < M.2.2.1.1.1 6) then r else -2) ∧ r_I M t ∧ r_F s t := by
  obtain ⟨I1, m1⟩ := r_0 hI
  simp only [am_lq, b_lq]
  rw [g9_march I1 hV, am_rq, m_if0]
  cases h1 : decide (0 < M.2.2.1.1.1 6) with
  | false => exact ⟨_, rfl, I1, m1.1⟩
  | true =>
    obtain ⟨t, a1, a2, a3, a4⟩ := r_lays (m_MV_P hV) _ I1.2.2.1
    have I2 := r_I_mv I1 a2
    refine ⟨t, ?_, I2, r_F_tr m1.1 a2.1⟩
    rw [if_pos rfl, if_pos rfl, a1, am_cq, hb t I2 a3]
theorem Q_answered : m_OKr (fun s => fX8_answered s) (fun s => fX9_answered s) := m_okr_v (fun M => if decide (0 < M.2.2.1.1.1 6) then nI (m_AN M.2.2.1) else -2)
  (fun M s hV hI => by
    unfold fX8_answered
    simp only [g8_march hI.1 hV, ↓am_lq, b_lq, am_rq, m_if0, show s.1 47 1 = nI (m_AN M.2.2.1) from hI.1.2.2.1.2.2.1]
    split <;> rfl)
  (fun M s hV hI => by
    unfold fX9_answered
    exact r_ql hV hI (fun t h1 h2 => by rw [h2.1]))
theorem Q_barred : m_OKr (fun s => fX8_barred s) (fun s => fX9_barred s) := m_okr_v (fun M => if decide (0 < M.2.2.1.1.1 6) then nI (m_BA M.2.2.1) else -2)
  (fun M s hV hI => by
    unfold fX8_barred
    simp only [g8_march hI.1 hV, ↓am_lq, b_lq, am_rq, m_if0, show s.1 47 2 = nI (m_BA M.2.2.1) from hI.1.2.2.1.2.2.2.1]
    split <;> rfl)
  (fun M s hV hI => by
    unfold fX9_barred
    exact r_ql hV hI (fun t h1 h2 => by rw [h2.2.1]))
theorem Q_costs : m_OKr (fun s => fX8_costs s) (fun s => fX9_costs s) := m_okr_v (fun M => if decide (0 < M.2.2.1.1.1 6) then nI (m_cost M.2.2.1.1 (m_AN M.2.2.1)) else -2)
  (fun M s hV hI => by
    unfold fX8_costs
    simp only [g8_march hI.1 hV, ↓am_lq, b_lq, am_rq, m_if0, show s.1 47 1 = nI (m_AN M.2.2.1) from hI.1.2.2.1.2.2.1, c_costOf hI.1.2.2.1.1 (m_AN_lt (m_MV_P hV))]
    split <;> rfl)
  (fun M s hV hI => by
    unfold fX9_costs
    exact r_ql hV hI (fun t h1 h2 => by rw [h2.1, r_costOf (r_PA_PL h1.2.2.1) (m_AN_lt (m_MV_P hV)), am_rq]))
theorem Q_content (a : Int32) : m_OKr (fun s => fX8_content s a) (fun s => fX9_content s a) := m_okr_v (fun M => if decide (0 < M.2.2.1.1.1 6) then (if m_in a 64 then nI (m_cont M.2.2.1.1 a.toNatClampNeg) else -2) else -2)
  (fun M s hV hI => by
    unfold fX8_content
    simp only [g8_march hI.1 hV, ↓am_lq, b_lq, am_rq, m_if0]
    rw [m_if (by omega)]
    cases decide (0 < M.2.2.1.1.1 6) with
    | false => rfl
    | true =>
      cases h2 : m_in a 64 with
      | false => rfl
      | true =>
        obtain ⟨j, hj, rfl⟩ := m_in_k (by omega) h2
        rw [if_pos rfl, if_pos rfl, if_pos rfl, if_pos rfl, c_contentBy (m_MV_P hV).1 hI.1.2.2.1.1 (by omega), am_rq, b_t (by omega)])
  (fun M s hV hI => by
    obtain ⟨I1, m1⟩ := r_0 hI
    refine ⟨_, ?_, I1, m1.1⟩
    unfold fX9_content
    simp only [↓am_lq, b_lq]
    rw [g9_march I1 hV, am_rq, m_if0, r_in (m := 63) (by omega) (by decide), am_rq, m_if0]
    cases decide (0 < M.2.2.1.1.1 6) with
    | false => rfl
    | true =>
      cases h2 : m_in a 64 with
      | false => rfl
      | true =>
        obtain ⟨j, hj, rfl⟩ := m_in_k (by omega) h2
        rw [if_pos rfl, if_pos rfl, if_pos rfl, if_pos rfl, r_contentOf (m_MV_P hV).1 (r_PA_PL I1.2.2.1) (by omega), am_rq, b_t (by omega)])
theorem m_buy_le (hD : w_V D) (n : Nat) : ∀ k, m_buy D n k ≤ 8
  | 0 => Nat.zero_le _
  | k + 1 => by
    have ih := m_buy_le hD n k
    have := m_cont_le hD k
    unfold m_buy
    split <;> omega
theorem m_buy_s (D : w_D) (n k : Nat) : m_buy D n (k + 1) = if m_cost D k ≤ n then max (m_buy D n k) (m_cont D k) else m_buy D n k := rfl
theorem Q_buys (a : Int32) : m_OKr (fun s => fX8_buys s a) (fun s => fX9_buys s a) := m_okr_v (fun M => if decide (0 < M.2.2.1.1.1 6) then (if m_in a 601 then nI (m_buy M.2.2.1.1 a.toNatClampNeg 64) else -2) else -2)
  (fun M s hV hI => by
    unfold fX8_buys
    simp only [g8_march hI.1 hV, ↓am_lq, b_lq, am_rq, m_if0]
    rw [m_if2 (by omega)]
    cases decide (0 < M.2.2.1.1.1 6) with
    | false => rfl
    | true =>
      cases h2 : m_in a 601 with
      | false => rfl
      | true =>
        obtain ⟨j, hj, rfl⟩ := m_in_k (by omega) h2
        rw [if_pos rfl, if_pos rfl, if_pos rfl, if_pos rfl, b_t (by omega)]
        refine sp_lq (fun f (x : Int32) i => fX8_buys_L25 (nI j) s f x i) 64 (fun i x => x = nI (m_buy M.2.2.1.1 j i)) (fun r => r = some (nI (m_buy M.2.2.1.1 j 64))) (fun f i x hi hx => ?_) (fun f x hx => ?_) (nI 0) rfl am_fu (am_fu_gt (by omega))
        · left
          subst hx
          refine ⟨_, rfl, ?_⟩
          have l1 := m_cost_le (m_MV_P hV).1 i
          have l2 := m_cont_le (m_MV_P hV).1 i
          have l3 := m_buy_le (m_MV_P hV).1 j i
          have e1 := c_costOf (set := i) hI.1.2.2.1.1 (by omega)
          have e2 := c_contentBy (set := i) (m_MV_P hV).1 hI.1.2.2.1.1 (by omega)
          rw [fX8_buys_L25, m_buy_s]
          simp (disch := omega) only [↓am_lq, b_lq, b_le, b_lt, e1, e2, am_rq, if_neg, if_false, b_add]
          by_cases c : j < m_cost M.2.2.1.1 i
          · rw [if_pos c, if_neg (by omega)]
          · rw [if_neg c, if_pos (by omega : m_cost M.2.2.1.1 i ≤ j)]
            by_cases c2 : m_buy M.2.2.1.1 j i < m_cont M.2.2.1.1 i
            · rw [if_pos c2, Nat.max_eq_right (by omega)]
            · rw [if_neg c2, Nat.max_eq_left (by omega)]
        · subst hx
          rw [fX8_buys_L25]
          simp (disch := omega) only [b_lq, b_le, if_pos, if_true])
  (fun M s hV hI => by
    obtain ⟨I1, m1⟩ := r_0 hI
    refine ⟨_, ?_, I1, m1.1⟩
    unfold fX9_buys
    simp only [↓am_lq, b_lq]
    rw [g9_march I1 hV, am_rq, m_if0, r_in (m := 600) (by omega) (by decide), am_rq, m_if0]
    cases decide (0 < M.2.2.1.1.1 6) with
    | false => rfl
    | true =>
      cases h2 : m_in a 601 with
      | false => rfl
      | true =>
        obtain ⟨j, hj, rfl⟩ := m_in_k (by omega) h2
        rw [if_pos rfl, if_pos rfl, if_pos rfl, if_pos rfl, b_t (by omega)]
        refine sp_lq (fun f (x : Int32) i => fX9_buys_L31 (nI j) (am_si s 215 0 (nI 0)) f x i) 64 (fun i x => x = nI (m_buy M.2.2.1.1 j i)) (fun r => r = some (am_si s 215 0 (nI 0), nI (m_buy M.2.2.1.1 j 64))) (fun f i x hi hx => ?_) (fun f x hx => ?_) (nI 0) rfl am_fu (am_fu_gt (by omega))
        · left
          subst hx
          refine ⟨_, rfl, ?_⟩
          have l1 := m_cost_le (m_MV_P hV).1 i
          have l2 := m_cont_le (m_MV_P hV).1 i
          have l3 := m_buy_le (m_MV_P hV).1 j i
          have e1 := r_costOf (set := i) (r_PA_PL I1.2.2.1) (by omega)
          have e2 := r_contentOf (set := i) (m_MV_P hV).1 (r_PA_PL I1.2.2.1) (by omega)
          rw [fX9_buys_L31, m_buy_s]
          simp (disch := omega) only [↓am_lq, b_lq, b_le, b_lt, e1, e2, am_rq, if_neg, if_false, b_add]
          by_cases c : j < m_cost M.2.2.1.1 i
          · rw [if_pos c, if_neg (by omega)]
          · rw [if_neg c, if_pos (by omega : m_cost M.2.2.1.1 i ≤ j)]
            by_cases c2 : m_cont M.2.2.1.1 i ≤ m_buy M.2.2.1.1 j i
            · rw [if_pos c2, Nat.max_eq_left (by omega)]
            · rw [if_neg c2, Nat.max_eq_right (by omega)]
        · subst hx
          rw [fX9_buys_L31]
          simp (disch := omega) only [b_lq, b_le, if_pos, if_true])
end QF
