/-! ARGUMENTS, AND THE FRAME OF A QUESTION. -/
/-- a number below n -/
def m_in (a : Int32) (n : Nat) : Bool := decide (0 ≤ a ∧ a < nI n)
theorem m_in_s {a : Int32} {n : Nat} (hn : n ≤ 2000000001) (h : m_in a n = true) : ∃ k, k < n ∧ a = nI k ∧ a.toNatClampNeg = k := by
  have h := of_decide_eq_true h
  have h1 : 0 ≤ a.toInt := Int32.le_iff_toInt_le.mp h.1
  have h2 := Int32.lt_iff_toInt_lt.mp h.2
  rw [b_toI (by omega)] at h2
  have e : a = nI a.toInt.toNat := by
    apply Int32.toInt_inj.mp
    rw [b_toI (by omega)]
    omega
  exact ⟨a.toInt.toNat, by omega, e, rfl⟩
theorem m_in_n {k n : Nat} (hk : k < n) (hn : n ≤ 2000000001) : m_in (nI k) n = true := by
  apply decide_eq_true
  refine ⟨?_, ?_⟩
  · show nI 0 ≤ nI k
    rw [b_le (by omega) (by omega)]; omega
  · rw [b_lt (by omega) (by omega)]; exact hk
theorem m_in_if {a : Int32} {n : Nat} : (if 0 ≤ a ∧ a < nI n then (1 : Int32) else 0) = nI (m_in a n).toNat := by
  unfold m_in
  by_cases c : 0 ≤ a ∧ a < nI n
  · rw [if_pos c, decide_eq_true c]; rfl
  · rw [if_neg c, decide_eq_false c]; rfl
theorem m_in_64 {a : Int32} {n : Nat} (hn : n ≤ 2000000001) : (0 ≤ a.toInt64 ∧ a.toInt64 ≤ (nI n).toInt64 - 1) ↔ m_in a n = true := by
  rw [p_two _ _ (by show nI 0 ≤ nI n; rw [b_le (by omega) (by omega)]; omega)]
  unfold m_in
  rw [decide_eq_true_iff]
/-- the reference's question for a number from 0 to m -/
theorem r_in {a : Int32} {m : Nat} {x : Int64} (hm : m < 2000000001) (hx : x = (nI (m + 1)).toInt64 - 1) : fX9_in a.toInt64 0 x = some (nI (m_in a (m + 1)).toNat) := by
  rw [p_in, hx]
  by_cases c : m_in a (m + 1) = true
  · rw [if_pos ((m_in_64 (n := m + 1) (by omega)).mpr c), c]; rfl
  · rw [if_neg (fun z => c ((m_in_64 (n := m + 1) (by omega)).mp z))]
    have : m_in a (m + 1) = false := by simpa using c
    rw [this]; rfl
section GD
variable {M : m_M} {s : AS} {a : Int32}
theorem g8_march (h : c_I0 M s) (hV : m_MV M) : fX8_isMarch s = some (nI (decide (0 < M.2.2.1.1.1 6)).toNat) := by
  have e : s.1 25 0 = nI (M.2.2.1.1.1 6) := h.2.2.1.1.2.2.2.2
  have l := (m_MV_P hV).1.2.2.2.2.2.2.2.2.2.1
  unfold fX8_isMarch
  simp (disch := omega) only [↓am_lq, b_lq, e, b_le, b_eq, or_true, true_or, am_gT]
  by_cases c : M.2.2.1.1.1 6 ≤ 0
  · rw [if_pos c, decide_eq_false (by omega)]; rfl
  · rw [if_neg c, decide_eq_true (by omega)]; rfl
theorem g9_march (h : r_I M s) (hV : m_MV M) : fX9_isMarch s = some (nI (decide (0 < M.2.2.1.1.1 6)).toNat) := by
  have e : s.1 221 0 = nI (M.2.2.1.1.1 6) := h.2.2.1.2.2.2.2.1
  have l := (m_MV_P hV).1.2.2.2.2.2.2.2.2.2.1
  unfold fX9_isMarch
  simp (disch := omega) only [↓am_lq, b_lq, b_lt, b_t, am_g_t, e, b_le, b_eq, or_true, true_or, am_gT]
  by_cases c : M.2.2.1.1.1 6 ≤ 0
  · rw [if_pos c, decide_eq_false (by omega)]; rfl
  · rw [if_neg c, decide_eq_true (by omega)]; rfl
theorem g8_place (h : c_I0 M s) : fX8_isPlace s a = some (nI (m_in a (M.2.2.1.1.1 0)).toNat) := by
  rw [p_isPlace8, show s.1 25 1 = nI (M.2.2.1.1.1 0) from h.2.2.1.1.1 0 (by omega), m_in_if]
theorem g8_road (h : c_I0 M s) : fX8_isRoad s a = some (nI (m_in a (M.2.2.1.1.1 4)).toNat) := by
  rw [p_isRoad8, show s.1 25 5 = nI (M.2.2.1.1.1 4) from h.2.2.1.1.1 4 (by omega), m_in_if]
theorem g8_person (h : c_I0 M s) : fX8_isPerson s a = some (nI (m_in a (M.2.2.1.1.1 5)).toNat) := by
  rw [p_isPerson8, show s.1 25 6 = nI (M.2.2.1.1.1 5) from h.2.2.1.1.1 5 (by omega), m_in_if]
theorem g9_place (h : r_I M s) (hV : m_MV M) : fX9_isPlace s a.toInt64 = some (nI (m_in a (M.2.2.1.1.1 0)).toNat) := by
  have v := (m_MV_P hV).1.1
  have e : s.1 222 0 = nI (M.2.2.1.1.1 0) := h.2.2.1.1 0 (by omega)
  rw [p_isPlace9, e]
  by_cases c : m_in a (M.2.2.1.1.1 0) = true
  · rw [if_pos ((m_in_64 (by omega)).mpr c), c]; rfl
  · rw [if_neg (fun z => c ((m_in_64 (by omega)).mp z))]
    have : m_in a (M.2.2.1.1.1 0) = false := by simpa using c
    rw [this]; rfl
theorem g9_person (h : r_I M s) (hV : m_MV M) : fX9_isPerson s a.toInt64 = some (nI (m_in a (M.2.2.1.1.1 5)).toNat) := by
  have v := (m_MV_P hV).1.2.2.1
  have e : s.1 222 5 = nI (M.2.2.1.1.1 5) := h.2.2.1.1 5 (by omega)
  rw [p_isPerson9, e]
  by_cases c : m_in a (M.2.2.1.1.1 5) = true
  · rw [if_pos ((m_in_64 (by omega)).mpr c), c]; rfl
  · rw [if_neg (fun z => c ((m_in_64 (by omega)).mp z))]
    have : m_in a (M.2.2.1.1.1 5) = false := by simpa using c
    rw [this]; rfl
/-- a march, and a number from 0 to m -/
def m_st (M : m_M) (a : Int32) (n : Nat) : Bool := decide (0 < M.2.2.1.1.1 6) && m_in a n
theorem m_in_lt {m : Nat} (hm : m < 2000000000) : (a < 0 ∨ nI m < a) ↔ m_in a (m + 1) = false := by
  unfold m_in
  rw [decide_eq_false_iff_not]
  have e1 : (a < nI (m + 1)) ↔ ¬ nI m < a := by
    rw [Int32.lt_iff_toInt_lt, Int32.lt_iff_toInt_lt, b_toI (by omega), b_toI (by omega)]
    omega
  have e2 : (0 ≤ a) ↔ ¬ a < 0 := Int32.not_lt.symm
  rw [e1, e2]
  constructor
  · rintro (h | h) ⟨h1, h2⟩
    · exact h1 h
    · exact h2 h
  · intro h
    by_cases c : a < 0
    · exact .inl c
    · by_cases c2 : nI m < a
      · exact .inr c2
      · exact absurd ⟨c, c2⟩ h
theorem g8_step (h : c_I0 M s) (hV : m_MV M) : fX8_isStep s a = some (nI (m_st M a 61).toNat) := by
  unfold fX8_isStep m_st
  rw [g8_march h hV, am_rq]
  simp (disch := omega) only [↓am_lq, b_b0, b_lq, b_eq, or_true, true_or, am_gT]
  cases hl : decide (0 < M.2.2.1.1.1 6) with
  | false => rfl
  | true =>
    rw [if_neg (by simp)]
    have k := m_in_lt (a := a) (m := 60) (by omega)
    cases hm : m_in a 61 with
    | false =>
      rcases k.mpr hm with c | c
      · rw [if_pos (show a < nI 0 from c)]; rfl
      · by_cases c2 : a < nI 0
        · rw [if_pos c2]; rfl
        · rw [if_neg c2, if_pos c]; rfl
    | true =>
      have c : ¬ (a < 0 ∨ nI 60 < a) := fun z => by have := k.mp z; rw [hm] at this; cases this
      rw [if_neg (show ¬ a < nI 0 from fun z => c (.inl z)), if_neg (fun z => c (.inr z))]; rfl
theorem g8_rain (h : c_I0 M s) (hV : m_MV M) : fX8_isRainyStep s a = some (nI (m_st M a 9).toNat) := by
  unfold fX8_isRainyStep m_st
  rw [g8_march h hV, am_rq]
  simp (disch := omega) only [↓am_lq, b_b0, b_lq, b_eq, or_true, true_or, am_gT]
  cases hl : decide (0 < M.2.2.1.1.1 6) with
  | false => rfl
  | true =>
    rw [if_neg (by simp)]
    have k := m_in_lt (a := a) (m := 8) (by omega)
    cases hm : m_in a 9 with
    | false =>
      rcases k.mpr hm with c | c
      · rw [if_pos (show a < nI 0 from c)]; rfl
      · by_cases c2 : a < nI 0
        · rw [if_pos c2]; rfl
        · rw [if_neg c2, if_pos c]; rfl
    | true =>
      have c : ¬ (a < 0 ∨ nI 8 < a) := fun z => by have := k.mp z; rw [hm] at this; cases this
      rw [if_neg (show ¬ a < nI 0 from fun z => c (.inl z)), if_neg (fun z => c (.inr z))]; rfl
theorem g9_step (h : r_I M s) (hV : m_MV M) : fX9_isStep s a = some (nI (m_st M a 61).toNat) := by
  unfold fX9_isStep m_st
  rw [g9_march h hV, am_rq, r_in (m := 60) (by omega) (by decide)]
  simp (disch := omega) only [↓am_lq, am_rq, b_b0, b_lq, b_eq, or_true, true_or, am_gT]
  cases decide (0 < M.2.2.1.1.1 6) <;> cases m_in a 61 <;> rfl
theorem g9_rain (h : r_I M s) (hV : m_MV M) : fX9_isRain s a = some (nI (m_st M a 9).toNat) := by
  unfold fX9_isRain m_st
  rw [g9_march h hV, am_rq, r_in (m := 8) (by omega) (by decide)]
  simp (disch := omega) only [↓am_lq, am_rq, b_b0, b_lq, b_eq, or_true, true_or, am_gT]
  cases decide (0 < M.2.2.1.1.1 6) <;> cases m_in a 9 <;> rfl
/-- a place means a march -/
theorem m_pl (hV : m_MV M) {j : Nat} (hj : j < 6) (h : 0 < M.2.2.1.1.1 j) : 0 < M.2.2.1.1.1 6 := by
  have l := (m_MV_P hV).1.2.2.2.2.2.2.2.2.2.2
  apply Nat.pos_of_ne_zero
  intro z
  have := l z j hj
  omega
theorem m_in_pos {n : Nat} (hn : n ≤ 2000000001) (h : m_in a n = true) : 0 < n := by
  obtain ⟨k, h1, _⟩ := m_in_s hn h
  omega
/-- the class's question: a test, tell(), then what is asked -/
theorem c_q (hV : m_MV M) (hI : c_I M s) {g : Option Int32} {b : Bool} (hg : g = some (nI b.toNat)) (hl : b = true → 0 < M.2.2.1.1.1 6) {body : AS → Unit → Option (AS × Int32)} {r : Int32} (hb : b = true → ∀ t, c_I M t → c_T M.2.2.1 t → ∃ u, body t () = some (u, r) ∧ c_mw t u) : ∃ t, am_r g (fun v1 => if v1 = 0 then some (s, (-2 : Int32)) else am_c (fX8_tell s) body) = some (t, if b then r else -2) ∧ c_I M t ∧ c_F s t := by
  rw [hg, am_rq]
  cases b with
  | false =>
    refine ⟨s, ?_, hI, fun _ _ => ⟨rfl, rfl⟩⟩
    rw [if_pos (show nI false.toNat = 0 from rfl), if_neg (by simp)]
  | true =>
    obtain ⟨t, h1, h2, h3, h4, -⟩ := c_tell hV (hl rfl) s hI
    obtain ⟨u, h5, h6⟩ := hb rfl t h2 h3
    refine ⟨u, ?_, c_I_mw hV h2 h6, c_F_tr h4 (c_mw_F h6)⟩
    rw [if_neg (by decide), h1, am_cq, h5, if_pos rfl]
/-- what laysNow() leaves -/
def r_T (P : m_P) (s : AS) : Prop := r_GI P.1 (m_C P) none (m_BA P) 61 s ∧ r_PL P.1 s ∧ s.1 215 25 = nI (P.1.1 1)
theorem r_q (hV : m_MV M) (hI : r_I M s) {g : AS → Option Int32} {b : Bool} (hg : ∀ t, r_I M t → g t = some (nI b.toNat)) (hl : b = true → 0 < M.2.2.1.1.1 6) {body : AS → Unit → Option (AS × Int32)} {r : Int32} (hb : b = true → ∀ t, r_I M t → r_T M.2.2.1 t → ∃ u, body t () = some (u, r) ∧ r_mv t u) : ∃ t, am_let (am_si s 215 0 (0 : Int32)) (fun s1 => am_r (g s1) (fun v1 => if v1 = 0 then some (s1, (-2 : Int32)) else am_c (fX9_laysNow s1) body)) = some (t, if b then r else -2) ∧ r_I M t ∧ r_F s t := by
  have m0 : r_mv s (am_si s 215 0 (0 : Int32)) := r_mv_si (r_mv_refl s) _ (by omega)
  have I0 := r_I_mv hI m0
  rw [am_lq, hg _ I0, am_rq]
  cases b with
  | false =>
    refine ⟨_, ?_, I0, m0.1⟩
    rw [if_pos (show nI false.toNat = 0 from rfl), if_neg (by simp)]
  | true =>
    obtain ⟨t, h1, h2, h3⟩ := r_laysNow (m_MV_P hV) (hl rfl) _ I0.2.2.1
    have I1 := r_I_mv I0 h2
    obtain ⟨u, h5, h6⟩ := hb rfl t I1 h3
    refine ⟨u, ?_, r_I_mv I1 h6, r_F_tr (r_F_tr m0.1 h2.1) h6.1⟩
    rw [if_neg (by decide), h1, am_cq, h5, if_pos rfl]
end GD
section GF
variable {P : m_P} {t : AS}
theorem T_at (h : c_T P t) {k : Nat} (hk : k < 61) : t.1 164 k = oI (w_at P.1 (m_C P) k) := by
  have := h.2.2.1 k hk; rw [if_pos hk] at this; exact this
theorem T_cr (h : c_T P t) {k : Nat} (hk : k < 61) : t.1 165 k = nI (w_cr P.1 (m_C P) k) := by
  have := h.2.2.2.1 k hk; rw [if_pos hk] at this; exact this
theorem T_go (h : c_T P t) {k : Nat} (hk : k < 61) : t.1 166 k = oI (w_go P.1 (m_C P) k) := by
  have := h.2.2.2.2.1 k hk; rw [if_pos hk] at this; exact this
theorem T_fe (h : c_T P t) {p : Nat} (hp : p < 8) : t.1 167 p = oI (w_fe P.1 (m_C P) p) := h.2.1.2.2.2.1 p hp
theorem T_le (h : c_T P t) {p : Nat} (hp : p < 8) : t.1 168 p = oI (w_le P.1 (m_C P) p) := h.2.1.2.2.2.2.1 p hp
theorem T_or (h : c_T P t) {p : Nat} (hp : p < 8) (hb : (w_W P.1 (m_C P) 61).2.2.1.testBit p = true) : t.1 169 p = nI (w_or P.1 (m_C P) p) := h.2.1.2.2.2.2.2 p hp hb
theorem T_ov (h : c_T P t) : t.1 163 6 = oI (w_on P.1 (m_C P) 61) := h.2.2.2.2.2.1
theorem T_wy (h : c_T P t) : t.1 163 7 = oI (w_wn P.1 (m_C P) 61) := h.2.2.2.2.2.2.1
theorem T_se (h : c_T P t) : t.1 163 8 = nI (w_se P.1 (m_C P) 61) := h.2.2.2.2.2.2.2
theorem R_at (h : r_T P t) {k : Nat} (hk : k < 61) : t.1 229 k = oI (w_at P.1 (m_C P) k) := h.1.2.1 k hk
theorem R_cr (h : r_T P t) {k : Nat} (hk : k < 61) : t.1 230 k = nI (w_cr P.1 (m_C P) k) := h.1.2.2.1 k hk
theorem R_go (h : r_T P t) {k : Nat} (hk : k < 61) : t.1 231 k = oI (w_go P.1 (m_C P) k) := h.1.2.2.2.1 k hk
theorem R_vo (h : r_T P t) {k : Nat} (hk : k < 61) : r_VT k (w_vo P.1 (m_C P) k) t := fun p hp => h.1.2.2.2.2.1 k p hk hp
theorem R_fe (h : r_T P t) {p : Nat} (hp : p < 8) : t.1 233 p = oI (w_fe P.1 (m_C P) p) := h.1.1.2.2.2.1 p hp
theorem R_le (h : r_T P t) {p : Nat} (hp : p < 8) : t.1 234 p = oI (w_le P.1 (m_C P) p) := h.1.1.2.2.2.2.1 p hp
theorem R_or (h : r_T P t) {p : Nat} (hp : p < 8) (hb : (w_W P.1 (m_C P) 61).2.2.1.testBit p = true) : t.1 235 p = nI (w_or P.1 (m_C P) p) := h.1.1.2.2.2.2.2 p hp hb
theorem R_ov (h : r_T P t) : t.1 215 45 = oI (w_on P.1 (m_C P) 61) := h.1.2.2.2.2.2.1
theorem R_wy (h : r_T P t) : t.1 215 46 = oI (w_wn P.1 (m_C P) 61) := h.1.2.2.2.2.2.2.1
theorem R_sh (h : r_T P t) : t.1 215 24 = nI (m_BA P) ∧ r_WY P.1 (m_BA P) t := by
  obtain ⟨z, z1, z2, z3, z4, z5⟩ := h.1.2.2.2.2.2.2.2
  rw [z5 rfl] at z2 z3
  exact ⟨z2, z3⟩
/-- persons, roads, grants of the class's march -/
theorem T_pe (h : c_PL 25 P.1 t) {p j : Nat} (hp : p < P.1.1 5) (hj : j < 5) : t.1 (38 + p) j = nI (P.1.2.2.1 p j) := h.2.2.1 p j hp hj
theorem T_ro (h : c_PL 25 P.1 t) {r j : Nat} (hr : r < P.1.1 4) (hj : j < 3) : t.1 (27 + r) j = nI (P.1.2.1 r j) := h.2.1 r j hr hj
theorem T_gr (h : c_PL 25 P.1 t) {k : Nat} (hk : k < 6) : t.1 46 k = nI (P.1.2.2.2 k) := h.2.2.2.1 k hk
theorem T_np (h : c_PL 25 P.1 t) {j : Nat} (hj : j < 6) : t.1 25 (1 + j) = nI (P.1.1 j) := h.1 j hj
end GF
