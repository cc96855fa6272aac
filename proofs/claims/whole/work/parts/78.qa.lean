/-! QUESTIONS: the simple ones. -/
/-- a call, on both sides: the same answer, and both hold the same behind it -/
def m_OK (f8 f9 : AS → Option (AS × Int32)) : Prop := ∀ M s, m_MV M → c_I M s → r_I M s → ∃ M' s1 v s2, m_MV M' ∧ f8 s = some (s1, v) ∧ f9 s1 = some (s2, v) ∧ c_I M' s2 ∧ r_I M' s2
/-- the same, where the class's only reads -/
def m_OKr (f8 : AS → Option Int32) (f9 : AS → Option (AS × Int32)) : Prop := ∀ M s, m_MV M → c_I M s → r_I M s → ∃ M' v s2, m_MV M' ∧ f8 s = some v ∧ f9 s = some (s2, v) ∧ c_I M' s2 ∧ r_I M' s2
theorem m_ok_v {f8 f9 : AS → Option (AS × Int32)} (r : m_M → Int32) (h8 : ∀ M s, m_MV M → c_I M s → ∃ t, f8 s = some (t, r M) ∧ c_I M t ∧ c_F s t) (h9 : ∀ M s, m_MV M → r_I M s → ∃ t, f9 s = some (t, r M) ∧ r_I M t ∧ r_F s t) : m_OK f8 f9 := by
  intro M s hV hC hR
  obtain ⟨t, a1, a2, a3⟩ := h8 M s hV hC
  obtain ⟨u, b1, b2, b3⟩ := h9 M t hV (r_I_F hR a3)
  exact ⟨M, t, _, u, hV, a1, b1, c_I_F hV a2 b3, b2⟩
theorem m_ok_q {f8 f9 : AS → Option (AS × Int32)} (b : m_M → Bool) (r : m_M → Int32) (h8 : ∀ M s, m_MV M → c_I M s → ∃ t, f8 s = some (t, if b M then r M else -2) ∧ c_I M t ∧ c_F s t) (h9 : ∀ M s, m_MV M → r_I M s → ∃ t, f9 s = some (t, if b M then r M else -2) ∧ r_I M t ∧ r_F s t) : m_OK f8 f9 := m_ok_v (fun M => if b M then r M else -2) h8 h9
theorem m_okr_v {f8 : AS → Option Int32} {f9 : AS → Option (AS × Int32)} (r : m_M → Int32) (h8 : ∀ M s, m_MV M → c_I M s → f8 s = some (r M)) (h9 : ∀ M s, m_MV M → r_I M s → ∃ t, f9 s = some (t, r M) ∧ r_I M t ∧ r_F s t) : m_OKr f8 f9 := by
  intro M s hV hC hR
  obtain ⟨u, b1, b2, b3⟩ := h9 M s hV hR
  exact ⟨M, _, u, hV, h8 M s hV hC, b1, c_I_F hV hC b3, b2⟩
theorem m_st_k {M : m_M} {a : Int32} {n : Nat} (hn : n ≤ 2000000001) (h : m_st M a n = true) : ∃ k, k < n ∧ a = nI k := by
  unfold m_st at h
  rw [Bool.and_eq_true] at h
  obtain ⟨k, h1, h2, -⟩ := m_in_s hn h.2
  exact ⟨k, h1, h2⟩
theorem m_st_l {M : m_M} {a : Int32} {n : Nat} (h : m_st M a n = true) : 0 < M.2.2.1.1.1 6 := by
  unfold m_st at h
  rw [Bool.and_eq_true] at h
  exact of_decide_eq_true h.1
theorem m_in_k {a : Int32} {n : Nat} (hn : n ≤ 2000000001) (h : m_in a n = true) : ∃ k, k < n ∧ a = nI k := by
  obtain ⟨k, h1, h2, -⟩ := m_in_s hn h
  exact ⟨k, h1, h2⟩
/-- what a loop adds up -/
def m_sum (f : Nat → Nat) : Nat → Nat
  | 0 => 0
  | n + 1 => m_sum f n + f n
/-- what a loop puts together -/
def m_or (f : Nat → Option Nat) : Nat → Nat
  | 0 => 0
  | n + 1 => match f n with
    | none => m_or f n
    | some q => w_ins (m_or f n) q
theorem m_or_lt {f : Nat → Option Nat} : ∀ {n : Nat}, (∀ i q, i < n → f i = some q → q < 10) → m_or f n < 2 ^ 10
  | 0, _ => (by decide : 0 < 2 ^ 10)
  | n + 1, h => by
    have ih := m_or_lt (f := f) (n := n) (fun i q hi => h i q (by omega))
    unfold m_or
    cases hf : f n with
    | none => exact ih
    | some q => exact w_ins_lt ih (h n q (by omega) hf)
theorem sp_sum {R : Type} (F : Nat → Int32 → Int32 → R) (N : Nat) (f : Nat → Nat) (ex : Int32 → R) (hs : ∀ n i m, i < N → F (n + 1) (nI m) (nI i) = F n (nI (m + f i)) (nI (i + 1))) (h0 : ∀ n m, F (n + 1) (nI m) (nI N) = ex (nI m)) (fuel : Nat) (hf : N < fuel) : F fuel (nI 0) (nI 0) = ex (nI (m_sum f N)) := by
  obtain ⟨s', h1, h2⟩ := sp_lp F N (fun i x => x = nI (m_sum f i)) ex (fun n i x hi h => ⟨nI (m_sum f i + f i), rfl, by rw [h]; exact hs n i _ hi⟩) (fun n x h => by rw [h]; exact h0 n _) (nI 0) rfl fuel hf
  rw [h2, h1]
theorem sp_or {R : Type} (F : Nat → Int32 → Int32 → R) (N : Nat) (f : Nat → Option Nat) (ex : Int32 → R) (hq : ∀ i q, i < N → f i = some q → q < 10) (hs : ∀ n i m, i < N → m < 1024 → F (n + 1) (nI m) (nI i) = F n (nI (match f i with | none => m | some q => w_ins m q)) (nI (i + 1))) (h0 : ∀ n m, m < 1024 → F (n + 1) (nI m) (nI N) = ex (nI m)) (fuel : Nat) (hf : N < fuel) : F fuel (nI 0) (nI 0) = ex (nI (m_or f N)) := by
  have hb : ∀ i, i ≤ N → m_or f i < 1024 := fun i hi => m_or_lt (fun j q hj => hq j q (by omega))
  obtain ⟨s', ⟨h1, -⟩, h2⟩ := sp_lp F N (fun i x => x = nI (m_or f i) ∧ i ≤ N) ex (fun n i x hi h => ⟨nI (match f i with | none => m_or f i | some q => w_ins (m_or f i) q), ⟨rfl, hi⟩, by rw [h.1]; exact hs n i _ hi (hb i h.2)⟩) (fun n x h => by rw [h.1]; exact h0 n _ (hb N h.2)) (nI 0) ⟨rfl, by omega⟩ fuel hf
  rw [h2, h1]
theorem b_or0 {x : Nat} : nI x ||| nI 0 = nI x := by
  show nI x ||| (0 : Int32) = nI x
  simp
section QA
theorem w_cr_lt {P : m_P} (hV : m_PV P) (k : Nat) : w_cr P.1 (m_C P) k < 256 := by
  unfold w_cr
  cases w_at P.1 (m_C P) k with
  | none => dsimp only; omega
  | some q => exact Nat.lt_of_lt_of_le (w_W_ok (C := m_C P) hV.1.2.2.1 (k + 1)).1 (w_pow8 hV.1.2.2.1)
theorem w_cr_p {P : m_P} (hV : m_PV P) {k p : Nat} (h : (w_cr P.1 (m_C P) k).testBit p = true) : p < P.1.1 5 := by
  apply Classical.byContradiction
  intro c
  have : w_cr P.1 (m_C P) k < 2 ^ P.1.1 5 := by
    unfold w_cr
    cases w_at P.1 (m_C P) k with
    | none => exact Nat.two_pow_pos _
    | some q => exact (w_W_ok (C := m_C P) hV.1.2.2.1 (k + 1)).1
  rw [Nat.testBit_lt_two_pow (Nat.lt_of_lt_of_le this (Nat.pow_le_pow_right (by omega) (by omega)))] at h
  cases h
theorem w_at_10 {P : m_P} (hV : m_PV P) (hl : 0 < P.1.1 6) {k q : Nat} (h : w_at P.1 (m_C P) k = some q) : q < P.1.1 0 ∧ q < 10 := by
  have h1 := w_at_lt (m_CK hV hl) h
  have h2 := hV.1.1
  exact ⟨h1, by omega⟩
theorem Q_at (a : Int32) : m_OK (fun s => fX8_at s a) (fun s => fX9_at s a) := m_ok_q (fun M => m_st M a 61) (fun M => oI (w_at M.2.2.1.1 (m_C M.2.2.1) a.toNatClampNeg))
  (fun M s hV hI => by
    unfold fX8_at
    exact c_q hV hI (g8_step hI.1 hV) m_st_l (fun hb t h1 h2 => by
      have v5 := (m_MV_P hV).1.2.2.1
      obtain ⟨k, hk, rfl⟩ := m_st_k (by omega) hb
      refine ⟨t, ?_, c_mw_refl t⟩
      simp (disch := omega) only [b_lq, b_lt, b_t, am_g_t, T_at h2 hk]))
  (fun M s hV hI => by
    unfold fX9_at
    exact r_q hV hI (fun t h => g9_step h hV) m_st_l (fun hb t h1 h2 => by
      have v5 := (m_MV_P hV).1.2.2.1
      obtain ⟨k, hk, rfl⟩ := m_st_k (by omega) hb
      refine ⟨t, ?_, r_mv_refl t⟩
      simp (disch := omega) only [b_lq, b_lt, b_t, am_g_t, R_at h2 hk]))
theorem Q_crowd (a : Int32) : m_OK (fun s => fX8_crowd s a) (fun s => fX9_crowd s a) := m_ok_q (fun M => m_st M a 61) (fun M => nI (w_cr M.2.2.1.1 (m_C M.2.2.1) a.toNatClampNeg))
  (fun M s hV hI => by
    unfold fX8_crowd
    exact c_q hV hI (g8_step hI.1 hV) m_st_l (fun hb t h1 h2 => by
      have v5 := (m_MV_P hV).1.2.2.1
      obtain ⟨k, hk, rfl⟩ := m_st_k (by omega) hb
      refine ⟨t, ?_, c_mw_refl t⟩
      simp (disch := omega) only [b_lq, b_lt, b_t, am_g_t, T_cr h2 hk]))
  (fun M s hV hI => by
    unfold fX9_crowd
    exact r_q hV hI (fun t h => g9_step h hV) m_st_l (fun hb t h1 h2 => by
      have v5 := (m_MV_P hV).1.2.2.1
      obtain ⟨k, hk, rfl⟩ := m_st_k (by omega) hb
      refine ⟨t, ?_, r_mv_refl t⟩
      simp (disch := omega) only [b_lq, b_lt, b_t, am_g_t, R_cr h2 hk]))
theorem Q_joins (a : Int32) : m_OK (fun s => fX8_joins s a) (fun s => fX9_joins s a) := m_ok_q (fun M => m_in a (M.2.2.1.1.1 5)) (fun M => oI (w_fe M.2.2.1.1 (m_C M.2.2.1) a.toNatClampNeg))
  (fun M s hV hI => by
    unfold fX8_joins
    exact c_q hV hI (g8_person hI.1) (fun hb => m_pl hV (j := 5) (by omega) (m_in_pos (by have := (m_MV_P hV).1.2.2.1; omega) hb)) (fun hb t h1 h2 => by
      have v5 := (m_MV_P hV).1.2.2.1
      obtain ⟨k, hk, rfl⟩ := m_in_k (by have := (m_MV_P hV).1.2.2.1; omega) hb
      refine ⟨t, ?_, c_mw_refl t⟩
      simp (disch := omega) only [b_lq, b_lt, b_t, am_g_t, T_fe h2 (show k < 8 by omega)]))
  (fun M s hV hI => by
    unfold fX9_joins
    exact r_q hV hI (fun t h => g9_person h hV) (fun hb => m_pl hV (j := 5) (by omega) (m_in_pos (by have := (m_MV_P hV).1.2.2.1; omega) hb)) (fun hb t h1 h2 => by
      have v5 := (m_MV_P hV).1.2.2.1
      obtain ⟨k, hk, rfl⟩ := m_in_k (by have := (m_MV_P hV).1.2.2.1; omega) hb
      refine ⟨t, ?_, r_mv_refl t⟩
      simp (disch := omega) only [b_lq, b_lt, b_t, am_g_t, R_fe h2 (show k < 8 by omega)]))
theorem Q_leaves (a : Int32) : m_OK (fun s => fX8_leaves s a) (fun s => fX9_leaves s a) := m_ok_q (fun M => m_in a (M.2.2.1.1.1 5)) (fun M => oI (w_le M.2.2.1.1 (m_C M.2.2.1) a.toNatClampNeg))
  (fun M s hV hI => by
    unfold fX8_leaves
    exact c_q hV hI (g8_person hI.1) (fun hb => m_pl hV (j := 5) (by omega) (m_in_pos (by have := (m_MV_P hV).1.2.2.1; omega) hb)) (fun hb t h1 h2 => by
      have v5 := (m_MV_P hV).1.2.2.1
      obtain ⟨k, hk, rfl⟩ := m_in_k (by have := (m_MV_P hV).1.2.2.1; omega) hb
      refine ⟨t, ?_, c_mw_refl t⟩
      simp (disch := omega) only [b_lq, b_lt, b_t, am_g_t, T_le h2 (show k < 8 by omega)]))
  (fun M s hV hI => by
    unfold fX9_leaves
    exact r_q hV hI (fun t h => g9_person h hV) (fun hb => m_pl hV (j := 5) (by omega) (m_in_pos (by have := (m_MV_P hV).1.2.2.1; omega) hb)) (fun hb t h1 h2 => by
      have v5 := (m_MV_P hV).1.2.2.1
      obtain ⟨k, hk, rfl⟩ := m_in_k (by have := (m_MV_P hV).1.2.2.1; omega) hb
      refine ⟨t, ?_, r_mv_refl t⟩
      simp (disch := omega) only [b_lq, b_lt, b_t, am_g_t, R_le h2 (show k < 8 by omega)]))
theorem Q_over : m_OK (fun s => fX8_over s) (fun s => fX9_over s) := m_ok_q (fun M => decide (0 < M.2.2.1.1.1 6)) (fun M => oI (w_on M.2.2.1.1 (m_C M.2.2.1) 61))
  (fun M s hV hI => by
    unfold fX8_over
    exact c_q hV hI (g8_march hI.1 hV) of_decide_eq_true (fun hb t h1 h2 => by
      refine ⟨t, ?_, c_mw_refl t⟩
      simp (disch := omega) only [b_lq, b_lt, b_t, am_g_t, T_ov h2]))
  (fun M s hV hI => by
    unfold fX9_over
    exact r_q hV hI (fun t h => g9_march h hV) of_decide_eq_true (fun hb t h1 h2 => by
      refine ⟨t, ?_, r_mv_refl t⟩
      simp (disch := omega) only [b_lq, b_lt, b_t, am_g_t, R_ov h2]))
theorem Q_why : m_OK (fun s => fX8_why s) (fun s => fX9_why s) := m_ok_q (fun M => decide (0 < M.2.2.1.1.1 6)) (fun M => oI (w_wn M.2.2.1.1 (m_C M.2.2.1) 61))
  (fun M s hV hI => by
    unfold fX8_why
    exact c_q hV hI (g8_march hI.1 hV) of_decide_eq_true (fun hb t h1 h2 => by
      refine ⟨t, ?_, c_mw_refl t⟩
      simp (disch := omega) only [b_lq, b_lt, b_t, am_g_t, T_wy h2]))
  (fun M s hV hI => by
    unfold fX9_why
    exact r_q hV hI (fun t h => g9_march h hV) of_decide_eq_true (fun hb t h1 h2 => by
      refine ⟨t, ?_, r_mv_refl t⟩
      simp (disch := omega) only [b_lq, b_lt, b_t, am_g_t, R_wy h2]))
end QA
