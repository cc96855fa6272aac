/-! RAIN: chance, mean. -/
theorem m_sum_add (f : Nat → Nat) (a : Nat) : ∀ b, m_sum f (a + b) = m_sum f a + m_sum (fun k => f (a + k)) b
  | 0 => rfl
  | b + 1 => by rw [← Nat.add_assoc, m_sum_s, m_sum_add f a b, m_sum_s, Nat.add_assoc]
theorem m_sum_2 {f g h : Nat → Nat} {c : Nat} : ∀ {n : Nat}, (∀ k, k < n → f k + g k = c * h k) → m_sum f n + m_sum g n = c * m_sum h n
  | 0, _ => rfl
  | n + 1, e => by
    have ih := m_sum_2 (n := n) (fun k hk => e k (by omega))
    have := e n (by omega)
    rw [m_sum_s, m_sum_s, m_sum_s, Nat.mul_add]
    omega
theorem m_sum_lc {f : Nat → Nat} {c : Nat} : ∀ {n : Nat}, (∀ k, k < n → f k ≤ c) → m_sum f n ≤ n * c
  | 0, _ => Nat.zero_le _
  | n + 1, h => by
    have ih := m_sum_lc (n := n) (fun k hk => h k (by omega))
    have := h n (by omega)
    rw [m_sum_s, Nat.add_mul, Nat.one_mul]
    omega
section CH
variable {M : m_M} {s t : AS} {P : m_P} {n : Nat}
/-- a rain told by the bits of a number -/
abbrev m_rs (P : m_P) (x : Nat) : w_C := m_rc P (fun k => x.testBit k)
/-- it comes to pl by step n -/
def m_cb (P : m_P) (x n pl : Nat) : Bool := (y_fd (fun j => w_at P.1 (m_rs P x) j == some pl) (n + 1)).isSome
theorem m_cb_t {x n pl : Nat} : m_cb P x n pl = true ↔ ∃ k, k ≤ n ∧ w_at P.1 (m_rs P x) k = some pl := by
  unfold m_cb
  cases h : y_fd (fun j => w_at P.1 (m_rs P x) j == some pl) (n + 1) with
  | none =>
    have a := y_fd_n.mp h
    refine ⟨fun z => (by cases z), fun ⟨k, h1, h2⟩ => ?_⟩
    have := a k (by omega)
    rw [h2] at this
    simp at this
  | some k =>
    obtain ⟨a, b, -⟩ := y_fd_s.mp h
    exact ⟨fun _ => ⟨k, by omega, eq_of_beq b⟩, fun _ => rfl⟩
/-- what is added for a rain: the class's, the reference's; how many in it -/
def m_c8 (P : m_P) (n pl x : Nat) : Nat := if m_cb P x n pl then m_wgt (P.1.1 3) x n else 0
def m_c9 (P : m_P) (n pl x : Nat) : Nat := if m_cb P x n pl then m_wgt (P.1.1 3) x (n + 1) else 0
def m_me (P : m_P) (n x : Nat) : Nat := m_wgt (P.1.1 3) x (n + 1) * w_pc (w_cr P.1 (m_rs P x) n)
theorem m_rs_c {x y : Nat} (h : ∀ j, j < n → x.testBit j = y.testBit j) : ∀ i, i ≤ n → w_W P.1 (m_rs P x) i = w_W P.1 (m_rs P y) i := w_W_c (m := n) h (fun _ _ => rfl) (fun _ _ => rfl)
theorem m_cb_c {x y pl : Nat} (h : ∀ j, j < n → x.testBit j = y.testBit j) : m_cb P x n pl = m_cb P y n pl := by
  apply Bool.eq_iff_iff.mpr
  rw [m_cb_t, m_cb_t]
  have e : ∀ k, k ≤ n → w_at P.1 (m_rs P x) k = w_at P.1 (m_rs P y) k := fun k hk => by
    unfold w_at
    rw [m_rs_c h k hk]
  exact ⟨fun ⟨k, h1, h2⟩ => ⟨k, h1, (e k h1).symm.trans h2⟩, fun ⟨k, h1, h2⟩ => ⟨k, h1, (e k h1).trans h2⟩⟩
theorem m_c98 (ho : P.1.1 3 ≤ 10) (pl : Nat) : m_sum (m_c9 P n pl) (2 ^ (n + 1)) = 10 * m_sum (m_c8 P n pl) (2 ^ n) := by
  rw [Nat.pow_succ, Nat.mul_two, m_sum_add]
  refine m_sum_2 (fun k hk => ?_)
  have hb : ∀ j, j < n → (2 ^ n + k).testBit j = k.testBit j := fun j hj => Nat.testBit_two_pow_add_gt hj k
  have hn : (2 ^ n + k).testBit n = true := by
    rw [Nat.testBit_two_pow_add_eq, Nat.testBit_lt_two_pow hk]; rfl
  have hk0 : k.testBit n = false := Nat.testBit_lt_two_pow hk
  show m_c9 P n pl k + m_c9 P n pl (2 ^ n + k) = 10 * m_c8 P n pl k
  unfold m_c9 m_c8
  rw [m_cb_c hb, m_wgt_s, m_wgt_s, m_wgt_c hb, hn, hk0]
  cases m_cb P k n pl with
  | false => rfl
  | true =>
    simp only [if_true, Bool.false_eq_true, if_false]
    rw [← Nat.mul_add, Nat.mul_comm]
    congr 1
    omega
theorem m_c8_le (ho : P.1.1 3 ≤ 10) (hn : n ≤ 8) (pl x : Nat) : m_c8 P n pl x ≤ 10 ^ 8 := by
  have h1 := m_wgt_le ho x n
  have h2 : 10 ^ n ≤ 10 ^ 8 := Nat.pow_le_pow_right (by omega) hn
  unfold m_c8
  split <;> omega
theorem m_c9_le (ho : P.1.1 3 ≤ 10) (hn : n ≤ 8) (pl x : Nat) : m_c9 P n pl x ≤ 10 ^ 9 := by
  have h1 := m_wgt_le ho x (n + 1)
  have h2 : 10 ^ (n + 1) ≤ 10 ^ 9 := Nat.pow_le_pow_right (by omega) (by omega)
  unfold m_c9
  split <;> omega
theorem w_pc_10 (x : Nat) : w_pc x ≤ 10 := by
  unfold w_pc
  have h : ∀ b : Bool, b.toNat ≤ 1 := by decide
  have := h (x.testBit 0)
  have := h (x.testBit 1)
  have := h (x.testBit 2)
  have := h (x.testBit 3)
  have := h (x.testBit 4)
  have := h (x.testBit 5)
  have := h (x.testBit 6)
  have := h (x.testBit 7)
  have := h (x.testBit 8)
  have := h (x.testBit 9)
  omega
theorem m_me_le (ho : P.1.1 3 ≤ 10) (hn : n ≤ 8) (x : Nat) : m_me P n x ≤ 10 ^ 10 := by
  have h1 := m_wgt_le ho x (n + 1)
  have h2 : 10 ^ (n + 1) ≤ 10 ^ 9 := Nat.pow_le_pow_right (by omega) (by omega)
  have h3 := w_pc_10 (w_cr P.1 (m_rs P x) n)
  unfold m_me
  have := Nat.mul_le_mul (Nat.le_trans h1 h2) h3
  omega
theorem w_cr_256 (hV : m_PV P) (C : w_C) (k : Nat) : w_cr P.1 C k < 256 := by
  have h5 := hV.1.2.2.1
  unfold w_cr
  cases w_at P.1 C k with
  | none => show 0 < 256; omega
  | some q => exact Nat.lt_of_lt_of_le (w_W_ok (D := P.1) (C := C) h5 (k + 1)).1 (w_pow8 h5)
theorem b_shl : ∀ n, n < 10 → nI 1 <<< (nI n &&& nI 31) = nI (2 ^ n) ∧ nI 2 <<< (nI n &&& nI 31) = nI (2 ^ (n + 1)) := by decide +kernel
theorem m_pow9 (hn : n ≤ 9) : 2 ^ n ≤ 512 := by
  have : 2 ^ n ≤ 2 ^ 9 := Nat.pow_le_pow_right (by omega) hn
  omega
def m_OKj (f8 f9 : AS → Option (AS × Int64)) : Prop := ∀ M s, m_MV M → c_I M s → r_I M s → ∃ M' s1 v s2, m_MV M' ∧ f8 s = some (s1, v) ∧ f9 s1 = some (s2, v) ∧ c_I M' s2 ∧ r_I M' s2
theorem m_okj_q {f8 f9 : AS → Option (AS × Int64)} (b : m_M → Bool) (r : m_M → Int64) (h8 : ∀ M s, m_MV M → c_I M s → ∃ t, f8 s = some (t, if b M then r M else -2) ∧ c_I M t ∧ c_F s t) (h9 : ∀ M s, m_MV M → r_I M s → ∃ t, f9 s = some (t, if b M then r M else -2) ∧ r_I M t ∧ r_F s t) : m_OKj f8 f9 := by
  intro M s hV hC hR
  obtain ⟨t, a1, a2, a3⟩ := h8 M s hV hC
  obtain ⟨u, b1, b2, b3⟩ := h9 M t hV (r_I_F hR a3)
  exact ⟨M, t, _, u, hV, a1, b1, c_I_F hV a2 b3, b2⟩
theorem c_chanceL (hV : m_MV M) (hl : 0 < M.2.2.1.1.1 6) (hn : n ≤ 8) {pl w : Nat} (hp : pl < 10) (hw : w < 2) (t : AS) (hI : c_I M t) (hT : c_T M.2.2.1 t) : ∃ u, fX8_chance_L38 (nI pl) (nI n) (nI w) am_fu t (nJ 0) (nI 0) = some (u, nJ (m_pt (m_sum (m_c8 M.2.2.1 n pl) (2 ^ n)) (10 ^ n) w)) ∧ c_mw t u := by
  have hP := m_MV_P hV
  obtain ⟨v0, v4, v5, vr, vp, vg, vs, vr2, vo, vl, vz⟩ := id hP.1
  have h9 := m_pow9 (show n ≤ 9 by omega)
  have hb : 10 ^ n ≤ 10 ^ 8 := Nat.pow_le_pow_right (by omega) hn
  have hb0 : 0 < 10 ^ n := Nat.pow_pos (by omega)
  have hsl : ∀ i, i ≤ 512 → m_sum (m_c8 M.2.2.1 n pl) i ≤ 51200000000 := fun i hi => by
    have := m_sum_lc (n := i) (fun k _ => m_c8_le vo hn pl k)
    have : i * 10 ^ 8 ≤ 512 * 10 ^ 8 := Nat.mul_le_mul_right _ hi
    omega
  have e38 : ∀ x8, (nI 1 <<< (nI n &&& nI 31) ≤ nI x8) = (nI (2 ^ n) ≤ nI x8) := fun x8 => by rw [(b_shl n (by omega)).1]
  refine sp_lq (fun f (x : AS × Int64) i => fX8_chance_L38 (nI pl) (nI n) (nI w) f x.1 x.2 i) (2 ^ n) (fun i x => c_mw t x.1 ∧ x.2 = nJ (m_sum (m_c8 M.2.2.1 n pl) i)) (fun r => ∃ u, r = some (u, nJ (m_pt (m_sum (m_c8 M.2.2.1 n pl) (2 ^ n)) (10 ^ n) w)) ∧ c_mw t u) (fun f i x hi hx => ?_) (fun f x hx => ?_) (t, nJ 0) ⟨c_mw_refl t, rfl⟩ am_fu (am_fu_gt (by omega))
  · left
    obtain ⟨v, x⟩ := x
    obtain ⟨k1, k2⟩ := hx
    dsimp only at k1 k2 ⊢
    subst k2
    have I1 := c_I_mw hV hI k1
    have T1 := c_T_mw hP hT k1
    have e4 : v.1 25 4 = nI (M.2.2.1.1.1 3) := T_np I1.1.2.2.1.1 (j := 3) (by omega)
    have we := c_weightOf vo e4 (show i < 1024 by omega) (show n ≤ 10 by omega)
    have wl := m_wgt_le vo i n
    have s1 := hsl i (by omega)
    rw [fX8_chance_L38, m_sum_s]
    by_cases c : m_wgt (M.2.2.1.1.1 3) i n = 0
    · refine ⟨(v, nJ (m_sum (m_c8 M.2.2.1 n pl) (i + 1))), ⟨k1, rfl⟩, ?_⟩
      have : m_c8 M.2.2.1 n pl i = 0 := by
        unfold m_c8
        split
        · exact c
        · rfl
      rw [m_sum_s, this, Nat.add_zero]
      simp (disch := omega) only [↓am_lq, b_lq, j_lq, e38, b_le, b_add, if_neg, we, am_rq, j_le, j_nle, if_pos]
    · obtain ⟨u, u1, u2, u3⟩ := c_goInRain (R := fun k => i.testBit k) hP hl (fun k hk => m_rb_n i (by omega) k hk) (show n ≤ 60 by omega) v I1.1.2.2.1 T1.1
      obtain ⟨se, s2, s3, s4⟩ := u3.2
      have es : se.testBit pl = m_cb M.2.2.1 i n pl := by
        apply Bool.eq_iff_iff.mpr
        rw [s4 pl (.inl rfl), m_cb_t]
      refine ⟨(u, nJ (m_sum (m_c8 M.2.2.1 n pl) (i + 1))), ⟨c_mw_tr k1 u2, rfl⟩, ?_⟩
      rw [m_sum_s, show m_c8 M.2.2.1 n pl i = if m_cb M.2.2.1 i n pl then m_wgt (M.2.2.1.1.1 3) i n else 0 from rfl]
      simp (disch := omega) only [↓am_lq, b_lq, j_lq, e38, b_le, b_add, if_neg, we, am_rq, j_le, j_nle, u1, am_cq, s3, c_holds, es, m_if0, j_add]
      cases m_cb M.2.2.1 i n pl <;> rfl
  · obtain ⟨v, x⟩ := x
    obtain ⟨k1, k2⟩ := hx
    dsimp only at k1 k2 ⊢
    subst k2
    have s1 := hsl (2 ^ n) h9
    refine ⟨v, ?_, k1⟩
    rw [fX8_chance_L38]
    simp (disch := omega) only [b_lq, j_lq, e38, b_le, if_pos, c_tens (show n ≤ 10 by omega), am_rq, c_partOf (h := m_sum (m_c8 M.2.2.1 n pl) (2 ^ n)) (b := 10 ^ n) (w := w) (by omega) hb0 (by omega) hw]
theorem c_meanL (hV : m_MV M) (hl : 0 < M.2.2.1.1.1 6) (hn : n ≤ 8) {w : Nat} (hw : w < 2) (t : AS) (hI : c_I M t) (hT : c_T M.2.2.1 t) : ∃ u, fX8_mean_L29 (nI n) (nI w) am_fu t (nJ 0) (nI 0) = some (u, nJ (m_pt (m_sum (m_me M.2.2.1 n) (2 ^ (n + 1))) (10 ^ (n + 1)) w)) ∧ c_mw t u := by
  have hP := m_MV_P hV
  obtain ⟨v0, v4, v5, vr, vp, vg, vs, vr2, vo, vl, vz⟩ := id hP.1
  have h9 := m_pow9 (show n + 1 ≤ 9 by omega)
  have hb : 10 ^ (n + 1) ≤ 10 ^ 9 := Nat.pow_le_pow_right (by omega) (by omega)
  have hb0 : 0 < 10 ^ (n + 1) := Nat.pow_pos (by omega)
  have hsl : ∀ i, i ≤ 512 → m_sum (m_me M.2.2.1 n) i ≤ 5120000000000 := fun i hi => by
    have := m_sum_lc (n := i) (fun k _ => m_me_le vo hn k)
    have : i * 10 ^ 10 ≤ 512 * 10 ^ 10 := Nat.mul_le_mul_right _ hi
    omega
  have e29 : ∀ x8, (nI 1 <<< (nI (n + 1) &&& nI 31) ≤ nI x8) = (nI (2 ^ (n + 1)) ≤ nI x8) := fun x8 => by rw [(b_shl (n + 1) (by omega)).1]
  refine sp_lq (fun f (x : AS × Int64) i => fX8_mean_L29 (nI n) (nI w) f x.1 x.2 i) (2 ^ (n + 1)) (fun i x => c_mw t x.1 ∧ x.2 = nJ (m_sum (m_me M.2.2.1 n) i)) (fun r => ∃ u, r = some (u, nJ (m_pt (m_sum (m_me M.2.2.1 n) (2 ^ (n + 1))) (10 ^ (n + 1)) w)) ∧ c_mw t u) (fun f i x hi hx => ?_) (fun f x hx => ?_) (t, nJ 0) ⟨c_mw_refl t, rfl⟩ am_fu (am_fu_gt (by omega))
  · left
    obtain ⟨v, x⟩ := x
    obtain ⟨k1, k2⟩ := hx
    dsimp only at k1 k2 ⊢
    subst k2
    have I1 := c_I_mw hV hI k1
    have T1 := c_T_mw hP hT k1
    have e4 : v.1 25 4 = nI (M.2.2.1.1.1 3) := T_np I1.1.2.2.1.1 (j := 3) (by omega)
    have we := c_weightOf vo e4 (show i < 1024 by omega) (show n + 1 ≤ 10 by omega)
    have wl := m_wgt_le vo i (n + 1)
    have s1 := hsl i (by omega)
    rw [fX8_mean_L29, m_sum_s]
    by_cases c : m_wgt (M.2.2.1.1.1 3) i (n + 1) = 0
    · refine ⟨(v, nJ (m_sum (m_me M.2.2.1 n) (i + 1))), ⟨k1, rfl⟩, ?_⟩
      have : m_me M.2.2.1 n i = 0 := by
        unfold m_me
        rw [c, Nat.zero_mul]
      rw [m_sum_s, this, Nat.add_zero]
      simp (disch := omega) only [↓am_lq, b_lq, j_lq, b_add, e29, b_le, if_neg, we, am_rq, j_le, j_nle, if_pos]
    · obtain ⟨u, u1, u2, u3⟩ := c_goInRain (R := fun k => i.testBit k) hP hl (fun k hk => m_rb_n i (by omega) k hk) (show n ≤ 60 by omega) v I1.1.2.2.1 T1.1
      have G := u3.1 (fun k hk q hq h => by cases h)
      have e200 : u.1 200 n = nI (w_cr M.2.2.1.1 (m_rs M.2.2.1 i) n) := by
        have := G.2.2.1 n (by omega)
        rw [if_pos (by omega)] at this
        exact this
      rw [j_i (show i < 2147483648 by omega)] at u1
      have hcr := w_cr_256 hP (m_rs M.2.2.1 i) n
      have hpc := w_pc_10 (w_cr M.2.2.1.1 (m_rs M.2.2.1 i) n)
      have ebc := b_bc (w_cr M.2.2.1.1 (m_rs M.2.2.1 i) n) (by omega)
      refine ⟨(u, nJ (m_sum (m_me M.2.2.1 n) (i + 1))), ⟨c_mw_tr k1 u2, rfl⟩, ?_⟩
      rw [m_sum_s, show m_me M.2.2.1 n i = m_wgt (M.2.2.1.1.1 3) i (n + 1) * w_pc (w_cr M.2.2.1.1 (m_rs M.2.2.1 i) n) from rfl]
      simp (disch := omega) only [↓am_lq, b_lq, j_lq, b_add, e29, b_le, b_lt, b_t, am_g_t, if_neg, we, am_rq, j_le, j_nle, u1, am_cq, e200, ebc, j_i, j_mul, j_add]
  · obtain ⟨v, x⟩ := x
    obtain ⟨k1, k2⟩ := hx
    dsimp only at k1 k2 ⊢
    subst k2
    have s1 := hsl (2 ^ (n + 1)) h9
    refine ⟨v, ?_, k1⟩
    rw [fX8_mean_L29]
    simp (disch := omega) only [b_lq, j_lq, b_add, e29, b_le, if_pos, c_tens (show n + 1 ≤ 10 by omega), am_rq, c_partOf (h := m_sum (m_me M.2.2.1 n) (2 ^ (n + 1))) (b := 10 ^ (n + 1)) (w := w) (by omega) hb0 (by omega) hw]
end CH
