/-! LONGS: small numbers, powers of ten, common divisors. -/
def nJ (n : Nat) : Int64 := Int64.ofNat n
theorem j_lq (n : Nat) : (OfNat.ofNat n : Int64) = nJ n := Eq.trans rfl rfl
theorem j_t {a : Nat} (h : a < 9223372036854775808) : (nJ a).toInt = a := Int64.toInt_ofNat_of_lt (by omega)
theorem j_i {a : Nat} (h : a < 2147483648) : (nI a).toInt64 = nJ a := by
  apply Int64.toInt_inj.mp
  rw [Int32.toInt_toInt64, b_toI h, j_t (by omega)]
theorem j_nle {a b : Nat} (ha : a < 9223372036854775808) (hb : b < 9223372036854775808) : (nJ a ≤ nJ b) = (a ≤ b) := by
  rw [Int64.le_iff_toInt_le, j_t ha, j_t hb]
  exact propext Int.ofNat_le
theorem j_nlt {a b : Nat} (ha : a < 9223372036854775808) (hb : b < 9223372036854775808) : (nJ a < nJ b) = (a < b) := by
  rw [Int64.lt_iff_toInt_lt, j_t ha, j_t hb]
  exact propext Int.ofNat_lt
theorem j_neq {a b : Nat} (ha : a < 9223372036854775808) (hb : b < 9223372036854775808) : (nJ a = nJ b) = (a = b) := by
  rw [← Int64.toInt_inj, j_t ha, j_t hb]
  exact propext Int.ofNat_inj
theorem j_add (a b : Nat) : nJ a + nJ b = nJ (a + b) := (Int64.ofNat_add a b).symm
theorem j_mul (a b : Nat) : nJ a * nJ b = nJ (a * b) := (Int64.ofNat_mul a b).symm
theorem j_nsub {a b : Nat} (h : b ≤ a) : nJ a - nJ b = nJ (a - b) := by
  have e : a = (a - b) + b := by omega
  rw [e, ← j_add (a - b) b, Nat.add_sub_cancel, Int64.add_sub_cancel]
theorem j_div {a b : Nat} (ha : a < 9223372036854775808) (hb : b < 9223372036854775808) : nJ a / nJ b = nJ (a / b) := by
  have h1 : a / b ≤ a := Nat.div_le_self a b
  apply Int64.toInt_inj.mp
  rw [Int64.toInt_div, j_t ha, j_t hb, j_t (by omega)]
  have e : (a : Int).tdiv (b : Int) = ((a / b : Nat) : Int) := rfl
  rw [e]
  generalize a / b = q at h1
  exact Int.bmod_eq_of_le (by first | (simp; done) | (simp; omega)) (by first | (simp; done) | (simp; omega))
theorem j_mod {a b : Nat} (ha : a < 9223372036854775808) (hb : b < 9223372036854775808) : nJ a - nJ a / nJ b * nJ b = nJ (a % b) := by
  have e : a / b * b = b * (a / b) := Nat.mul_comm _ _
  have d := Nat.div_add_mod a b
  rw [j_div ha hb, j_mul, j_nsub (by omega)]
  congr 1
  omega
theorem m_gcd_s (a b : Nat) : Nat.gcd a b = Nat.gcd b (a % b) := by
  rw [Nat.gcd_comm a b, Nat.gcd_rec b a, Nat.gcd_comm]
theorem m_mod2 {b c : Nat} (hc : 0 < c) (h : c < b) : 2 * (b % c) < b := by
  have d := Nat.div_add_mod b c
  have m := Nat.mod_lt b hc
  have q : 1 ≤ b / c := Nat.div_pos (by omega) hc
  have : c * 1 ≤ c * (b / c) := Nat.mul_le_mul_left c q
  omega
theorem r_common : ∀ (k : Nat) {a b f : Nat}, a < 9223372036854775808 → b < 9223372036854775808 → b < 2 ^ k → 2 * k + 1 ≤ f → fX9_common f (nJ a) (nJ b) = some (nJ (Nat.gcd a b))
  | 0, a, b, f, ha, hb, hk, hf => by
    obtain ⟨f, rfl⟩ : ∃ g, f = g + 1 := ⟨f - 1, by omega⟩
    have : b = 0 := by omega
    subst this
    rw [fX9_common]
    simp (disch := omega) only [↓am_lq, j_lq, b_lq, j_eq, if_true, Nat.gcd_zero_right]
  | k + 1, a, b, f, ha, hb, hk, hf => by
    obtain ⟨f, rfl⟩ : ∃ g, f = g + 1 := ⟨f - 1, by omega⟩
    rw [fX9_common]
    by_cases c : b = 0
    · subst c
      simp (disch := omega) only [↓am_lq, j_lq, b_lq, j_eq, if_true, Nat.gcd_zero_right]
    · have m1 := Nat.mod_lt a (show 0 < b by omega)
      have e1 : fX9_common f (nJ b) (nJ (a % b)) = some (nJ (Nat.gcd b (a % b))) := by
        obtain ⟨f, rfl⟩ : ∃ g, f = g + 1 := ⟨f - 1, by omega⟩
        rw [fX9_common]
        by_cases c2 : a % b = 0
        · rw [c2]
          simp (disch := omega) only [↓am_lq, j_lq, b_lq, j_eq, if_true, Nat.gcd_zero_right]
        · have m2 := m_mod2 (show 0 < a % b by omega) m1
          have ih := r_common k (a := a % b) (b := b % (a % b)) (f := f) (by omega) (by omega) (by rw [Nat.pow_succ] at hk; omega) (by omega)
          simp (disch := omega) only [↓am_lq, j_lq, b_lq, j_eq, j_neq, j_mod, am_g_t, c2, if_false, ih, am_rq]
          rw [← m_gcd_s]
      simp (disch := omega) only [↓am_lq, j_lq, b_lq, j_eq, j_neq, j_mod, am_g_t, c, if_false, e1, am_rq]
      rw [← m_gcd_s]
theorem c_common {J : Int64 → Option Int64} : ∀ (k : Nat) {a b c f : Nat}, a < 9223372036854775808 → b < 9223372036854775808 → b < 2 ^ k → 2 * k + 1 + c ≤ 200 → 2 * k + 1 ≤ f → fX8_commonDivisor_L3 J f (nJ a) (nJ b) (nI c) = J (nJ (Nat.gcd a b))
  | 0, a, b, c, f, ha, hb, hk, hc, hf => by
    obtain ⟨f, rfl⟩ : ∃ g, f = g + 1 := ⟨f - 1, by omega⟩
    have : b = 0 := by omega
    subst this
    rw [fX8_commonDivisor_L3]
    simp (disch := omega) only [↓am_lq, j_lq, b_lq, b_le, if_neg, j_eq, if_true, Nat.gcd_zero_right]
  | k + 1, a, b, c, f, ha, hb, hk, hc, hf => by
    obtain ⟨f, rfl⟩ : ∃ g, f = g + 1 := ⟨f - 1, by omega⟩
    rw [fX8_commonDivisor_L3]
    by_cases c0 : b = 0
    · subst c0
      simp (disch := omega) only [↓am_lq, j_lq, b_lq, b_le, if_neg, j_eq, if_true, Nat.gcd_zero_right]
    · have m1 := Nat.mod_lt a (show 0 < b by omega)
      have e1 : fX8_commonDivisor_L3 J f (nJ b) (nJ (a % b)) (nI (c + 1)) = J (nJ (Nat.gcd b (a % b))) := by
        obtain ⟨f, rfl⟩ : ∃ g, f = g + 1 := ⟨f - 1, by omega⟩
        rw [fX8_commonDivisor_L3]
        by_cases c2 : a % b = 0
        · rw [c2]
          simp (disch := omega) only [↓am_lq, j_lq, b_lq, b_le, if_neg, j_eq, if_true, Nat.gcd_zero_right]
        · have m2 := m_mod2 (show 0 < a % b by omega) m1
          have ih := c_common (J := J) k (a := a % b) (b := b % (a % b)) (c := c + 1 + 1) (f := f) (by omega) (by omega) (by rw [Nat.pow_succ] at hk; omega) (by omega) (by omega)
          simp (disch := omega) only [↓am_lq, j_lq, b_lq, b_le, b_add, if_neg, j_eq, j_neq, j_mod, am_g_t, c2, if_false, ih]
          rw [← m_gcd_s]
      simp (disch := omega) only [↓am_lq, j_lq, b_lq, b_le, b_add, if_neg, j_eq, j_neq, j_mod, am_g_t, c0, if_false, e1]
      rw [← m_gcd_s]
theorem r_tens : ∀ (f k : Nat), k ≤ f → f < 100 → fX9_tens (f + 1) (nI k) = some (nJ (10 ^ k))
  | f, 0, _, _ => by
    rw [fX9_tens]
    simp (disch := omega) only [↓am_lq, j_lq, b_lq, if_true, Nat.pow_zero]
  | 0, k + 1, h, _ => by omega
  | f + 1, k + 1, h, h2 => by
    have ih := r_tens f k (by omega) (by omega)
    have e : nI (k + 1) - nI 1 = nI k := by rw [b_sub (by omega), Nat.add_sub_cancel]
    rw [fX9_tens]
    simp (disch := omega) only [↓am_lq, j_lq, b_lq, b_eq, if_neg, if_false, e, ih, am_rq, j_mul]
    rw [Nat.pow_succ, Nat.mul_comm]
theorem c_tens {n : Nat} (hn : n ≤ 10) : fX8_tens (nI n) = some (nJ (10 ^ n)) := by
  unfold fX8_tens
  simp only [b_lq, j_lq]
  refine sp_lq (fun f (x : Int64) i => fX8_tens_L4 (nI n) f x i) n (fun i x => x = nJ (10 ^ i)) (fun r => r = some (nJ (10 ^ n))) (fun f i x hi hx => ?_) (fun f x hx => ?_) (nJ 1) rfl am_fu (am_fu_gt (by omega))
  · left
    refine ⟨_, rfl, ?_⟩
    try dsimp only
    subst hx
    rw [fX8_tens_L4]
    simp (disch := omega) only [↓am_lq, j_lq, b_lq, b_le, b_add, if_neg, j_mul, Nat.pow_succ]
  · try dsimp only
    rw [fX8_tens_L4, hx]
    simp (disch := omega) only [b_le, if_pos]
/-- a fraction in its lowest terms: above, or below -/
def m_pt (h b what : Nat) : Nat := (if what = 0 then h else b) / Nat.gcd h b
theorem m_g_pos {h b : Nat} (hb : 0 < b) : 0 < Nat.gcd h b := Nat.gcd_pos_of_pos_right h hb
theorem c_partOf {h b w : Nat} (hh : h < 8796093022208) (hb0 : 0 < b) (hb : b < 9223372036854775808) (hw : w < 2) : fX8_partOf (nJ h) (nJ b) (nI w) = some (nJ (m_pt h b w)) := by
  have g0 := m_g_pos (h := h) hb0
  have g1 : Nat.gcd h b ≤ b := Nat.gcd_le_right h hb0
  have cd : fX8_commonDivisor (nJ b) (nJ h) = some (nJ (Nat.gcd h b)) := by
    unfold fX8_commonDivisor
    simp only [↓am_lq, b_lq]
    rw [Nat.gcd_comm h b]
    exact c_common 43 (c := 0) hb (by omega) (by omega) (by omega) (Nat.le_of_lt (am_fu_gt (by omega)))
  unfold fX8_partOf m_pt
  rw [cd, am_rq]
  simp (disch := omega) only [↓am_lq, b_lq, j_lq, j_gt, j_nlt, j_neq, am_g_t, j_div, g0, if_true, b_eq]
  by_cases c : w = 0
  · rw [if_pos c, if_pos c]
  · rw [if_neg c, if_neg c]
theorem r_told {h n w : Nat} (hh : h < 8796093022208) (hn : n ≤ 8) (hw : w < 2) : fX9_told (nJ h) (nI n) (nI w) = some (nJ (m_pt h (10 ^ (n + 1)) w)) := by
  have hb0 : 0 < 10 ^ (n + 1) := Nat.pow_pos (by omega)
  have hb1 : 10 ^ (n + 1) ≤ 10 ^ 9 := Nat.pow_le_pow_right (by omega) (by omega)
  have g0 := m_g_pos (h := h) hb0
  have g1 : Nat.gcd h (10 ^ (n + 1)) ≤ 10 ^ (n + 1) := Nat.gcd_le_right h hb0
  have cd := r_common 30 (a := h) (b := 10 ^ (n + 1)) (f := 80) (by omega) (by omega) (by omega) (by omega)
  have te := r_tens 11 (n + 1) (by omega) (by omega)
  unfold fX9_told m_pt
  simp (disch := omega) only [↓am_lq, b_lq, j_lq, b_add, te, am_rq, cd, j_neq, am_g_t, j_div, b_eq]
  by_cases c : w = 0
  · rw [if_pos c, if_pos c]
  · rw [if_neg c, if_neg c]
theorem m_pt_10 {h n w : Nat} : m_pt (10 * h) (10 ^ (n + 1)) w = m_pt h (10 ^ n) w := by
  unfold m_pt
  rw [Nat.pow_succ, Nat.mul_comm (10 ^ n) 10, Nat.gcd_mul_left]
  split
  · exact Nat.mul_div_mul_left _ _ (by omega)
  · exact Nat.mul_div_mul_left _ _ (by omega)
/-- a weight -/
def m_wgt (od set : Nat) : Nat → Nat
  | 0 => 1
  | k + 1 => m_wgt od set k * (if set.testBit k then od else 10 - od)
theorem m_wgt_s (od set k : Nat) : m_wgt od set (k + 1) = m_wgt od set k * (if set.testBit k then od else 10 - od) := Eq.trans rfl rfl
theorem m_wgt_le {od : Nat} (h : od ≤ 10) (set : Nat) : ∀ k, m_wgt od set k ≤ 10 ^ k
  | 0 => Nat.le_refl 1
  | k + 1 => by
    have ih := m_wgt_le h set k
    rw [m_wgt_s, Nat.pow_succ]
    apply Nat.mul_le_mul ih
    split <;> omega
theorem m_wgt_c {od x y : Nat} : ∀ {k : Nat}, (∀ j, j < k → x.testBit j = y.testBit j) → m_wgt od x k = m_wgt od y k
  | 0, _ => rfl
  | k + 1, h => by rw [m_wgt_s, m_wgt_s, m_wgt_c (fun j hj => h j (by omega)), h k (by omega)]
section WG
variable {s : AS} {D : w_D}
theorem c_weightOf {od set n : Nat} (ho : od ≤ 10) (e4 : s.1 25 4 = nI od) (hs : set < 1024) (hn : n ≤ 10) : fX8_weightOf s (nI set) (nI n) = some (nJ (m_wgt od set n)) := by
  unfold fX8_weightOf
  simp only [b_lq, j_lq]
  refine sp_lq (fun f (x : Int64) i => fX8_weightOf_L5 (nI set) (nI n) s f x i) n (fun i x => x = nJ (m_wgt od set i)) (fun r => r = some (nJ (m_wgt od set n))) (fun f i x hi hx => ?_) (fun f x hx => ?_) (nJ 1) rfl am_fu (am_fu_gt (by omega))
  · left
    refine ⟨_, rfl, ?_⟩
    try dsimp only
    subst hx
    rw [fX8_weightOf_L5, m_wgt_s]
    simp (disch := omega) only [↓am_lq, j_lq, b_lq, b_le, b_add, b_sub, if_neg, e4, c_holds, am_rq, m_if0, j_i, j_mul]
    cases set.testBit i <;> rfl
  · try dsimp only
    rw [fX8_weightOf_L5, hx]
    simp (disch := omega) only [b_le, if_pos]
theorem r_weightOf {od set n : Nat} {J : Int64 → Option (AS × Int64)} (ho : od ≤ 10) (e3 : s.1 222 3 = nI od) (hs : set < 1024) (hn : n < 10) : fX9_rains_L23 (nI n) s (nI set) J am_fu (nJ 1) (nI 0) = J (nJ (m_wgt od set (n + 1))) := by
  refine sp_lq (fun f (x : Int64) i => fX9_rains_L23 (nI n) s (nI set) J f x i) (n + 1) (fun i x => x = nJ (m_wgt od set i)) (fun r => r = J (nJ (m_wgt od set (n + 1)))) (fun f i x hi hx => ?_) (fun f x hx => ?_) (nJ 1) rfl am_fu (am_fu_gt (by omega))
  · left
    refine ⟨_, rfl, ?_⟩
    try dsimp only
    subst hx
    rw [fX9_rains_L23, m_wgt_s]
    simp (disch := omega) only [↓am_lq, j_lq, b_lq, b_lt, b_t, am_g_t, b_add, b_sub, if_neg, e3, c_isBit, am_rq, m_if0, j_i, j_mul]
    cases set.testBit i <;> rfl
  · try dsimp only
    rw [fX9_rains_L23, hx]
    simp (disch := omega) only [b_lt, if_pos]
end WG
