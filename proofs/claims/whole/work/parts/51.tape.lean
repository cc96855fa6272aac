/-! PURE: the tape. -/
/-- one sign is put (the class) -/
def p_o8 (a x : Int32) (s : AS) : AS := am_si (am_si s 2 (s.1 0 1).toNatClampNeg (vp_nar .byte ((a >>> (x &&& 31)).toInt8.toInt32))) 0 1 (s.1 0 1 + 1)
/-- one sign is put (the reference) -/
def p_o9 (a x : Int32) (s : AS) : AS := am_si (am_si s 220 (s.1 215 6).toNatClampNeg (vp_nar .byte ((a >>> (x &&& 31)).toInt8.toInt32))) 215 6 (s.1 215 6 + 1)
theorem p_lt800 {u : Int32} (h0 : 0 ≤ u) (h1 : u < 800) : ¬ (u < 0 ∨ 800 ≤ u.toNatClampNeg) := by
  have a := Int32.le_iff_toInt_le.mp h0
  have b := Int32.lt_iff_toInt_lt.mp h1
  have a' : (0 : Int) ≤ u.toInt := a
  have b' : u.toInt < 800 := b
  intro h
  rcases h with h | h
  · exact absurd h (Int32.not_lt.mpr h0)
  · have : u.toNatClampNeg = u.toInt.toNat := rfl
    omega
theorem p_s8 (a x : Int32) (s : AS) (n : Nat) (hx : 0 ≤ x) (h0 : 0 ≤ s.1 0 1) (h1 : s.1 0 1 < 800) : fX8_putFour_L3 a (n + 1) s x = fX8_putFour_L3 a n (p_o8 a x s) (x + -8) := by
  rw [fX8_putFour_L3]
  simp only [am_let_eq]
  rw [if_neg (Int32.not_lt.mpr hx), if_neg (Int32.not_le.mpr h1), am_g_t (p_lt800 h0 h1)]
  rfl
theorem p_s9 (a x : Int32) (s : AS) (n : Nat) (hx : 0 ≤ x) (h0 : 0 ≤ s.1 215 6) (h1 : s.1 215 6 < 800) : fX9_four_L3 a (n + 1) s x = fX9_four_L3 a n (p_o9 a x s) (x + -8) := by
  rw [fX9_four_L3]
  simp only [am_let_eq]
  rw [if_neg (Int32.not_lt.mpr hx), am_g_t (p_lt800 h0 h1)]
  rfl
theorem p_o8_u (a x : Int32) (s : AS) : (p_o8 a x s).1 0 1 = s.1 0 1 + 1 := by
  unfold p_o8
  rw [am_si_1]
  rfl
theorem p_o9_u (a x : Int32) (s : AS) : (p_o9 a x s).1 215 6 = s.1 215 6 + 1 := by
  unfold p_o9
  rw [am_si_1]
  rfl
theorem p_inc {u : Int32} {k : Nat} (hk : k < 100000) (h : u = nI k) : u + 1 = nI (k + 1) := by
  subst h
  simp [nI, Int32.ofNat_add]
theorem p_rng {u : Int32} {k : Nat} (hk : k < 800) (h : u = nI k) : 0 ≤ u ∧ u < 800 := by
  subst h
  have e : (nI k).toInt = k := by
    simp only [nI]
    exact Int32.toInt_ofNat_of_lt (by omega)
  constructor
  · rw [Int32.le_iff_toInt_le, e]
    exact Int.natCast_nonneg k
  · rw [Int32.lt_iff_toInt_lt, e]
    show (k : Int) < 800
    omega
def p_f8 (a : Int32) (s : AS) : AS := p_o8 a 0 (p_o8 a 8 (p_o8 a 16 (p_o8 a 24 s)))
def p_f9 (a : Int32) (s : AS) : AS := p_o9 a 0 (p_o9 a 8 (p_o9 a 16 (p_o9 a 24 s)))
theorem p_four8 (a : Int32) (s : AS) (k : Nat) (hk : k + 4 ≤ 800) (h : s.1 0 1 = nI k) : fX8_putFour s a = some (p_f8 a s, ()) ∧ (p_f8 a s).1 0 1 = nI (k + 4) := by
  have u0 := p_rng (by omega) h
  have h1 := (p_o8_u a 24 s).trans (p_inc (by omega) h)
  have u1 := p_rng (by omega) h1
  have h2 := (p_o8_u a 16 _).trans (p_inc (by omega) h1)
  have u2 := p_rng (by omega) h2
  have h3 := (p_o8_u a 8 _).trans (p_inc (by omega) h2)
  have u3 := p_rng (by omega) h3
  have h4 := (p_o8_u a 0 _).trans (p_inc (by omega) h3)
  refine ⟨?_, h4⟩
  show fX8_putFour_L3 a (999995 + 1 + 1 + 1 + 1 + 1) s 24 = _
  rw [p_s8 a 24 s _ (by decide) u0.1 u0.2]
  rw [show (24 : Int32) + -8 = 16 by decide, p_s8 a 16 _ _ (by decide) u1.1 u1.2]
  rw [show (16 : Int32) + -8 = 8 by decide, p_s8 a 8 _ _ (by decide) u2.1 u2.2]
  rw [show (8 : Int32) + -8 = 0 by decide, p_s8 a 0 _ _ (by decide) u3.1 u3.2]
  rw [show (0 : Int32) + -8 = -8 by decide, fX8_putFour_L3, if_pos (by decide)]
  rfl
theorem p_four9 (a : Int32) (s : AS) (k : Nat) (hk : k + 4 ≤ 800) (h : s.1 215 6 = nI k) : fX9_four s a = some (p_f9 a s, ()) ∧ (p_f9 a s).1 215 6 = nI (k + 4) := by
  have u0 := p_rng (by omega) h
  have h1 := (p_o9_u a 24 s).trans (p_inc (by omega) h)
  have u1 := p_rng (by omega) h1
  have h2 := (p_o9_u a 16 _).trans (p_inc (by omega) h1)
  have u2 := p_rng (by omega) h2
  have h3 := (p_o9_u a 8 _).trans (p_inc (by omega) h2)
  have u3 := p_rng (by omega) h3
  have h4 := (p_o9_u a 0 _).trans (p_inc (by omega) h3)
  refine ⟨?_, h4⟩
  show fX9_four_L3 a (999995 + 1 + 1 + 1 + 1 + 1) s 24 = _
  rw [p_s9 a 24 s _ (by decide) u0.1 u0.2]
  rw [show (24 : Int32) + -8 = 16 by decide, p_s9 a 16 _ _ (by decide) u1.1 u1.2]
  rw [show (16 : Int32) + -8 = 8 by decide, p_s9 a 8 _ _ (by decide) u2.1 u2.2]
  rw [show (8 : Int32) + -8 = 0 by decide, p_s9 a 0 _ _ (by decide) u3.1 u3.2]
  rw [show (0 : Int32) + -8 = -8 by decide, fX9_four_L3, if_pos (by decide)]
  rfl
