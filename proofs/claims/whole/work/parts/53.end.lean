/-! PURE: end. -/
theorem p_le64 (a n : Int32) : (0 ≤ a.toInt64 ∧ a.toInt64 ≤ n.toInt64) ↔ (0 ≤ a ∧ a ≤ n) := by
  rw [Int64.le_iff_toInt_le, Int64.le_iff_toInt_le, Int32.toInt_toInt64, Int32.toInt_toInt64, Int32.le_iff_toInt_le, Int32.le_iff_toInt_le]
  rfl
theorem p_CT_at {k j : Nat} {T : Nat → Int32} {s : AS} (h : p_CT k T s) : p_CT j T (am_si s 0 1 (nI j)) ∧ p_fr8 s (am_si s 0 1 (nI j)) := by
  refine ⟨⟨by rw [am_si_1, if_pos rfl, if_pos rfl], fun i => by rw [am_si_1, if_neg (by decide)]; exact h.2 i⟩, rfl, fun c d q => ?_⟩
  rw [am_si_1]
  by_cases c0 : c = 0
  · rw [if_pos c0, if_neg (fun e => q.2 ⟨c0, e⟩), c0]
  · rw [if_neg c0]
theorem p_RT_0 {k : Nat} {T : Nat → Int32} {s : AS} (h : p_RT k T s) : p_RT k T (am_si s 215 0 0) ∧ p_fr9 s (am_si s 215 0 0) := by
  refine ⟨⟨by rw [am_si_1, if_pos rfl, if_neg (by decide)]; exact h.1, fun i => by rw [am_si_1, if_neg (by decide)]; exact h.2 i⟩, rfl, fun c d q => ?_⟩
  rw [am_si_1]
  by_cases c0 : c = 215
  · rw [if_pos c0, if_neg (fun e => q.2 ⟨c0, .inr e⟩), c0]
  · rw [if_neg c0]
theorem p_RT_at {k j : Nat} {T : Nat → Int32} {s : AS} (h : p_RT k T s) : p_RT j T (am_si s 215 6 (nI j)) ∧ p_fr9 s (am_si s 215 6 (nI j)) := by
  refine ⟨⟨by rw [am_si_1, if_pos rfl, if_pos rfl], fun i => by rw [am_si_1, if_neg (by decide)]; exact h.2 i⟩, rfl, fun c d q => ?_⟩
  rw [am_si_1]
  by_cases c0 : c = 215
  · rw [if_pos c0, if_neg (fun e => q.2 ⟨c0, .inl e⟩), c0]
  · rw [if_neg c0]
/-- a number from 0 to k -/
theorem p_in_k {a : Int32} {k : Nat} (hk : k ≤ 800) (h : 0 ≤ a ∧ a ≤ nI k) : ∃ j : Nat, j ≤ k ∧ a = nI j := by
  have e : (nI k).toInt = k := by
    simp only [nI]
    exact Int32.toInt_ofNat_of_lt (by omega)
  have h0 : 0 ≤ a.toInt := Int32.le_iff_toInt_le.mp h.1
  have h1 : a.toInt ≤ k := e ▸ Int32.le_iff_toInt_le.mp h.2
  refine ⟨a.toInt.toNat, by omega, ?_⟩
  apply Int32.toInt_inj.mp
  have e2 : (nI a.toInt.toNat).toInt = (a.toInt.toNat : Int) := by
    simp only [nI]
    exact Int32.toInt_ofNat_of_lt (by omega)
  rw [e2]
  omega
theorem p_end8 (s : AS) (a : Int32) (k : Nat) (T : Nat → Int32) (hk : k ≤ 800) (h : p_CT k T s) : (∀ j, j ≤ k → a = nI j → ∃ s1, fX8_end s a = some (s1, a) ∧ p_CT j T s1 ∧ p_fr8 s s1) ∧ (¬ (0 ≤ a ∧ a ≤ nI k) → fX8_end s a = some (s, -1)) := by
  constructor
  · intro j hj e
    have e' : (nI j).toInt = j := by
      simp only [nI]
      exact Int32.toInt_ofNat_of_lt (by omega)
    subst e
    refine ⟨_, ?_, p_CT_at h⟩
    unfold fX8_end
    simp only [am_let_eq]
    rw [if_neg (Int32.not_lt.mpr (Int32.le_iff_toInt_le.mpr (by rw [e']; exact Int.natCast_nonneg j))), if_pos (by rw [h.1]; exact (p_le_nI (by omega) (by omega)).mpr hj)]
  · intro q
    unfold fX8_end
    simp only [am_let_eq]
    by_cases c : a < 0
    · rw [if_pos c]
    · rw [if_neg c, if_neg (by rw [h.1]; exact fun z => q ⟨Int32.not_lt.mp c, z⟩)]
theorem p_end9 (s : AS) (a : Int32) (k : Nat) (T : Nat → Int32) (hk : k ≤ 800) (h : p_RT k T s) : (∀ j, j ≤ k → a = nI j → ∃ s1, fX9_end s a = some (s1, a) ∧ p_RT j T s1 ∧ p_fr9 s s1) ∧ (¬ (0 ≤ a ∧ a ≤ nI k) → fX9_end s a = some (am_si s 215 0 0, -1)) := by
  have h0 := p_RT_0 h
  constructor
  · intro j hj e
    have e' : (nI j).toInt = j := by
      simp only [nI]
      exact Int32.toInt_ofNat_of_lt (by omega)
    subst e
    refine ⟨_, ?_, (p_RT_at h0.1).1, p_fr9_t h0.2 (p_RT_at h0.1).2⟩
    unfold fX9_end
    simp only [am_let_eq]
    rw [p_in, am_r_s, h0.1.1, if_pos ((p_le64 _ _).mpr ⟨Int32.le_iff_toInt_le.mpr (by rw [e']; exact Int.natCast_nonneg j), (p_le_nI (by omega) (by omega)).mpr hj⟩), if_neg (by decide)]
  · intro q
    unfold fX9_end
    simp only [am_let_eq]
    rw [p_in, am_r_s, h0.1.1, if_neg (fun z => q ((p_le64 _ _).mp z)), if_pos rfl]
