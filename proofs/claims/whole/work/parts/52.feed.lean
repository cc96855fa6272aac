/-! PURE: feed. -/
/-- s1 is s but for the class's tape and its length -/
def p_fr8 (s s1 : AS) : Prop := s1.2 = s.2 ∧ ∀ c d, (c ≠ 2 ∧ ¬ (c = 0 ∧ d = 1)) → s1.1 c d = s.1 c d
/-- s1 is s but for the reference's tape, its length, its own two first words -/
def p_fr9 (s s1 : AS) : Prop := s1.2 = s.2 ∧ ∀ c d, (c ≠ 220 ∧ ¬ (c = 215 ∧ (d = 6 ∨ d = 0))) → s1.1 c d = s.1 c d
theorem p_fr8_t {s s1 s2 : AS} (h : p_fr8 s s1) (k : p_fr8 s1 s2) : p_fr8 s s2 := ⟨k.1.trans h.1, fun c d q => (k.2 c d q).trans (h.2 c d q)⟩
theorem p_fr9_t {s s1 s2 : AS} (h : p_fr9 s s1) (k : p_fr9 s1 s2) : p_fr9 s s2 := ⟨k.1.trans h.1, fun c d q => (k.2 c d q).trans (h.2 c d q)⟩
/-- the class's tape holds T up to k -/
def p_CT (k : Nat) (T : Nat → Int32) (s : AS) : Prop := s.1 0 1 = nI k ∧ ∀ i, s.1 2 i = T i
def p_RT (k : Nat) (T : Nat → Int32) (s : AS) : Prop := s.1 215 6 = nI k ∧ ∀ i, s.1 220 i = T i
def p_b (a x : Int32) : Int32 := vp_nar .byte ((a >>> (x &&& 31)).toInt8.toInt32)
def p_T1 (a x : Int32) (k : Nat) (T : Nat → Int32) : Nat → Int32 := fun i => if i = k then p_b a x else T i
def p_T4 (a : Int32) (k : Nat) (T : Nat → Int32) : Nat → Int32 := p_T1 a 0 (k + 3) (p_T1 a 8 (k + 2) (p_T1 a 16 (k + 1) (p_T1 a 24 k T)))
theorem p_nI_t {k : Nat} (hk : k < 100000) : (nI k).toNatClampNeg = k := by
  have e : (nI k).toInt = k := by
    simp only [nI]
    exact Int32.toInt_ofNat_of_lt (by omega)
  show (nI k).toInt.toNat = k
  omega
theorem p_o8_T {a x : Int32} {k : Nat} {T : Nat → Int32} {s : AS} (hk : k < 800) (h : p_CT k T s) : p_CT (k + 1) (p_T1 a x k T) (p_o8 a x s) ∧ p_fr8 s (p_o8 a x s) := by
  refine ⟨⟨(p_o8_u a x s).trans (p_inc (by omega) h.1), fun i => ?_⟩, rfl, fun c d q => ?_⟩
  · unfold p_o8 p_T1
    rw [am_si_1, if_neg (by decide), am_si_1, if_pos rfl, h.1, p_nI_t (by omega), h.2]
    rfl
  · unfold p_o8
    rw [am_si_1]
    by_cases c0 : c = 0
    · rw [if_pos c0, if_neg (fun e => q.2 ⟨c0, e⟩), am_si_1, if_neg (by omega), c0]
    · rw [if_neg c0, am_si_1, if_neg q.1]
theorem p_o9_T {a x : Int32} {k : Nat} {T : Nat → Int32} {s : AS} (hk : k < 800) (h : p_RT k T s) : p_RT (k + 1) (p_T1 a x k T) (p_o9 a x s) ∧ p_fr9 s (p_o9 a x s) := by
  refine ⟨⟨(p_o9_u a x s).trans (p_inc (by omega) h.1), fun i => ?_⟩, rfl, fun c d q => ?_⟩
  · unfold p_o9 p_T1
    rw [am_si_1, if_neg (by decide), am_si_1, if_pos rfl, h.1, p_nI_t (by omega), h.2]
    rfl
  · unfold p_o9
    rw [am_si_1]
    by_cases c0 : c = 215
    · rw [if_pos c0, if_neg (fun e => q.2 ⟨c0, .inl e⟩), am_si_1, if_neg (by omega), c0]
    · rw [if_neg c0, am_si_1, if_neg q.1]
theorem p_f8_T {a : Int32} {k : Nat} {T : Nat → Int32} {s : AS} (hk : k + 4 ≤ 800) (h : p_CT k T s) : p_CT (k + 4) (p_T4 a k T) (p_f8 a s) ∧ p_fr8 s (p_f8 a s) := by
  have h1 := p_o8_T (a := a) (x := 24) (by omega) h
  have h2 := p_o8_T (a := a) (x := 16) (by omega) h1.1
  have h3 := p_o8_T (a := a) (x := 8) (by omega) h2.1
  have h4 := p_o8_T (a := a) (x := 0) (by omega) h3.1
  exact ⟨h4.1, p_fr8_t h1.2 (p_fr8_t h2.2 (p_fr8_t h3.2 h4.2))⟩
theorem p_f9_T {a : Int32} {k : Nat} {T : Nat → Int32} {s : AS} (hk : k + 4 ≤ 800) (h : p_RT k T s) : p_RT (k + 4) (p_T4 a k T) (p_f9 a s) ∧ p_fr9 s (p_f9 a s) := by
  have h1 := p_o9_T (a := a) (x := 24) (by omega) h
  have h2 := p_o9_T (a := a) (x := 16) (by omega) h1.1
  have h3 := p_o9_T (a := a) (x := 8) (by omega) h2.1
  have h4 := p_o9_T (a := a) (x := 0) (by omega) h3.1
  exact ⟨h4.1, p_fr9_t h1.2 (p_fr9_t h2.2 (p_fr9_t h3.2 h4.2))⟩
def p_T20 (a b c d e : Int32) (k : Nat) (T : Nat → Int32) : Nat → Int32 := p_T4 e (k + 16) (p_T4 d (k + 12) (p_T4 c (k + 8) (p_T4 b (k + 4) (p_T4 a k T))))
theorem p_le_nI {k m : Nat} (hk : k < 100000) (hm : m < 100000) : (nI k ≤ nI m) ↔ k ≤ m := by
  have e : ∀ j : Nat, j < 100000 → (nI j).toInt = j := fun j hj => by
    simp only [nI]
    exact Int32.toInt_ofNat_of_lt (by omega)
  rw [Int32.le_iff_toInt_le, e k hk, e m hm]
  omega
theorem p_feed8 (s : AS) (a b c d e : Int32) (k : Nat) (T : Nat → Int32) (hk : k ≤ 800) (h : p_CT k T s) : (k ≤ 780 → ∃ s1, fX8_feed s a b c d e = some (s1, nI (k + 20)) ∧ p_CT (k + 20) (p_T20 a b c d e k T) s1 ∧ p_fr8 s s1) ∧ (780 < k → fX8_feed s a b c d e = some (s, -1)) := by
  constructor
  · intro hk'
    have h1 := p_f8_T (a := a) (by omega) h
    have h2 := p_f8_T (a := b) (by omega) h1.1
    have h3 := p_f8_T (a := c) (by omega) h2.1
    have h4 := p_f8_T (a := d) (by omega) h3.1
    have h5 := p_f8_T (a := e) (by omega) h4.1
    refine ⟨_, ?_, h5.1, p_fr8_t h1.2 (p_fr8_t h2.2 (p_fr8_t h3.2 (p_fr8_t h4.2 h5.2)))⟩
    unfold fX8_feed
    rw [if_pos (by rw [h.1]; exact (p_le_nI (m := 780) (by omega) (by omega)).mpr hk')]
    rw [(p_four8 a _ _ (by omega) h.1).1, am_c_s, (p_four8 b _ _ (by omega) h1.1.1).1, am_c_s, (p_four8 c _ _ (by omega) h2.1.1).1, am_c_s, (p_four8 d _ _ (by omega) h3.1.1).1, am_c_s, (p_four8 e _ _ (by omega) h4.1.1).1, am_c_s, h5.1.1]
  · intro hk'
    unfold fX8_feed
    rw [if_neg (by rw [h.1]; exact fun q => absurd ((p_le_nI (m := 780) (by omega) (by omega)).mp q) (by omega))]
theorem p_feed9 (s : AS) (a b c d e : Int32) (k : Nat) (T : Nat → Int32) (hk : k ≤ 800) (h : p_RT k T s) : (k ≤ 780 → ∃ s1, fX9_feed s a b c d e = some (s1, nI (k + 20)) ∧ p_RT (k + 20) (p_T20 a b c d e k T) s1 ∧ p_fr9 s s1) ∧ (780 < k → fX9_feed s a b c d e = some (am_si s 215 0 0, -1)) := by
  have h0 : p_RT k T (am_si s 215 0 0) := ⟨by rw [am_si_1, if_pos rfl, if_neg (by decide)]; exact h.1, fun i => by rw [am_si_1, if_neg (by decide)]; exact h.2 i⟩
  have f0 : p_fr9 s (am_si s 215 0 0) := ⟨rfl, fun c d q => by
    rw [am_si_1]
    by_cases c0 : c = 215
    · rw [if_pos c0, if_neg (fun e => q.2 ⟨c0, .inr e⟩), c0]
    · rw [if_neg c0]⟩
  have hadd : nI k + 20 = nI (k + 20) := by simp [nI, Int32.ofNat_add]
  constructor
  · intro hk'
    have h1 := p_f9_T (a := a) (by omega) h0
    have h2 := p_f9_T (a := b) (by omega) h1.1
    have h3 := p_f9_T (a := c) (by omega) h2.1
    have h4 := p_f9_T (a := d) (by omega) h3.1
    have h5 := p_f9_T (a := e) (by omega) h4.1
    refine ⟨_, ?_, h5.1, p_fr9_t f0 (p_fr9_t h1.2 (p_fr9_t h2.2 (p_fr9_t h3.2 (p_fr9_t h4.2 h5.2))))⟩
    unfold fX9_feed
    simp only [am_let_eq]
    rw [if_pos (by rw [h0.1, hadd]; exact (p_le_nI (m := 800) (by omega) (by omega)).mpr (by omega))]
    rw [(p_four9 a _ _ (by omega) h0.1).1, am_c_s, (p_four9 b _ _ (by omega) h1.1.1).1, am_c_s, (p_four9 c _ _ (by omega) h2.1.1).1, am_c_s, (p_four9 d _ _ (by omega) h3.1.1).1, am_c_s, (p_four9 e _ _ (by omega) h4.1.1).1, am_c_s, h5.1.1]
  · intro hk'
    unfold fX9_feed
    simp only [am_let_eq]
    rw [if_neg (by rw [h0.1, hadd]; exact fun q => absurd ((p_le_nI (m := 800) (by omega) (by omega)).mp q) (by omega))]
