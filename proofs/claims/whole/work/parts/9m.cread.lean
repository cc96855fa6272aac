/-! THE TEXT: the class's reader, piece by piece. -/
/-- fault, place, where it reads -/
abbrev a_Z := Nat × Option Nat × Nat
def a_fl (z : a_Z) (c a p : Nat) : a_Z := if z.1 = 0 then (c, some a, p) else (z.1, z.2.1, p)
def a_wd (f : Nat → Int32) (n q : Nat) (z : a_Z) : a_Z := if a_mt f n q (a_eb f n z.2.2) then (z.1, z.2.1, a_eb f n z.2.2 + a_len q) else a_fl z 1 (a_eb f n z.2.2) (a_eb f n z.2.2)
def a_sg (f : Nat → Int32) (n : Nat) (z : a_Z) : a_Z := if a_by f n (a_eb f n z.2.2) = nI 59 then (z.1, z.2.1, a_eb f n z.2.2 + 1) else a_fl z 1 (a_eb f n z.2.2) (a_eb f n z.2.2)
def a_nv (f : Nat → Int32) (n r : Nat) : Nat := min (a_vl f r (a_ed f n r - r)) 1000
def a_nm (f : Nat → Int32) (n lo hi : Nat) (z : a_Z) : a_Z × Nat :=
  if a_dg f n (a_eb f n z.2.2) then (if lo ≤ a_nv f n (a_eb f n z.2.2) ∧ a_nv f n (a_eb f n z.2.2) ≤ hi then ((z.1, z.2.1, a_ed f n (a_eb f n z.2.2)), a_nv f n (a_eb f n z.2.2)) else (a_fl z 2 (a_eb f n z.2.2) (a_ed f n (a_eb f n z.2.2)), lo)) else (a_fl z 1 (a_eb f n z.2.2) (a_eb f n z.2.2), lo)
/-- the class's reader holds z -/
def c_ST (f : Nat → Int32) (n : Nat) (z : a_Z) (s : AS) : Prop := s.1 1 0 = nI z.1 ∧ s.1 1 1 = oI z.2.1 ∧ s.1 1 3 = nI n ∧ s.1 1 4 = nI z.2.2 ∧ z.2.2 ≤ n ∧ (∀ i, s.1 2 i = f i) ∧ z.1 ≤ 3 ∧ ∀ k, z.2.1 = some k → k ≤ 800
abbrev c_f1 (s t : AS) : Prop := fr (fun c => c = 1) s t
section CR
variable {f : Nat → Int32} {n : Nat} {z : a_Z} {s t : AS}
theorem c_ST_p (h : c_ST f n z s) {p : Nat} (hp : p ≤ n) : c_ST f n (z.1, z.2.1, p) (am_si s 1 4 (nI p)) := by
  obtain ⟨h1, h2, h3, h4, h5, h6, h7, h8⟩ := h
  refine ⟨?_, ?_, ?_, ?_, hp, fun i => ?_, h7, h8⟩
  · simp (disch := omega) only [r_si, r_uo, h1]
  · simp (disch := omega) only [r_si, r_uo, h2]
  · simp (disch := omega) only [r_si, r_uo, h3]
  · rw [r_si, r_us]
  · rw [r_so _ _ _ (by omega)]; exact h6 i
theorem c_ST_5 (h : c_ST f n z s) {x : Int32} : c_ST f n z (am_si s 1 5 x) := by
  obtain ⟨h1, h2, h3, h4, h5, h6, h7, h8⟩ := h
  refine ⟨?_, ?_, ?_, ?_, h5, fun i => ?_, h7, h8⟩
  · simp (disch := omega) only [r_si, r_uo, h1]
  · simp (disch := omega) only [r_si, r_uo, h2]
  · simp (disch := omega) only [r_si, r_uo, h3]
  · simp (disch := omega) only [r_si, r_uo, h4]
  · rw [r_so _ _ _ (by omega)]; exact h6 i
theorem c_byte (hn : n ≤ 800) (h : c_ST f n z s) {i : Nat} (hi : i < 100000) : fX4_byteAt s 1 (nI i) = some (a_by f n i) := by
  obtain ⟨h1, h2, h3, h4, h5, h6, h7, h8⟩ := h
  unfold fX4_byteAt a_by
  by_cases c : i < n
  · rw [if_pos c]
    simp (disch := omega) only [↓am_lq, b_lq, b_oq, oI_q, h3, b_lt, b_le, b_t, am_g_t, if_neg, h6]
  · rw [if_neg c]
    simp (disch := omega) only [↓am_lq, b_lq, b_oq, oI_q, h3, b_lt, b_le, b_t, if_neg, if_pos]
theorem c_isLe (hn : n ≤ 800) (h : c_ST f n z s) {i : Nat} (hi : i < 100000) : fX4_isLetter s 1 (nI i) = some (nI (a_le f n i).toNat) := by
  unfold fX4_isLetter
  rw [c_byte hn h hi, am_rq]
  simp only [↓am_lq, b_lq, am_rq]
  unfold a_by a_le
  by_cases c : i < n
  · rw [if_pos c, decide_eq_true c, Bool.true_and]
    by_cases c1 : f i < nI 97
    · rw [if_pos c1, decide_eq_false (Int32.not_le.mpr c1)]
      first | exact am_g_t (.inl rfl) | exact am_g_t (.inl trivial)
    · rw [if_neg c1, decide_eq_true (Int32.not_lt.mp c1), Bool.true_and]
      by_cases c2 : nI 122 < f i
      · rw [if_pos c2, decide_eq_false (Int32.not_le.mpr c2)]
        first | exact am_g_t (.inl rfl) | exact am_g_t (.inl trivial)
      · rw [if_neg c2, decide_eq_true (Int32.not_lt.mp c2)]
        first | exact am_g_t (.inr rfl) | exact am_g_t (.inr trivial)
  · rw [if_neg c, decide_eq_false c, Bool.false_and, if_pos (by rw [b_nlt (by omega)]; trivial)]
    first | exact am_g_t (.inl rfl) | exact am_g_t (.inl trivial)
theorem c_isDg (hn : n ≤ 800) (h : c_ST f n z s) {i : Nat} (hi : i < 100000) : fX4_isDigit s 1 (nI i) = some (nI (a_dg f n i).toNat) := by
  unfold fX4_isDigit
  rw [c_byte hn h hi, am_rq]
  simp only [↓am_lq, b_lq, am_rq]
  unfold a_by a_dg
  by_cases c : i < n
  · rw [if_pos c, decide_eq_true c, Bool.true_and]
    by_cases c1 : f i < nI 48
    · rw [if_pos c1, decide_eq_false (Int32.not_le.mpr c1)]
      first | exact am_g_t (.inl rfl) | exact am_g_t (.inl trivial)
    · rw [if_neg c1, decide_eq_true (Int32.not_lt.mp c1), Bool.true_and]
      by_cases c2 : nI 57 < f i
      · rw [if_pos c2, decide_eq_false (Int32.not_le.mpr c2)]
        first | exact am_g_t (.inl rfl) | exact am_g_t (.inl trivial)
      · rw [if_neg c2, decide_eq_true (Int32.not_lt.mp c2)]
        first | exact am_g_t (.inr rfl) | exact am_g_t (.inr trivial)
  · rw [if_neg c, decide_eq_false c, Bool.false_and, if_pos (by rw [b_nlt (by omega)]; trivial)]
    first | exact am_g_t (.inl rfl) | exact am_g_t (.inl trivial)
theorem c_skip (hn : n ≤ 800) (h : c_ST f n z s) : ∃ t, fX4_skipBlanks s 1 = some (t, ()) ∧ c_ST f n (z.1, z.2.1, a_eb f n z.2.2) t ∧ c_f1 s t := by
  obtain ⟨e1, e2, e3, e4⟩ := a_eb_p (f := f) hn z.2.2
  have h4 := h.2.2.2.1
  have h5 := h.2.2.2.2.1
  have e2 := e2 h5
  unfold fX4_skipBlanks
  rw [h4]
  simp only [↓am_lq]
  refine sp_g (fun g (x : AS × Int32) => fX4_skipBlanks_L5 1 (fun s2 => some (s2, ())) g x.1 x.2) z.2.2 (a_eb f n z.2.2) (fun i x => c_ST f n (z.1, z.2.1, i) x.1 ∧ c_f1 s x.1 ∧ x.2 = nI i) (fun r => ∃ t, r = some (t, ()) ∧ c_ST f n (z.1, z.2.1, a_eb f n z.2.2) t ∧ c_f1 s t) (fun g i x h1 h2 hx => ?_) (fun g x hx => ?_) e1 (s, nI z.2.2) ⟨h, fr_refl _ s, rfl⟩ am_fu (by have := am_fu_gt (n := 1000) (by omega); omega)
  · obtain ⟨u, x⟩ := x
    obtain ⟨k1, k2, k3⟩ := hx
    dsimp only at k1 k2 k3 ⊢
    subst k3
    have hb := e4 i h1 h2
    have hin := a_bk_n hb
    refine ⟨(am_si u 1 4 (nI (i + 1)), nI (i + 1)), ⟨c_ST_p k1 (by omega), fr_si k2 _ _ rfl, rfl⟩, ?_⟩
    have kn : u.1 1 3 = nI n := k1.2.2.1
    have kb := c_byte hn k1 (show i < 100000 by omega)
    unfold a_by at kb
    rw [if_pos hin] at kb
    unfold a_bk at hb
    rw [Bool.and_eq_true, Bool.or_eq_true] at hb
    rw [fX4_skipBlanks_L5]
    simp (disch := omega) only [↓am_lq, b_lq, kn, b_le, kb, am_rq, b_add, if_neg]
    by_cases c : f i = nI 32
    · rw [if_pos c]
    · rcases hb.2 with d | d
      · exact absurd (of_decide_eq_true d) c
      · rw [if_neg c, if_pos (of_decide_eq_true d)]
  · obtain ⟨u, x⟩ := x
    obtain ⟨k1, k2, k3⟩ := hx
    dsimp only at k1 k2 k3 ⊢
    subst k3
    refine ⟨u, ?_, k1, k2⟩
    have kn : u.1 1 3 = nI n := k1.2.2.1
    generalize a_eb f n z.2.2 = e at *
    have kb := c_byte hn k1 (show e < 100000 by omega)
    rw [fX4_skipBlanks_L5]
    by_cases c : n ≤ e
    · simp (disch := omega) only [kn, b_le, if_pos]
    · unfold a_by at kb
      rw [if_pos (by omega)] at kb
      unfold a_bk at e3
      rw [decide_eq_true (show e < n by omega), Bool.true_and, Bool.or_eq_false_iff] at e3
      have d1 := of_decide_eq_false e3.1
      have d2 := of_decide_eq_false e3.2
      simp (disch := omega) only [↓am_lq, b_lq, kn, b_le, kb, am_rq, if_neg]
      first | done | rw [if_neg d1, if_neg d2]
theorem c_fail (h : c_ST f n z s) {c a : Nat} (hc : c ≤ 3) (ha : a ≤ 800) : ∃ t, fX4_fail s 1 (nI c) (nI a) = some (t, ()) ∧ c_ST f n (a_fl z c a z.2.2) t ∧ c_f1 s t := by
  have h' := h
  obtain ⟨h1, h2, h3, h4, h5, h6, h7, h8⟩ := h'
  unfold fX4_fail a_fl
  by_cases k : z.1 = 0
  · refine ⟨am_si (am_si s 1 0 (nI c)) 1 1 (nI a), ?_, ?_, fr_si (R := fun c => c = 1) (fr_si (R := fun c => c = 1) (fr_refl _ s) _ _ rfl) _ _ rfl⟩
    · simp (disch := omega) only [↓am_lq, b_lq, h1, b_eq, if_pos]
    · rw [if_pos k]
      refine ⟨?_, ?_, ?_, ?_, h5, fun i => ?_, hc, fun j hj => by injection hj with hj; omega⟩
      · simp (disch := omega) only [r_si, r_us, r_uo]
      · simp (disch := omega) only [r_si, r_us]; rfl
      · simp (disch := omega) only [r_si, r_uo, h3]
      · simp (disch := omega) only [r_si, r_uo, h4]
      · rw [r_so _ _ _ (by omega), r_so _ _ _ (by omega)]; exact h6 i
  · refine ⟨s, ?_, ?_, fr_refl _ s⟩
    · simp (disch := omega) only [↓am_lq, b_lq, h1, b_eq, if_neg]
    · rw [if_neg k]; exact h
theorem c_isWord (hn : n ≤ 800) (h : c_ST f n z s) {q : Nat} (hq : q < 16) : fX4_isWord s 1 q = some (nI (a_mt f n q z.2.2).toNat) := by
  have hp := h.2.2.2.2.1
  have h4 := h.2.2.2.1
  have hl := (a_len_d q hq).2
  have ls := a_len_s hq s
  unfold fX4_isWord
  simp only [↓am_lq, b_lq]
  have key := sp_lq (fun g (_ : Unit) i => fX4_isWord_L2 1 q s (am_r (fJ0_length_8abf5 s q) (fun (v1 : Int32) => am_r (fX4_isLetter s 1 ((s.1 1 4) + v1)) (fun (v2 : Int32) => if v2 = nI 0 then am_g (nI 1 = nI 0 ∨ nI 1 = nI 1) (some (nI 1)) else am_g (nI 0 = nI 0 ∨ nI 0 = nI 1) (some (nI 0))))) g i) (a_len q) (fun i _ => ∀ j, j < i → a_by f n (z.2.2 + j) = nI (a_ch q j)) (fun r => r = some (nI (a_mt f n q z.2.2).toNat)) (fun g i x hi hx => by
    have hb := c_byte hn h (show z.2.2 + i < 100000 by omega)
    have hc := a_ch_s hq hi s
    try dsimp only
    rw [fX4_isWord_L2, ls, am_rq, h4]
    simp (disch := omega) only [↓am_lq, b_lq, b_le, b_add, if_neg, hb, hc, am_rq]
    by_cases c : a_by f n (z.2.2 + i) = nI (a_ch q i)
    · left
      refine ⟨(), fun j hj => ?_, by rw [if_pos c]⟩
      by_cases e : j = i
      · rw [e]; exact c
      · exact hx j (by omega)
    · right
      rw [if_neg c]
      have : a_mt f n q z.2.2 = false := by
        unfold a_mt
        rw [m_al_f hi (decide_eq_false c)]; rfl
      rw [this]; rfl) (fun g x hx => by
    have hb := c_isLe hn h (show z.2.2 + a_len q < 100000 by omega)
    try dsimp only
    rw [fX4_isWord_L2, ls, am_rq, am_rq, h4]
    simp (disch := omega) only [↓am_lq, b_lq, b_le, b_add, if_pos, hb, am_rq, m_if0]
    unfold a_mt
    rw [m_al_t.mpr (fun i hi => decide_eq_true (hx i hi)), Bool.true_and]
    cases a_le f n (z.2.2 + a_len q) <;> rfl) () (fun j hj => by omega) am_fu (am_fu_gt (by omega))
  exact key
end CR
