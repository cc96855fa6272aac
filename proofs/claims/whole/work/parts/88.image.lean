/-! IMAGES: image, back. -/
section IM
variable {M : m_M} {s t : AS} {P : m_P} {D : w_D}
theorem va_cpy0 {f g : Nat → Int32} {n k : Nat} (hk : k < n) : va_cpy f g 0 0 n k = f k := by
  unfold va_cpy
  rw [if_pos (by omega)]
  congr 1
  omega
/-- a plan is taken over -/
theorem c_take {o1 o0 : Nat} (hD : w_V D) (ho : o1 + 22 ≤ o0 ∨ o0 + 22 ≤ o1) (s : AS) (hP : c_PL o1 D s) : ∃ t, fX3_take s o0 o1 = some (t, ()) ∧ c_PL o0 D t ∧ fr (fun c => o0 ≤ c ∧ c < o0 + 22) s t := by
  obtain ⟨d0, d4, d5, -⟩ := id hD
  obtain ⟨p1, p2, p3, p4, p5⟩ := hP
  have h1 : s.1 o1 1 = nI (D.1 0) := p1 0 (by omega)
  have h2 : s.1 o1 2 = nI (D.1 1) := p1 1 (by omega)
  have h3 : s.1 o1 3 = nI (D.1 2) := p1 2 (by omega)
  have h4 : s.1 o1 4 = nI (D.1 3) := p1 3 (by omega)
  have h5 : s.1 o1 5 = nI (D.1 4) := p1 4 (by omega)
  have h6 : s.1 o1 6 = nI (D.1 5) := p1 5 (by omega)
  have F0 : fr (fun c => o0 ≤ c ∧ c < o0 + 22) s (am_si (am_si (am_si (am_si (am_si (am_si (am_si s o0 0 (nI (D.1 6))) o0 1 (nI (D.1 0))) o0 2 (nI (D.1 1))) o0 3 (nI (D.1 2))) o0 4 (nI (D.1 3))) o0 5 (nI (D.1 4))) o0 6 (nI (D.1 5))) := fr_si (fr_si (fr_si (fr_si (fr_si (fr_si (fr_si (fr_refl _ _) _ _ (by omega)) _ _ (by omega)) _ _ (by omega)) _ _ (by omega)) _ _ (by omega)) _ _ (by omega)) _ _ (by omega)
  generalize hs0 : am_si (am_si (am_si (am_si (am_si (am_si (am_si s o0 0 (nI (D.1 6))) o0 1 (nI (D.1 0))) o0 2 (nI (D.1 1))) o0 3 (nI (D.1 2))) o0 4 (nI (D.1 3))) o0 5 (nI (D.1 4))) o0 6 (nI (D.1 5)) = s0 at F0
  have g : ∀ j, j < 6 → s0.1 o0 (1 + j) = nI (D.1 j) := by
    intro j hj
    rw [← hs0]
    rcases (by omega : j = 0 ∨ j = 1 ∨ j = 2 ∨ j = 3 ∨ j = 4 ∨ j = 5) with e | e | e | e | e | e <;> subst e <;> simp (disch := omega) only [r_si, r_us, r_uo]
  have g6 : s0.1 o0 0 = nI (D.1 6) := by rw [← hs0]; simp (disch := omega) only [r_si, r_us, r_uo]
  obtain ⟨t1, ⟨a1, a2, a3⟩, a4⟩ := sp_lj (fun J f (t : AS) i => fX3_take_L58 o0 o1 J f t i) 10 (fun i t => fr (fun c => o0 ≤ c ∧ c < o0 + 22) s t ∧ t.1 o0 = s0.1 o0 ∧ ∀ r j, r < i → j < 3 → t.1 (o0 + 1 + 1 + r) j = s.1 (o1 + 1 + 1 + r) j) (fun f i t hi h => by
    refine ⟨am_sr t (o0 + 1 + 1 + i) (va_cpy (t.1 (o1 + 1 + 1 + i)) (t.1 (o0 + 1 + 1 + i)) 0 0 3), ⟨fr_sr h.1 _ (by omega), by rw [r_ro _ _ (by omega)]; exact h.2.1, fun r j hr hj => ?_⟩, fun J => ?_⟩
    · by_cases e : r = i
      · subst e
        rw [r_ri, va_cpy0 hj, h.1.2 _ (by omega)]
      · rw [r_ro _ _ (by omega)]; exact h.2.2 r j (by omega) hj
    · rw [fX3_take_L58]
      simp (disch := omega) only [↓am_lq, b_lq, b_le, b_lt, b_t, b_add, am_g_t, if_neg, if_false]) (fun f t h J => by
    rw [fX3_take_L58]
    simp (disch := omega) only [b_lq, b_le, if_pos, if_true]) s0 ⟨F0, rfl, fun r j hr => by omega⟩ am_fu (am_fu_gt (by omega))
  obtain ⟨t2, ⟨b1, b2, b3, b4⟩, b5⟩ := sp_lp (fun f (t : AS) i => fX3_take_L90 o0 o1 f t i) 8 (fun i t => fr (fun c => o0 ≤ c ∧ c < o0 + 22) s t ∧ t.1 o0 = s0.1 o0 ∧ (∀ r j, r < 10 → j < 3 → t.1 (o0 + 1 + 1 + r) j = s.1 (o1 + 1 + 1 + r) j) ∧ ∀ r j, r < i → j < 5 → t.1 (o0 + 12 + 1 + r) j = s.1 (o1 + 12 + 1 + r) j) (fun t => some (am_sr t (o0 + 21) (va_cpy (t.1 (o1 + 21)) (t.1 (o0 + 21)) 0 0 6), ())) (fun f i t hi h => by
    refine ⟨am_sr t (o0 + 12 + 1 + i) (va_cpy (t.1 (o1 + 12 + 1 + i)) (t.1 (o0 + 12 + 1 + i)) 0 0 5), ⟨fr_sr h.1 _ (by omega), by rw [r_ro _ _ (by omega)]; exact h.2.1, fun r j hr hj => by rw [r_ro _ _ (by omega)]; exact h.2.2.1 r j hr hj, fun r j hr hj => ?_⟩, ?_⟩
    · by_cases e : r = i
      · subst e
        rw [r_ri, va_cpy0 hj, h.1.2 _ (by omega)]
      · rw [r_ro _ _ (by omega)]; exact h.2.2.2 r j (by omega) hj
    · rw [fX3_take_L90]
      simp (disch := omega) only [↓am_lq, b_lq, b_le, b_lt, b_t, b_add, am_g_t, if_neg, if_false]) (fun f t h => by
    rw [fX3_take_L90]
    simp (disch := omega) only [↓am_lq, b_lq, b_le, b_lt, b_t, am_g_t, if_pos, if_true]) t1 ⟨a1, a2, a3, fun r j hr => by omega⟩ am_fu (am_fu_gt (by omega))
  refine ⟨am_sr t2 (o0 + 21) (va_cpy (t2.1 (o1 + 21)) (t2.1 (o0 + 21)) 0 0 6), ?_, ⟨fun j hj => ?_, fun r j hr hj => ?_, fun p j hp hj => ?_, fun k hk => ?_, ?_⟩, fr_sr b1 _ (by omega)⟩
  · unfold fX3_take
    simp (disch := omega) only [↓am_lq, b_lq, h1, h2, h3, h4, h5, h6, p5, r_so, hs0]
    rw [a4, b5]
  · rw [r_ro _ _ (by omega), b2]; exact g j hj
  · rw [r_ro _ _ (by omega), b3 r j (by omega) hj]; exact p2 r j hr hj
  · rw [r_ro _ _ (by omega), b4 p j (by omega) hj]; exact p3 p j hp hj
  · rw [r_ri, va_cpy0 hk, b1.2 _ (by omega)]; exact p4 k hk
  · rw [r_ro _ _ (by omega), b2]; exact g6
theorem c_take0 {o1 o0 op : Nat} (hP : m_PV P) (ho : o1 + 3 ≤ o0 ∨ o0 + 3 ≤ o1) (hp : op + 22 ≤ o0 ∨ o0 + 3 ≤ op) (s : AS) (hL : c_PL op P.1 s) (h : s.1 o1 0 = nI P.2.1 ∧ s.1 o1 1 = nI (m_AN P) ∧ s.1 o1 2 = nI (m_BA P) ∧ ∀ k, k < P.2.1 → s.1 (o1 + 1) k = nI (m_an P.2.2 k) ∧ s.1 (o1 + 2) k = nI (m_ba P.2.2 k)) : ∃ t, fX0_take s o0 o1 = some (t, ()) ∧ c_PA op o0 P t ∧ fr (fun c => o0 ≤ c ∧ c < o0 + 3) s t := by
  obtain ⟨h1, h2, h3, h4⟩ := h
  have h40 := hP.2.1
  have F : fr (fun c => o0 ≤ c ∧ c < o0 + 3) s (am_sr (am_sr (am_si (am_si (am_si s o0 0 (nI P.2.1)) o0 1 (nI (m_AN P))) o0 2 (nI (m_BA P))) (o0 + 1) (va_cpy (s.1 (o1 + 1)) (s.1 (o0 + 1)) 0 0 40)) (o0 + 2) (va_cpy (s.1 (o1 + 2)) (s.1 (o0 + 2)) 0 0 40)) := fr_sr (fr_sr (fr_si (fr_si (fr_si (fr_refl _ _) _ _ (by omega)) _ _ (by omega)) _ _ (by omega)) _ (by omega)) _ (by omega)
  refine ⟨_, ?_, ⟨c_PL_fr hL F (fun c _ _ => by omega) hP.1.2.1 hP.1.2.2.1, ?_, ?_, ?_, fun k hk => ⟨?_, ?_⟩⟩, F⟩
  · unfold fX0_take
    simp (disch := omega) only [↓am_lq, b_lq, b_lt, b_t, am_g_t, h1, h2, h3, r_so, r_ro]
  · simp (disch := omega) only [r_ro, r_si, r_us, r_uo]
  · simp (disch := omega) only [r_ro, r_si, r_us, r_uo]
  · simp (disch := omega) only [r_ro, r_si, r_us, r_uo]
  · rw [r_ro _ _ (by omega), r_ri, va_cpy0 (by omega)]; exact (h4 k hk).1
  · rw [r_ri, va_cpy0 (by omega)]; exact (h4 k hk).2
/-- one row of the reference's march is taken over -/
theorem r_copyRow (s : AS) {c n0 m A B a b : Nat} (hA : m * a = A) (hB : m * b = B) (hn : n0 < 1000) (h1 : A + m ≤ n0) (h2 : B + m ≤ n0) (hd : A + m ≤ B ∨ B + m ≤ A) : ∃ t, fX9_copyRow s c n0 (nI m) (nI a) (nI b) = some (t, ()) ∧ (∀ k, k < m → t.1 c (B + k) = s.1 c (A + k)) ∧ (∀ i, (i < B ∨ B + m ≤ i) → t.1 c i = s.1 c i) ∧ fr (fun x => x = c) s t := by
  obtain ⟨t, ⟨q1, q2, q3⟩, q4⟩ := sp_lp (fun f (t : AS) i => fX9_copyRow_L3 c n0 (nI m) (nI a) (nI b) f t i) m (fun i t => (∀ k, k < i → t.1 c (B + k) = s.1 c (A + k)) ∧ (∀ j, (j < B ∨ B + m ≤ j) → t.1 c j = s.1 c j) ∧ fr (fun x => x = c) s t) (fun t => some (t, ())) (fun f i t hi h => by
    refine ⟨am_si t c (B + i) (s.1 c (A + i)), ⟨fun k hk => ?_, fun j hj => ?_, fr_si h.2.2 _ _ rfl⟩, ?_⟩
    · rw [r_si]
      by_cases e : k = i
      · rw [e, r_us]
      · rw [r_uo _ _ (by omega)]; exact h.1 k (by omega)
    · rw [r_si, r_uo _ _ (by omega)]; exact h.2.1 j hj
    · rw [fX9_copyRow_L3]
      simp (disch := omega) only [↓am_lq, b_lq, b_mul, hA, hB, b_le, b_lt, b_t, b_add, am_g_t, if_neg, if_false, h.2.1]) (fun f t h => by
    rw [fX9_copyRow_L3]
    simp (disch := omega) only [b_lq, b_le, if_pos, if_true]) s ⟨fun k hk => by omega, fun _ _ => rfl, fr_refl _ _⟩ am_fu (am_fu_gt (by omega))
  refine ⟨t, ?_, q1, q2, q3⟩
  unfold fX9_copyRow
  simp only [b_lq]
  exact q4
/-- where block b lies in the row c -/
def r_ob (c b i : Nat) : Prop := i < r_bl c * b ∨ r_bl c * b + r_bl c ≤ i
theorem r_copy (s : AS) {a b : Nat} (ha : a < 5) (hb : b < 5) (hab : a ≠ b) : ∃ t, fX9_copyMarch s (nI a) (nI b) = some (t, ()) ∧ (∀ P, m_PV P → r_PA a P s → r_PA b P t) ∧ (∀ c, 221 ≤ c → c < 227 → ∀ i, r_ob c b i → t.1 c i = s.1 c i) ∧ fr (fun c => 221 ≤ c ∧ c < 227) s t := by
  obtain ⟨t1, e1, f1, g1, h1⟩ := r_copyRow s (c := 221) (n0 := 5) (m := 1) (a := a) (b := b) rfl rfl (by omega) (by omega) (by omega) (by omega)
  obtain ⟨t2, e2, f2, g2, h2⟩ := r_copyRow t1 (c := 222) (n0 := 35) (m := 7) (a := a) (b := b) rfl rfl (by omega) (by omega) (by omega) (by omega)
  obtain ⟨t3, e3, f3, g3, h3⟩ := r_copyRow t2 (c := 223) (n0 := 150) (m := 30) (a := a) (b := b) rfl rfl (by omega) (by omega) (by omega) (by omega)
  obtain ⟨t4, e4, f4, g4, h4⟩ := r_copyRow t3 (c := 224) (n0 := 200) (m := 40) (a := a) (b := b) rfl rfl (by omega) (by omega) (by omega) (by omega)
  obtain ⟨t5, e5, f5, g5, h5⟩ := r_copyRow t4 (c := 225) (n0 := 30) (m := 6) (a := a) (b := b) rfl rfl (by omega) (by omega) (by omega) (by omega)
  obtain ⟨t6, e6, f6, g6, h6⟩ := r_copyRow t5 (c := 226) (n0 := 600) (m := 120) (a := a) (b := b) rfl rfl (by omega) (by omega) (by omega) (by omega)
  have k1 : t6.1 221 = t1.1 221 := by rw [h6.2 _ (by omega), h5.2 _ (by omega), h4.2 _ (by omega), h3.2 _ (by omega), h2.2 _ (by omega)]
  have k2 : t6.1 222 = t2.1 222 := by rw [h6.2 _ (by omega), h5.2 _ (by omega), h4.2 _ (by omega), h3.2 _ (by omega)]
  have k3 : t6.1 223 = t3.1 223 := by rw [h6.2 _ (by omega), h5.2 _ (by omega), h4.2 _ (by omega)]
  have k4 : t6.1 224 = t4.1 224 := by rw [h6.2 _ (by omega), h5.2 _ (by omega)]
  have k5 : t6.1 225 = t5.1 225 := by rw [h6.2 _ (by omega)]
  have l2 : t1.1 222 = s.1 222 := by rw [h1.2 _ (by omega)]
  have l3 : t2.1 223 = s.1 223 := by rw [h2.2 _ (by omega), h1.2 _ (by omega)]
  have l4 : t3.1 224 = s.1 224 := by rw [h3.2 _ (by omega), h2.2 _ (by omega), h1.2 _ (by omega)]
  have l5 : t4.1 225 = s.1 225 := by rw [h4.2 _ (by omega), h3.2 _ (by omega), h2.2 _ (by omega), h1.2 _ (by omega)]
  have l6 : t5.1 226 = s.1 226 := by rw [h5.2 _ (by omega), h4.2 _ (by omega), h3.2 _ (by omega), h2.2 _ (by omega), h1.2 _ (by omega)]
  have m : ∀ {c : Nat} {x y : AS}, 221 ≤ c → c < 227 → fr (fun x => x = c) x y → fr (fun c => 221 ≤ c ∧ c < 227) x y := fun hc hc2 h => fr_mono h (fun z hz => by omega)
  refine ⟨t6, ?_, fun P hP h => ?_, fun c hc1 hc2 i hi => ?_, fr_tr (m (by omega) (by omega) h1) (fr_tr (m (by omega) (by omega) h2) (fr_tr (m (by omega) (by omega) h3) (fr_tr (m (by omega) (by omega) h4) (fr_tr (m (by omega) (by omega) h5) (m (by omega) (by omega) h6)))))⟩
  · unfold fX9_copyMarch
    simp only [b_lq]
    rw [e1, am_cq, e2, am_cq, e3, am_cq, e4, am_cq, e5, am_cq, e6, am_cq]
  · obtain ⟨a1, a2, a3, a4, a5, a6, a7⟩ := h
    have v4 := hP.1.2.1
    have v5 := hP.1.2.2.1
    have v40 := hP.2.1
    refine ⟨fun j hj => ?_, fun r j hr hj => ?_, fun p j hp hj => ?_, fun k hk => ?_, ?_, ?_, fun k hk => ⟨?_, ?_, ?_⟩⟩
    · rw [k2, f2 j (by omega), l2]; exact a1 j hj
    · rw [k3, f3 _ (by omega), l3]; exact a2 r j hr hj
    · rw [k4, f4 _ (by omega), l4]; exact a3 p j hp hj
    · rw [k5, f5 k hk, l5]; exact a4 k hk
    · have := f1 0 (by omega)
      rw [show 1 * b + 0 = b by omega, show 1 * a + 0 = a by omega] at this
      rw [k1, this]; exact a5
    · rw [k2, f2 6 (by omega), l2]; exact a6
    · rw [f6 _ (by omega), l6]; exact (a7 k hk).1
    · rw [f6 _ (by omega), l6]; exact (a7 k hk).2.1
    · rw [f6 _ (by omega), l6]; exact (a7 k hk).2.2
  · unfold r_ob r_bl at hi
    rcases (by omega : c = 221 ∨ c = 222 ∨ c = 223 ∨ c = 224 ∨ c = 225 ∨ c = 226) with e | e | e | e | e | e <;> subst e
    · rw [k1]; exact g1 i hi
    · rw [k2, g2 i hi, l2]
    · rw [k3, g3 i hi, l3]
    · rw [k4, g4 i hi, l4]
    · rw [k5, g5 i hi, l5]
    · rw [g6 i hi, l6]
abbrev m_im (M : m_M) (k : Nat) (x : Bool × m_P) : m_M := (M.1, M.2.1, M.2.2.1, w_u M.2.2.2.1 k x, M.2.2.2.2)
theorem m_MV_im (h : m_MV M) {k : Nat} {x : Bool × m_P} (hx : m_PV x.2) : m_MV (m_im M k x) := by
  refine ⟨h.1, h.2.1, h.2.2.1, h.2.2.2.1, fun j hj => ?_, h.2.2.2.2.2⟩
  dsimp only
  by_cases e : j = k
  · rw [e, w_us]; exact hx
  · rw [w_uo _ _ e]; exact h.2.2.2.2.1 j hj
theorem Q_image (a : Int32) : m_OK (fun s => fX8_image s a) (fun s => fX9_image s a) := m_ok_c fun M hV => by
  have hP := m_MV_P hV
  cases h1 : m_in a 3 with
  | false =>
    refine ⟨M, -nI 2, hV, fun s hI => ⟨s, ?_, hI, c_F_refl s⟩, fun s hI => ⟨_, ?_, (r_0 hI).1, (r_0 hI).2.1⟩⟩
    · unfold fX8_image
      simp only [↓am_lq, b_lq]
      rw [m_if (by omega), h1, if_neg (by simp)]
    · unfold fX9_image
      simp (disch := omega) only [↓am_lq, b_lq, r_in (m := 2) (x := 2) (by omega) (by decide), am_rq, m_if0, h1, Bool.false_eq_true, if_false]
  | true =>
    have h1' := h1
    obtain ⟨k, hk, rfl⟩ := m_in_k (by omega) h1
    refine ⟨m_im M k (true, M.2.2.1), nI 0, m_MV_im hV hP, fun s hI => ?_, fun s hI => ?_⟩
    · obtain ⟨⟨a1, a2, a3, a4, a5⟩, a6⟩ := hI
      obtain ⟨v1, v2, v3, v4, v5, v6⟩ := hV
      obtain ⟨t1, b1, b2, b3⟩ := c_take (o1 := 25) (o0 := 51 + 26 * k + 1) (D := M.2.2.1.1) hP.1 (by omega) (am_si s (51 + 26 * k) 0 (nI 1)) (c_PL_fr a3.1 (fr_si (R := fun c => c = 51 + 26 * k) (fr_refl _ _) _ _ rfl) (fun c _ _ => by omega) hP.1.2.1 hP.1.2.2.1)
      have e47 : ∀ c, 47 ≤ c → c < 50 → t1.1 c = s.1 c := fun c _ _ => by rw [b3.2 _ (by omega), r_so _ _ _ (by omega)]
      obtain ⟨t2, d1, d2, d3⟩ := c_take0 (o1 := 47) (o0 := 51 + 26 * k + 23) (op := 51 + 26 * k + 1) hP (by omega) (by omega) t1 b2 ⟨by rw [e47 _ (by omega) (by omega)]; exact a3.2.1, by rw [e47 _ (by omega) (by omega)]; exact a3.2.2.1, by rw [e47 _ (by omega) (by omega)]; exact a3.2.2.2.1, fun j hj => by rw [e47 _ (by omega) (by omega), e47 _ (by omega) (by omega)]; exact a3.2.2.2.2 j hj⟩
      have E1 : ∀ c, (c < 51 + 26 * k ∨ 51 + 26 * k + 26 ≤ c) → t2.1 c = s.1 c := fun c hc => by rw [d3.2 _ (by omega), b3.2 _ (by omega), r_so _ _ _ (by omega)]
      have E2 : ∀ c, t2.2 c = s.2 c := fun c => by rw [d3.1, b3.1]; rfl
      refine ⟨t2, ?_, ⟨⟨⟨?_, fun i => ?_⟩, ⟨?_, ?_⟩, ?_, fun j hj => ?_, fun j hj => ⟨?_, fun w hw => ⟨?_, ?_, fun i hi => ?_⟩⟩⟩, ?_⟩, fun c hc => ⟨E1 c (by omega), E2 c⟩⟩
      · unfold fX8_image
        simp only [↓am_lq, b_lq]
        rw [m_if (by omega), h1', if_pos rfl]
        simp (disch := omega) only [b_lt, b_t, am_g_t, b1, am_cq, d1]
      · rw [E1 _ (by omega)]; exact a1.1
      · rw [E1 _ (by omega)]; exact a1.2 i
      · rw [E1 _ (by omega)]; exact a2.1
      · rw [E1 _ (by omega)]; exact a2.2
      · exact c_PA_eq a3 hP (fun c _ _ => E1 c (by omega)) (fun c _ _ => E1 c (by omega))
      · dsimp only
        by_cases e : j = k
        · rw [e, w_us]
          refine ⟨?_, ?_⟩
          · rw [d3.2 _ (by omega), b3.2 _ (by omega), r_si, r_us]; rfl
          · rw [show 52 + 26 * k = 51 + 26 * k + 1 by omega, show 74 + 26 * k = 51 + 26 * k + 23 by omega]
            exact d2
        · rw [w_uo _ _ e]
          refine ⟨?_, ?_⟩
          · rw [E1 _ (by omega)]; exact (a4 j hj).1
          · exact c_PA_eq (a4 j hj).2 (v5 j hj) (fun c _ _ => E1 c (by omega)) (fun c _ _ => E1 c (by omega))
      · rw [E1 _ (by omega)]; exact (a5 j hj).1
      · rw [E1 _ (by omega)]; exact ((a5 j hj).2 w hw).1
      · rw [E1 _ (by omega)]; exact ((a5 j hj).2 w hw).2.1
      · rw [E2]; exact ((a5 j hj).2 w hw).2.2 i hi
      · rw [E1 0 (by omega)]
        rcases a6 with q | q
        · exact .inl q
        · exact .inr ⟨q.1, ⟨c_WY_eq hP.1 q.2.1.1 (fun c _ _ => E1 c (by omega)), c_GI_eq q.2.1.2 (fun c _ _ => E1 c (by omega))⟩, q.2.2⟩
    · obtain ⟨I1, m1⟩ := r_0 hI
      obtain ⟨t1, b1, b2, b3, b4⟩ := r_copy (am_si s 215 0 (nI 0)) (a := 0) (b := 1 + k) (by omega) (by omega) (by omega)
      obtain ⟨a1, a2, a3, a4, a5⟩ := I1
      have E1 : ∀ c, c ≠ 227 → (c < 221 ∨ 227 ≤ c) → (am_si t1 227 k (nI 1)).1 c = (am_si s 215 0 (nI 0)).1 c := fun c h1 hc => by rw [r_so _ _ _ h1, b4.2 _ (by omega)]
      have E2 : ∀ c, (am_si t1 227 k (nI 1)).2 c = s.2 c := fun c => by rw [r_s2, b4.1]; rfl
      have E3 : ∀ c, 221 ≤ c → c < 227 → (am_si t1 227 k (nI 1)).1 c = t1.1 c := fun c _ _ => by rw [r_so _ _ _ (by omega)]
      refine ⟨am_si t1 227 k (nI 1), ?_, ⟨⟨?_, fun i => ?_⟩, ⟨?_, ?_⟩, ?_, fun j hj => ?_, fun j hj => ⟨?_, fun w hw => ⟨?_, fun i hi => ?_⟩⟩⟩, r_F_tr m1.1 (fun c hc => ⟨E1 c (by omega) (by omega), E2 c⟩)⟩
      · unfold fX9_image
        simp (disch := omega) only [↓am_lq, b_lq, r_in (m := 2) (x := 2) (by omega) (by decide), am_rq, m_if0, h1', if_true, b_add, b1, am_cq, b_lt, b_t, am_g_t]
        rfl
      · rw [E1 _ (by omega) (by omega)]; exact a1.1
      · rw [E1 _ (by omega) (by omega)]; exact a1.2 i
      · rw [E1 _ (by omega) (by omega)]; exact a2.1
      · rw [E1 _ (by omega) (by omega)]; exact a2.2
      · have h := a3
        obtain ⟨c1, c2, c3, c4, c5, c6, c7⟩ := h
        have B : ∀ c, 221 ≤ c → c < 227 → ∀ i, i < r_bl c → (am_si t1 227 k (nI 1)).1 c i = (am_si s 215 0 (nI 0)).1 c i := fun c h1 h2 i hi => by
          rw [E3 c h1 h2]
          exact b3 c h1 h2 i (.inl (Nat.lt_of_lt_of_le hi (Nat.le_mul_of_pos_right _ (by omega))))
        have B1 := B 221 (by omega) (by omega)
        have B2 := B 222 (by omega) (by omega)
        have B3 := B 223 (by omega) (by omega)
        have B4 := B 224 (by omega) (by omega)
        have B5 := B 225 (by omega) (by omega)
        have B6 := B 226 (by omega) (by omega)
        simp only [show r_bl 221 = 1 from rfl, show r_bl 222 = 7 from rfl, show r_bl 223 = 30 from rfl, show r_bl 224 = 40 from rfl, show r_bl 225 = 6 from rfl, show r_bl 226 = 120 from rfl] at B1 B2 B3 B4 B5 B6
        have v4 := hP.1.2.1
        have v5 := hP.1.2.2.1
        have v40 := hP.2.1
        show r_PA 0 M.2.2.1 _
        refine ⟨fun j hj => ?_, fun r j hr hj => ?_, fun p j hp hj => ?_, fun j hj => ?_, ?_, ?_, fun j hj => ⟨?_, ?_, ?_⟩⟩
        · rw [B2 _ (by omega)]; exact c1 j hj
        · rw [B3 _ (by omega)]; exact c2 r j hr hj
        · rw [B4 _ (by omega)]; exact c3 p j hp hj
        · rw [B5 _ (by omega)]; exact c4 j hj
        · rw [B1 _ (by omega)]; exact c5
        · rw [B2 _ (by omega)]; exact c6
        · rw [B6 _ (by omega)]; exact (c7 j hj).1
        · rw [B6 _ (by omega)]; exact (c7 j hj).2.1
        · rw [B6 _ (by omega)]; exact (c7 j hj).2.2
      · dsimp only
        by_cases e : j = k
        · rw [e, w_us]
          refine ⟨by rw [r_si, r_us]; rfl, ?_⟩
          exact r_PA_eq (b2 M.2.2.1 hP a3) E3
        · rw [w_uo _ _ e]
          refine ⟨?_, ?_⟩
          · rw [r_si, r_uo _ _ e, b4.2 _ (by omega)]; exact (a4 j hj).1
          · have vj := hV.2.2.2.2.1 j hj
            have v4 := vj.1.2.1
            have v5 := vj.1.2.2.1
            have v40 := vj.2.1
            obtain ⟨c1, c2, c3, c4, c5, c6, c7⟩ := (a4 j hj).2
            have B : ∀ c, 221 ≤ c → c < 227 → ∀ i, r_ob c (1 + k) i → (am_si t1 227 k (nI 1)).1 c i = (am_si s 215 0 (nI 0)).1 c i := fun c h1 h2 i hi => by
              rw [E3 c h1 h2]; exact b3 c h1 h2 i hi
            have B1 := B 221 (by omega) (by omega)
            have B2 := B 222 (by omega) (by omega)
            have B3 := B 223 (by omega) (by omega)
            have B4 := B 224 (by omega) (by omega)
            have B5 := B 225 (by omega) (by omega)
            have B6 := B 226 (by omega) (by omega)
            simp only [r_ob, show r_bl 221 = 1 from rfl, show r_bl 222 = 7 from rfl, show r_bl 223 = 30 from rfl, show r_bl 224 = 40 from rfl, show r_bl 225 = 6 from rfl, show r_bl 226 = 120 from rfl] at B1 B2 B3 B4 B5 B6
            refine ⟨fun i hi => ?_, fun r i hr hi => ?_, fun p i hp hi => ?_, fun i hi => ?_, ?_, ?_, fun i hi => ⟨?_, ?_, ?_⟩⟩
            · rw [B2 _ (by omega)]; exact c1 i hi
            · rw [B3 _ (by omega)]; exact c2 r i hr hi
            · rw [B4 _ (by omega)]; exact c3 p i hp hi
            · rw [B5 _ (by omega)]; exact c4 i hi
            · rw [B1 _ (by omega)]; exact c5
            · rw [B2 _ (by omega)]; exact c6
            · rw [B6 _ (by omega)]; exact (c7 i hi).1
            · rw [B6 _ (by omega)]; exact (c7 i hi).2.1
            · rw [B6 _ (by omega)]; exact (c7 i hi).2.2
      · rw [E1 _ (by omega) (by omega)]; exact (a5 j hj).1
      · rw [E1 _ (by omega) (by omega)]; exact ((a5 j hj).2 w hw).1
      · rw [E2]; exact ((a5 j hj).2 w hw).2 i hi
theorem Q_back (a : Int32) : m_OK (fun s => fX8_back s a) (fun s => fX9_back s a) := m_ok_c fun M hV => by
  cases h1 : m_in a 3 with
  | false =>
    refine ⟨M, -nI 2, hV, fun s hI => ⟨s, ?_, hI, c_F_refl s⟩, fun s hI => ⟨_, ?_, (r_0 hI).1, (r_0 hI).2.1⟩⟩
    · unfold fX8_back
      simp only [↓am_lq, b_lq]
      rw [m_if (by omega), h1, if_neg (by simp)]
    · unfold fX9_back
      simp (disch := omega) only [↓am_lq, b_lq, r_in (m := 2) (x := 2) (by omega) (by decide), am_rq, m_if0, h1, Bool.false_eq_true, if_false]
  | true =>
    have h1' := h1
    obtain ⟨k, hk, rfl⟩ := m_in_k (by omega) h1
    have hP := hV.2.2.2.2.1 k hk
    cases hb : (M.2.2.2.1 k).1 with
    | false =>
      refine ⟨M, -nI 6, hV, fun s hI => ⟨s, ?_, hI, c_F_refl s⟩, fun s hI => ⟨_, ?_, (r_0 hI).1, (r_0 hI).2.1⟩⟩
      · have e := (hI.1.2.2.2.1 k hk).1
        rw [hb] at e
        unfold fX8_back
        simp only [↓am_lq, b_lq]
        rw [m_if (by omega), h1', if_pos rfl]
        simp (disch := omega) only [b_lt, b_t, am_g_t, e, b_tf, if_true]
      · have e := ((r_0 hI).1.2.2.2.1 k hk).1
        rw [hb] at e
        unfold fX9_back
        simp (disch := omega) only [↓am_lq, b_lq, r_in (m := 2) (x := 2) (by omega) (by decide), am_rq, m_if0, h1', if_true, b_lt, b_t, am_g_t, e, b_tf]
    | true =>
      refine ⟨m_set M (M.2.2.2.1 k).2, nI 0, m_MV_set hV hP, fun s hI => ?_, fun s hI => ?_⟩
      · have e := (hI.1.2.2.2.1 k hk).1
        rw [hb] at e
        have q := (hI.1.2.2.2.1 k hk).2
        rw [show 52 + 26 * k = 51 + 26 * k + 1 by omega, show 74 + 26 * k = 51 + 26 * k + 23 by omega] at q
        obtain ⟨q1, q2, q3, q4, q5⟩ := q
        obtain ⟨t1, b1, b2, b3⟩ := c_take (o1 := 51 + 26 * k + 1) (o0 := 25) (D := (M.2.2.2.1 k).2.1) hP.1 (by omega) s q1
        obtain ⟨t2, d1, d2, d3⟩ := c_take0 (o1 := 51 + 26 * k + 23) (o0 := 47) (op := 25) hP (by omega) (by omega) t1 b2 ⟨by rw [b3.2 _ (by omega)]; exact q2, by rw [b3.2 _ (by omega)]; exact q3, by rw [b3.2 _ (by omega)]; exact q4, fun j hj => by rw [b3.2 _ (by omega), b3.2 _ (by omega)]; exact q5 j hj⟩
        have key := c_I_setP (t := am_si t2 0 8 (nI 0)) (P := (M.2.2.2.1 k).2) hV hI (fun c hc => by rw [r_so _ _ _ (by omega), d3.2 _ (by omega), b3.2 _ (by omega)]) (fun j hj => by rw [r_si, r_uo _ _ hj, d3.2 _ (by omega), b3.2 _ (by omega)]) (fun c => by rw [r_s2, d3.1, b3.1]) (by rw [r_si, r_us]) (c_PA_eq d2 hP (fun c _ _ => by rw [r_so _ _ _ (by omega)]) (fun c _ _ => by rw [r_so _ _ _ (by omega)]))
        refine ⟨_, ?_, key.1, key.2⟩
        unfold fX8_back
        simp only [↓am_lq, b_lq]
        rw [m_if (by omega), h1', if_pos rfl]
        simp (disch := omega) only [b_lt, b_t, b_eq, am_g_t, e, b_tt, if_neg, if_false, b1, am_cq, d1]
      · obtain ⟨I1, m1⟩ := r_0 hI
        have e := (I1.2.2.2.1 k hk).1
        rw [hb] at e
        obtain ⟨t1, b1, b2, b3, b4⟩ := r_copy (am_si s 215 0 (nI 0)) (a := 1 + k) (b := 0) (by omega) (by omega) (by omega)
        have key := r_I_setP (t := t1) (P := (M.2.2.2.1 k).2) I1 (fun c hc => b4.2 _ (by omega)) (fun c hc => b4.2 _ (by omega)) (fun c h1 h2 i hi => b3 c h1 h2 i (.inr (by omega))) (fun j h1 h2 => by rw [b4.2 _ (by omega)]) (fun c hc => by rw [b4.1]) (b2 _ hP (I1.2.2.2.1 k hk).2)
        refine ⟨t1, ?_, key.1, r_F_tr m1.1 key.2⟩
        unfold fX9_back
        simp (disch := omega) only [↓am_lq, b_lq, r_in (m := 2) (x := 2) (by omega) (by decide), am_rq, m_if0, h1', if_true, b_lt, b_t, b_eq, am_g_t, e, b_tt, if_neg, if_false, b_add, b1, am_cq]
end IM
