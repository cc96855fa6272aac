/-! MARCH: the text is read, on both sides. -/
section RQ
variable {f : Nat → Int32} {n : Nat} {z : a_Z} {s t u : AS} {D : w_D} {M : m_M}
theorem r_clears (s : AS) : ∃ t, fX9_clears s = some (t, ()) ∧ r_DL a_D0 t ∧ r_fL s t := by
  have b1 : r_bl 221 * 4 = 4 := by decide
  have b2 : r_bl 222 * 4 = 28 := by decide
  have b5 : r_bl 225 * 4 = 24 := by decide
  obtain ⟨t1, ⟨x1, x2, x3⟩, x4⟩ := sp_lp (fun f (t : AS) i => fX9_clears_L9 (fun s3 => fX9_clears_L29 am_fu s3 (nI 0)) f t i) 7 (fun i t => r_fL s t ∧ t.1 221 4 = nI 0 ∧ ∀ k, k < i → t.1 222 (28 + k) = nI 0) (fun t => fX9_clears_L29 am_fu t (nI 0)) (fun f i t hi h => by
    refine ⟨am_si t 222 (28 + i) (nI 0), ⟨r_fL_si h.1 _ (by omega) (by omega) (by omega), by rw [r_so _ _ _ (by omega)]; exact h.2.1, fun k hk => ?_⟩, ?_⟩
    · rw [r_si]
      by_cases e : k = i
      · rw [e, r_us]
      · rw [r_uo _ _ (by omega)]; exact h.2.2 k (by omega)
    · rw [fX9_clears_L9]
      simp only [↓am_lq, b_lq]
      rw [if_neg (by rw [b_le (by omega) (by omega)]; omega), r_tells i _ (by omega), am_cq, b_add]) (fun f t h => by
    rw [fX9_clears_L9]
    simp only [b_lq]
    rw [if_pos (by rw [b_le (by omega) (by omega)]; omega)]) (am_si s 221 4 (nI 0)) ⟨r_fL_si (r_fL_refl s) _ (by omega) (by omega) (by omega), by rw [r_si, r_us], fun k hk => by omega⟩ am_fu (am_fu_gt (by omega))
  obtain ⟨t2, ⟨y1, y2, y3, y4⟩, y5⟩ := sp_lp (fun f (t : AS) i => fX9_clears_L29 f t i) 6 (fun i t => r_fL s t ∧ t.1 221 4 = nI 0 ∧ (∀ k, k < 7 → t.1 222 (28 + k) = nI 0) ∧ ∀ k, k < i → t.1 225 (24 + k) = nI 0) (fun t => some (t, ())) (fun f i t hi h => by
    refine ⟨am_si t 225 (24 + i) (nI 0), ⟨r_fL_si h.1 _ (by omega) (by omega) (by omega), by rw [r_so _ _ _ (by omega)]; exact h.2.1, fun k hk => by rw [r_so _ _ _ (by omega)]; exact h.2.2.1 k hk, fun k hk => ?_⟩, ?_⟩
    · rw [r_si]
      by_cases e : k = i
      · rw [e, r_us]
      · rw [r_uo _ _ (by omega)]; exact h.2.2.2 k (by omega)
    · rw [fX9_clears_L29]
      simp only [↓am_lq, b_lq, b_add]
      rw [if_neg (by rw [b_le (by omega) (by omega)]; omega), b_t (by omega), am_g_t (b_ok (by omega) (by omega))]) (fun f t h => by
    rw [fX9_clears_L29]
    simp only [b_lq]
    rw [if_pos (by rw [b_le (by omega) (by omega)]; omega)]) t1 ⟨x1, x2, x3, fun k hk => by omega⟩ am_fu (am_fu_gt (by omega))
  refine ⟨t2, ?_, ⟨fun j hj => y3 j (by omega), fun r j hr hj => absurd hr (Nat.not_lt_zero _), fun p j hp hj => absurd hp (Nat.not_lt_zero _), fun k hk => y4 k hk, y2, y3 6 (by omega)⟩, y1⟩
  unfold fX9_clears
  simp only [↓am_lq, b_lq]
  rw [am_g_t (by decide), b_t (by omega)]
  exact x4.trans y5
theorem r_begins (hn : n ≤ 800) (h : p_RT n f s) : ∃ t, fX9_begins s = some (t, ()) ∧ r_ST f n (a_z0 f n) t ∧ r_f3 s t := by
  have F : r_f3 s (am_si (am_si (am_si s 215 12 (nI 0)) 215 13 (oI none)) 215 7 (nI 0)) := r_f3_si (r_f3_si (r_f3_si (r_f3_refl s) _ (by omega) (by omega)) _ (by omega) (by omega)) _ (by omega) (by omega)
  obtain ⟨t, a1, a2, a3⟩ := r_goesOn hn (p_RT_f3 h F) (Nat.zero_le n) (by rw [r_si, r_us])
  have eb := a_eb_p (f := f) hn 0
  refine ⟨t, ?_, ⟨p_RT_f3 (p_RT_f3 h F) (r_f13 a3), Nat.zero_le _, ?_, fun e => absurd rfl e, fun _ => ⟨eb.2.1 (Nat.zero_le n), ?_⟩⟩, r_f3_tr F (r_f13 a3)⟩
  · unfold fX9_begins
    simp only [↓am_lq, b_lq, oI_q]
    rw [a1, am_cq]
  · rw [a3.2.1 12 (by omega), r_si, r_uo _ _ (by omega), r_si, r_uo _ _ (by omega), r_si, r_us]; rfl
  · show r_TK f n (a_eb f n (a_eb f n 0)) t
    rw [a_eb_i hn eb.2.2.1]
    exact a2
/-- the march is read -/
theorem r_reads (hn : n ≤ 800) (h : p_RT n f s) {J : AS → Option (AS × Int32)} : ∃ t, am_c (fX9_clears s) (fun s3 _ => am_c (fX9_begins s3) (fun s5 _ => fX9_march_L13 J am_fu s5)) = J t ∧ r_ST f n (a_rd f n).1 t ∧ ((a_rd f n).1.1 = 0 → r_DL (a_rd f n).2 t) ∧ r_fL s t := by
  obtain ⟨t1, x1, x2, x3⟩ := r_clears s
  have R1 : p_RT n f t1 := ⟨by rw [x3.2.1 6 (by omega)]; exact h.1, fun i => by rw [x3.1 220 (by omega)]; exact h.2 i⟩
  obtain ⟨t2, y1, y2, y3⟩ := r_begins hn R1
  have eb := a_eb_p (f := f) hn 0
  have L0 : a_LI f n (a_z0 f n) a_D0 := fun _ => ⟨a_D0_V, fun h => absurd h (Nat.not_lt_zero _), Nat.zero_le _, eb.2.2.1, rfl, eb.2.1 (Nat.zero_le _)⟩
  obtain ⟨t, q1, q2, q3, q4⟩ := r_loop hn (J := J) 801 (a_z0 f n) a_D0 t2 am_fu (fun _ => by omega) (am_fu_gt (by omega)) L0 y2 (fun _ => r_DL_f3 x2 y3)
  refine ⟨t, ?_, q2, q3, r_fL_tr x3 (r_fL_tr (r_f3L y3) q4)⟩
  rw [x1, am_cq, y1, am_cq]
  exact q1
theorem r_PA_4 {b : Nat} {P : m_P} (hb : b < 4) (hP : m_PV P) (h : r_PA b P s) (k : ∀ c, 221 ≤ c → c < 226 → ∀ i, i < r_bl c * 4 → t.1 c i = s.1 c i) (k6 : t.1 226 = s.1 226) : r_PA b P t := by
  obtain ⟨a1, a2, a3, a4, a5, a6, a7⟩ := h
  have v4 := hP.1.2.1
  have v5 := hP.1.2.2.1
  have k1 := k 221 (by omega) (by omega)
  have k2 := k 222 (by omega) (by omega)
  have k3 := k 223 (by omega) (by omega)
  have k4 := k 224 (by omega) (by omega)
  have k5 := k 225 (by omega) (by omega)
  simp only [show r_bl 221 * 4 = 4 from rfl, show r_bl 222 * 4 = 28 from rfl, show r_bl 223 * 4 = 120 from rfl, show r_bl 224 * 4 = 160 from rfl, show r_bl 225 * 4 = 24 from rfl] at k1 k2 k3 k4 k5
  refine ⟨fun j hj => ?_, fun r j hr hj => ?_, fun p j hp hj => ?_, fun j hj => ?_, ?_, ?_, fun j hj => ?_⟩
  · rw [k2 _ (by omega)]; exact a1 j hj
  · rw [k3 _ (by omega)]; exact a2 r j hr hj
  · rw [k4 _ (by omega)]; exact a3 p j hp hj
  · rw [k5 _ (by omega)]; exact a4 j hj
  · rw [k1 _ (by omega)]; exact a5
  · rw [k2 _ (by omega)]; exact a6
  · rw [k6]; exact a7 j hj
/-- no act -/
def a_g0 : Nat → Nat × Nat × Bool := fun _ => (0, 0, false)
theorem a_PV (h : w_V D) : m_PV (D, 0, a_g0) := ⟨h, Nat.zero_le _, fun k hk => absurd hk (Nat.not_lt_zero _)⟩
theorem r_DL_PA (h : r_DL D s) : r_PA 4 (D, 0, a_g0) s := by
  obtain ⟨c1, c2, c3, c4, c5, c6⟩ := h
  exact ⟨c1, c2, c3, c4, c5, c6, fun k hk => absurd hk (Nat.not_lt_zero _)⟩
theorem Q_march : m_OK (fun s => fX8_march s) (fun s => fX9_march s) := m_ok_c fun M hV => by
  obtain ⟨v1, v2, v3, v4, v5, v6⟩ := id hV
  obtain ⟨⟨N, T⟩, F, P, I, S⟩ := M
  dsimp only at v1 v2 v3 v4 v5 v6
  by_cases c : (a_rd T N).1.1 = 0
  · -- the text is a march
    have L : ∀ s : AS, (∀ i, s.1 2 i = T i) → a_LI T N (a_rd T N).1 (a_rd T N).2 := fun s hT => (c_read v1 hT).choose_spec.2.2.2.2
    obtain ⟨L1, L2, L3, L4, L5, L6⟩ := L (fun _ i => T i, fun _ _ => 0) (fun _ => rfl) c
    have hP := a_PV L1
    refine ⟨((0, T), (0, none), ((a_rd T N).2, 0, a_g0), I, S), nI ((a_rd T N).2.1 6), ⟨Nat.zero_le _, Nat.zero_le _, (fun k hk => by cases hk), hP, v5, v6⟩, fun s hI => ?_, fun s hI => ?_⟩
    · obtain ⟨⟨a1, a2, a3, a4, a5⟩, a6⟩ := hI
      obtain ⟨t, x1, x2, x3, x4, -⟩ := c_read v1 (s := s) (f := T) a1.2
      have PL := x3 c
      have E1 : c_e1 t (am_si t 0 1 (nI 0)) ∨ True := .inr trivial
      obtain ⟨t1, y1, y2, y3⟩ := c_take (o1 := 3) (o0 := 25) (D := (a_rd T N).2) L1 (by omega) (am_si t 0 1 (nI 0)) (c_PL_fr PL (fr_si (R := fun c => c = 0) (fr_refl _ _) _ _ rfl) (fun c _ _ => by omega) L1.2.1 L1.2.2.1)
      generalize ht : am_si (am_si (am_si (am_si t1 47 0 (nI 0)) 47 1 (nI 0)) 47 2 (nI 0)) 0 8 (nI 0) = t2
      have G : ∀ c, ¬ (c = 0 ∨ c = 1 ∨ (3 ≤ c ∧ c < 48)) → t2.1 c = s.1 c := fun c hc => by
        rw [← ht, r_so _ _ _ (by omega), r_so _ _ _ (by omega), r_so _ _ _ (by omega), r_so _ _ _ (by omega), y3.2 _ (by omega), r_so _ _ _ (by omega), x4.2 _ (by omega)]
      have G2 : t2.2 = s.2 := by rw [← ht, r_s2, r_s2, r_s2, r_s2, y3.1, r_s2, x4.1]
      have G1 : t2.1 1 = t.1 1 := by rw [← ht, r_so _ _ _ (by omega), r_so _ _ _ (by omega), r_so _ _ _ (by omega), r_so _ _ _ (by omega), y3.2 _ (by omega), r_so _ _ _ (by omega)]
      have G0 : t2.1 0 1 = nI 0 := by rw [← ht, r_si, r_uo _ _ (by omega), r_so _ _ _ (by omega), r_so _ _ _ (by omega), r_so _ _ _ (by omega), y3.2 _ (by omega), r_si, r_us]
      have G8 : t2.1 0 8 = nI 0 := by rw [← ht, r_si, r_us]
      have PL2 : c_PL 25 (a_rd T N).2 t2 := by
        rw [← ht]
        exact c_PL_fr y2 (fr_si (R := fun c => c = 0 ∨ c = 47) (fr_si (fr_si (fr_si (fr_refl _ _) _ _ (.inr rfl)) _ _ (.inr rfl)) _ _ (.inr rfl)) _ _ (.inl rfl)) (fun c _ _ => by omega) L1.2.1 L1.2.2.1
      have G47 : t2.1 47 0 = nI 0 ∧ t2.1 47 1 = nI 0 ∧ t2.1 47 2 = nI 0 := by
        rw [← ht]
        refine ⟨?_, ?_, ?_⟩ <;> simp (disch := omega) only [r_so, r_si, r_us, r_uo]
      have e0 : (am_si t 0 1 (nI 0)).1 1 0 = nI 0 := by rw [r_so _ _ _ (by omega), x2.1, c]
      have e1 : s.1 0 1 = nI N := a1.1
      have e6 : t2.1 25 0 = nI ((a_rd T N).2.1 6) := PL2.2.2.2.2
      refine ⟨t2, ?_, ⟨⟨⟨G0, fun i => ?_⟩, ⟨?_, ?_⟩, ⟨PL2, G47.1, G47.2.1, G47.2.2, fun k hk => absurd hk (Nat.not_lt_zero _)⟩, fun j hj => ⟨?_, ?_⟩, fun j hj => ⟨?_, fun w hw => ⟨?_, ?_, fun i hi => ?_⟩⟩⟩, .inl G8⟩, fun c hc => ⟨G c (by omega), by rw [G2]⟩⟩
      · unfold fX8_march fX0_clear
        simp only [↓am_lq, b_lq]
        rw [e1, x1, am_cq, if_pos e0, y1, am_cq, am_cq, ht, e6]
      · rw [G _ (by omega)]; exact a1.2 i
      · rw [G1, x2.1, c]
      · rw [G1, x2.2.1, L5]
      · rw [G _ (by omega)]; exact (a4 j hj).1
      · exact c_PA_eq (a4 j hj).2 (v5 j hj) (fun c _ _ => G c (by omega)) (fun c _ _ => G c (by omega))
      · rw [G _ (by omega)]; exact (a5 j hj).1
      · rw [G _ (by omega)]; exact ((a5 j hj).2 w hw).1
      · rw [G _ (by omega)]; exact ((a5 j hj).2 w hw).2.1
      · rw [G2]; exact ((a5 j hj).2 w hw).2.2 i hi
    · obtain ⟨I1, m1⟩ := r_0 hI
      obtain ⟨a1, a2, a3, a4, a5⟩ := I1
      obtain ⟨t, x1, x2, x3, x4⟩ := r_reads v1 (s := am_si s 215 0 (nI 0)) (f := T) a1 (J := fun s6 => am_c (fX9_isOver s6) (fun s8 _ => if (s8.1 215 12) = nI 0 then (am_c (fX9_copyMarch s8 (nI 4) (nI 0)) (fun s10 _ => am_g (¬ (nI 0 < nI 0 ∨ 5 ≤ (nI 0).toNatClampNeg)) (some (s10, s10.1 221 (nI 0).toNatClampNeg)))) else (some (s8, -nI 4))))
      have PL := x3 c
      have e12 : t.1 215 12 = nI 0 := by rw [x2.2.2.1, c]
      generalize hu : am_si (am_si (am_si t 215 6 (nI 0)) 215 14 (nI 0)) 215 15 (oI none) = u
      have U : ∀ c, c ≠ 215 → u.1 c = t.1 c := fun c hc => by rw [← hu, r_so _ _ _ hc, r_so _ _ _ hc, r_so _ _ _ hc]
      have U2 : u.2 = t.2 := by rw [← hu]; rfl
      have U0 : u.1 215 12 = nI 0 := by rw [← hu]; simp (disch := omega) only [r_si, r_uo]; exact e12
      have U6 : u.1 215 6 = nI 0 ∧ u.1 215 14 = nI 0 ∧ u.1 215 15 = oI none := by rw [← hu]; refine ⟨?_, ?_, ?_⟩ <;> simp (disch := omega) only [r_si, r_us, r_uo]
      have PA4 : r_PA 4 ((a_rd T N).2, 0, a_g0) u := r_PA_eq (r_DL_PA PL) (fun c _ _ => U c (by omega))
      obtain ⟨w, y1, y2, y3, y4⟩ := r_copy u (a := 4) (b := 0) (by omega) (by omega) (by omega)
      have W0 := y2 _ hP PA4
      have W : ∀ c, c ≠ 215 → (c < 221 ∨ 227 ≤ c) → w.1 c = (am_si s 215 0 (nI 0)).1 c := fun c h1 h2 => by rw [y4.2 _ (by omega), U c h1, x4.1 c (by omega)]
      have W2 : ∀ c, c ≠ 215 → w.2 c = (am_si s 215 0 (nI 0)).2 c := fun c h1 => by rw [y4.1, U2, x4.2.2.2 c h1]
      have W5 : w.1 215 = u.1 215 := y4.2 _ (by omega)
      have e6 : w.1 221 0 = nI ((a_rd T N).2.1 6) := W0.2.2.2.2.1
      refine ⟨w, ?_, ⟨⟨?_, fun i => ?_⟩, ⟨?_, ?_⟩, W0, fun j hj => ⟨?_, ?_⟩, fun j hj => ⟨?_, fun q hq => ⟨?_, fun i hi => ?_⟩⟩⟩, r_F_tr m1.1 (fun c hc => ⟨W c (by omega) (by omega), W2 c (by omega)⟩)⟩
      · unfold fX9_march
        simp only [↓am_lq, b_lq]
        rw [x1]
        unfold fX9_isOver
        simp only [↓am_lq, b_lq, oI_q]
        have k12 : (am_si t 215 6 (nI 0)).1 215 12 = nI 0 := by rw [r_si, r_uo _ _ (by omega)]; exact e12
        have k12' : (am_si (am_si t 215 6 (nI 0)) 215 14 (nI 0)).1 215 12 = nI 0 := by rw [r_si, r_uo _ _ (by omega)]; exact k12
        rw [k12, if_pos k12', hu, am_cq, if_pos U0, y1, am_cq, am_g_t (by decide), b_t (by omega), e6]
      · rw [W5]; exact U6.1
      · rw [W _ (by omega) (by omega)]; exact a1.2 i
      · rw [W5]; exact U6.2.1
      · rw [W5]; exact U6.2.2
      · rw [W _ (by omega) (by omega)]; exact (a4 j hj).1
      · have q1 := r_PA_4 (t := t) (b := 1 + j) (by omega) (v5 j hj) (a4 j hj).2 x4.2.2.1 (x4.1 _ (by omega))
        have q2 := r_PA_eq (t := u) q1 (fun c _ _ => U c (by omega))
        exact r_PA_bl (by omega) q2 (fun c h1 h2 i hi => y3 c h1 h2 i (.inr (by omega)))
      · rw [W _ (by omega) (by omega)]; exact (a5 j hj).1
      · rw [W _ (by omega) (by omega)]; exact ((a5 j hj).2 q hq).1
      · rw [W2 _ (by omega)]; exact ((a5 j hj).2 q hq).2 i hi
  · -- a fault
    have L : ∀ s : AS, (∀ i, s.1 2 i = T i) → (a_rd T N).1.1 ≤ 3 ∧ ∀ k, (a_rd T N).1.2.1 = some k → k ≤ 800 := fun s hT => (c_read v1 hT).choose_spec.2.1.2.2.2.2.2.2
    obtain ⟨L1, L2⟩ := L (fun _ i => T i, fun _ _ => 0) (fun _ => rfl)
    refine ⟨((0, T), ((a_rd T N).1.1, (a_rd T N).1.2.1), P, I, S), -nI 4, ⟨Nat.zero_le _, L1, L2, v4, v5, v6⟩, fun s hI => ?_, fun s hI => ?_⟩
    · obtain ⟨⟨a1, a2, a3, a4, a5⟩, a6⟩ := hI
      obtain ⟨t, x1, x2, -, x4, -⟩ := c_read v1 (s := s) (f := T) a1.2
      have G : ∀ c, ¬ (c = 0 ∨ c = 1 ∨ (3 ≤ c ∧ c < 25)) → (am_si t 0 1 (nI 0)).1 c = s.1 c := fun c hc => by
        rw [r_so _ _ _ (by omega), x4.2 _ (by omega)]
      have G2 : (am_si t 0 1 (nI 0)).2 = s.2 := by rw [r_s2, x4.1]
      have G0 : ∀ k, k ≠ 1 → (am_si t 0 1 (nI 0)).1 0 k = s.1 0 k := fun k hk => by rw [r_si, r_uo _ _ hk, x4.2 _ (by omega)]
      have e0 : (am_si t 0 1 (nI 0)).1 1 0 = nI (a_rd T N).1.1 := by rw [r_so _ _ _ (by omega), x2.1]
      have e1 : s.1 0 1 = nI N := a1.1
      refine ⟨am_si t 0 1 (nI 0), ?_, ⟨⟨⟨by rw [r_si, r_us], fun i => ?_⟩, ⟨?_, ?_⟩, ?_, fun j hj => ⟨?_, ?_⟩, fun j hj => ⟨?_, fun w hw => ⟨?_, ?_, fun i hi => ?_⟩⟩⟩, ?_⟩, fun c hc => ⟨G c (by omega), by rw [G2]⟩⟩
      · unfold fX8_march
        simp only [↓am_lq, b_lq]
        rw [e1, x1, am_cq, if_neg (by rw [e0, b_eq (by omega) (by omega)]; exact c)]
      · rw [G _ (by omega)]; exact a1.2 i
      · exact e0
      · rw [r_so _ _ _ (by omega), x2.2.1]
      · exact c_PA_eq a3 v4 (fun c _ _ => G c (by omega)) (fun c _ _ => G c (by omega))
      · rw [G _ (by omega)]; exact (a4 j hj).1
      · exact c_PA_eq (a4 j hj).2 (v5 j hj) (fun c _ _ => G c (by omega)) (fun c _ _ => G c (by omega))
      · rw [G _ (by omega)]; exact (a5 j hj).1
      · rw [G _ (by omega)]; exact ((a5 j hj).2 w hw).1
      · rw [G _ (by omega)]; exact ((a5 j hj).2 w hw).2.1
      · rw [G2]; exact ((a5 j hj).2 w hw).2.2 i hi
      · rw [G0 8 (by omega)]
        rcases a6 with q | q
        · exact .inl q
        · exact .inr ⟨q.1, ⟨c_WY_eq v4.1 q.2.1.1 (fun c _ _ => G c (by omega)), c_GI_eq q.2.1.2 (fun c _ _ => G c (by omega))⟩, q.2.2⟩
    · obtain ⟨I1, m1⟩ := r_0 hI
      obtain ⟨a1, a2, a3, a4, a5⟩ := I1
      obtain ⟨t, x1, x2, -, x4⟩ := r_reads v1 (s := am_si s 215 0 (nI 0)) (f := T) a1 (J := fun s6 => am_c (fX9_isOver s6) (fun s8 _ => if (s8.1 215 12) = nI 0 then (am_c (fX9_copyMarch s8 (nI 4) (nI 0)) (fun s10 _ => am_g (¬ (nI 0 < nI 0 ∨ 5 ≤ (nI 0).toNatClampNeg)) (some (s10, s10.1 221 (nI 0).toNatClampNeg)))) else (some (s8, -nI 4))))
      obtain ⟨k, k1, k2, k3⟩ := x2.2.2.2.1 c
      have e12 : t.1 215 12 = nI (a_rd T N).1.1 := x2.2.2.1
      have ne : ¬ nI (a_rd T N).1.1 = nI 0 := by rw [b_eq (by omega) (by omega)]; exact c
      generalize hu : am_si (am_si (am_si t 215 6 (nI 0)) 215 14 (nI (a_rd T N).1.1)) 215 15 (nI k) = u
      have U : ∀ c, c ≠ 215 → u.1 c = t.1 c := fun c hc => by rw [← hu, r_so _ _ _ hc, r_so _ _ _ hc, r_so _ _ _ hc]
      have U2 : u.2 = t.2 := by rw [← hu]; rfl
      have U0 : u.1 215 12 = nI (a_rd T N).1.1 := by rw [← hu]; simp (disch := omega) only [r_si, r_uo]; exact e12
      have U6 : u.1 215 6 = nI 0 ∧ u.1 215 14 = nI (a_rd T N).1.1 ∧ u.1 215 15 = nI k := by rw [← hu]; refine ⟨?_, ?_, ?_⟩ <;> simp (disch := omega) only [r_si, r_us, r_uo]
      have W : ∀ c, c ≠ 215 → (c < 221 ∨ 226 ≤ c) → u.1 c = (am_si s 215 0 (nI 0)).1 c := fun c h1 h2 => by rw [U c h1, x4.1 c (by omega)]
      have W2 : ∀ c, c ≠ 215 → u.2 c = (am_si s 215 0 (nI 0)).2 c := fun c h1 => by rw [U2, x4.2.2.2 c h1]
      have PB : ∀ b Q, b < 4 → m_PV Q → r_PA b Q (am_si s 215 0 (nI 0)) → r_PA b Q u := fun b Q hb hQ hq => r_PA_eq (r_PA_4 (t := t) hb hQ hq x4.2.2.1 (x4.1 _ (by omega))) (fun c _ _ => U c (by omega))
      refine ⟨u, ?_, ⟨⟨U6.1, fun i => ?_⟩, ⟨U6.2.1, ?_⟩, PB 0 _ (by omega) v4 a3, fun j hj => ⟨?_, PB (1 + j) _ (by omega) (v5 j hj) (a4 j hj).2⟩, fun j hj => ⟨?_, fun q hq => ⟨?_, fun i hi => ?_⟩⟩⟩, r_F_tr m1.1 (fun c hc => ⟨W c (by omega) (by omega), W2 c (by omega)⟩)⟩
      · unfold fX9_march
        simp only [↓am_lq, b_lq]
        rw [x1]
        unfold fX9_isOver
        simp only [↓am_lq, b_lq, oI_q]
        have k12 : (am_si t 215 6 (nI 0)).1 215 12 = nI (a_rd T N).1.1 := by rw [r_si, r_uo _ _ (by omega)]; exact e12
        have k12' : (am_si (am_si t 215 6 (nI 0)) 215 14 (nI (a_rd T N).1.1)).1 215 12 = nI (a_rd T N).1.1 := by rw [r_si, r_uo _ _ (by omega)]; exact k12
        have k13 : (am_si (am_si t 215 6 (nI 0)) 215 14 (nI (a_rd T N).1.1)).1 215 13 = nI k := by simp (disch := omega) only [r_si, r_uo]; exact k2
        rw [k12, k12', if_neg ne, k13, hu, am_cq, if_neg (by rw [U0]; exact ne)]
      · rw [W _ (by omega) (by omega)]; exact a1.2 i
      · show u.1 215 15 = oI (a_rd T N).1.2.1
        rw [k1]; exact U6.2.2
      · rw [W _ (by omega) (by omega)]; exact (a4 j hj).1
      · rw [W _ (by omega) (by omega)]; exact (a5 j hj).1
      · rw [W _ (by omega) (by omega)]; exact ((a5 j hj).2 q hq).1
      · rw [W2 _ (by omega)]; exact ((a5 j hj).2 q hq).2 i hi
end RQ
