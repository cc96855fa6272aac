/-! FAULT, END, FEED, NEED, COUNT. -/
section MI
variable {M : m_M} {s t : AS} {P : m_P}
abbrev m_tp (M : m_M) (k : Nat) (T : Nat → Int32) : m_M := ((k, T), M.2)
theorem m_MV_tp {M : m_M} (h : m_MV M) {k : Nat} {T : Nat → Int32} (hk : k ≤ 800) : m_MV (m_tp M k T) := ⟨hk, h.2⟩
theorem c_I_tp (hV : m_MV M) (hI : c_I M s) {k : Nat} {T : Nat → Int32} (h1 : p_fr8 s t) (h2 : p_CT k T t) : c_I (m_tp M k T) t ∧ c_F s t := by
  have e1 : ∀ c, 0 < c → c ≠ 2 → t.1 c = s.1 c := fun c h0 hc => funext fun d => h1.2 c d ⟨hc, fun z => by omega⟩
  have e0 : ∀ d, d ≠ 1 → t.1 0 d = s.1 0 d := fun d hd => h1.2 0 d ⟨by omega, fun z => hd z.2⟩
  have e2 : ∀ c, t.2 c = s.2 c := fun c => by rw [h1.1]
  obtain ⟨⟨a1, a2, a3, a4, a5⟩, a6⟩ := hI
  obtain ⟨v1, v2, v3, v4, v5, v6⟩ := hV
  refine ⟨⟨⟨h2, ⟨?_, ?_⟩, ?_, fun j hj => ⟨?_, ?_⟩, fun j hj => ⟨?_, fun w hw => ⟨?_, ?_, fun i hi => ?_⟩⟩⟩, ?_⟩, fun c hc => ⟨e1 c (by omega) (by omega), e2 c⟩⟩
  · rw [e1 _ (by omega) (by omega)]; exact a2.1
  · rw [e1 _ (by omega) (by omega)]; exact a2.2
  · exact c_PA_eq a3 v4 (fun c _ _ => e1 c (by omega) (by omega)) (fun c _ _ => e1 c (by omega) (by omega))
  · rw [e1 _ (by omega) (by omega)]; exact (a4 j hj).1
  · exact c_PA_eq (a4 j hj).2 (v5 j hj) (fun c _ _ => e1 c (by omega) (by omega)) (fun c _ _ => e1 c (by omega) (by omega))
  · rw [e1 _ (by omega) (by omega)]; exact (a5 j hj).1
  · rw [e1 _ (by omega) (by omega)]; exact ((a5 j hj).2 w hw).1
  · rw [e1 _ (by omega) (by omega)]; exact ((a5 j hj).2 w hw).2.1
  · rw [e2]; exact ((a5 j hj).2 w hw).2.2 i hi
  · rw [e0 8 (by omega)]
    rcases a6 with q | q
    · exact .inl q
    · exact .inr ⟨q.1, ⟨c_WY_eq v4.1 q.2.1.1 (fun c _ _ => e1 c (by omega) (by omega)), c_GI_eq q.2.1.2 (fun c _ _ => e1 c (by omega) (by omega))⟩, q.2.2⟩
theorem r_I_tp (hI : r_I M s) {k : Nat} {T : Nat → Int32} (h1 : p_fr9 s t) (h2 : p_RT k T t) : r_I (m_tp M k T) t ∧ r_F s t := by
  have e1 : ∀ c, c ≠ 215 → c ≠ 220 → t.1 c = s.1 c := fun c h0 hc => funext fun d => h1.2 c d ⟨hc, fun z => h0 z.1⟩
  have e0 : ∀ d, d ≠ 6 → d ≠ 0 → t.1 215 d = s.1 215 d := fun d hd hd2 => h1.2 215 d ⟨by omega, fun z => by omega⟩
  have e2 : ∀ c, t.2 c = s.2 c := fun c => by rw [h1.1]
  obtain ⟨a1, a2, a3, a4, a5⟩ := hI
  refine ⟨⟨h2, ⟨?_, ?_⟩, ?_, fun j hj => ⟨?_, ?_⟩, fun j hj => ⟨?_, fun w hw => ⟨?_, fun i hi => ?_⟩⟩⟩, fun c hc => ⟨e1 c (by omega) (by omega), e2 c⟩⟩
  · rw [e0 _ (by omega) (by omega)]; exact a2.1
  · rw [e0 _ (by omega) (by omega)]; exact a2.2
  · exact r_PA_eq a3 (fun c h1 h2 => e1 c (by omega) (by omega))
  · rw [e1 _ (by omega) (by omega)]; exact (a4 j hj).1
  · exact r_PA_eq (a4 j hj).2 (fun c h1 h2 => e1 c (by omega) (by omega))
  · rw [e1 _ (by omega) (by omega)]; exact (a5 j hj).1
  · rw [e1 _ (by omega) (by omega)]; exact ((a5 j hj).2 w hw).1
  · rw [e2]; exact ((a5 j hj).2 w hw).2 i hi
theorem Q_fault (a : Int32) : m_OKr (fun s => fX8_fault s a) (fun s => fX9_fault s a) := m_okr_v (fun M => if a = 0 then nI M.2.1.1 else if a = 1 then oI M.2.1.2 else -1)
  (fun M s hV hI => by
    rw [p_fault8, hI.1.2.1.1, hI.1.2.1.2])
  (fun M s hV hI => by
    obtain ⟨I1, m1⟩ := r_0 hI
    refine ⟨_, ?_, I1, m1.1⟩
    rw [p_fault9]
    have e1 : (am_si s 215 0 0).1 215 14 = nI M.2.1.1 := I1.2.1.1
    have e2 : (am_si s 215 0 0).1 215 15 = oI M.2.1.2 := I1.2.1.2
    rw [e1, e2]
    rfl)
theorem Q_end (a : Int32) : m_OK (fun s => fX8_end s a) (fun s => fX9_end s a) := m_ok_c fun M hV => by
  by_cases h : 0 ≤ a ∧ a ≤ nI M.1.1
  · obtain ⟨j, hj, e⟩ := p_in_k hV.1 h
    refine ⟨m_tp M j M.1.2, a, m_MV_tp hV (by have := hV.1; omega), fun s hI => ?_, fun s hI => ?_⟩
    · obtain ⟨s1, h1, h2, h3⟩ := (p_end8 s a M.1.1 M.1.2 hV.1 hI.1.1).1 j hj e
      have := c_I_tp hV hI h3 h2
      exact ⟨s1, h1, this.1, this.2⟩
    · obtain ⟨s1, h1, h2, h3⟩ := (p_end9 s a M.1.1 M.1.2 hV.1 hI.1).1 j hj e
      have := r_I_tp hI h3 h2
      exact ⟨s1, h1, this.1, this.2⟩
  · exact ⟨M, -1, hV, fun s hI => ⟨s, (p_end8 s a M.1.1 M.1.2 hV.1 hI.1.1).2 h, hI, c_F_refl s⟩, fun s hI => ⟨_, (p_end9 s a M.1.1 M.1.2 hV.1 hI.1).2 h, (r_0 hI).1, (r_0 hI).2.1⟩⟩
theorem Q_feed (a b c d e : Int32) : m_OK (fun s => fX8_feed s a b c d e) (fun s => fX9_feed s a b c d e) := m_ok_c fun M hV => by
  by_cases h : M.1.1 ≤ 780
  · refine ⟨m_tp M (M.1.1 + 20) (p_T20 a b c d e M.1.1 M.1.2), nI (M.1.1 + 20), m_MV_tp hV (by omega), fun s hI => ?_, fun s hI => ?_⟩
    · obtain ⟨s1, h1, h2, h3⟩ := (p_feed8 s a b c d e M.1.1 M.1.2 hV.1 hI.1.1).1 h
      have := c_I_tp hV hI h3 h2
      exact ⟨s1, h1, this.1, this.2⟩
    · obtain ⟨s1, h1, h2, h3⟩ := (p_feed9 s a b c d e M.1.1 M.1.2 hV.1 hI.1).1 h
      have := r_I_tp hI h3 h2
      exact ⟨s1, h1, this.1, this.2⟩
  · exact ⟨M, -1, hV, fun s hI => ⟨s, (p_feed8 s a b c d e M.1.1 M.1.2 hV.1 hI.1.1).2 (by omega), hI, c_F_refl s⟩, fun s hI => ⟨_, (p_feed9 s a b c d e M.1.1 M.1.2 hV.1 hI.1).2 (by omega), (r_0 hI).1, (r_0 hI).2.1⟩⟩
/-- other needs -/
abbrev m_nd (P : m_P) (p n : Nat) : m_P := ((P.1.1, P.1.2.1, (fun q j => if q = p ∧ j = 3 then n else P.1.2.2.1 q j), P.1.2.2.2), P.2)
theorem m_PV_nd (h : m_PV P) {p n : Nat} (hn : n ≤ 9) : m_PV (m_nd P p n) := by
  obtain ⟨⟨v0, v4, v5, vr, vp, vg⟩, h40, hk⟩ := h
  refine ⟨⟨v0, v4, v5, vr, fun q hq => ?_, vg⟩, h40, hk⟩
  have := vp q hq
  have hq : q < P.1.1 5 := hq
  refine ⟨?_, ?_, ?_, ?_, ?_, ?_⟩
  · show (if q = p ∧ 0 = 3 then n else P.1.2.2.1 q 0) < P.1.1 0
    rw [if_neg (by omega)]; exact this.1
  · show (if q = p ∧ 1 = 3 then n else P.1.2.2.1 q 1) < P.1.1 0
    rw [if_neg (by omega)]; exact this.2.1
  · show (if q = p ∧ 2 = 3 then n else P.1.2.2.1 q 2) < 6
    rw [if_neg (by omega)]; exact this.2.2.1
  · show (if q = p ∧ 3 = 3 then n else P.1.2.2.1 q 3) ≤ 9
    split
    · exact hn
    · exact this.2.2.2.1
  · show 1 ≤ (if q = p ∧ 4 = 3 then n else P.1.2.2.1 q 4)
    rw [if_neg (by omega)]; exact this.2.2.2.2.1
  · show (if q = p ∧ 4 = 3 then n else P.1.2.2.1 q 4) ≤ 99
    rw [if_neg (by omega)]; exact this.2.2.2.2.2
theorem Q_need (a b : Int32) : m_OK (fun s => fX8_need s a b) (fun s => fX9_need s a b) := m_ok_c fun M hV => by
  have hP := m_MV_P hV
  have v5 := hP.1.2.2.1
  have h40 := hP.2.1
  by_cases h1 : (m_in a (M.2.2.1.1.1 5) && m_in b 10) = true
  · simp only [Bool.and_eq_true] at h1
    obtain ⟨h2, h3⟩ := h1
    have h2' := h2
    have h3' := h3
    obtain ⟨k, hk, rfl⟩ := m_in_k (by omega) h2
    obtain ⟨n, hn, rfl⟩ := m_in_k (by omega) h3
    by_cases h0 : M.2.2.1.2.1 = 0
    · refine ⟨m_set M (m_nd M.2.2.1 k n), nI (M.2.2.1.1.2.2.1 k 3), m_MV_set hV (m_PV_nd hP (by omega)), fun s hI => ?_, fun s hI => ?_⟩
      · obtain ⟨p1, p2, p3, p4, p5⟩ := hI.1.2.2.1
        have key : c_I (m_set M (m_nd M.2.2.1 k n)) (am_si (am_si s (38 + k) 3 (nI n)) 0 8 (nI 0)) ∧ c_F s (am_si (am_si s (38 + k) 3 (nI n)) 0 8 (nI 0)) := by
          refine c_I_setP hV hI (fun c hc => ?_) (fun j hj => ?_) (fun c => rfl) ?_ ⟨⟨fun j hj => ?_, fun r j hr hj => ?_, fun p j hp hj => ?_, fun j hj => ?_, ?_⟩, ?_, ?_, ?_, fun j hj => ?_⟩
          · simp (disch := omega) only [r_so]
          · simp (disch := omega) only [r_si, r_so, r_uo]
          · simp (disch := omega) only [r_si, r_us]
          · simp (disch := omega) only [r_so]; exact p1.1 j hj
          · have v4 := hP.1.2.1
            have hr : r < M.2.2.1.1.1 4 := hr
            simp (disch := omega) only [r_so]; exact p1.2.1 r j hr hj
          · have hp : p < M.2.2.1.1.1 5 := hp
            rw [r_so _ _ _ (by omega)]
            dsimp only
            by_cases e : p = k
            · subst e
              rw [show 25 + 12 + 1 + p = 38 + p from rfl, r_si]
              by_cases e2 : j = 3
              · rw [e2, r_us, if_pos ⟨rfl, rfl⟩]
              · rw [r_uo _ _ e2, if_neg (fun z => e2 z.2)]
                exact p1.2.2.1 p j hp hj
            · rw [r_so _ _ _ (by omega), if_neg (fun z => e z.1)]
              exact p1.2.2.1 p j hp hj
          · simp (disch := omega) only [r_so]; exact p1.2.2.2.1 j hj
          · simp (disch := omega) only [r_so]; exact p1.2.2.2.2
          · simp (disch := omega) only [r_so]; exact p2
          · simp (disch := omega) only [r_so]; exact p3
          · simp (disch := omega) only [r_so]; exact p4
          · simp (disch := omega) only [r_so]; exact p5 j hj
        refine ⟨_, ?_, key.1, key.2⟩
        have e3 := T_pe p1 hk (show 3 < 5 by omega)
        unfold fX8_need
        simp (disch := omega) only [g8_person hI.1, ↓am_lq, b_lq, am_rq, m_if0, h2', if_true, b_lt, b_le, b_t, am_g_t, if_neg, if_false, if_pos, p2, h0, e3]
      · obtain ⟨I1, m1⟩ := r_0 hI
        have h := I1.2.2.1
        obtain ⟨a1, a2, a3, a4, a5, a6, a7⟩ := h
        have key : r_I (m_set M (m_nd M.2.2.1 k n)) (am_si (am_si s 215 0 (nI 0)) 224 (5 * k + 3) (nI n)) ∧ r_F (am_si s 215 0 (nI 0)) (am_si (am_si s 215 0 (nI 0)) 224 (5 * k + 3) (nI n)) := by
          refine r_I_setP I1 (fun c hc => ?_) (fun c hc => ?_) (fun c h1 h2 j hj => ?_) (fun k h1 h2 => ?_) (fun c hc => rfl) ⟨fun j hj => ?_, fun r j hr hj => ?_, fun p j hp hj => ?_, fun j hj => ?_, ?_, ?_, fun j hj => ?_⟩
          · rw [r_so _ _ _ (by omega)]
          · rw [r_so _ _ _ (by omega)]
          · rw [am_si_1]
            unfold r_bl at hj
            by_cases c2 : c = 224
            · subst c2
              have hj : 40 ≤ j := hj
              rw [if_pos rfl, if_neg (by omega)]
            · rw [if_neg c2]
          · rw [r_so _ _ _ (by omega)]
          · rw [r_so _ _ _ (by omega)]; exact a1 j hj
          · rw [r_so _ _ _ (by omega)]; exact a2 r j hr hj
          · have hp : p < M.2.2.1.1.1 5 := hp
            rw [r_si]
            dsimp only
            by_cases e : p = k ∧ j = 3
            · rw [if_pos e, e.1, e.2, show 40 * 0 + (5 * k + 3) = 5 * k + 3 by omega, r_us]
            · rw [if_neg e, r_uo _ _ (by omega)]
              exact a3 p j hp hj
          · rw [r_so _ _ _ (by omega)]; exact a4 j hj
          · rw [r_so _ _ _ (by omega)]; exact a5
          · rw [r_so _ _ _ (by omega)]; exact a6
          · rw [r_so _ _ _ (by omega)]; exact a7 j hj
        refine ⟨_, ?_, key.1, r_F_tr m1.1 key.2⟩
        have e3 := (r_PA_PL I1.2.2.1).2.2.1 k 3 hk (by omega)
        simp only [Nat.mul_zero, Nat.zero_add] at a6
        unfold fX9_need
        simp (disch := omega) only [↓am_lq, b_lq, g9_person I1 hV, am_rq, m_if0, h2', if_true, r_in (m := 9) (x := 9) (by omega) (by decide), m_in_n (show n < 9 + 1 by omega), b_lt, b_le, b_t, b_mul, b_add, am_g_t, if_pos, a6, h0, e3]
    · refine ⟨M, -nI 5, hV, fun s hI => ⟨s, ?_, hI, c_F_refl s⟩, fun s hI => ⟨_, ?_, (r_0 hI).1, (r_0 hI).2.1⟩⟩
      · have p2 : s.1 47 0 = nI M.2.2.1.2.1 := hI.1.2.2.1.2.1
        unfold fX8_need
        simp (disch := omega) only [g8_person hI.1, ↓am_lq, b_lq, am_rq, m_if0, h2', if_true, b_lt, b_le, if_neg, if_false, if_pos, p2]
      · have I1 := (r_0 hI).1
        have e6 : (am_si s 215 0 (nI 0)).1 222 6 = nI M.2.2.1.2.1 := I1.2.2.1.2.2.2.2.2.1
        unfold fX9_need
        simp (disch := omega) only [↓am_lq, b_lq, g9_person I1 hV, am_rq, m_if0, h2', if_true, r_in (m := 9) (x := 9) (by omega) (by decide), m_in_n (show n < 9 + 1 by omega), b_lt, b_le, b_t, am_g_t, if_neg, if_false, e6]
  · refine ⟨M, -nI 2, hV, fun s hI => ⟨s, ?_, hI, c_F_refl s⟩, fun s hI => ⟨_, ?_, (r_0 hI).1, (r_0 hI).2.1⟩⟩
    · unfold fX8_need
      simp (disch := omega) only [g8_person hI.1, ↓am_lq, b_lq, am_rq, m_if0]
      rw [m_if2 (by omega)]
      cases d2 : m_in a (M.2.2.1.1.1 5) with
      | false => rfl
      | true =>
        cases d3 : m_in b 10 with
        | false => rfl
        | true => exact absurd (by rw [d2, d3]; rfl) h1
    · have I1 := (r_0 hI).1
      unfold fX9_need
      simp (disch := omega) only [↓am_lq, b_lq, g9_person I1 hV, am_rq, m_if0, r_in (m := 9) (x := 9) (by omega) (by decide)]
      cases d2 : m_in a (M.2.2.1.1.1 5) with
      | false => rfl
      | true =>
        cases d3 : m_in b 10 with
        | false => rfl
        | true => exact absurd (by rw [d2, d3]; rfl) h1
def m_kp (M : m_M) : Nat := m_sum (fun j => (M.2.2.2.2 j).1.isSome.toNat) 4
theorem Q_count (a : Int32) : m_OKr (fun s => fX8_count s a) (fun s => fX9_count s a) := m_okr_v (fun M => if a = 7 then nI (M.2.2.1.1.1 6) else if a = 8 then nI M.1.1 else if a = 9 then nI (m_kp M) else if m_in a 6 then nI (M.2.2.1.1.1 a.toNatClampNeg) else if a = 6 then nI M.2.2.1.2.1 else -1)
  (fun M s hV hI => by
    have p1 := hI.1.2.2.1.1.1
    have e0 : s.1 25 1 = _ := p1 0 (by omega)
    have e1 : s.1 25 2 = _ := p1 1 (by omega)
    have e2 : s.1 25 3 = _ := p1 2 (by omega)
    have e3 : s.1 25 4 = _ := p1 3 (by omega)
    have e4 : s.1 25 5 = _ := p1 4 (by omega)
    have e5 : s.1 25 6 = _ := p1 5 (by omega)
    have e6 : s.1 47 0 = _ := hI.1.2.2.1.2.1
    have e7 : s.1 25 0 = _ := hI.1.2.2.1.1.2.2.2.2
    have e8 : s.1 0 1 = _ := hI.1.1.1
    have e9 : fX8_rowsKept s = some (nI (m_kp M)) := by
      unfold fX8_rowsKept m_kp
      simp only [b_lq]
      refine sp_sum (fun f x i => fX8_rowsKept_L4 s f x i) 4 _ (fun x => some x) (fun f i m hi => ?_) (fun f m => ?_) am_fu (am_fu_gt (by omega))
      · have e := (hI.1.2.2.2.2 i hi).1
        rw [fX8_rowsKept_L4]
        simp (disch := omega) only [↓am_lq, b_lq, b_le, b_lt, b_t, am_g_t, e, b_b0, if_neg, if_false, b_add]
        cases (M.2.2.2.2 i).1.isSome with
        | false => rfl
        | true => rfl
      · rw [fX8_rowsKept_L4]
        simp (disch := omega) only [b_lq, b_le, if_pos, if_true]
    unfold fX8_count
    simp only [b_lq, oI_q, e0, e1, e2, e3, e4, e5, e6, e7, e8, e9, am_rq]
    by_cases h : m_in a 10 = true
    · obtain ⟨k, hk, rfl⟩ := m_in_k (by omega) h
      have : k = 0 ∨ k = 1 ∨ k = 2 ∨ k = 3 ∨ k = 4 ∨ k = 5 ∨ k = 6 ∨ k = 7 ∨ k = 8 ∨ k = 9 := by omega
      rcases this with rfl | rfl | rfl | rfl | rfl | rfl | rfl | rfl | rfl | rfl <;> rfl
    · have ne : ∀ k, k < 10 → (a = nI k) = False := fun k hk => eq_false (fun z => h (by rw [z]; exact m_in_n hk (by omega)))
      have h6 : m_in a 6 = false := by
        cases hh : m_in a 6 with
        | false => rfl
        | true =>
          obtain ⟨k, hk, e⟩ := m_in_k (by omega) hh
          have := ne k (by omega)
          rw [e] at this
          exact absurd rfl this.mp
      simp (disch := omega) only [ne, h6, if_false, Bool.false_eq_true])
  (fun M s hV hI => by
    obtain ⟨I1, m1⟩ := r_0 hI
    have h := I1.2.2.1
    obtain ⟨a1, a2, a3, a4, a5, a6, a7⟩ := h
    simp only [Nat.mul_zero, Nat.zero_add] at a1 a6
    have e8 : (am_si s 215 0 (nI 0)).1 215 6 = nI M.1.1 := I1.1.1
    have e9 : fX9_count_L66 (am_si s 215 0 (nI 0)) am_fu (nI 0) (nI 0) = some (am_si s 215 0 (nI 0), nI (m_kp M)) := by
      unfold m_kp
      refine sp_sum (fun f x i => fX9_count_L66 (am_si s 215 0 (nI 0)) f x i) 4 _ (fun x => some (am_si s 215 0 (nI 0), x)) (fun f i m hi => ?_) (fun f m => ?_) am_fu (am_fu_gt (by omega))
      · have e := (I1.2.2.2.2 i hi).1
        have hw := (hV.2.2.2.2.2 i hi).2
        rw [fX9_count_L66]
        cases ho : (M.2.2.2.2 i).1 with
        | none =>
          rw [ho] at e
          simp (disch := omega) only [↓am_lq, b_lq, oI_q, b_le, b_lt, b_t, am_g_t, e, if_neg, if_false, if_true, b_add]
          rfl
        | some w =>
          have := hw w ho
          rw [ho, oI_s] at e
          simp (disch := omega) only [↓am_lq, b_lq, oI_q, b_le, b_lt, b_t, am_g_t, e, b_nn, if_neg, if_false, b_add]
          rfl
      · rw [fX9_count_L66]
        simp (disch := omega) only [b_lq, b_le, if_pos, if_true]
    refine ⟨_, ?_, I1, m1.1⟩
    unfold fX9_count
    simp (disch := omega) only [↓am_lq, b_lq, oI_q, r_in (m := 6) (x := 6) (by omega) (by decide), am_rq, m_if0, b_lt, b_t, am_g_t, a5, e8, e9]
    cases h : m_in a 7 with
    | true =>
      obtain ⟨k, hk, rfl⟩ := m_in_k (by omega) h
      have hh : (am_si s 215 0 (nI 0)).1 222 k = nI (if k < 6 then M.2.2.1.1.1 k else M.2.2.1.2.1) := by
        by_cases c : k < 6
        · rw [if_pos c]; exact a1 k c
        · rw [if_neg c, show k = 6 by omega]; exact a6
      simp (disch := omega) only [if_true, b_lt, b_t, am_g_t, hh, b_eq]
      rw [if_neg (by omega : ¬ k = 7), if_neg (by omega : ¬ k = 8), if_neg (by omega : ¬ k = 9)]
      by_cases c : k < 6
      · rw [if_pos c, m_in_n c (by omega), if_pos rfl]
      · rw [if_neg c, if_neg, if_pos (by omega : k = 6)]
        intro z
        obtain ⟨k', hk', e⟩ := m_in_k (by omega) z
        rw [b_eq (by omega) (by omega)] at e
        omega
    | false =>
      have ne : ∀ k, k < 7 → (a = nI k) = False := fun k hk => eq_false (fun z => by rw [z, m_in_n hk (by omega)] at h; cases h)
      have h6 : m_in a 6 = false := by
        cases hh : m_in a 6 with
        | false => rfl
        | true =>
          obtain ⟨k, hk, e⟩ := m_in_k (by omega) hh
          have := ne k (by omega)
          rw [e] at this
          exact absurd rfl this.mp
      simp (disch := omega) only [ne, h6, if_false, Bool.false_eq_true]
      by_cases c7 : a = nI 7
      · rw [if_pos c7, if_pos c7]
      · rw [if_neg c7, if_neg c7]
        by_cases c8 : a = nI 8
        · rw [if_pos c8, if_pos c8]
        · rw [if_neg c8, if_neg c8]
          by_cases c9 : a = nI 9
          · rw [if_pos c9, if_pos c9]
          · rw [if_neg c9, if_neg c9])
end MI
