/-! THE TEXT: the reference reads it all. -/
section RM
variable {f : Nat → Int32} {n : Nat} {z : a_Z} {s t u : AS} {D : w_D}
theorem r_road (hn : n ≤ 800) (h : r_ST f n (a_wd f n 5 z) s) (hP : r_DL D s) (h0 : 1 ≤ D.1 0) (h7 : D.1 0 ≤ 7) (h4 : D.1 4 < 10) : ∃ t, fX9_roadLine s = some (t, ()) ∧ r_ST f n (a_r3 f n z D).1 t ∧ ((a_r3 f n z D).1.1 = 0 → r_DL (a_rD D (a_r1 f n z D).2 (a_r2 f n z D).2 (a_r3 f n z D).2) t) ∧ r_fL s t := by
  obtain ⟨c1, c2, c3, c4, c5, c6⟩ := id hP
  have e0 : s.1 222 28 = nI (D.1 0) := c1 0 (by omega)
  have e4 : s.1 222 32 = nI (D.1 4) := c1 4 (by omega)
  obtain ⟨t1, v1, x1, x2, x3, x4, x5⟩ := r_place hn h h0 h7 e0 (fun _ => rfl)
  have k1 : (a_r1 f n z D).1.1 = 0 → v1 = (a_r1 f n z D).2 := fun e => x5 (a_nm_0 e).1
  have S1 : r_ST f n (a_r1 f n z D).1 (am_si t1 223 (3 * (40 + D.1 4)) (nI v1)) := r_ST_o x2 (by omega) (by omega)
  obtain ⟨t2, y1, y2, y3⟩ := r_asks hn S1 (q := 6) (by omega)
  have f0 : t2.1 222 28 = nI (D.1 0) := by rw [y3.1 _ (by omega), r_so _ _ _ (by omega), x3.1 _ (by omega)]; exact e0
  have fv : t2.1 223 (3 * (40 + D.1 4)) = nI v1 := by rw [y3.1 _ (by omega), r_si, r_us]
  obtain ⟨t3, v2, u1, u2, u3, u4, u5⟩ := r_mid (w1 := (a_r1 f n z D).2) hn y2 h0 h7 f0 (show 3 * (40 + D.1 4) < 150 by omega) fv x4 (fun e => k1 (a_wd_0 e).1)
  have u2 : r_ST f n (a_r4 f n z D) t3 := u2
  have u5 : (a_r4 f n z D).1 = 0 → v2 = (a_r2 f n z D).2 := u5
  have S3 : r_ST f n (a_r4 f n z D) (am_si t3 223 (3 * (40 + D.1 4) + 1) (nI v2)) := r_ST_o u2 (by omega) (by omega)
  obtain ⟨t4, v3, p1, p2, p3, p4, p5, p6⟩ := r_numw hn S3 (q := 7) (lo := 1) (hi := 99) (by omega) (by omega) (by omega)
  have k3 : (a_r3 f n z D).1.1 = 0 → v3 = (a_r3 f n z D).2 := fun e => p6 (a_nm_0 e).1
  have S4 : r_ST f n (a_r3 f n z D).1 (am_si (am_si t4 223 (3 * (40 + D.1 4) + 2) (nI v3)) 222 32 (nI (D.1 4 + 1))) := r_ST_o (r_ST_o p2 (by omega) (by omega)) (by omega) (by omega)
  have E0 : r_e1 (am_si (am_si (am_si s 223 (3 * (40 + D.1 4)) (nI v1)) 223 (3 * (40 + D.1 4) + 1) (nI v2)) 223 (3 * (40 + D.1 4) + 2) (nI v3)) (am_si t4 223 (3 * (40 + D.1 4) + 2) (nI v3)) :=
    r_e1_si (r_e1_tr (r_e1_si (r_e1_tr (r_e1_si (r_e1_f x3) _ _ _) (r_e1_tr (r_e1_f y3) (r_e1_f u3))) _ _ _) (r_e1_f p3)) _ _ _
  have E := r_e1_si E0 222 32 (nI (D.1 4 + 1))
  have e5 : (am_si t4 223 (3 * (40 + D.1 4) + 2) (nI v3)).1 222 32 = nI (D.1 4) := by
    rw [E0 _ (by omega)]
    simp (disch := omega) only [r_so]
    exact e4
  have b3 : r_bl 223 * 4 = 120 := by decide
  have b2 : r_bl 222 * 4 = 28 := by decide
  have m : ∀ {k : Nat} {x y : AS} (v : Int32), 120 ≤ k → r_fL x y → r_fL x (am_si y 223 k v) := fun v hk hh => r_fL_si hh v (by omega) (by omega) (by omega)
  have h5 : fX9_hasRead s (nI 4) = some (nI (D.1 4)) := r_has 4 (by omega) e4
  have h6 : fX9_hasRead (am_si t4 223 (3 * (40 + D.1 4) + 2) (nI v3)) (nI 4) = some (nI (D.1 4)) := r_has 4 (by omega) e5
  have l4 : fX9_tells (am_si t4 223 (3 * (40 + D.1 4) + 2) (nI v3)) (nI 4) (nI (D.1 4 + 1)) = some (am_si (am_si t4 223 (3 * (40 + D.1 4) + 2) (nI v3)) 222 32 (nI (D.1 4 + 1)), ()) := r_tells 4 _ (by omega)
  have y1 : fX9_asks (am_si t1 223 (3 * (40 + D.1 4)) (nI v1)) (nJ 555) = _ := y1
  have p1 : fX9_number_ (am_si t3 223 (3 * (40 + D.1 4) + 1) (nI v2)) (nJ 247516) (nI 1) (nI 99) = _ := p1
  refine ⟨_, ?_, S4, fun e => ?_, r_fL_si (m _ (by omega) (r_fL_tr (m _ (by omega) (r_fL_tr (m _ (by omega) (r_f3L x3)) (r_fL_tr (r_f3L y3) (r_f3L u3)))) (r_f3L p3))) _ (by omega) (by omega) (by omega)⟩
  · unfold fX9_roadLine
    simp only [↓am_lq, b_lq, j_lq]
    rw [h5, am_rq]
    simp only [↓am_lq, b_add, b_mul]
    rw [x1, am_cq, am_g_t (b_ok2 (by omega) (by omega))]
    try simp only [↓am_lq]
    rw [b_t (by omega), y1, am_cq]
    rw [show (nI (3 * (40 + D.1 4))).toNatClampNeg = 3 * (40 + D.1 4) from b_t (by omega)] at u1
    rw [u1, am_g_t (b_ok2 (by omega) (by omega))]
    try simp only [↓am_lq]
    rw [b_t (by omega), p1, am_cq, am_g_t (b_ok2 (by omega) (by omega))]
    try simp only [↓am_lq]
    rw [b_t (by omega), h6, am_rq, b_add, l4, am_cq]
  · have g3 := (a_wd_0 (a_nm_0 (lo := 1) (hi := 99) e).1).1
    have k2 := u5 g3
    have g1 : (a_r1 f n z D).1.1 = 0 := by
      have := (a_gr_tr (a_gr_wn (f := f) (n := n) (z := (a_r1 f n z D).1) hn 6 0 (D.1 0 - 1)) (fun e => ⟨e, Nat.le_refl _, rfl⟩ : a_gr (a_r2 f n z D).1 (a_r2 f n z D).1))
      refine (this ?_).1
      have g3' := g3
      unfold a_r4 at g3'
      split at g3'
      · exact (a_fl_0 (by omega) g3').elim
      · exact g3'
    have k1 := k1 g1
    have k3 := k3 e
    unfold a_rD
    refine ⟨fun j hj => ?_, fun r j hr hj => ?_, fun p j hp hj => ?_, fun k hk => ?_, ?_, ?_⟩
    · show _ = nI (w_u D.1 4 (D.1 4 + 1) j)
      rw [E _ (by omega), r_si]
      by_cases k : j = 4
      · subst k; rw [w_us]; exact r_us _ _ _
      · rw [w_uo _ _ k, r_uo _ _ (by omega)]
        simp (disch := omega) only [r_so]
        exact c1 j hj
    · have hr : r < w_u D.1 4 (D.1 4 + 1) 4 := hr
      rw [w_us] at hr
      rw [E _ (by omega), r_so _ _ _ (by omega), r_si, r_si, r_si]
      dsimp only
      by_cases k : r = D.1 4
      · subst k
        rw [if_pos rfl, ← k1, ← k2, ← k3]
        rcases (by omega : j = 0 ∨ j = 1 ∨ j = 2) with e | e | e <;> subst e
        · rw [r_uo _ _ (by omega), r_uo _ _ (by omega), show 120 + (3 * D.1 4 + 0) = 3 * (40 + D.1 4) by omega, r_us]
          simp (disch := omega) only [if_pos, if_neg, if_true]
        · rw [r_uo _ _ (by omega), show 120 + (3 * D.1 4 + 1) = 3 * (40 + D.1 4) + 1 by omega, r_us]
          simp (disch := omega) only [if_pos, if_neg, if_true]
        · rw [show 120 + (3 * D.1 4 + 2) = 3 * (40 + D.1 4) + 2 by omega, r_us]
          simp (disch := omega) only [if_pos, if_neg, if_true]
      · rw [if_neg k, r_uo _ _ (by omega), r_uo _ _ (by omega), r_uo _ _ (by omega)]
        exact c2 r j (by omega) hj
    · have hp : p < D.1 5 := hp
      rw [E _ (by omega)]
      simp (disch := omega) only [r_so]
      exact c3 p j hp hj
    · rw [E _ (by omega)]
      simp (disch := omega) only [r_so]
      exact c4 k hk
    · rw [E _ (by omega)]
      simp (disch := omega) only [r_so]
      exact c5
    · rw [E _ (by omega), r_si, r_uo _ _ (by omega)]
      simp (disch := omega) only [r_so]
      exact c6
theorem r_pers (hn : n ≤ 800) (h : r_ST f n (a_wd f n 8 z) s) (hP : r_DL D s) (h0 : 1 ≤ D.1 0) (h7 : D.1 0 ≤ 7) (h5 : D.1 5 < 8) : ∃ t, fX9_personLine s = some (t, ()) ∧ r_ST f n (a_p5 f n z D).1 t ∧ ((a_p5 f n z D).1.1 = 0 → r_DL (a_pD D (a_p1 f n z D).2 (a_p2 f n z D).2 (a_p3 f n z D).2 (a_p4 f n z D).2 (a_p5 f n z D).2) t) ∧ r_fL s t := by
  obtain ⟨c1, c2, c3, c4, c5, c6⟩ := id hP
  have e0 : s.1 222 28 = nI (D.1 0) := c1 0 (by omega)
  have e5 : s.1 222 33 = nI (D.1 5) := c1 5 (by omega)
  obtain ⟨t0, z1, z2, z3⟩ := r_asks hn h (q := 9) (by omega)
  obtain ⟨t1, v1, x1, x2, x3, x4, x5⟩ := r_place hn z2 h0 h7 (by rw [z3.1 _ (by omega)]; exact e0) (fun _ => rfl)
  have k1 : (a_p1 f n z D).1.1 = 0 → v1 = (a_p1 f n z D).2 := fun e => x5 (a_nm_0 e).1
  have S1 : r_ST f n (a_p1 f n z D).1 (am_si t1 224 (5 * (32 + D.1 5)) (nI v1)) := r_ST_o x2 (by omega) (by omega)
  obtain ⟨t2, y1, y2, y3⟩ := r_asks hn S1 (q := 10) (by omega)
  obtain ⟨t3, v2, u1, u2, u3, u4, u5⟩ := r_place hn y2 h0 h7 (by rw [y3.1 _ (by omega), r_so _ _ _ (by omega), x3.1 _ (by omega), z3.1 _ (by omega)]; exact e0) (fun _ => rfl)
  have k2 : (a_p2 f n z D).1.1 = 0 → v2 = (a_p2 f n z D).2 := fun e => u5 (a_nm_0 e).1
  have S3 : r_ST f n (a_p2 f n z D).1 (am_si t3 224 (5 * (32 + D.1 5) + 1) (nI v2)) := r_ST_o u2 (by omega) (by omega)
  obtain ⟨t4, v3, p1, p2, p3, p4, p5, p6⟩ := r_numw hn S3 (q := 11) (lo := 0) (hi := 5) (by omega) (by omega) (by omega)
  have k3 : (a_p3 f n z D).1.1 = 0 → v3 = (a_p3 f n z D).2 := fun e => p6 (a_nm_0 e).1
  have S4 : r_ST f n (a_p3 f n z D).1 (am_si t4 224 (5 * (32 + D.1 5) + 2) (nI v3)) := r_ST_o p2 (by omega) (by omega)
  obtain ⟨t5, v4, q1, q2, q3, q4, q5, q6⟩ := r_numw hn S4 (q := 12) (lo := 0) (hi := 9) (by omega) (by omega) (by omega)
  have k4 : (a_p4 f n z D).1.1 = 0 → v4 = (a_p4 f n z D).2 := fun e => q6 (a_nm_0 e).1
  have S5 : r_ST f n (a_p4 f n z D).1 (am_si t5 224 (5 * (32 + D.1 5) + 3) (nI v4)) := r_ST_o q2 (by omega) (by omega)
  obtain ⟨t6, v5, w1, w2, w3, w4, w5, w6⟩ := r_numw hn S5 (q := 13) (lo := 1) (hi := 99) (by omega) (by omega) (by omega)
  have k5 : (a_p5 f n z D).1.1 = 0 → v5 = (a_p5 f n z D).2 := fun e => w6 (a_nm_0 e).1
  have S6 : r_ST f n (a_p5 f n z D).1 (am_si (am_si t6 224 (5 * (32 + D.1 5) + 4) (nI v5)) 222 33 (nI (D.1 5 + 1))) := r_ST_o (r_ST_o w2 (by omega) (by omega)) (by omega) (by omega)
  have E0 : r_e1 (am_si (am_si (am_si (am_si (am_si s 224 (5 * (32 + D.1 5)) (nI v1)) 224 (5 * (32 + D.1 5) + 1) (nI v2)) 224 (5 * (32 + D.1 5) + 2) (nI v3)) 224 (5 * (32 + D.1 5) + 3) (nI v4)) 224 (5 * (32 + D.1 5) + 4) (nI v5)) (am_si t6 224 (5 * (32 + D.1 5) + 4) (nI v5)) :=
    r_e1_si (r_e1_tr (r_e1_si (r_e1_tr (r_e1_si (r_e1_tr (r_e1_si (r_e1_tr (r_e1_si (r_e1_tr (r_e1_f z3) (r_e1_f x3)) _ _ _) (r_e1_tr (r_e1_f y3) (r_e1_f u3))) _ _ _) (r_e1_f p3)) _ _ _) (r_e1_f q3)) _ _ _) (r_e1_f w3)) _ _ _
  have E := r_e1_si E0 222 33 (nI (D.1 5 + 1))
  have e6 : (am_si t6 224 (5 * (32 + D.1 5) + 4) (nI v5)).1 222 33 = nI (D.1 5) := by
    rw [E0 _ (by omega)]
    simp (disch := omega) only [r_so]
    exact e5
  have b3 : r_bl 224 * 4 = 160 := by decide
  have b2 : r_bl 222 * 4 = 28 := by decide
  have m : ∀ {k : Nat} {x y : AS} (v : Int32), 160 ≤ k → r_fL x y → r_fL x (am_si y 224 k v) := fun v hk hh => r_fL_si hh v (by omega) (by omega) (by omega)
  have h5' : fX9_hasRead s (nI 5) = some (nI (D.1 5)) := r_has 5 (by omega) e5
  have h6' : fX9_hasRead (am_si t6 224 (5 * (32 + D.1 5) + 4) (nI v5)) (nI 5) = some (nI (D.1 5)) := r_has 5 (by omega) e6
  have l5 : fX9_tells (am_si t6 224 (5 * (32 + D.1 5) + 4) (nI v5)) (nI 5) (nI (D.1 5 + 1)) = some (am_si (am_si t6 224 (5 * (32 + D.1 5) + 4) (nI v5)) 222 33 (nI (D.1 5 + 1)), ()) := r_tells 5 _ (by omega)
  have z1 : fX9_asks s (nJ 47) = _ := z1
  have y1 : fX9_asks (am_si t1 224 (5 * (32 + D.1 5)) (nI v1)) (nJ 12253591) = _ := y1
  have p1 : fX9_number_ (am_si t3 224 (5 * (32 + D.1 5) + 1) (nI v2)) (nJ 260971484) (nI 0) (nI 5) = _ := p1
  have q1 : fX9_number_ (am_si t4 224 (5 * (32 + D.1 5) + 2) (nI v3)) (nJ 7542361) (nI 0) (nI 9) = _ := q1
  have w1 : fX9_number_ (am_si t5 224 (5 * (32 + D.1 5) + 3) (nI v4)) (nJ 1359346) (nI 1) (nI 99) = _ := w1
  refine ⟨_, ?_, S6, fun e => ?_, r_fL_si (m _ (by omega) (r_fL_tr (m _ (by omega) (r_fL_tr (m _ (by omega) (r_fL_tr (m _ (by omega) (r_fL_tr (m _ (by omega) (r_fL_tr (r_f3L z3) (r_f3L x3))) (r_fL_tr (r_f3L y3) (r_f3L u3)))) (r_f3L p3))) (r_f3L q3))) (r_f3L w3))) _ (by omega) (by omega) (by omega)⟩
  · unfold fX9_personLine
    simp only [↓am_lq, b_lq, j_lq]
    rw [h5', am_rq]
    simp only [↓am_lq, b_add, b_mul]
    rw [z1, am_cq, x1, am_cq, am_g_t (b_ok2 (by omega) (by omega))]
    try simp only [↓am_lq]
    rw [b_t (by omega), y1, am_cq, u1, am_cq, am_g_t (b_ok2 (by omega) (by omega))]
    try simp only [↓am_lq]
    rw [b_t (by omega), p1, am_cq, am_g_t (b_ok2 (by omega) (by omega))]
    try simp only [↓am_lq]
    rw [b_t (by omega), q1, am_cq, am_g_t (b_ok2 (by omega) (by omega))]
    try simp only [↓am_lq]
    rw [b_t (by omega), w1, am_cq, am_g_t (b_ok2 (by omega) (by omega))]
    try simp only [↓am_lq]
    rw [b_t (by omega), h6', am_rq, b_add, l5, am_cq]
  · have g5 : (a_p5 f n z D).1.1 = 0 := e
    have g4 := (a_wd_0 (a_nm_0 g5).1).1
    have g3 := (a_wd_0 (a_nm_0 g4).1).1
    have g2 := (a_wd_0 (a_nm_0 g3).1).1
    have g1 := (a_wd_0 (a_nm_0 g2).1).1
    have k1 := k1 g1
    have k2 := k2 g2
    have k3 := k3 g3
    have k4 := k4 g4
    have k5 := k5 g5
    unfold a_pD
    refine ⟨fun j hj => ?_, fun r j hr hj => ?_, fun p j hp hj => ?_, fun k hk => ?_, ?_, ?_⟩
    · show _ = nI (w_u D.1 5 (D.1 5 + 1) j)
      rw [E _ (by omega), r_si]
      by_cases k : j = 5
      · subst k; rw [w_us]; exact r_us _ _ _
      · rw [w_uo _ _ k, r_uo _ _ (by omega)]
        simp (disch := omega) only [r_so]
        exact c1 j hj
    · have hr : r < D.1 4 := hr
      rw [E _ (by omega)]
      simp (disch := omega) only [r_so]
      exact c2 r j hr hj
    · have hp : p < w_u D.1 5 (D.1 5 + 1) 5 := hp
      rw [w_us] at hp
      rw [E _ (by omega), r_so _ _ _ (by omega), r_si, r_si, r_si, r_si, r_si]
      dsimp only
      by_cases k : p = D.1 5
      · subst k
        rw [if_pos rfl, ← k1, ← k2, ← k3, ← k4, ← k5]
        rcases (by omega : j = 0 ∨ j = 1 ∨ j = 2 ∨ j = 3 ∨ j = 4) with e | e | e | e | e <;> subst e
        · rw [r_uo _ _ (by omega), r_uo _ _ (by omega), r_uo _ _ (by omega), r_uo _ _ (by omega), show 160 + (5 * D.1 5 + 0) = 5 * (32 + D.1 5) by omega, r_us]
          simp (disch := omega) only [if_pos, if_neg, if_true]
        · rw [r_uo _ _ (by omega), r_uo _ _ (by omega), r_uo _ _ (by omega), show 160 + (5 * D.1 5 + 1) = 5 * (32 + D.1 5) + 1 by omega, r_us]
          simp (disch := omega) only [if_pos, if_neg, if_true]
        · rw [r_uo _ _ (by omega), r_uo _ _ (by omega), show 160 + (5 * D.1 5 + 2) = 5 * (32 + D.1 5) + 2 by omega, r_us]
          simp (disch := omega) only [if_pos, if_neg, if_true]
        · rw [r_uo _ _ (by omega), show 160 + (5 * D.1 5 + 3) = 5 * (32 + D.1 5) + 3 by omega, r_us]
          simp (disch := omega) only [if_pos, if_neg, if_true]
        · rw [show 160 + (5 * D.1 5 + 4) = 5 * (32 + D.1 5) + 4 by omega, r_us]
          simp (disch := omega) only [if_pos, if_neg, if_true]
      · rw [if_neg k, r_uo _ _ (by omega), r_uo _ _ (by omega), r_uo _ _ (by omega), r_uo _ _ (by omega), r_uo _ _ (by omega)]
        exact c3 p j (by omega) hj
    · rw [E _ (by omega)]
      simp (disch := omega) only [r_so]
      exact c4 k hk
    · rw [E _ (by omega)]
      simp (disch := omega) only [r_so]
      exact c5
    · rw [E _ (by omega), r_si, r_uo _ _ (by omega)]
      simp (disch := omega) only [r_so]
      exact c6
/-- is there room for one more -/
theorem r_room0 (a b : Int32) : fX9_isRoom s (nI 0) a b = some (s, nI 0) := by
  unfold fX9_isRoom
  simp only [↓am_lq, b_lq, if_true]
  first | exact am_g_t (.inl rfl) | exact am_g_t (.inl trivial)
theorem r_room1 (hn : n ≤ 800) (h : r_ST f n z s) (hz : z.1 = 0) {q : Nat} (hq : q < 16) (m : a_mt f n q (a_eb f n z.2.2) = true) {e k most : Nat} (he : e < 7) (hk : k < 100) (hm : most < 100) (hc : s.1 222 (28 + e) = nI k) : (k = most → ∃ t, fX9_isRoom s (nI 1) (nI e) (nI most) = some (t, nI 0) ∧ r_ST f n (a_fl z 3 (a_eb f n z.2.2) (a_eb f n z.2.2)) t ∧ r_f3 s t) ∧ (k ≠ most → ∃ t, fX9_isRoom s (nI 1) (nI e) (nI most) = some (t, nI 1) ∧ r_ST f n (a_wd f n q z) t ∧ r_f3 s t) := by
  have h3 : s.1 215 12 = nI z.1 := h.2.2.1
  have hr := r_has e he hc
  have n1 : ¬ nI 1 = nI 0 := by decide
  refine ⟨fun c => ?_, fun c => ?_⟩
  · obtain ⟨t, a1, a2, a3⟩ := r_fails hn h (c := 3) (by omega) (by omega) (a_eb f n z.2.2)
    have fz : (a_fl z 3 (a_eb f n z.2.2) (a_eb f n z.2.2)).1 = 3 := by unfold a_fl; rw [if_pos hz]
    have e12 : t.1 215 12 = nI 3 := by rw [a2.2.2.1, fz]
    have n3 : ¬ nI 3 = nI 0 := by decide
    refine ⟨t, ?_, a2, a3⟩
    unfold fX9_isRoom
    simp only [↓am_lq, b_lq]
    rw [if_neg n1, hr, am_rq, if_pos (by rw [c]), a1, am_cq]
    simp only [if_neg n1, e12, if_neg n3]
    first | exact am_g_t (.inl rfl) | exact am_g_t (.inl trivial)
  · obtain ⟨t, a1, a2, a3⟩ := r_on_w hn h hz hq m
    have fz : (a_wd f n q z).1 = 0 := by unfold a_wd; rw [m, if_pos rfl]; exact hz
    have e12 : t.1 215 12 = nI 0 := by rw [a2.2.2.1, fz]
    refine ⟨t, ?_, a2, a3⟩
    unfold fX9_isRoom
    simp only [↓am_lq, b_lq]
    rw [if_neg n1, hr, am_rq, if_neg (by rw [b_eq (by omega) (by omega)]; exact c)]
    simp only [if_neg n1, h3, hz, if_true]
    rw [a1, am_cq]
    simp only [if_neg n1, e12, if_true]
    first | exact am_g_t (.inr rfl) | exact am_g_t (.inr trivial)
theorem r_good (h : r_ST f n z s) : fX9_isGood s = some (nI (decide (z.1 = 0)).toNat) := by
  have h3 : s.1 215 12 = nI z.1 := h.2.2.1
  have hz := h.2.1
  unfold fX9_isGood
  simp only [↓am_lq, b_lq]
  rw [h3]
  by_cases c : z.1 = 0
  · rw [if_pos (by rw [c]), decide_eq_true c]
    first | exact am_g_t (.inr rfl) | exact am_g_t (.inr trivial)
  · rw [if_neg (by rw [b_eq (by omega) (by omega)]; exact c), decide_eq_false c]
    first | exact am_g_t (.inl rfl) | exact am_g_t (.inl trivial)
theorem r_enz (hn : n ≤ 800) (h : r_ST f n z s) (hz : z.1 = 0) : ∃ t, fX9_lineEnds s = some (t, ()) ∧ r_ST f n (a_sg f n z) t ∧ r_f3 s t := by
  obtain ⟨h1, h2, h3, h4, h5⟩ := id h
  obtain ⟨k1, k2⟩ := h5 hz
  have ee := (a_eb_p (f := f) hn z.2.2).2.1 k1
  by_cases c : a_by f n (a_eb f n z.2.2) = nI 59
  · have c' : a_eb f n z.2.2 < n ∧ f (a_eb f n z.2.2) = nI 59 := by
      unfold a_by at c
      by_cases d : a_eb f n z.2.2 < n
      · rw [if_pos d] at c; exact ⟨d, c⟩
      · rw [if_neg d, b_nn2 (by omega)] at c; exact c.elim
    have k3 : s.1 215 8 = nI 3 ∧ s.1 215 7 = nI (a_eb f n z.2.2 + 1) := by
      rcases k2 with ⟨-, ⟨k2, k3⟩ | ⟨k2, k3, k4, k5, k6⟩ | ⟨k2, k3, k4, k5, k6⟩ | ⟨k2, k3, k4, k5, k6⟩⟩
      · omega
      · obtain ⟨d, d1, d2, d3⟩ := a_le_c k3
        rw [c'.2, b_eq (by omega) (by omega)] at d3
        omega
      · obtain ⟨d, d1, d2, d3⟩ := a_dg_c k4
        rw [c'.2, b_eq (by omega) (by omega)] at d3
        omega
      · rw [if_pos c'.2] at k5
        exact ⟨k5, k6⟩
    obtain ⟨t, a1, a2, a3⟩ := r_on hn h hz (show a_eb f n z.2.2 + 1 ≤ n by omega) k3.2
    refine ⟨t, ?_, ?_, a3⟩
    · unfold fX9_lineEnds
      simp only [↓am_lq, b_lq]
      rw [k3.1, if_pos rfl, h3, if_pos (by rw [hz]), a1, am_cq]
    · unfold a_sg
      rw [if_pos c]
      exact a2
  · have k3 : ¬ s.1 215 8 = nI 3 := by
      rcases k2 with ⟨-, ⟨k2, k3⟩ | ⟨k2, k3, k4, k5, k6⟩ | ⟨k2, k3, k4, k5, k6⟩ | ⟨k2, k3, k4, k5, k6⟩⟩
      · rw [k3]; decide
      · rw [k4]; decide
      · rw [k5]; decide
      · rw [k5, if_neg (fun e => c (by unfold a_by; rw [if_pos k2]; exact e))]; decide
    obtain ⟨t, a1, a2, a3⟩ := r_fails hn h (c := 1) (by omega) (by omega) (a_eb f n z.2.2)
    have fz : (a_fl z 1 (a_eb f n z.2.2) (a_eb f n z.2.2)).1 = 1 := by unfold a_fl; rw [if_pos hz]
    have e12 : t.1 215 12 = nI 1 := by rw [a2.2.2.1, fz]
    refine ⟨t, ?_, ?_, a3⟩
    · unfold fX9_lineEnds
      simp only [↓am_lq, b_lq]
      rw [if_neg k3, a1, am_cq, e12, if_neg (by decide)]
    · unfold a_sg
      rw [if_neg c]
      exact a2
end RM
