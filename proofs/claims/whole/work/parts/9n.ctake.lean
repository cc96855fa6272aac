/-! THE TEXT: the class takes a word, a sign, a number. -/
section CK
variable {f : Nat → Int32} {n : Nat} {z : a_Z} {s t : AS}
theorem a_fl_3 {c a p : Nat} (hz : z.1 ≤ 3) (hc : c ≤ 3) : (a_fl z c a p).1 ≤ 3 := by
  unfold a_fl
  split
  · exact hc
  · exact hz
theorem c_tw (hn : n ≤ 800) (h : c_ST f n z s) {q : Nat} (hq : q < 16) : ∃ t, fX4_takeWord s 1 q = some (t, ()) ∧ c_ST f n (a_wd f n q z) t ∧ c_f1 s t := by
  obtain ⟨e1, e2, e3, e4⟩ := a_eb_p (f := f) hn z.2.2
  have hl := (a_len_d q hq).2
  have e2 := e2 h.2.2.2.2.1
  obtain ⟨u, u1, u2, u3⟩ := c_skip hn h
  have w := c_isWord hn u2 hq
  have u4 := u2.2.2.2.1
  have ls := a_len_s hq u
  unfold fX4_takeWord a_wd
  rw [u1, am_cq, w, am_rq]
  simp only [↓am_lq, b_lq, m_if0]
  cases hm : a_mt f n q (a_eb f n z.2.2) with
  | false =>
    obtain ⟨t, t1, t2, t3⟩ := c_fail u2 (c := 1) (a := a_eb f n z.2.2) (by omega) (by omega)
    refine ⟨t, ?_, ?_, fr_tr u3 t3⟩
    · rw [if_neg (by simp), u4, t1, am_cq]
    · rw [if_neg (by simp)]; exact t2
  | true =>
    have hlen : a_eb f n z.2.2 + a_len q ≤ n := by
      have b := a_mt_1 hq hm (a_len q - 1) (by omega)
      omega
    refine ⟨am_si u 1 4 (nI (a_eb f n z.2.2 + a_len q)), ?_, ?_, fr_si u3 _ _ rfl⟩
    · rw [if_pos rfl, u4, ls, am_rq, b_add]
    · rw [if_pos rfl]; exact c_ST_p u2 hlen
theorem c_sign (hn : n ≤ 800) (h : c_ST f n z s) : ∃ t, fX4_takeSign s 1 = some (t, ()) ∧ c_ST f n (a_sg f n z) t ∧ c_f1 s t := by
  obtain ⟨e1, e2, e3, e4⟩ := a_eb_p (f := f) hn z.2.2
  have e2 := e2 h.2.2.2.2.1
  obtain ⟨u, u1, u2, u3⟩ := c_skip hn h
  have u4 := u2.2.2.2.1
  have w := c_byte hn u2 (show a_eb f n z.2.2 < 100000 by omega)
  unfold fX4_takeSign a_sg
  rw [u1, am_cq, u4, w, am_rq]
  simp only [↓am_lq, b_lq]
  by_cases hm : a_by f n (a_eb f n z.2.2) = nI 59
  · have hlen : a_eb f n z.2.2 + 1 ≤ n := by
      unfold a_by at hm
      by_cases c : a_eb f n z.2.2 < n
      · exact c
      · rw [if_neg c, b_nn2 (by omega)] at hm
        exact hm.elim
    refine ⟨am_si u 1 4 (nI (a_eb f n z.2.2 + 1)), ?_, ?_, fr_si u3 _ _ rfl⟩
    · rw [if_pos hm, b_add]
    · rw [if_pos hm]; exact c_ST_p u2 hlen
  · obtain ⟨t, t1, t2, t3⟩ := c_fail u2 (c := 1) (a := a_eb f n z.2.2) (by omega) (by omega)
    refine ⟨t, ?_, ?_, fr_tr u3 t3⟩
    · rw [if_neg hm, t1, am_cq]
    · rw [if_neg hm]; exact t2
theorem c_digits (hn : n ≤ 800) (h : c_ST f n z s) (x5 : Int32) (hx5 : s.1 1 5 = x5) {J : AS → Int32 → Option (AS × Int32)} : ∃ t, fX4_takeNumber_L42 1 J am_fu s (nI 0) (nI z.2.2) = J t (nI (a_nv f n z.2.2)) ∧ c_ST f n (z.1, z.2.1, a_ed f n z.2.2) t ∧ c_f1 s t ∧ t.1 1 5 = x5 := by
  obtain ⟨e1, e2, e3, e4⟩ := a_ed_p (f := f) hn z.2.2
  have e2 := e2 h.2.2.2.2.1
  refine sp_g (fun g (x : AS × Int32 × Int32) => fX4_takeNumber_L42 1 J g x.1 x.2.1 x.2.2) z.2.2 (a_ed f n z.2.2) (fun i x => c_ST f n (z.1, z.2.1, i) x.1 ∧ c_f1 s x.1 ∧ x.1.1 1 5 = x5 ∧ x.2 = (nI (min (a_vl f z.2.2 (i - z.2.2)) 1000), nI i)) (fun r => ∃ t, r = J t (nI (a_nv f n z.2.2)) ∧ c_ST f n (z.1, z.2.1, a_ed f n z.2.2) t ∧ c_f1 s t ∧ t.1 1 5 = x5) (fun g i x h1 h2 hx => ?_) (fun g x hx => ?_) e1 (s, nI 0, nI z.2.2) ⟨h, fr_refl _ s, hx5, by rw [Nat.sub_self]; rfl⟩ am_fu (by have := am_fu_gt (n := 1000) (by omega); omega)
  · obtain ⟨u, x⟩ := x
    obtain ⟨k1, k2, k4, k3⟩ := hx
    dsimp only at k1 k2 k3 k4 ⊢
    subst k3
    have hd := e4 i h1 h2
    have hin := a_dg_n hd
    obtain ⟨c, c1, c2, c3⟩ := a_dg_c hd
    have kn : u.1 1 3 = nI n := k1.2.2.1
    have kb := c_byte hn k1 (show i < 100000 by omega)
    unfold a_by at kb
    rw [if_pos hin, c3] at kb
    have kd := c_isDg hn k1 (show i < 100000 by omega)
    rw [hd] at kd
    have ev : a_vl f z.2.2 (i + 1 - z.2.2) = 10 * a_vl f z.2.2 (i - z.2.2) + (c - 48) := by
      rw [show i + 1 - z.2.2 = (i - z.2.2) + 1 by omega, a_vl_s, show z.2.2 + (i - z.2.2) = i by omega, c3, b_t (by omega)]
    refine ⟨(am_si u 1 4 (nI (i + 1)), nI (min (a_vl f z.2.2 (i + 1 - z.2.2)) 1000), nI (i + 1)), ⟨c_ST_p k1 (by omega), fr_si k2 _ _ rfl, by simp (disch := omega) only [r_si, r_uo, k4], rfl⟩, ?_⟩
    rw [fX4_takeNumber_L42, ev]
    generalize a_vl f z.2.2 (i - z.2.2) = v
    have hm : min v 1000 ≤ 1000 := Nat.min_le_right _ _
    simp (disch := omega) only [↓am_lq, b_lq, kn, b_le, kd, am_rq, m_if0, kb, b_mul, b_add, if_neg, b_sub, b_lt, if_true]
    by_cases c0 : 1000 < min v 1000 * 10 + c - 48
    · rw [if_pos c0, Nat.min_eq_right (show 1000 ≤ 10 * v + (c - 48) by omega)]
    · rw [if_neg c0]
      have hv : v ≤ 1000 := by omega
      have hv2 : min v 1000 = v := Nat.min_eq_left hv
      rw [hv2] at c0 ⊢
      rw [Nat.min_eq_left (show 10 * v + (c - 48) ≤ 1000 by omega), show v * 10 + c - 48 = 10 * v + (c - 48) by omega]
  · obtain ⟨u, x⟩ := x
    obtain ⟨k1, k2, k4, k3⟩ := hx
    dsimp only at k1 k2 k3 k4 ⊢
    subst k3
    have kn : u.1 1 3 = nI n := k1.2.2.1
    have kd := c_isDg hn k1 (show a_ed f n z.2.2 < 100000 by omega)
    rw [e3] at kd
    refine ⟨u, ?_, k1, k2, k4⟩
    rw [fX4_takeNumber_L42]
    simp (disch := omega) only [b_lq, kn, b_le, kd, am_rq, m_if0]
    split <;> rfl
theorem c_num (hn : n ≤ 800) (h : c_ST f n z s) {lo hi : Nat} (hlo : lo ≤ 100) (hhi : hi ≤ 100) : ∃ t, fX4_takeNumber s 1 (nI lo) (nI hi) = some (t, nI (a_nm f n lo hi z).2) ∧ c_ST f n (a_nm f n lo hi z).1 t ∧ c_f1 s t ∧ t.1 1 5 = nI (a_eb f n z.2.2) := by
  obtain ⟨e1, e2, e3, e4⟩ := a_eb_p (f := f) hn z.2.2
  have e2 := e2 h.2.2.2.2.1
  obtain ⟨d1, d2, d3, d4⟩ := a_ed_p (f := f) hn (a_eb f n z.2.2)
  have d2 := d2 e2
  obtain ⟨u, u1, u2, u3⟩ := c_skip hn h
  have u4 : u.1 1 4 = nI (a_eb f n z.2.2) := u2.2.2.2.1
  have v2 := c_ST_5 u2 (x := nI (a_eb f n z.2.2))
  have v4 : (am_si u 1 5 (nI (a_eb f n z.2.2))).1 1 4 = nI (a_eb f n z.2.2) := v2.2.2.2.1
  have w := c_isDg hn v2 (show a_eb f n z.2.2 < 100000 by omega)
  have hnv : a_nv f n (a_eb f n z.2.2) ≤ 1000 := Nat.min_le_right _ _
  have v5 : (am_si u 1 5 (nI (a_eb f n z.2.2))).1 1 5 = nI (a_eb f n z.2.2) := by rw [r_si, r_us]
  have v3 : c_f1 s (am_si u 1 5 (nI (a_eb f n z.2.2))) := fr_si u3 _ _ rfl
  unfold fX4_takeNumber a_nm
  rw [u1, am_cq]
  simp only [↓am_lq, b_lq]
  rw [u4, v4, w, am_rq, m_if0]
  generalize am_si u 1 5 (nI (a_eb f n z.2.2)) = v at v2 v3 v4 v5 ⊢
  cases hm : a_dg f n (a_eb f n z.2.2) with
  | false =>
    obtain ⟨t, t1, t2, t3⟩ := c_fail v2 (c := 1) (a := a_eb f n z.2.2) (by omega) (by omega)
    have t5 : t.1 1 5 = nI (a_eb f n z.2.2) := by
      have t1' := t1
      unfold fX4_fail at t1'
      simp only [↓am_lq, b_lq] at t1'
      by_cases k : v.1 1 0 = nI 0
      · rw [if_pos k] at t1'
        injection t1' with t1'
        injection t1' with t1'
        rw [← t1']
        simp (disch := omega) only [r_si, r_uo, v5]
      · rw [if_neg k] at t1'
        injection t1' with t1'
        injection t1' with t1'
        rw [← t1']
        exact v5
    refine ⟨t, ?_, ?_, fr_tr v3 t3, t5⟩
    · rw [if_neg (by simp), if_neg (by simp), t1, am_cq]
    · rw [if_neg (by simp)]; exact t2
  | true =>
    rw [if_pos rfl, if_pos rfl]
    obtain ⟨t, t1, t2, t3, t5⟩ := c_digits hn v2 _ v5 (J := fun (s6 : AS) (x7 : Int32) => if x7 < nI lo then am_c (fX4_fail s6 1 (nI 2) (s6.1 1 5)) (fun (s9 : AS) (v8 : Unit) => some (s9, nI lo)) else if x7 ≤ nI hi then some (s6, x7) else am_c (fX4_fail s6 1 (nI 2) (s6.1 1 5)) (fun (s9 : AS) (v8 : Unit) => some (s9, nI lo)))
    dsimp only at t1 t2
    rw [t1]
    simp (disch := omega) only [b_lt, b_le]
    by_cases c : lo ≤ a_nv f n (a_eb f n z.2.2) ∧ a_nv f n (a_eb f n z.2.2) ≤ hi
    · refine ⟨t, ?_, ?_, fr_tr v3 t3, t5⟩
      · rw [if_pos c, if_neg (by omega), if_pos c.2]
      · rw [if_pos c]; exact t2
    · obtain ⟨t', x1, x2, x3⟩ := c_fail t2 (c := 2) (a := a_eb f n z.2.2) (by omega) (by omega)
      have t5' : t'.1 1 5 = nI (a_eb f n z.2.2) := by
        have x1' := x1
        unfold fX4_fail at x1'
        simp only [↓am_lq, b_lq] at x1'
        by_cases k : t.1 1 0 = nI 0
        · rw [if_pos k] at x1'
          injection x1' with x1'
          injection x1' with x1'
          rw [← x1']
          simp (disch := omega) only [r_si, r_uo, t5]
        · rw [if_neg k] at x1'
          injection x1' with x1'
          injection x1' with x1'
          rw [← x1']
          exact t5
      refine ⟨t', ?_, ?_, fr_tr v3 (fr_tr t3 x3), t5'⟩
      · rw [if_neg c, t5, x1, am_cq]
        by_cases c2 : a_nv f n (a_eb f n z.2.2) < lo
        · rw [if_pos c2]
        · rw [if_neg c2, if_neg (by omega)]
      · rw [if_neg c]
        exact x2
end CK
