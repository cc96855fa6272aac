/-! THE TEXT: the class reads it all. -/
section LE
variable {f : Nat → Int32} {n : Nat} {z : a_Z} {s t u : AS} {D : w_D}
theorem c_line (hn : n ≤ 800) (h : c_ST f n z s) (hP : c_PL 3 D s) (h6 : D.1 6 ≤ 800) (h0 : 0 < D.1 6 → 2 ≤ D.1 0) (h7 : D.1 0 ≤ 7) (h4 : D.1 4 ≤ 10) (h5 : D.1 5 ≤ 8) : ∃ t, fX4_readLine s 1 3 = some (t, ()) ∧ c_ST f n (a_line f n z D).1 t ∧ c_PL 3 (a_line f n z D).2 t ∧ c_f3 s t ∧ (a_line f n z D).2.1 4 ≤ 10 ∧ (a_line f n z D).2.1 5 ≤ 8 := by
  have e6 : s.1 3 0 = nI (D.1 6) := hP.2.2.2.2
  have e1 : s.1 1 4 = nI z.2.2 := h.2.2.2.1
  have hz := h.2.2.2.2.1
  have key : ∃ t1, (∀ J : AS → Option (AS × Unit), (if (s.1 3 0) = nI 0 then (am_c (fX4_readHead s 1 3) (fun s17 _ => J s17)) else (am_r (fX4_isWord s 1 5) (fun v5 => if v5 = nI 0 then (am_r (fX4_isWord s 1 8) (fun v6 => if v6 = nI 0 then (am_r (fX4_isWord s 1 14) (fun v7 => if v7 = nI 0 then (am_c (fX4_fail s 1 (nI 1) (s.1 1 4)) (fun s9 _ => J s9)) else (am_c (fX4_readGrant s 1 3) (fun s11 _ => J s11)))) else (am_c (fX4_readPerson s 1 3) (fun s13 _ => J s13)))) else (am_c (fX4_readRoad s 1 3) (fun s15 _ => J s15))))) = J t1) ∧ c_ST f n (a_body f n z D).1 t1 ∧ c_PL 3 (a_body f n z D).2 t1 ∧ c_f3 s t1 ∧ (a_body f n z D).2.1 4 ≤ 10 ∧ (a_body f n z D).2.1 5 ≤ 8 ∧ (a_body f n z D).2.1 6 = D.1 6 := by
    unfold a_body
    by_cases c6 : D.1 6 = 0
    · obtain ⟨t, q1, q2, q3, q4⟩ := c_head hn h hP h4 h5
      refine ⟨t, fun J => ?_, ?_⟩
      · rw [if_pos (by rw [e6, c6]), q1, am_cq]
      · rw [if_pos c6]; exact ⟨q2, q3, q4, h4, h5, rfl⟩
    · rw [if_neg c6, e6]
      have n6 : ¬ nI (D.1 6) = nI 0 := by rw [b_eq (by omega) (by omega)]; exact c6
      have h0 := h0 (by omega)
      cases m5 : a_mt f n 5 z.2.2 with
      | true =>
        obtain ⟨t, q1, q2, q3, q4⟩ := c_road hn h hP (by omega) h7 h4 h5
        refine ⟨t, fun J => ?_, ?_⟩
        · rw [if_neg n6, c_isWord hn h (by omega), am_rq, m5, if_neg (by decide), q1, am_cq]
        · rw [if_pos rfl]
          refine ⟨q2, q3, q4, ?_⟩
          unfold a_road a_rD
          split
          · refine ⟨?_, h5, rfl⟩
            show w_u D.1 4 (D.1 4 + 1) 4 ≤ 10
            rw [w_us]; omega
          · exact ⟨h4, h5, rfl⟩
      | false =>
        rw [if_neg (by simp)]
        cases m8 : a_mt f n 8 z.2.2 with
        | true =>
          obtain ⟨t, q1, q2, q3, q4⟩ := c_pers hn h hP (by omega) h7 h4 h5
          refine ⟨t, fun J => ?_, ?_⟩
          · rw [if_neg n6, c_isWord hn h (by omega), am_rq, m5, if_pos (by rfl), c_isWord hn h (by omega), am_rq, m8, if_neg (by decide), q1, am_cq]
          · rw [if_pos rfl]
            refine ⟨q2, q3, q4, ?_⟩
            unfold a_pers a_pD
            split
            · refine ⟨h4, ?_, rfl⟩
              show w_u D.1 5 (D.1 5 + 1) 5 ≤ 8
              rw [w_us]; omega
            · exact ⟨h4, h5, rfl⟩
        | false =>
          rw [if_neg (by simp)]
          cases m14 : a_mt f n 14 z.2.2 with
          | true =>
            obtain ⟨t, q1, q2, q3, q4⟩ := c_gran hn h hP h4 h5
            refine ⟨t, fun J => ?_, ?_⟩
            · rw [if_neg n6, c_isWord hn h (by omega), am_rq, m5, if_pos (by rfl), c_isWord hn h (by omega), am_rq, m8, if_pos (by rfl), c_isWord hn h (by omega), am_rq, m14, if_neg (by decide), q1, am_cq]
            · rw [if_pos rfl]
              refine ⟨q2, q3, q4, ?_⟩
              unfold a_gran
              dsimp only
              split <;> exact ⟨h4, h5, rfl⟩
          | false =>
            obtain ⟨t, q1, q2, q3⟩ := c_fail h (c := 1) (a := z.2.2) (by omega) (by omega)
            refine ⟨t, fun J => ?_, ?_⟩
            · rw [if_neg n6, c_isWord hn h (by omega), am_rq, m5, if_pos (by rfl), c_isWord hn h (by omega), am_rq, m8, if_pos (by rfl), c_isWord hn h (by omega), am_rq, m14, if_pos (by rfl), e1, q1, am_cq]
            · rw [if_neg (by simp)]
              exact ⟨q2, c_PL1 hP q3 h4 h5, c_f13 q3, h4, h5, rfl⟩
  obtain ⟨t1, k1, k2, k3, k4, k5, k6, k7⟩ := key
  obtain ⟨t2, x1, x2, x3⟩ := c_sign hn k2
  have e2 : t2.1 3 0 = nI (D.1 6) := by rw [x3.2 _ (by omega), k3.2.2.2.2, k7]
  refine ⟨am_si t2 3 0 (nI (D.1 6 + 1)), ?_, c_ST_o x2 (by omega) (by omega), ?_, fr_si (fr_tr k4 (c_f13 x3)) _ _ (by omega), k5, k6⟩
  · unfold fX4_readLine
    simp only [↓am_lq, b_lq]
    refine (k1 _).trans ?_
    rw [x1, am_cq]
    try simp only [↓am_lq]
    rw [e2, b_add]
  · obtain ⟨q1, q2, q3, q4, q5⟩ := c_PL1 k3 x3 k5 k6
    unfold a_line a_lD
    generalize (a_body f n z D).2 = B at *
    refine ⟨fun j hj => ?_, fun r j hr hj => ?_, fun p j hp hj => ?_, fun k hk => ?_, ?_⟩
    · show _ = nI (w_u B.1 6 (B.1 6 + 1) j)
      rw [r_si, r_uo _ _ (by omega), w_uo _ _ (by omega)]; exact q1 j hj
    · have hr : r < w_u B.1 6 (B.1 6 + 1) 4 := hr
      rw [w_uo _ _ (by omega)] at hr
      rw [r_so _ _ _ (by omega)]; exact q2 r j hr hj
    · have hp : p < w_u B.1 6 (B.1 6 + 1) 5 := hp
      rw [w_uo _ _ (by omega)] at hp
      rw [r_so _ _ _ (by omega)]; exact q3 p j hp hj
    · rw [r_so _ _ _ (by omega)]; exact q4 k hk
    · show _ = nI (w_u B.1 6 (B.1 6 + 1) 6)
      rw [r_si, r_us, w_us, k7]
/-- a fault stays -/
theorem a_fl_0 {c a p : Nat} (hc : c ≠ 0) (h : (a_fl z c a p).1 = 0) : False := by
  unfold a_fl at h
  split at h
  · exact hc h
  · rename_i q
    exact q h
theorem a_wd_0 {q : Nat} (h : (a_wd f n q z).1 = 0) : z.1 = 0 ∧ a_mt f n q (a_eb f n z.2.2) = true ∧ a_wd f n q z = (z.1, z.2.1, a_eb f n z.2.2 + a_len q) := by
  unfold a_wd at h ⊢
  cases m : a_mt f n q (a_eb f n z.2.2) with
  | true => rw [m, if_pos rfl] at h; exact ⟨h, rfl, by rw [if_pos rfl]⟩
  | false => rw [m, if_neg (by simp)] at h; exact (a_fl_0 (by omega) h).elim
theorem a_sg_0 (h : (a_sg f n z).1 = 0) : z.1 = 0 ∧ a_by f n (a_eb f n z.2.2) = nI 59 ∧ a_sg f n z = (z.1, z.2.1, a_eb f n z.2.2 + 1) := by
  unfold a_sg at h ⊢
  by_cases m : a_by f n (a_eb f n z.2.2) = nI 59
  · rw [if_pos m] at h; exact ⟨h, m, by rw [if_pos m]⟩
  · rw [if_neg m] at h; exact (a_fl_0 (by omega) h).elim
theorem a_nm_0 {lo hi : Nat} (h : (a_nm f n lo hi z).1.1 = 0) : z.1 = 0 ∧ a_dg f n (a_eb f n z.2.2) = true ∧ (lo ≤ a_nv f n (a_eb f n z.2.2) ∧ a_nv f n (a_eb f n z.2.2) ≤ hi) ∧ a_nm f n lo hi z = ((z.1, z.2.1, a_ed f n (a_eb f n z.2.2)), a_nv f n (a_eb f n z.2.2)) := by
  unfold a_nm at h ⊢
  cases m : a_dg f n (a_eb f n z.2.2) with
  | true =>
    rw [m, if_pos rfl] at h
    by_cases c : lo ≤ a_nv f n (a_eb f n z.2.2) ∧ a_nv f n (a_eb f n z.2.2) ≤ hi
    · rw [if_pos c] at h
      exact ⟨h, rfl, c, by rw [if_pos rfl, if_pos c]⟩
    · rw [if_neg c] at h
      exact (a_fl_0 (by omega) h).elim
  | false => rw [m, if_neg (by simp)] at h; exact (a_fl_0 (by omega) h).elim
/-- without a fault: none before, on, and the fault's place the same -/
def a_gr (y z : a_Z) : Prop := z.1 = 0 → y.1 = 0 ∧ y.2.2 ≤ z.2.2 ∧ z.2.1 = y.2.1
theorem a_gr_tr {x y z : a_Z} (h : a_gr x y) (k : a_gr y z) : a_gr x z := fun e => by
  obtain ⟨k1, k2, k3⟩ := k e
  obtain ⟨h1, h2, h3⟩ := h k1
  exact ⟨h1, Nat.le_trans h2 k2, k3.trans h3⟩
theorem a_gr_w (hn : n ≤ 800) (q : Nat) : a_gr z (a_wd f n q z) := fun e => by
  obtain ⟨h1, h2, h3⟩ := a_wd_0 e
  have := (a_eb_p (f := f) hn z.2.2).1
  rw [h3]
  exact ⟨h1, by show z.2.2 ≤ a_eb f n z.2.2 + a_len q; omega, rfl⟩
theorem a_gr_n (hn : n ≤ 800) (lo hi : Nat) : a_gr z (a_nm f n lo hi z).1 := fun e => by
  obtain ⟨h1, h2, -, h3⟩ := a_nm_0 e
  have := (a_eb_p (f := f) hn z.2.2).1
  have := (a_ed_p (f := f) hn (a_eb f n z.2.2)).1
  rw [h3]
  exact ⟨h1, by show z.2.2 ≤ a_ed f n (a_eb f n z.2.2); omega, rfl⟩
theorem a_gr_wn (hn : n ≤ 800) (q lo hi : Nat) : a_gr z (a_wn f n q lo hi z).1 := a_gr_tr (a_gr_w hn q) (a_gr_n hn lo hi)
theorem a_gr_s (hn : n ≤ 800) : a_gr z (a_sg f n z) := fun e => by
  obtain ⟨h1, -, h3⟩ := a_sg_0 e
  have := (a_eb_p (f := f) hn z.2.2).1
  rw [h3]
  exact ⟨h1, by show z.2.2 ≤ a_eb f n z.2.2 + 1; omega, rfl⟩
theorem a_gr_f {c a p : Nat} (hc : c ≠ 0) : a_gr z (a_fl z c a p) := fun e => (a_fl_0 hc e).elim
/-- a number without a fault is within its bounds -/
theorem a_wn_v {q lo hi : Nat} (h : (a_wn f n q lo hi z).1.1 = 0) : lo ≤ (a_wn f n q lo hi z).2 ∧ (a_wn f n q lo hi z).2 ≤ hi := by
  obtain ⟨h1, h2, h3, h4⟩ := a_nm_0 h
  rw [show a_wn f n q lo hi z = a_nm f n lo hi (a_wd f n q z) from rfl, h4]
  exact h3
theorem a_gr_r4 (hn : n ≤ 800) : a_gr z (a_r4 f n z D) := by
  have g2 : a_gr z (a_r2 f n z D).1 := a_gr_tr (a_gr_wn hn 5 0 (D.1 0 - 1)) (a_gr_wn hn 6 0 (D.1 0 - 1))
  unfold a_r4
  split
  · exact a_gr_tr g2 (a_gr_f (by omega))
  · exact g2
theorem a_gr_body (hn : n ≤ 800) : a_gr z (a_body f n z D).1 := by
  unfold a_body
  split
  · exact a_gr_tr (a_gr_w hn 0) (a_gr_tr (a_gr_wn hn 1 2 7) (a_gr_tr (a_gr_wn hn 2 0 _) (a_gr_tr (a_gr_wn hn 3 0 3) (a_gr_wn hn 4 0 10))))
  · split
    · unfold a_road
      split
      · exact a_gr_tr (a_gr_r4 hn) (a_gr_wn hn 7 1 99)
      · exact a_gr_f (by omega)
    · split
      · unfold a_pers
        split
        · exact a_gr_tr (a_gr_w hn 8) (a_gr_tr (a_gr_wn hn 9 0 _) (a_gr_tr (a_gr_wn hn 10 0 _) (a_gr_tr (a_gr_wn hn 11 0 5) (a_gr_tr (a_gr_wn hn 12 0 9) (a_gr_wn hn 13 1 99)))))
        · exact a_gr_f (by omega)
      · split
        · exact a_gr_tr (a_gr_wn hn 14 0 5) (a_gr_wn hn 15 0 99)
        · exact a_gr_f (by omega)
theorem w_V_lD (hV : w_V D) (h6 : D.1 6 < 800) (h1 : D.1 1 < D.1 0) : w_V (a_lD D) := by
  obtain ⟨v0, v4, v5, vr, vp, vg, vs, vr2, vo, vl, vz⟩ := hV
  refine ⟨v0, v4, v5, vr, vp, vg, fun _ => h1, vr2, vo, ?_, fun e => ?_⟩
  · show w_u D.1 6 (D.1 6 + 1) 6 ≤ 800
    rw [w_us]; omega
  · have e : w_u D.1 6 (D.1 6 + 1) 6 = 0 := e
    rw [w_us] at e
    omega
/-- a line without a fault keeps the plan good -/
theorem a_line_V (hn : n ≤ 800) (hV : w_V D) (h0 : 0 < D.1 6 → 2 ≤ D.1 0) (h6 : D.1 6 < 800) (h : (a_line f n z D).1.1 = 0) : w_V (a_line f n z D).2 ∧ 2 ≤ (a_line f n z D).2.1 0 ∧ (a_line f n z D).2.1 6 = D.1 6 + 1 ∧ z.1 = 0 ∧ z.2.2 < (a_line f n z D).1.2.2 ∧ (a_line f n z D).1.2.1 = z.2.1 := by
  obtain ⟨s1, s2, s3⟩ := a_sg_0 h
  have gb := a_gr_body (f := f) (n := n) (z := z) (D := D) hn s1
  have eb := (a_eb_p (f := f) hn (a_body f n z D).1.2.2).1
  have tail : z.1 = 0 ∧ z.2.2 < (a_line f n z D).1.2.2 ∧ (a_line f n z D).1.2.1 = z.2.1 := by
    show z.1 = 0 ∧ z.2.2 < (a_sg f n (a_body f n z D).1).2.2 ∧ (a_sg f n (a_body f n z D).1).2.1 = z.2.1
    rw [s3]
    refine ⟨gb.1, ?_, gb.2.2⟩
    show z.2.2 < a_eb f n (a_body f n z D).1.2.2 + 1
    omega
  have main : w_V (a_lD (a_body f n z D).2) ∧ 2 ≤ (a_body f n z D).2.1 0 ∧ (a_body f n z D).2.1 6 = D.1 6 := by
    have s1' := s1
    have hV' := hV
    obtain ⟨v0, v4, v5, vr, vp, vg, vs, vr2, vo, vl, vz⟩ := hV'
    unfold a_body at s1' ⊢
    by_cases c6 : D.1 6 = 0
    · rw [if_pos c6] at s1' ⊢
      have z4 : (a_h4 f n z).1.1 = 0 := s1'
      have z3 := (a_gr_wn (f := f) (n := n) (z := (a_h3 f n z).1) hn 4 0 10 z4).1
      have z2 := (a_gr_wn (f := f) (n := n) (z := (a_h2 f n z).1) hn 3 0 3 z3).1
      have z1 := (a_gr_wn (f := f) (n := n) (z := (a_h1 f n z).1) hn 2 0 ((a_h1 f n z).2 - 1) z2).1
      have w1 : 2 ≤ (a_h1 f n z).2 ∧ (a_h1 f n z).2 ≤ 7 := a_wn_v z1
      have w2 : 0 ≤ (a_h2 f n z).2 ∧ (a_h2 f n z).2 ≤ (a_h1 f n z).2 - 1 := a_wn_v z2
      have w3 : 0 ≤ (a_h3 f n z).2 ∧ (a_h3 f n z).2 ≤ 3 := a_wn_v z3
      have w4 : 0 ≤ (a_h4 f n z).2 ∧ (a_h4 f n z).2 ≤ 10 := a_wn_v z4
      have k4 : D.1 4 = 0 := vz c6 4 (by omega)
      have k5 : D.1 5 = 0 := vz c6 5 (by omega)
      refine ⟨⟨w1.2, by show D.1 4 ≤ 10; omega, by show D.1 5 ≤ 8; omega, fun r hr => ?_, fun p hp => ?_, vg, fun _ => ?_, w3.2, w4.2, ?_, fun e => ?_⟩, w1.1, rfl⟩
      · have hr : r < D.1 4 := hr
        omega
      · have hp : p < D.1 5 := hp
        omega
      · show (a_h2 f n z).2 < (a_h1 f n z).2
        omega
      · show D.1 6 + 1 ≤ 800
        omega
      · have e : D.1 6 + 1 = 0 := e
        omega
    · rw [if_neg c6] at s1' ⊢
      have h0 := h0 (by omega)
      have vs := vs (by omega)
      split
      · rename_i m5
        rw [if_pos m5] at s1'
        unfold a_road at s1' ⊢
        by_cases c : D.1 4 < 10
        · rw [if_pos c] at s1' ⊢
          have z3 : (a_r3 f n z D).1.1 = 0 := s1'
          have z4 := (a_gr_wn (f := f) (n := n) (z := a_r4 f n z D) hn 7 1 99 z3).1
          have ne : ¬ (a_r2 f n z D).2 = (a_r1 f n z D).2 := fun e => by
            unfold a_r4 at z4
            rw [if_pos e] at z4
            exact a_fl_0 (by omega) z4
          have z2 : (a_r2 f n z D).1.1 = 0 := by
            unfold a_r4 at z4
            rw [if_neg ne] at z4
            exact z4
          have z1 := (a_gr_wn (f := f) (n := n) (z := (a_r1 f n z D).1) hn 6 0 (D.1 0 - 1) z2).1
          have w1 : 0 ≤ (a_r1 f n z D).2 ∧ (a_r1 f n z D).2 ≤ D.1 0 - 1 := a_wn_v z1
          have w2 : 0 ≤ (a_r2 f n z D).2 ∧ (a_r2 f n z D).2 ≤ D.1 0 - 1 := a_wn_v z2
          have w3 : 1 ≤ (a_r3 f n z D).2 ∧ (a_r3 f n z D).2 ≤ 99 := a_wn_v z3
          refine ⟨w_V_lD ⟨v0, ?_, v5, fun r hr => ?_, vp, vg, fun _ => vs, vr2, vo, vl, fun e => absurd e c6⟩ h6 vs, h0, rfl⟩
          · show w_u D.1 4 (D.1 4 + 1) 4 ≤ 10
            rw [w_us]; omega
          · have hr : r < w_u D.1 4 (D.1 4 + 1) 4 := hr
            rw [w_us] at hr
            show (if r = D.1 4 then _ else D.2.1 r 0) < D.1 0 ∧ (if r = D.1 4 then _ else D.2.1 r 1) < D.1 0 ∧ (if r = D.1 4 then _ else D.2.1 r 0) ≠ (if r = D.1 4 then _ else D.2.1 r 1) ∧ 1 ≤ (if r = D.1 4 then _ else D.2.1 r 2) ∧ (if r = D.1 4 then _ else D.2.1 r 2) ≤ 99
            by_cases e : r = D.1 4
            · simp only [if_pos e]
              refine ⟨?_, ?_, ?_, w3.1, w3.2⟩
              · show (a_r1 f n z D).2 < D.1 0
                omega
              · show (a_r2 f n z D).2 < D.1 0
                omega
              · exact fun e => ne e.symm
            · simp only [if_neg e]
              exact vr r (by omega)
        · rw [if_neg c] at s1'
          exact (a_fl_0 (by omega) s1').elim
      · rename_i m5
        rw [if_neg m5] at s1'
        split
        · rename_i m8
          rw [if_pos m8] at s1'
          unfold a_pers at s1' ⊢
          by_cases c : D.1 5 < 8
          · rw [if_pos c] at s1' ⊢
            have z5 : (a_p5 f n z D).1.1 = 0 := s1'
            have z4 := (a_gr_wn (f := f) (n := n) (z := (a_p4 f n z D).1) hn 13 1 99 z5).1
            have z3 := (a_gr_wn (f := f) (n := n) (z := (a_p3 f n z D).1) hn 12 0 9 z4).1
            have z2 := (a_gr_wn (f := f) (n := n) (z := (a_p2 f n z D).1) hn 11 0 5 z3).1
            have z1 := (a_gr_wn (f := f) (n := n) (z := (a_p1 f n z D).1) hn 10 0 (D.1 0 - 1) z2).1
            have w1 : 0 ≤ (a_p1 f n z D).2 ∧ (a_p1 f n z D).2 ≤ D.1 0 - 1 := a_wn_v z1
            have w2 : 0 ≤ (a_p2 f n z D).2 ∧ (a_p2 f n z D).2 ≤ D.1 0 - 1 := a_wn_v z2
            have w3 : 0 ≤ (a_p3 f n z D).2 ∧ (a_p3 f n z D).2 ≤ 5 := a_wn_v z3
            have w4 : 0 ≤ (a_p4 f n z D).2 ∧ (a_p4 f n z D).2 ≤ 9 := a_wn_v z4
            have w5 : 1 ≤ (a_p5 f n z D).2 ∧ (a_p5 f n z D).2 ≤ 99 := a_wn_v z5
            refine ⟨w_V_lD ⟨v0, v4, ?_, vr, fun p hp => ?_, vg, fun _ => vs, vr2, vo, vl, fun e => absurd e c6⟩ h6 vs, h0, rfl⟩
            · show w_u D.1 5 (D.1 5 + 1) 5 ≤ 8
              rw [w_us]; omega
            · have hp : p < w_u D.1 5 (D.1 5 + 1) 5 := hp
              rw [w_us] at hp
              show (if p = D.1 5 then _ else D.2.2.1 p 0) < D.1 0 ∧ (if p = D.1 5 then _ else D.2.2.1 p 1) < D.1 0 ∧ (if p = D.1 5 then _ else D.2.2.1 p 2) < 6 ∧ (if p = D.1 5 then _ else D.2.2.1 p 3) ≤ 9 ∧ 1 ≤ (if p = D.1 5 then _ else D.2.2.1 p 4) ∧ (if p = D.1 5 then _ else D.2.2.1 p 4) ≤ 99
              by_cases e : p = D.1 5
              · simp only [if_pos e]
                refine ⟨?_, ?_, ?_, w4.2, w5.1, w5.2⟩
                · show (a_p1 f n z D).2 < D.1 0
                  omega
                · show (a_p2 f n z D).2 < D.1 0
                  omega
                · show (a_p3 f n z D).2 < 6
                  omega
              · simp only [if_neg e]
                exact vp p (by omega)
          · rw [if_neg c] at s1'
            exact (a_fl_0 (by omega) s1').elim
        · rename_i m8
          rw [if_neg m8] at s1'
          split
          · rename_i m14
            rw [if_pos m14] at s1'
            have z2 : (a_g2 f n z).1.1 = 0 := s1'
            have w2 : 0 ≤ (a_g2 f n z).2 ∧ (a_g2 f n z).2 ≤ 99 := a_wn_v z2
            unfold a_gran
            dsimp only
            rw [if_pos z2]
            refine ⟨w_V_lD ⟨v0, v4, v5, vr, vp, fun k hk => ?_, fun _ => vs, vr2, vo, vl, fun e => absurd e c6⟩ h6 vs, h0, rfl⟩
            show w_u D.2.2.2 _ _ k ≤ 99
            by_cases e : k = (a_g1 f n z).2
            · rw [e, w_us]; exact w2.2
            · rw [w_uo _ _ e]; exact vg k hk
          · rename_i m14
            rw [if_neg m14] at s1'
            exact (a_fl_0 (by omega) s1').elim
  obtain ⟨m1, m2, m3⟩ := main
  refine ⟨m1, m2, ?_, tail⟩
  show w_u (a_body f n z D).2.1 6 ((a_body f n z D).2.1 6 + 1) 6 = _
  rw [w_us, m3]
/-- the lines, from here on -/
def a_go (f : Nat → Int32) (n : Nat) : Nat → a_Z → w_D → a_Z × w_D
  | 0, z, D => (z, D)
  | k + 1, z, D => if z.1 = 0 ∧ z.2.2 < n then a_go f n k ((a_line f n z D).1.1, (a_line f n z D).1.2.1, a_eb f n (a_line f n z D).1.2.2) (a_line f n z D).2 else (z, D)
theorem a_go_s (k : Nat) : a_go f n (k + 1) z D = if z.1 = 0 ∧ z.2.2 < n then a_go f n k ((a_line f n z D).1.1, (a_line f n z D).1.2.1, a_eb f n (a_line f n z D).1.2.2) (a_line f n z D).2 else (z, D) := Eq.trans rfl rfl
/-- what holds ahead of each line -/
def a_LI (f : Nat → Int32) (n : Nat) (z : a_Z) (D : w_D) : Prop := z.1 = 0 → w_V D ∧ (0 < D.1 6 → 2 ≤ D.1 0) ∧ D.1 6 ≤ z.2.2 ∧ a_bk f n z.2.2 = false ∧ z.2.1 = none ∧ z.2.2 ≤ n
theorem a_LI_s (hn : n ≤ 800) (h : a_LI f n z D) (hz : z.1 = 0) (hp : z.2.2 < n) (hq : (a_line f n z D).1.1 = 0 → (a_line f n z D).1.2.2 ≤ n) : a_LI f n ((a_line f n z D).1.1, (a_line f n z D).1.2.1, a_eb f n (a_line f n z D).1.2.2) (a_line f n z D).2 ∧ ((a_line f n z D).1.1 = 0 → z.2.2 + 1 ≤ a_eb f n (a_line f n z D).1.2.2) := by
  obtain ⟨h1, h2, h3, h4, h5, h6⟩ := h hz
  have eb := a_eb_p (f := f) hn (a_line f n z D).1.2.2
  refine ⟨fun e => ?_, fun e => ?_⟩
  · obtain ⟨k1, k2, k3, k4, k5, k6⟩ := a_line_V hn h1 h2 (by omega) e
    refine ⟨k1, fun _ => k2, ?_, eb.2.2.1, ?_, eb.2.1 (hq e)⟩
    · rw [k3]
      show D.1 6 + 1 ≤ a_eb f n (a_line f n z D).1.2.2
      omega
    · show (a_line f n z D).1.2.1 = none
      rw [k6, h5]
  · obtain ⟨k1, k2, k3, k4, k5, k6⟩ := a_line_V hn h1 h2 (by omega) e
    omega
theorem c_loop (hn : n ≤ 800) {J : AS → Option (AS × Unit)} : ∀ (k i : Nat) (z : a_Z) (D : w_D) (s : AS) (g : Nat), i + k = 801 → 0 < k → k < g → (z.1 = 0 → i ≤ z.2.2) → a_LI f n z D → c_ST f n z s → c_PL 3 D s → ∃ t, fX4_read_L30 1 3 J g s (nI i) = J t ∧ c_ST f n (a_go f n k z D).1 t ∧ ((a_go f n k z D).1.1 = 0 → c_PL 3 (a_go f n k z D).2 t) ∧ c_f3 s t ∧ a_LI f n (a_go f n k z D).1 (a_go f n k z D).2
  | 0, i, z, D, s, g, h1, h2, _, _, _, _, _ => by omega
  | k + 1, i, z, D, s, 0, h1, h2, h3, _, _, _, _ => by omega
  | k + 1, i, z, D, s, g + 1, h1, h2, h3, h4, h5, h6, h7 => by
    have hz := h6.2.2.2.2.1
    have z3 := h6.2.2.2.2.2.2.1
    have e0 : s.1 1 0 = nI z.1 := h6.1
    have e3 : s.1 1 3 = nI n := h6.2.2.1
    have e4 : s.1 1 4 = nI z.2.2 := h6.2.2.2.1
    rw [fX4_read_L30, a_go_s]
    simp only [b_lq]
    by_cases c : z.1 = 0 ∧ z.2.2 < n
    · rw [if_pos c]
      obtain ⟨v1, v2, v3, v4, v5, v6⟩ := h5 c.1
      have i8 := h4 c.1
      have v0 := v1.1
      have vl := v1.2.2.2.2.2.2.2.2.2.1
      obtain ⟨t1, x1, x2, x3, x4, b4⟩ := c_line hn h6 h7 vl v2 v0 v1.2.1 v1.2.2.1
      obtain ⟨t2, y1, y2, y3⟩ := c_skip hn x2
      have A := a_LI_s hn h5 c.1 c.2 (fun _ => x2.2.2.2.2.1)
      by_cases ck : k = 0
      · omega
      · obtain ⟨t, q1, q2, q3, q4, q5⟩ := c_loop hn (J := J) k (i + 1) ((a_line f n z D).1.1, (a_line f n z D).1.2.1, a_eb f n (a_line f n z D).1.2.2) (a_line f n z D).2 t2 g (by omega) (by omega) (by omega) (fun e => by have := A.2 e; show i + 1 ≤ a_eb f n (a_line f n z D).1.2.2; omega) A.1 y2 (c_PL1 x3 y3 b4.1 b4.2)
        refine ⟨t, ?_, q2, q3, fr_tr (fr_tr x4 (c_f13 y3)) q4, q5⟩
        rw [if_neg (by rw [b_le (by omega) (by omega)]; omega), if_pos (by rw [e0, c.1]), if_neg (by rw [e3, e4, b_le (by omega) (by omega)]; omega), x1, am_cq, y1, am_cq, am_lq, b_add]
        exact q1
    · rw [if_neg c]
      refine ⟨s, ?_, h6, fun _ => h7, fr_refl _ _, h5⟩
      by_cases c8 : 800 ≤ i
      · rw [if_pos (by rw [b_le (by omega) (by omega)]; exact c8)]
      · rw [if_neg (by rw [b_le (by omega) (by omega)]; exact c8)]
        by_cases c0 : z.1 = 0
        · rw [if_pos (by rw [e0, c0]), if_pos (by rw [e3, e4, b_le (by omega) (by omega)]; omega)]
        · rw [if_neg (by rw [e0, b_eq (by omega) (by omega)]; exact c0)]
/-- an empty plan -/
def a_D0 : w_D := (fun _ => 0, fun _ _ => 0, fun _ _ => 0, fun _ => 0)
theorem a_D0_V : w_V a_D0 := ⟨by decide, by decide, by decide, fun r hr => absurd hr (Nat.not_lt_zero _), fun p hp => absurd hp (Nat.not_lt_zero _), fun _ _ => (by decide : 0 ≤ 99), fun h => absurd h (Nat.not_lt_zero _), by decide, by decide, by decide, fun _ _ _ => rfl⟩
def a_z0 (f : Nat → Int32) (n : Nat) : a_Z := (0, none, a_eb f n 0)
/-- the text, read -/
def a_rd (f : Nat → Int32) (n : Nat) : a_Z × w_D := a_go f n 801 (a_z0 f n) a_D0
theorem c_read (hn : n ≤ 800) (hT : ∀ i, s.1 2 i = f i) : ∃ t, fX4_read s 1 (nI n) 3 = some (t, ()) ∧ c_ST f n (a_rd f n).1 t ∧ ((a_rd f n).1.1 = 0 → c_PL 3 (a_rd f n).2 t) ∧ c_f3 s t ∧ a_LI f n (a_rd f n).1 (a_rd f n).2 := by
  have F1 : c_f3 s (am_si (am_si (am_si (am_si s 1 3 (nI n)) 1 4 (nI 0)) 1 0 (nI 0)) 1 1 (oI none)) := fr_si (fr_si (fr_si (fr_si (fr_refl _ _) _ _ (.inl rfl)) _ _ (.inl rfl)) _ _ (.inl rfl)) _ _ (.inl rfl)
  have S1 : c_ST f n (0, none, 0) (am_si (am_si (am_si (am_si s 1 3 (nI n)) 1 4 (nI 0)) 1 0 (nI 0)) 1 1 (oI none)) := by
    refine ⟨?_, ?_, ?_, ?_, Nat.zero_le _, fun i => ?_, by decide, fun k hk => by cases hk⟩
    · simp (disch := omega) only [r_si, r_us, r_uo]
    · simp (disch := omega) only [r_si, r_us, r_uo]
    · simp (disch := omega) only [r_si, r_us, r_uo]
    · simp (disch := omega) only [r_si, r_us, r_uo]
    · simp (disch := omega) only [r_so]; exact hT i
  generalize hs : am_si (am_si (am_si (am_si s 1 3 (nI n)) 1 4 (nI 0)) 1 0 (nI 0)) 1 1 (oI none) = s1 at F1 S1
  obtain ⟨t1, a1, a2, a3⟩ := c_fill (am_si (am_si (am_si (am_si (am_si (am_si (am_si s1 3 0 (nI 0)) 3 1 (nI 0)) 3 2 (nI 0)) 3 3 (nI 0)) 3 4 (nI 0)) 3 5 (nI 0)) 3 6 (nI 0)) 24 6 (nI 0) (by omega)
  have S2 : c_ST f n (0, none, 0) t1 := by
    have := c_ST_o (c := 3) (k := 6) (x := nI 0) (c_ST_o (c := 3) (k := 5) (x := nI 0) (c_ST_o (c := 3) (k := 4) (x := nI 0) (c_ST_o (c := 3) (k := 3) (x := nI 0) (c_ST_o (c := 3) (k := 2) (x := nI 0) (c_ST_o (c := 3) (k := 1) (x := nI 0) (c_ST_o (c := 3) (k := 0) (x := nI 0) S1 (by omega) (by omega)) (by omega) (by omega)) (by omega) (by omega)) (by omega) (by omega)) (by omega) (by omega)) (by omega) (by omega)) (by omega) (by omega)
    unfold c_ST at this ⊢
    rw [a3.2 1 (by omega), a3.2 2 (by omega)]
    exact this
  have F2 : c_f3 s1 t1 := fr_tr (fr_si (fr_si (fr_si (fr_si (fr_si (fr_si (fr_si (fr_refl _ _) _ _ (by omega)) _ _ (by omega)) _ _ (by omega)) _ _ (by omega)) _ _ (by omega)) _ _ (by omega)) _ _ (by omega)) (fr_mono a3 (fun c hc => by omega))
  have P1 : c_PL 3 a_D0 t1 := by
    refine ⟨fun j hj => ?_, fun r j hr hj => absurd hr (Nat.not_lt_zero _), fun p j hp hj => absurd hp (Nat.not_lt_zero _), fun k hk => ?_, ?_⟩
    · rw [a3.2 3 (by omega)]
      show _ = nI 0
      rcases (by omega : j = 0 ∨ j = 1 ∨ j = 2 ∨ j = 3 ∨ j = 4 ∨ j = 5) with e | e | e | e | e | e <;> subst e <;> simp (disch := omega) only [r_si, r_us, r_uo]
    · show t1.1 24 k = nI 0
      rw [a2, if_pos hk]
    · rw [a3.2 3 (by omega)]
      show _ = nI 0
      simp (disch := omega) only [r_si, r_us, r_uo]
  obtain ⟨t2, y1, y2, y3⟩ := c_skip hn S2
  have eb := a_eb_p (f := f) hn 0
  have L0 : a_LI f n (a_z0 f n) a_D0 := fun _ => ⟨a_D0_V, fun h => absurd h (Nat.not_lt_zero _), Nat.zero_le _, eb.2.2.1, rfl, eb.2.1 (Nat.zero_le _)⟩
  obtain ⟨t, q1, q2, q3, q4, q5⟩ := c_loop (J := fun s9 => some (s9, ())) hn 801 0 (a_z0 f n) a_D0 t2 am_fu (by omega) (by omega) (am_fu_gt (by omega)) (fun _ => Nat.zero_le _) L0 y2 (c_PL1 P1 y3 (by decide) (by decide))
  refine ⟨t, ?_, q2, q3, fr_tr F1 (fr_tr F2 (fr_tr (c_f13 y3) q4)), q5⟩
  unfold fX4_read fX3_clear
  simp only [↓am_lq, b_lq, oI_q, hs]
  rw [a1, am_cq, am_cq, y1, am_cq]
  exact q1
end LE
