/-! THE TEXT: the reference's loop over the lines. -/
section RN
variable {f : Nat → Int32} {n : Nat} {z : a_Z} {s t u : AS} {D : w_D}
theorem r_DL_f3 (h : r_DL D s) (k : r_f3 s t) : r_DL D t := by
  obtain ⟨c1, c2, c3, c4, c5, c6⟩ := h
  refine ⟨fun j hj => ?_, fun r j hr hj => ?_, fun p j hp hj => ?_, fun j hj => ?_, ?_, ?_⟩
  · rw [k.1 _ (by omega)]; exact c1 j hj
  · rw [k.1 _ (by omega)]; exact c2 r j hr hj
  · rw [k.1 _ (by omega)]; exact c3 p j hp hj
  · rw [k.1 _ (by omega)]; exact c4 j hj
  · rw [k.1 _ (by omega)]; exact c5
  · rw [k.1 _ (by omega)]; exact c6
theorem a_fl_p {c a p q : Nat} (hc : c ≠ 0) (h : r_ST f n (a_fl z c a p) s) : r_ST f n (a_fl z c a q) s := by
  have h0 : (a_fl z c a p).1 ≠ 0 := fun e => a_fl_0 hc e
  refine r_ST_e h h0 ?_ ?_
  · unfold a_fl; split <;> rfl
  · unfold a_fl; split <;> rfl
theorem r_gran (hn : n ≤ 800) (h : r_ST f n z s) (hP : r_DL D s) {J : AS → Option (AS × Unit)} : ∃ t, (am_c (fX9_asks s (nJ 4075508)) (fun s7 _ => am_c (fX9_number s7 (nI 0) (nI 5)) (fun s9 v8 => am_c (fX9_number_ s9 (nJ 1903978) (nI 0) (nI 99)) (fun s11 v10 => am_r (fX9_isGood s11) (fun v12 => if v12 = nI 0 then J s11 else am_g (¬ ((nI 24 + v8) < nI 0 ∨ 30 ≤ (nI 24 + v8).toNatClampNeg)) (J (am_si s11 225 (nI 24 + v8).toNatClampNeg v10))))))) = J t ∧ r_ST f n (a_g2 f n z).1 t ∧ ((a_g2 f n z).1.1 = 0 → r_DL (a_gran f n z D).2 t) ∧ r_fL s t := by
  obtain ⟨t1, x1, x2, x3⟩ := r_asks hn h (q := 14) (by omega)
  obtain ⟨t2, v1, y1, y2, y3, y4, y5, y6⟩ := r_num hn x2 (lo := 0) (hi := 5) (by omega) (by omega)
  have y2 : r_ST f n (a_g1 f n z).1 t2 := y2
  obtain ⟨t3, v2, u1, u2, u3, u4, u5, u6⟩ := r_numw hn y2 (q := 15) (lo := 0) (hi := 99) (by omega) (by omega) (by omega)
  have u2 : r_ST f n (a_g2 f n z).1 t3 := u2
  have x1 : fX9_asks s (nJ 4075508) = _ := x1
  have u1 : fX9_number_ t2 (nJ 1903978) (nI 0) (nI 99) = _ := u1
  have F := r_f3_tr (r_f3_tr x3 y3) u3
  have PL := r_DL_f3 hP F
  have b5 : r_bl 225 * 4 = 24 := by decide
  rw [x1, am_cq, y1, am_cq, u1, am_cq, r_good u2, am_rq, m_if0, b_add, b_t (by omega), am_g_t (b_ok (by omega) (by omega))]
  by_cases c : (a_g2 f n z).1.1 = 0
  · have k1 : v1 = (a_g1 f n z).2 := y6 (a_nm_0 (a_wd_0 (a_nm_0 c).1).1).1
    have k2 : v2 = (a_g2 f n z).2 := u6 (a_nm_0 c).1
    refine ⟨am_si t3 225 (24 + v1) (nI v2), ?_, r_ST_o u2 (by omega) (by omega), fun _ => ?_, r_fL_si (r_f3L F) _ (by omega) (by omega) (by omega)⟩
    · rw [decide_eq_true c, if_pos rfl]
    · obtain ⟨c1, c2, c3, c4, c5, c6⟩ := PL
      unfold a_gran
      dsimp only
      rw [if_pos c]
      refine ⟨fun j hj => ?_, fun r j hr hj => ?_, fun p j hp hj => ?_, fun k hk => ?_, ?_, ?_⟩
      · rw [r_so _ _ _ (by omega)]; exact c1 j hj
      · rw [r_so _ _ _ (by omega)]; exact c2 r j hr hj
      · rw [r_so _ _ _ (by omega)]; exact c3 p j hp hj
      · show _ = nI (w_u D.2.2.2 (a_g1 f n z).2 (a_g2 f n z).2 k)
        rw [r_si, ← k1, ← k2]
        by_cases e : k = v1
        · rw [e, r_us, w_us]
        · rw [r_uo _ _ (by omega), w_uo _ _ e]; exact c4 k hk
      · rw [r_so _ _ _ (by omega)]; exact c5
      · rw [r_so _ _ _ (by omega)]; exact c6
  · refine ⟨t3, ?_, u2, fun e => absurd e c, r_f3L F⟩
    rw [decide_eq_false c, if_neg (by simp)]
theorem a_fl_3' {c a p : Nat} (hz : z.1 = 0) : a_fl z c a p = (c, some a, p) := by unfold a_fl; rw [if_pos hz]
/-- a line but its sign -/
theorem r_line (hn : n ≤ 800) (h : r_ST f n z s) (hz : z.1 = 0) (hb : a_bk f n z.2.2 = false) (hP : r_DL D s) (h6 : D.1 6 ≠ 0) (h0 : 1 ≤ D.1 0) (h7 : D.1 0 ≤ 7) (h4 : D.1 4 ≤ 10) (h5 : D.1 5 ≤ 8) : ∃ t, fX9_line s = some (t, ()) ∧ r_ST f n (a_body f n z D).1 t ∧ ((a_body f n z D).1.1 = 0 → r_DL (a_body f n z D).2 t) ∧ r_fL s t := by
  have eb : a_eb f n z.2.2 = z.2.2 := a_eb_i hn hb
  obtain ⟨c1, c2, c3, c4, c5, c6⟩ := id hP
  have e4 : s.1 222 (28 + 4) = nI (D.1 4) := c1 4 (by omega)
  have e5 : s.1 222 (28 + 5) = nI (D.1 5) := c1 5 (by omega)
  have e12 : s.1 215 12 = nI 0 := by rw [h.2.2.1, hz]
  have i5 : fX9_is s (nJ 365260) = _ := r_is hn h (q := 5) (by omega)
  have i8 : fX9_is s (nJ 232608281) = _ := r_is hn h (q := 8) (by omega)
  rw [eb, decide_eq_true hz, Bool.true_and] at i5 i8
  have n0 : ¬ nI 1 = nI 0 := by decide
  have n3 : ¬ nI 3 = nI 0 := by decide
  have nf : ¬ (false = true) := by decide
  unfold a_body
  rw [if_neg h6]
  unfold fX9_line
  simp only [↓am_lq, b_lq, j_lq]
  rw [i5, am_rq]
  cases m5 : a_mt f n 5 z.2.2 with
  | true =>
    rw [if_pos rfl]
    obtain ⟨k1, k2⟩ := r_room1 hn h hz (q := 5) (by omega) (by rw [eb]; exact m5) (e := 4) (k := D.1 4) (most := 10) (by omega) (by omega) (by omega) e4
    unfold a_road
    by_cases c : D.1 4 < 10
    · rw [if_pos c]
      obtain ⟨t1, x1, x2, x3⟩ := k2 (by omega)
      obtain ⟨t2, y1, y2, y3, y4⟩ := r_road hn x2 (r_DL_f3 hP x3) h0 h7 c
      refine ⟨t2, ?_, y2, y3, r_fL_tr (r_f3L x3) y4⟩
      rw [show nI true.toNat = nI 1 from rfl, x1, am_cq, if_neg n0, y1, am_cq]
    · rw [if_neg c]
      obtain ⟨t1, x1, x2, x3⟩ := k1 (by omega)
      rw [eb] at x2
      have f12 : t1.1 215 12 = nI 3 := by rw [x2.2.2.1, a_fl_3' hz]
      refine ⟨t1, ?_, x2, fun e => (a_fl_0 (by omega) e).elim, r_f3L x3⟩
      rw [show nI true.toNat = nI 1 from rfl, x1, am_cq, if_pos rfl, f12, if_neg n3, if_neg n3]
  | false =>
    rw [if_neg nf, show nI false.toNat = nI 0 from rfl, r_room0, am_cq, if_pos rfl, e12, if_pos rfl, i8, am_rq]
    cases m8 : a_mt f n 8 z.2.2 with
    | true =>
      rw [if_pos rfl]
      obtain ⟨k1, k2⟩ := r_room1 hn h hz (q := 8) (by omega) (by rw [eb]; exact m8) (e := 5) (k := D.1 5) (most := 8) (by omega) (by omega) (by omega) e5
      unfold a_pers
      by_cases c : D.1 5 < 8
      · rw [if_pos c]
        obtain ⟨t1, x1, x2, x3⟩ := k2 (by omega)
        obtain ⟨t2, y1, y2, y3, y4⟩ := r_pers hn x2 (r_DL_f3 hP x3) h0 h7 c
        refine ⟨t2, ?_, y2, y3, r_fL_tr (r_f3L x3) y4⟩
        rw [show nI true.toNat = nI 1 from rfl, x1, am_cq, if_neg n0, y1, am_cq]
      · rw [if_neg c]
        obtain ⟨t1, x1, x2, x3⟩ := k1 (by omega)
        rw [eb] at x2
        have f12 : t1.1 215 12 = nI 3 := by rw [x2.2.2.1, a_fl_3' hz]
        refine ⟨t1, ?_, x2, fun e => (a_fl_0 (by omega) e).elim, r_f3L x3⟩
        rw [show nI true.toNat = nI 1 from rfl, x1, am_cq, if_pos rfl, f12, if_neg n3]
    | false =>
      rw [if_neg nf, show nI false.toNat = nI 0 from rfl, r_room0, am_cq, if_pos rfl, e12, if_pos rfl]
      obtain ⟨t1, x1, x2, x3, x4⟩ := r_gran hn h hP (J := fun s4 => some (s4, ()))
      refine ⟨t1, x1, ?_, ?_, x4⟩
      · cases m14 : a_mt f n 14 z.2.2 with
        | true => rw [if_pos rfl]; exact x2
        | false =>
          rw [if_neg nf]
          have w1 : a_wd f n 14 z = (1, some z.2.2, z.2.2) := by
            unfold a_wd
            rw [eb, m14, if_neg nf, a_fl_3' hz]
          have w2 : (a_g2 f n z).1.1 = 1 ∧ (a_g2 f n z).1.2.1 = some z.2.2 := by
            have q1 : (a_g1 f n z).1.1 = 1 ∧ (a_g1 f n z).1.2.1 = some z.2.2 := by
              have := a_nm_k (f := f) (n := n) (lo := 0) (hi := 5) (z := a_wd f n 14 z) (by rw [w1]; show (1 : Nat) ≠ 0; omega)
              rw [w1] at this
              have e : a_g1 f n z = a_nm f n 0 5 (1, some z.2.2, z.2.2) := by rw [← w1]; rfl
              rw [e]; exact this
            have q2 := a_wd_k (f := f) (n := n) (q := 15) (z := (a_g1 f n z).1) (by rw [q1.1]; omega)
            have q3 := a_nm_k (f := f) (n := n) (lo := 0) (hi := 99) (z := a_wd f n 15 (a_g1 f n z).1) (by rw [q2.1, q1.1]; omega)
            have e : a_g2 f n z = a_nm f n 0 99 (a_wd f n 15 (a_g1 f n z).1) := rfl
            rw [e]
            exact ⟨by rw [q3.1, q2.1, q1.1], by rw [q3.2, q2.2, q1.2]⟩
          rw [a_fl_3' hz]
          exact r_ST_e x2 (by rw [w2.1]; omega) w2.1 w2.2
      · cases m14 : a_mt f n 14 z.2.2 with
        | true => rw [if_pos rfl]; exact x3
        | false => rw [if_neg nf]; exact fun e => (a_fl_0 (by omega) e).elim
theorem r_DL_lD (h : r_DL D s) : r_DL (a_lD D) (am_si s 221 4 (nI (D.1 6 + 1))) := by
  obtain ⟨c1, c2, c3, c4, c5, c6⟩ := h
  unfold a_lD
  refine ⟨fun j hj => ?_, fun r j hr hj => ?_, fun p j hp hj => ?_, fun k hk => ?_, ?_, ?_⟩
  · show _ = nI (w_u D.1 6 (D.1 6 + 1) j)
    rw [r_so _ _ _ (by omega), w_uo _ _ (by omega)]; exact c1 j hj
  · have hr : r < w_u D.1 6 (D.1 6 + 1) 4 := hr
    rw [w_uo _ _ (by omega)] at hr
    rw [r_so _ _ _ (by omega)]; exact c2 r j hr hj
  · have hp : p < w_u D.1 6 (D.1 6 + 1) 5 := hp
    rw [w_uo _ _ (by omega)] at hp
    rw [r_so _ _ _ (by omega)]; exact c3 p j hp hj
  · rw [r_so _ _ _ (by omega)]; exact c4 k hk
  · show _ = nI (w_u D.1 6 (D.1 6 + 1) 6)
    rw [r_si, r_us, w_us]
  · rw [r_so _ _ _ (by omega)]; exact c6
/-- over the blanks, nothing is told otherwise -/
theorem r_ST_eb (hn : n ≤ 800) (h : r_ST f n z s) : r_ST f n (z.1, z.2.1, a_eb f n z.2.2) s := by
  obtain ⟨h1, h2, h3, h4, h5⟩ := h
  have eb := a_eb_p (f := f) hn z.2.2
  refine ⟨h1, h2, h3, h4, fun e => ?_⟩
  obtain ⟨k1, k2⟩ := h5 e
  refine ⟨eb.2.1 k1, ?_⟩
  show r_TK f n (a_eb f n (a_eb f n z.2.2)) s
  rw [a_eb_i hn eb.2.2.1]
  exact k2
theorem a_body_6 : (a_body f n z D).2.1 6 = D.1 6 := by
  unfold a_body a_road a_pers a_gran a_head
  split
  · rfl
  · split
    · split <;> rfl
    · split
      · split <;> rfl
      · split
        · dsimp only
          split <;> rfl
        · rfl
theorem r_loop (hn : n ≤ 800) {J : AS → Option (AS × Int32)} : ∀ (k : Nat) (z : a_Z) (D : w_D) (s : AS) (g : Nat), (z.1 = 0 → n < z.2.2 + k) → k < g → a_LI f n z D → r_ST f n z s → (z.1 = 0 → r_DL D s) → ∃ t, fX9_march_L13 J g s = J t ∧ r_ST f n (a_go f n k z D).1 t ∧ ((a_go f n k z D).1.1 = 0 → r_DL (a_go f n k z D).2 t) ∧ r_fL s t
  | k, z, D, s, 0, h1, h2, _, _, _ => by omega
  | 0, z, D, s, g + 1, h1, h2, h3, h4, h5 => by
    have nz : z.1 ≠ 0 := fun e => by have := h1 e; have := (h4.2.2.2.2 e).1; omega
    refine ⟨s, ?_, h4, h5, r_fL_refl s⟩
    rw [fX9_march_L13, r_good h4, am_rq, decide_eq_false nz, if_pos (show nI false.toNat = (0 : Int32) from rfl)]
  | k + 1, z, D, s, g + 1, h1, h2, h3, h4, h5 => by
    rw [a_go_s]
    by_cases nz : z.1 = 0
    · obtain ⟨v1, v2, v3, v4, v5, v6⟩ := h3 nz
      have PL := h5 nz
      have eb : a_eb f n z.2.2 = z.2.2 := a_eb_i hn v4
      by_cases c : z.2.2 < n
      · rw [if_pos ⟨nz, c⟩]
        obtain ⟨d0, d4, d5, -⟩ := id v1
        have dl := v1.2.2.2.2.2.2.2.2.2.1
        have e6 : s.1 221 4 = nI (D.1 6) := PL.2.2.2.2.1
        have t8 : ¬ s.1 215 8 = nI 0 := by
          obtain ⟨-, q⟩ := (h4.2.2.2.2 nz)
          rw [eb] at q
          rcases q with ⟨-, ⟨k2, k3⟩ | ⟨k2, k3, k4, k5, k6⟩ | ⟨k2, k3, k4, k5, k6⟩ | ⟨k2, k3, k4, k5, k6⟩⟩
          · omega
          · rw [k4]; decide
          · rw [k5]; decide
          · rw [k5]; split <;> decide
        have B : ∃ t1, (∀ K : AS → Option (AS × Int32), (if (s.1 221 4) = nI 0 then (am_c (fX9_marchLine s) (fun s26 _ => K s26)) else (am_c (fX9_line s) (fun s24 _ => K s24))) = K t1) ∧ r_ST f n (a_body f n z D).1 t1 ∧ ((a_body f n z D).1.1 = 0 → r_DL (a_body f n z D).2 t1) ∧ r_fL s t1 := by
          by_cases c6 : D.1 6 = 0
          · obtain ⟨t1, x1, x2, x3, x4⟩ := r_head hn h4 PL
            refine ⟨t1, fun K => ?_, ?_⟩
            · rw [if_pos (by rw [e6, c6]), x1, am_cq]
            · unfold a_body
              rw [if_pos c6]
              exact ⟨x2, x3, x4⟩
          · obtain ⟨t1, x1, x2, x3, x4⟩ := r_line hn h4 nz v4 PL c6 (by have := v2 (by omega); omega) d0 d4 d5
            refine ⟨t1, fun K => ?_, x2, x3, x4⟩
            rw [if_neg (by rw [e6, b_eq (by omega) (by omega)]; exact c6), x1, am_cq]
        obtain ⟨t1, x1, x2, x3, x4⟩ := B
        have C : ∃ t2, (∀ K : AS → Option (AS × Int32), (am_r (fX9_isGood t1) (fun v16 => if v16 = nI 0 then K t1 else (am_c (fX9_lineEnds t1) (fun s22 _ => K s22)))) = K t2) ∧ r_ST f n (a_line f n z D).1 t2 ∧ r_f3 t1 t2 := by
          by_cases b0 : (a_body f n z D).1.1 = 0
          · obtain ⟨t2, y1, y2, y3⟩ := r_enz hn x2 b0
            refine ⟨t2, fun K => ?_, y2, y3⟩
            rw [r_good x2, am_rq, decide_eq_true b0, if_neg (by decide), y1, am_cq]
          · have q := a_sg_k (f := f) (n := n) (z := (a_body f n z D).1) b0
            refine ⟨t1, fun K => ?_, r_ST_e x2 b0 q.1.symm q.2.symm, r_f3_refl _⟩
            rw [r_good x2, am_rq, decide_eq_false b0, if_pos (show nI false.toNat = nI 0 from rfl)]
        obtain ⟨t2, y1, y2, y3⟩ := C
        have b1 : r_bl 221 * 4 = 4 := by decide
        have A := a_LI_s hn h3 nz c (fun e => (y2.2.2.2.2 e).1)
        have S3 : r_ST f n ((a_line f n z D).1.1, (a_line f n z D).1.2.1, a_eb f n (a_line f n z D).1.2.2) (am_si t2 221 4 ((t2.1 221 4) + nI 1)) := r_ST_o (r_ST_eb hn y2) (by omega) (by omega)
        obtain ⟨t, q1, q2, q3, q4⟩ := r_loop hn (J := J) k ((a_line f n z D).1.1, (a_line f n z D).1.2.1, a_eb f n (a_line f n z D).1.2.2) (a_line f n z D).2 (am_si t2 221 4 ((t2.1 221 4) + nI 1)) g (fun e => by
            have := A.2 e
            have := h1 nz
            show n < a_eb f n (a_line f n z D).1.2.2 + k
            omega) (by omega) A.1 S3 (fun e => by
            have s0 := (a_sg_0 (z := (a_body f n z D).1) e).1
            have PB := r_DL_f3 (x3 s0) y3
            have e7 : t2.1 221 4 = nI (D.1 6) := by rw [PB.2.2.2.2.1, a_body_6]
            rw [e7, b_add, ← a_body_6 (f := f) (n := n) (z := z) (D := D)]
            exact r_DL_lD PB)
        refine ⟨t, ?_, q2, q3, r_fL_tr (r_fL_tr x4 (r_fL_si (r_f3L y3) _ (by omega) (by omega) (by omega))) q4⟩
        rw [fX9_march_L13, r_good h4, am_rq, decide_eq_true nz, if_neg (by decide)]
        simp only [↓am_lq, b_lq]
        rw [if_neg t8, am_g_t (by decide), b_t (by omega), x1]
        refine (y1 (fun s17 => am_g (¬ (nI 4 < nI 0 ∨ 5 ≤ 4)) (am_g (¬ (nI 4 < nI 0 ∨ 5 ≤ 4)) (fX9_march_L13 J g (am_si s17 221 4 (s17.1 221 4 + nI 1)))))).trans ?_
        rw [am_g_t (by decide), am_g_t (by decide)]
        exact q1
      · rw [if_neg (fun e => c e.2)]
        refine ⟨s, ?_, h4, h5, r_fL_refl s⟩
        have t8 : s.1 215 8 = nI 0 := by
          obtain ⟨-, q⟩ := (h4.2.2.2.2 nz)
          rw [eb] at q
          rcases q with ⟨-, ⟨k2, k3⟩ | ⟨k2, k3, k4, k5, k6⟩ | ⟨k2, k3, k4, k5, k6⟩ | ⟨k2, k3, k4, k5, k6⟩⟩
          · exact k3
          · omega
          · omega
          · omega
        rw [fX9_march_L13, r_good h4, am_rq, decide_eq_true nz, if_neg (by decide)]
        simp only [b_lq]
        rw [if_pos t8]
    · rw [if_neg (fun e => nz e.1)]
      refine ⟨s, ?_, h4, h5, r_fL_refl s⟩
      rw [fX9_march_L13, r_good h4, am_rq, decide_eq_false nz, if_pos (show nI false.toNat = (0 : Int32) from rfl)]
end RN
