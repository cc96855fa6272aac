/-! THE TEXT: the class's lines, on. -/
/-- the same but for the reader's own cells -/
def c_e1 (s t : AS) : Prop := ∀ c, c ≠ 1 → t.1 c = s.1 c
section LD
variable {f : Nat → Int32} {n : Nat} {z : a_Z} {s t u : AS} {D : w_D}
theorem c_e1_f (h : c_f1 s t) : c_e1 s t := fun c hc => h.2 c hc
theorem c_e1_tr (h : c_e1 s t) (k : c_e1 t u) : c_e1 s u := fun c hc => (k c hc).trans (h c hc)
theorem c_e1_si (h : c_e1 s t) (c k : Nat) (x : Int32) : c_e1 (am_si s c k x) (am_si t c k x) := fun d hd => by
  by_cases e : d = c
  · subst e; rw [r_si, r_si, h d hd]
  · rw [r_so _ _ _ e, r_so _ _ _ e, h d hd]
theorem c_road (hn : n ≤ 800) (h : c_ST f n z s) (hP : c_PL 3 D s) (h0 : 1 ≤ D.1 0) (h7 : D.1 0 ≤ 7) (h4 : D.1 4 ≤ 10) (h5 : D.1 5 ≤ 8) : ∃ t, fX4_readRoad s 1 3 = some (t, ()) ∧ c_ST f n (a_road f n z D).1 t ∧ c_PL 3 (a_road f n z D).2 t ∧ c_f3 s t := by
  have e4 : s.1 3 5 = nI (D.1 4) := hP.1 4 (by omega)
  have e0 : s.1 3 1 = nI (D.1 0) := hP.1 0 (by omega)
  by_cases c : D.1 4 < 10
  · obtain ⟨b1l, b1h⟩ := a_nm_b (f := f) (n := n) (z := a_wd f n 5 z) (show 0 ≤ D.1 0 - 1 by omega)
    rw [show (a_nm f n 0 (D.1 0 - 1) (a_wd f n 5 z)).2 = (a_r1 f n z D).2 from rfl] at b1l b1h
    obtain ⟨b2l, b2h⟩ := a_nm_b (f := f) (n := n) (z := a_wd f n 6 (a_r1 f n z D).1) (show 0 ≤ D.1 0 - 1 by omega)
    rw [show (a_nm f n 0 (D.1 0 - 1) (a_wd f n 6 (a_r1 f n z D).1)).2 = (a_r2 f n z D).2 from rfl] at b2l b2h
    obtain ⟨t1, t2, x1, x2, x3, x4, x5, -⟩ := c_wn hn h (q := 5) (lo := 0) (hi := D.1 0 - 1) (by omega) (by omega) (by omega)
    have S2 : c_ST f n (a_r1 f n z D).1 (am_si t2 (3 + 1 + 1 + D.1 4) 0 (nI (a_r1 f n z D).2)) := c_ST_o x3 (by omega) (by omega)
    obtain ⟨t3, t4, y1, y2, y3, y4, y5, y6⟩ := c_wn hn S2 (q := 6) (lo := 0) (hi := D.1 0 - 1) (by omega) (by omega) (by omega)
    obtain ⟨tq, -, w2, -⟩ := c_tw hn S2 (q := 6) (by omega)
    have w2 := (a_eb_p (f := f) hn _).2.1 w2.2.2.2.2.1
    have S4 : c_ST f n (a_r2 f n z D).1 (am_si t4 (3 + 1 + 1 + D.1 4) 1 (nI (a_r2 f n z D).2)) := c_ST_o y3 (by omega) (by omega)
    generalize hb : a_eb f n (a_wd f n 6 (a_r1 f n z D).1).2.2 = eb at y6 w2
    have k5 : (am_si t4 (3 + 1 + 1 + D.1 4) 1 (nI (a_r2 f n z D).2)).1 1 5 = nI eb := by rw [r_so _ _ _ (by omega)]; exact y6
    have k0 : (am_si t4 (3 + 1 + 1 + D.1 4) 1 (nI (a_r2 f n z D).2)).1 (3 + 1 + 1 + D.1 4) 0 = nI (a_r1 f n z D).2 := by rw [r_si, r_uo _ _ (by omega), y5.2 _ (by omega), r_si, r_us]
    have k1 : (am_si t4 (3 + 1 + 1 + D.1 4) 1 (nI (a_r2 f n z D).2)).1 (3 + 1 + 1 + D.1 4) 1 = nI (a_r2 f n z D).2 := by rw [r_si, r_us]
    have S5 : ∃ t5, c_ST f n (a_r4 f n z D) t5 ∧ c_f1 (am_si t4 (3 + 1 + 1 + D.1 4) 1 (nI (a_r2 f n z D).2)) t5 ∧ ∀ J : AS → Option (AS × Unit), (if nI (a_r2 f n z D).2 = nI (a_r1 f n z D).2 then am_c (fX4_fail (am_si t4 (3 + 1 + 1 + D.1 4) 1 (nI (a_r2 f n z D).2)) 1 (nI 2) (nI eb)) (fun s25 _ => J s25) else J (am_si t4 (3 + 1 + 1 + D.1 4) 1 (nI (a_r2 f n z D).2))) = J t5 := by
      unfold a_r4
      by_cases e : (a_r2 f n z D).2 = (a_r1 f n z D).2
      · obtain ⟨t5, q1, q2, q3⟩ := c_fail S4 (c := 2) (a := eb) (by omega) (by omega)
        refine ⟨t5, ?_, q3, fun J => ?_⟩
        · rw [if_pos e, hb]; exact q2
        · rw [if_pos (by rw [e]), q1, am_cq]
      · refine ⟨_, ?_, fr_refl _ _, fun J => ?_⟩
        · rw [if_neg e]; exact S4
        · rw [if_neg (by rw [b_eq (by omega) (by omega)]; exact e)]
    obtain ⟨t5, v1, v2, v3⟩ := S5
    obtain ⟨t6, t7, u1, u2, u3, u4, u5, -⟩ := c_wn hn v1 (q := 7) (lo := 1) (hi := 99) (by omega) (by omega) (by omega)
    have S7 : c_ST f n (a_r3 f n z D).1 (am_si (am_si t7 (3 + 1 + 1 + D.1 4) 2 (nI (a_r3 f n z D).2)) 3 5 (nI (D.1 4 + 1))) := c_ST_o (c_ST_o u3 (by omega) (by omega)) (by omega) (by omega)
    have E : c_e1 (am_si (am_si (am_si (am_si s (3 + 1 + 1 + D.1 4) 0 (nI (a_r1 f n z D).2)) (3 + 1 + 1 + D.1 4) 1 (nI (a_r2 f n z D).2)) (3 + 1 + 1 + D.1 4) 2 (nI (a_r3 f n z D).2)) 3 5 (nI (D.1 4 + 1))) (am_si (am_si t7 (3 + 1 + 1 + D.1 4) 2 (nI (a_r3 f n z D).2)) 3 5 (nI (D.1 4 + 1))) :=
      c_e1_si (c_e1_si (c_e1_tr (c_e1_tr (c_e1_si (c_e1_tr (c_e1_si (c_e1_f x5) _ _ _) (c_e1_f y5)) _ _ _) (c_e1_f v2)) (c_e1_f u5)) _ _ _) _ _ _
    have e2 : (am_si t7 (3 + 1 + 1 + D.1 4) 2 (nI (a_r3 f n z D).2)).1 3 5 = nI (D.1 4) := by
      rw [r_so _ _ _ (by omega), u5.2 _ (by omega), v2.2 _ (by omega), r_so _ _ _ (by omega), y5.2 _ (by omega), r_so _ _ _ (by omega), x5.2 _ (by omega)]; exact e4
    have f31 : t1.1 3 1 = nI (D.1 0) := by rw [x4.2 _ (by omega)]; exact e0
    have f33 : t3.1 3 1 = nI (D.1 0) := by rw [y4.2 _ (by omega), r_so _ _ _ (by omega), x5.2 _ (by omega)]; exact e0
    have m : ∀ {c : Nat} {x y : AS} (k : Nat) (v : Int32), 3 ≤ c → c < 25 → c_f3 x y → c_f3 x (am_si y c k v) := fun k v h1 h2 hh => fr_si hh k v (.inr ⟨h1, h2⟩)
    refine ⟨am_si (am_si t7 (3 + 1 + 1 + D.1 4) 2 (nI (a_r3 f n z D).2)) 3 5 (nI (D.1 4 + 1)), ?_, ?_, ?_, m _ _ (by omega) (by omega) (m _ _ (by omega) (by omega) (fr_tr (m _ _ (by omega) (by omega) (fr_tr (m _ _ (by omega) (by omega) (c_f13 x5)) (c_f13 y5))) (fr_tr (c_f13 v2) (c_f13 u5))))⟩
    · have x2 : fX4_takeNumber t1 1 (nI 0) (nI (D.1 0 - 1)) = some (t2, nI (a_r1 f n z D).2) := x2
      have y2 : fX4_takeNumber t3 1 (nI 0) (nI (D.1 0 - 1)) = some (t4, nI (a_r2 f n z D).2) := y2
      have u2 : fX4_takeNumber t6 1 (nI 1) (nI 99) = some (t7, nI (a_r3 f n z D).2) := u2
      unfold fX4_readRoad
      simp (disch := omega) only [↓am_lq, b_lq, e4, b_lt, b_t, am_g_t, c, if_pos, b_lt0, x1, am_cq, f31, b_sub, x2, y1, f33, y2, k5, k0, k1, v3, u1, u2, e2, b_add, not_false_eq_true, or_self, if_true]
    · unfold a_road; rw [if_pos c]; exact S7
    · unfold a_road; rw [if_pos c]
      obtain ⟨q1, q2, q3, q4, q5⟩ := hP
      unfold a_rD
      refine ⟨fun j hj => ?_, fun r j hr hj => ?_, fun p j hp hj => ?_, fun k hk => ?_, ?_⟩
      · show _ = nI (w_u D.1 4 (D.1 4 + 1) j)
        rw [E 3 (by omega), r_si]
        by_cases k : j = 4
        · subst k; rw [w_us]; exact r_us _ _ _
        · rw [w_uo _ _ k, r_uo _ _ (by omega)]
          simp (disch := omega) only [r_so]
          exact q1 j hj
      · have hr : r < w_u D.1 4 (D.1 4 + 1) 4 := hr
        rw [w_us] at hr
        rw [E _ (by omega)]
        dsimp only
        by_cases k : r = D.1 4
        · subst k
          rw [if_pos rfl, r_so _ _ _ (by omega)]
          rcases (by omega : j = 0 ∨ j = 1 ∨ j = 2) with e | e | e <;> subst e
          · simp (disch := omega) only [r_si, r_us, r_uo, if_pos, if_neg, if_true]
          · simp (disch := omega) only [r_si, r_us, r_uo, if_pos, if_neg, if_true]
          · simp (disch := omega) only [r_si, r_us, r_uo, if_pos, if_neg, if_true]
        · rw [if_neg k]
          simp (disch := omega) only [r_so]
          exact q2 r j (by omega) hj
      · have hp : p < D.1 5 := hp
        rw [E _ (by omega)]
        simp (disch := omega) only [r_so]
        exact q3 p j hp hj
      · rw [E _ (by omega)]
        simp (disch := omega) only [r_so]
        exact q4 k hk
      · rw [E _ (by omega), r_si, r_uo _ _ (by omega)]
        simp (disch := omega) only [r_so]
        exact q5
  · obtain ⟨t, q1, q2, q3⟩ := c_fail h (c := 3) (a := z.2.2) (by omega) (by have := h.2.2.2.2.1; omega)
    have e1 : s.1 1 4 = nI z.2.2 := h.2.2.2.1
    refine ⟨t, ?_, ?_, ?_, c_f13 q3⟩
    · unfold fX4_readRoad
      simp (disch := omega) only [b_lq, e4, b_lt, if_neg, e1, q1, am_cq]
    · unfold a_road; rw [if_neg c]; exact q2
    · unfold a_road; rw [if_neg c]; exact c_PL1 hP q3 h4 h5
theorem c_pers (hn : n ≤ 800) (h : c_ST f n z s) (hP : c_PL 3 D s) (h0 : 1 ≤ D.1 0) (h7 : D.1 0 ≤ 7) (h4 : D.1 4 ≤ 10) (h5 : D.1 5 ≤ 8) : ∃ t, fX4_readPerson s 1 3 = some (t, ()) ∧ c_ST f n (a_pers f n z D).1 t ∧ c_PL 3 (a_pers f n z D).2 t ∧ c_f3 s t := by
  have e5 : s.1 3 6 = nI (D.1 5) := hP.1 5 (by omega)
  have e0 : s.1 3 1 = nI (D.1 0) := hP.1 0 (by omega)
  by_cases c : D.1 5 < 8
  · obtain ⟨t0, z1, z2, z3⟩ := c_tw hn h (q := 8) (by omega)
    obtain ⟨t1, t2, x1, x2, x3, x4, x5, -⟩ := c_wn hn z2 (q := 9) (lo := 0) (hi := D.1 0 - 1) (by omega) (by omega) (by omega)
    have S2 : c_ST f n (a_p1 f n z D).1 (am_si t2 (3 + 12 + 1 + D.1 5) 0 (nI (a_p1 f n z D).2)) := c_ST_o x3 (by omega) (by omega)
    obtain ⟨t3, t4, y1, y2, y3, y4, y5, -⟩ := c_wn hn S2 (q := 10) (lo := 0) (hi := D.1 0 - 1) (by omega) (by omega) (by omega)
    have S4 : c_ST f n (a_p2 f n z D).1 (am_si t4 (3 + 12 + 1 + D.1 5) 1 (nI (a_p2 f n z D).2)) := c_ST_o y3 (by omega) (by omega)
    obtain ⟨t5, t6, u1, u2, u3, u4, u5, -⟩ := c_wn hn S4 (q := 11) (lo := 0) (hi := 5) (by omega) (by omega) (by omega)
    have S6 : c_ST f n (a_p3 f n z D).1 (am_si t6 (3 + 12 + 1 + D.1 5) 2 (nI (a_p3 f n z D).2)) := c_ST_o u3 (by omega) (by omega)
    obtain ⟨t7, t8, v1, v2, v3, v4, v5, -⟩ := c_wn hn S6 (q := 12) (lo := 0) (hi := 9) (by omega) (by omega) (by omega)
    have S8 : c_ST f n (a_p4 f n z D).1 (am_si t8 (3 + 12 + 1 + D.1 5) 3 (nI (a_p4 f n z D).2)) := c_ST_o v3 (by omega) (by omega)
    obtain ⟨t9, ta, w1, w2, w3, w4, w5, -⟩ := c_wn hn S8 (q := 13) (lo := 1) (hi := 99) (by omega) (by omega) (by omega)
    have SA : c_ST f n (a_p5 f n z D).1 (am_si (am_si ta (3 + 12 + 1 + D.1 5) 4 (nI (a_p5 f n z D).2)) 3 6 (nI (D.1 5 + 1))) := c_ST_o (c_ST_o w3 (by omega) (by omega)) (by omega) (by omega)
    have E0 : c_e1 (am_si (am_si (am_si (am_si (am_si s (3 + 12 + 1 + D.1 5) 0 (nI (a_p1 f n z D).2)) (3 + 12 + 1 + D.1 5) 1 (nI (a_p2 f n z D).2)) (3 + 12 + 1 + D.1 5) 2 (nI (a_p3 f n z D).2)) (3 + 12 + 1 + D.1 5) 3 (nI (a_p4 f n z D).2)) (3 + 12 + 1 + D.1 5) 4 (nI (a_p5 f n z D).2)) (am_si ta (3 + 12 + 1 + D.1 5) 4 (nI (a_p5 f n z D).2)) :=
      c_e1_si (c_e1_tr (c_e1_si (c_e1_tr (c_e1_si (c_e1_tr (c_e1_si (c_e1_tr (c_e1_si (c_e1_tr (c_e1_f z3) (c_e1_f x5)) _ _ _) (c_e1_f y5)) _ _ _) (c_e1_f u5)) _ _ _) (c_e1_f v5)) _ _ _) (c_e1_f w5)) _ _ _
    have E := c_e1_si E0 3 6 (nI (D.1 5 + 1))
    have e2 : (am_si ta (3 + 12 + 1 + D.1 5) 4 (nI (a_p5 f n z D).2)).1 3 6 = nI (D.1 5) := by
      rw [E0 _ (by omega)]
      simp (disch := omega) only [r_so]
      exact e5
    have f31 : t1.1 3 1 = nI (D.1 0) := by rw [x4.2 _ (by omega), z3.2 _ (by omega)]; exact e0
    have f33 : t3.1 3 1 = nI (D.1 0) := by rw [y4.2 _ (by omega), r_so _ _ _ (by omega), x5.2 _ (by omega), z3.2 _ (by omega)]; exact e0
    have m : ∀ {c : Nat} {x y : AS} (k : Nat) (v : Int32), 3 ≤ c → c < 25 → c_f3 x y → c_f3 x (am_si y c k v) := fun k v h1 h2 hh => fr_si hh k v (.inr ⟨h1, h2⟩)
    refine ⟨am_si (am_si ta (3 + 12 + 1 + D.1 5) 4 (nI (a_p5 f n z D).2)) 3 6 (nI (D.1 5 + 1)), ?_, ?_, ?_, m _ _ (by omega) (by omega) (m _ _ (by omega) (by omega) (fr_tr (m _ _ (by omega) (by omega) (fr_tr (m _ _ (by omega) (by omega) (fr_tr (m _ _ (by omega) (by omega) (fr_tr (m _ _ (by omega) (by omega) (fr_tr (c_f13 z3) (c_f13 x5))) (c_f13 y5))) (c_f13 u5))) (c_f13 v5))) (c_f13 w5)))⟩
    · have x2 : fX4_takeNumber t1 1 (nI 0) (nI (D.1 0 - 1)) = some (t2, nI (a_p1 f n z D).2) := x2
      have y2 : fX4_takeNumber t3 1 (nI 0) (nI (D.1 0 - 1)) = some (t4, nI (a_p2 f n z D).2) := y2
      have u2 : fX4_takeNumber t5 1 (nI 0) (nI 5) = some (t6, nI (a_p3 f n z D).2) := u2
      have v2 : fX4_takeNumber t7 1 (nI 0) (nI 9) = some (t8, nI (a_p4 f n z D).2) := v2
      have w2 : fX4_takeNumber t9 1 (nI 1) (nI 99) = some (ta, nI (a_p5 f n z D).2) := w2
      unfold fX4_readPerson
      simp (disch := omega) only [↓am_lq, b_lq, e5, b_lt, b_t, am_g_t, c, if_pos, b_lt0, z1, x1, am_cq, f31, b_sub, x2, y1, f33, y2, u1, u2, v1, v2, w1, w2, e2, b_add, not_false_eq_true, or_self, if_true]
    · unfold a_pers; rw [if_pos c]; exact SA
    · unfold a_pers; rw [if_pos c]
      obtain ⟨q1, q2, q3, q4, q5⟩ := hP
      unfold a_pD
      refine ⟨fun j hj => ?_, fun r j hr hj => ?_, fun p j hp hj => ?_, fun k hk => ?_, ?_⟩
      · show _ = nI (w_u D.1 5 (D.1 5 + 1) j)
        rw [E 3 (by omega), r_si]
        by_cases k : j = 5
        · subst k; rw [w_us]; exact r_us _ _ _
        · rw [w_uo _ _ k, r_uo _ _ (by omega)]
          simp (disch := omega) only [r_so]
          exact q1 j hj
      · have hr : r < D.1 4 := hr
        rw [E _ (by omega)]
        simp (disch := omega) only [r_so]
        exact q2 r j hr hj
      · have hp : p < w_u D.1 5 (D.1 5 + 1) 5 := hp
        rw [w_us] at hp
        rw [E _ (by omega)]
        dsimp only
        by_cases k : p = D.1 5
        · subst k
          rw [if_pos rfl, r_so _ _ _ (by omega)]
          rcases (by omega : j = 0 ∨ j = 1 ∨ j = 2 ∨ j = 3 ∨ j = 4) with e | e | e | e | e <;> subst e <;> simp (disch := omega) only [r_si, r_us, r_uo, if_pos, if_neg, if_true]
        · rw [if_neg k]
          simp (disch := omega) only [r_so]
          exact q3 p j (by omega) hj
      · rw [E _ (by omega)]
        simp (disch := omega) only [r_so]
        exact q4 k hk
      · rw [E _ (by omega), r_si, r_uo _ _ (by omega)]
        simp (disch := omega) only [r_so]
        exact q5
  · obtain ⟨t, q1, q2, q3⟩ := c_fail h (c := 3) (a := z.2.2) (by omega) (by have := h.2.2.2.2.1; omega)
    have e1 : s.1 1 4 = nI z.2.2 := h.2.2.2.1
    refine ⟨t, ?_, ?_, ?_, c_f13 q3⟩
    · unfold fX4_readPerson
      simp (disch := omega) only [b_lq, e5, b_lt, if_neg, e1, q1, am_cq]
    · unfold a_pers; rw [if_neg c]; exact q2
    · unfold a_pers; rw [if_neg c]; exact c_PL1 hP q3 h4 h5
theorem c_gran (hn : n ≤ 800) (h : c_ST f n z s) (hP : c_PL 3 D s) (h4 : D.1 4 ≤ 10) (h5 : D.1 5 ≤ 8) : ∃ t, fX4_readGrant s 1 3 = some (t, ()) ∧ c_ST f n (a_gran f n z D).1 t ∧ c_PL 3 (a_gran f n z D).2 t ∧ c_f3 s t := by
  obtain ⟨b1l, b1h⟩ := a_nm_b (f := f) (n := n) (z := a_wd f n 14 z) (show 0 ≤ 5 by omega)
  rw [show (a_nm f n 0 5 (a_wd f n 14 z)).2 = (a_g1 f n z).2 from rfl] at b1l b1h
  obtain ⟨t1, t2, x1, x2, x3, x4, x5, -⟩ := c_wn hn h (q := 14) (lo := 0) (hi := 5) (by omega) (by omega) (by omega)
  obtain ⟨t3, t4, y1, y2, y3, y4, y5, -⟩ := c_wn hn (z := (a_g1 f n z).1) x3 (q := 15) (lo := 0) (hi := 99) (by omega) (by omega) (by omega)
  have F : c_f1 s t4 := fr_tr x5 y5
  have k0 : t4.1 1 0 = nI (a_g2 f n z).1.1 := y3.1
  have kl : (a_g2 f n z).1.1 ≤ 3 := y3.2.2.2.2.2.2.1
  have PL := c_PL1 hP F h4 h5
  have x2' : fX4_takeNumber t1 1 (nI 0) (nI 5) = some (t2, nI (a_g1 f n z).2) := x2
  have y2' : fX4_takeNumber t3 1 (nI 0) (nI 99) = some (t4, nI (a_g2 f n z).2) := y2
  by_cases c : (a_g2 f n z).1.1 = 0
  · refine ⟨am_si t4 24 (a_g1 f n z).2 (nI (a_g2 f n z).2), ?_, c_ST_o y3 (by omega) (by omega), ?_, fr_si (c_f13 F) _ _ (by omega)⟩
    · unfold fX4_readGrant
      simp (disch := omega) only [↓am_lq, b_lq, x1, am_cq, x2', y1, y2', k0, b_eq, c, if_pos, b_t, am_g_t, b_lt0, not_false_eq_true, or_false, false_or, if_true]
    · unfold a_gran; rw [if_pos c]
      obtain ⟨q1, q2, q3, q4, q5⟩ := PL
      refine ⟨fun j hj => ?_, fun r j hr hj => ?_, fun p j hp hj => ?_, fun k hk => ?_, ?_⟩
      · rw [r_so _ _ _ (by omega)]; exact q1 j hj
      · have hr : r < D.1 4 := hr
        rw [r_so _ _ _ (by omega)]; exact q2 r j hr hj
      · have hp : p < D.1 5 := hp
        rw [r_so _ _ _ (by omega)]; exact q3 p j hp hj
      · show (am_si t4 24 _ _).1 24 k = nI (w_u D.2.2.2 _ _ k)
        rw [r_si]
        by_cases e : k = (a_g1 f n z).2
        · rw [e, r_us, w_us]
        · rw [r_uo _ _ e, w_uo _ _ e]; exact q4 k hk
      · rw [r_so _ _ _ (by omega)]; exact q5
  · refine ⟨t4, ?_, y3, ?_, c_f13 F⟩
    · unfold fX4_readGrant
      simp (disch := omega) only [↓am_lq, b_lq, x1, am_cq, x2', y1, y2', k0, b_eq, if_neg]
    · unfold a_gran; rw [if_neg c]; exact PL
end LD
