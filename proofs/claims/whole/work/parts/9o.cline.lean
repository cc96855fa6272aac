/-! THE TEXT: the class's lines. -/
theorem a_nm_b {f : Nat → Int32} {n lo hi : Nat} {z : a_Z} (h : lo ≤ hi) : lo ≤ (a_nm f n lo hi z).2 ∧ (a_nm f n lo hi z).2 ≤ hi := by
  unfold a_nm
  split
  · split
    · rename_i c
      exact c
    · exact ⟨Nat.le_refl _, h⟩
  · exact ⟨Nat.le_refl _, h⟩
section LN
variable (f : Nat → Int32) (n : Nat)
abbrev a_wn (q lo hi : Nat) (z : a_Z) : a_Z × Nat := a_nm f n lo hi (a_wd f n q z)
-- head
def a_h1 (z : a_Z) : a_Z × Nat := a_wn f n 1 2 7 (a_wd f n 0 z)
def a_h2 (z : a_Z) : a_Z × Nat := a_wn f n 2 0 ((a_h1 f n z).2 - 1) (a_h1 f n z).1
def a_h3 (z : a_Z) : a_Z × Nat := a_wn f n 3 0 3 (a_h2 f n z).1
def a_h4 (z : a_Z) : a_Z × Nat := a_wn f n 4 0 10 (a_h3 f n z).1
def a_hD (D : w_D) (a b c d : Nat) : w_D := (fun j => if j = 0 then a else if j = 1 then b else if j = 2 then c else if j = 3 then d else D.1 j, D.2)
def a_head (z : a_Z) (D : w_D) : a_Z × w_D := ((a_h4 f n z).1, a_hD D (a_h1 f n z).2 (a_h2 f n z).2 (a_h3 f n z).2 (a_h4 f n z).2)
-- road
def a_r1 (z : a_Z) (D : w_D) : a_Z × Nat := a_wn f n 5 0 (D.1 0 - 1) z
def a_r2 (z : a_Z) (D : w_D) : a_Z × Nat := a_wn f n 6 0 (D.1 0 - 1) (a_r1 f n z D).1
def a_r4 (z : a_Z) (D : w_D) : a_Z := if (a_r2 f n z D).2 = (a_r1 f n z D).2 then a_fl (a_r2 f n z D).1 2 (a_eb f n (a_wd f n 6 (a_r1 f n z D).1).2.2) (a_r2 f n z D).1.2.2 else (a_r2 f n z D).1
def a_r3 (z : a_Z) (D : w_D) : a_Z × Nat := a_wn f n 7 1 99 (a_r4 f n z D)
def a_rD (D : w_D) (a b c : Nat) : w_D := (w_u D.1 4 (D.1 4 + 1), (fun r j => if r = D.1 4 then (if j = 0 then a else if j = 1 then b else c) else D.2.1 r j), D.2.2)
def a_road (z : a_Z) (D : w_D) : a_Z × w_D := if D.1 4 < 10 then ((a_r3 f n z D).1, a_rD D (a_r1 f n z D).2 (a_r2 f n z D).2 (a_r3 f n z D).2) else (a_fl z 3 z.2.2 z.2.2, D)
-- person
def a_p1 (z : a_Z) (D : w_D) : a_Z × Nat := a_wn f n 9 0 (D.1 0 - 1) (a_wd f n 8 z)
def a_p2 (z : a_Z) (D : w_D) : a_Z × Nat := a_wn f n 10 0 (D.1 0 - 1) (a_p1 f n z D).1
def a_p3 (z : a_Z) (D : w_D) : a_Z × Nat := a_wn f n 11 0 5 (a_p2 f n z D).1
def a_p4 (z : a_Z) (D : w_D) : a_Z × Nat := a_wn f n 12 0 9 (a_p3 f n z D).1
def a_p5 (z : a_Z) (D : w_D) : a_Z × Nat := a_wn f n 13 1 99 (a_p4 f n z D).1
def a_pD (D : w_D) (a b c d e : Nat) : w_D := (w_u D.1 5 (D.1 5 + 1), D.2.1, (fun r j => if r = D.1 5 then (if j = 0 then a else if j = 1 then b else if j = 2 then c else if j = 3 then d else e) else D.2.2.1 r j), D.2.2.2)
def a_pers (z : a_Z) (D : w_D) : a_Z × w_D := if D.1 5 < 8 then ((a_p5 f n z D).1, a_pD D (a_p1 f n z D).2 (a_p2 f n z D).2 (a_p3 f n z D).2 (a_p4 f n z D).2 (a_p5 f n z D).2) else (a_fl z 3 z.2.2 z.2.2, D)
-- grant
def a_g1 (z : a_Z) : a_Z × Nat := a_wn f n 14 0 5 z
def a_g2 (z : a_Z) : a_Z × Nat := a_wn f n 15 0 99 (a_g1 f n z).1
def a_gran (z : a_Z) (D : w_D) : a_Z × w_D := ((a_g2 f n z).1, if (a_g2 f n z).1.1 = 0 then (D.1, D.2.1, D.2.2.1, w_u D.2.2.2 (a_g1 f n z).2 (a_g2 f n z).2) else D)
-- line
def a_body (z : a_Z) (D : w_D) : a_Z × w_D := if D.1 6 = 0 then a_head f n z D else if a_mt f n 5 z.2.2 then a_road f n z D else if a_mt f n 8 z.2.2 then a_pers f n z D else if a_mt f n 14 z.2.2 then a_gran f n z D else (a_fl z 1 z.2.2 z.2.2, D)
def a_lD (D : w_D) : w_D := (w_u D.1 6 (D.1 6 + 1), D.2)
def a_line (z : a_Z) (D : w_D) : a_Z × w_D := (a_sg f n (a_body f n z D).1, a_lD (a_body f n z D).2)
end LN
abbrev c_f3 (s t : AS) : Prop := fr (fun c => c = 1 ∨ (3 ≤ c ∧ c < 25)) s t
section LC
variable {f : Nat → Int32} {n : Nat} {z : a_Z} {s t : AS} {D : w_D}
theorem c_f13 (h : c_f1 s t) : c_f3 s t := fr_mono h (fun c hc => .inl hc)
theorem c_ST_o (h : c_ST f n z s) {c k : Nat} {x : Int32} (h1 : c ≠ 1) (h2 : c ≠ 2) : c_ST f n z (am_si s c k x) := by
  unfold c_ST at h ⊢
  rw [r_so _ _ _ (fun e => h1 e.symm), r_so _ _ _ (fun e => h2 e.symm)]
  exact h
theorem c_wn (hn : n ≤ 800) (h : c_ST f n z s) {q lo hi : Nat} (hq : q < 16) (hlo : lo ≤ 100) (hhi : hi ≤ 100) : ∃ t1 t2, fX4_takeWord s 1 q = some (t1, ()) ∧ fX4_takeNumber t1 1 (nI lo) (nI hi) = some (t2, nI (a_wn f n q lo hi z).2) ∧ c_ST f n (a_wn f n q lo hi z).1 t2 ∧ c_f1 s t1 ∧ c_f1 s t2 ∧ t2.1 1 5 = nI (a_eb f n (a_wd f n q z).2.2) := by
  obtain ⟨t1, a1, a2, a3⟩ := c_tw hn h hq
  obtain ⟨t2, b1, b2, b3, b4⟩ := c_num hn a2 hlo hhi
  exact ⟨t1, t2, a1, b1, b2, a3, fr_tr a3 b3, b4⟩
theorem c_PL1 (h : c_PL 3 D s) (k : c_f1 s t) (h4 : D.1 4 ≤ 10) (h5 : D.1 5 ≤ 8) : c_PL 3 D t := c_PL_fr h k (fun c _ _ => by omega) h4 h5
theorem c_head (hn : n ≤ 800) (h : c_ST f n z s) (hP : c_PL 3 D s) (h4 : D.1 4 ≤ 10) (h5 : D.1 5 ≤ 8) : ∃ t, fX4_readHead s 1 3 = some (t, ()) ∧ c_ST f n (a_head f n z D).1 t ∧ c_PL 3 (a_head f n z D).2 t ∧ c_f3 s t := by
  obtain ⟨b1l, b1h⟩ := a_nm_b (f := f) (n := n) (z := a_wd f n 1 (a_wd f n 0 z)) (show 2 ≤ 7 by omega)
  have e1 : (a_nm f n 2 7 (a_wd f n 1 (a_wd f n 0 z))).2 = (a_h1 f n z).2 := rfl
  rw [e1] at b1l b1h
  obtain ⟨t1, x1, x2, x3⟩ := c_tw hn h (q := 0) (by omega)
  obtain ⟨t2, t3, y1, y2, y3, y4, y5, -⟩ := c_wn hn x2 (q := 1) (lo := 2) (hi := 7) (by omega) (by omega) (by omega)
  have S3 : c_ST f n (a_h1 f n z).1 (am_si t3 3 1 (nI (a_h1 f n z).2)) := c_ST_o y3 (by omega) (by omega)
  obtain ⟨t4, t5, u1, u2, u3, u4, u5, -⟩ := c_wn hn S3 (q := 2) (lo := 0) (hi := (a_h1 f n z).2 - 1) (by omega) (by omega) (by omega)
  have S5 : c_ST f n (a_h2 f n z).1 (am_si t5 3 2 (nI (a_h2 f n z).2)) := c_ST_o u3 (by omega) (by omega)
  obtain ⟨t6, t7, w1, w2, w3, w4, w5, -⟩ := c_wn hn S5 (q := 3) (lo := 0) (hi := 3) (by omega) (by omega) (by omega)
  have S7 : c_ST f n (a_h3 f n z).1 (am_si t7 3 3 (nI (a_h3 f n z).2)) := c_ST_o w3 (by omega) (by omega)
  obtain ⟨t8, t9, v1, v2, v3, v4, v5, -⟩ := c_wn hn S7 (q := 4) (lo := 0) (hi := 10) (by omega) (by omega) (by omega)
  have S9 : c_ST f n (a_h4 f n z).1 (am_si t9 3 4 (nI (a_h4 f n z).2)) := c_ST_o v3 (by omega) (by omega)
  have r4 : t4.1 3 1 = nI (a_h1 f n z).2 := by rw [u4.2 3 (by omega), r_si, r_us]
  have F3 : c_f3 s t3 := c_f13 (fr_tr x3 y5)
  have F5 : c_f3 s t5 := fr_tr (fr_si F3 _ _ (by omega)) (c_f13 u5)
  have F7 : c_f3 s t7 := fr_tr (fr_si F5 _ _ (by omega)) (c_f13 w5)
  have F9 : c_f3 s t9 := fr_tr (fr_si F7 _ _ (by omega)) (c_f13 v5)
  have row : ∀ c, c ≠ 1 → c ≠ 3 → t9.1 c = s.1 c := fun c h1 h3 => by
    rw [v5.2 c h1, r_so _ _ _ h3, w5.2 c h1, r_so _ _ _ h3, u5.2 c h1, r_so _ _ _ h3, y5.2 c h1, x3.2 c h1]
  have row3 : ∀ k, (am_si t9 3 4 (nI (a_h4 f n z).2)).1 3 k = if k = 1 then nI (a_h1 f n z).2 else if k = 2 then nI (a_h2 f n z).2 else if k = 3 then nI (a_h3 f n z).2 else if k = 4 then nI (a_h4 f n z).2 else s.1 3 k := by
    intro k
    rw [r_si, v5.2 3 (by omega), r_si, w5.2 3 (by omega), r_si, u5.2 3 (by omega), r_si, y5.2 3 (by omega), x3.2 3 (by omega)]
    generalize nI (a_h1 f n z).2 = p1
    generalize nI (a_h2 f n z).2 = p2
    generalize nI (a_h3 f n z).2 = p3
    generalize nI (a_h4 f n z).2 = p4
    unfold upd
    by_cases k1 : k = 1
    · simp [k1]
    · by_cases k2 : k = 2
      · simp [k2]
      · by_cases k3 : k = 3
        · simp [k3]
        · by_cases k4 : k = 4
          · simp [k4]
          · simp [k1, k2, k3, k4]
  refine ⟨am_si t9 3 4 (nI (a_h4 f n z).2), ?_, S9, ?_, fr_si F9 _ _ (by omega)⟩
  · have hs1 : nI (a_h1 f n z).2 - nI 1 = nI ((a_h1 f n z).2 - 1) := b_sub (by omega)
    have y2 : fX4_takeNumber t2 1 (nI 2) (nI 7) = some (t3, nI (a_h1 f n z).2) := y2
    have u2 : fX4_takeNumber t4 1 (nI 0) (nI ((a_h1 f n z).2 - 1)) = some (t5, nI (a_h2 f n z).2) := u2
    have w2 : fX4_takeNumber t6 1 (nI 0) (nI 3) = some (t7, nI (a_h3 f n z).2) := w2
    have v2 : fX4_takeNumber t8 1 (nI 0) (nI 10) = some (t9, nI (a_h4 f n z).2) := v2
    unfold fX4_readHead
    simp only [b_lq]
    rw [x1, am_cq, y1, am_cq, y2, am_cq, am_lq, u1, am_cq, r4, hs1, u2, am_cq, am_lq, w1, am_cq, w2, am_cq, am_lq, v1, am_cq, v2, am_cq, am_lq]
  · obtain ⟨q1, q2, q3, q4, q5⟩ := hP
    refine ⟨fun j hj => ?_, fun r j hr hj => ?_, fun p j hp hj => ?_, fun k hk => ?_, ?_⟩
    · rw [row3]
      have := q1 j hj
      show _ = nI (if j = 0 then _ else if j = 1 then _ else if j = 2 then _ else if j = 3 then _ else D.1 j)
      rcases (by omega : j = 0 ∨ j = 1 ∨ j = 2 ∨ j = 3 ∨ j = 4 ∨ j = 5) with e | e | e | e | e | e <;> subst e
      · simp (disch := omega) only [if_pos, if_neg, if_true]
      · simp (disch := omega) only [if_pos, if_neg, if_true]
      · simp (disch := omega) only [if_pos, if_neg, if_true]
      · simp (disch := omega) only [if_pos, if_neg, if_true]
      · simp (disch := omega) only [if_pos, if_neg, if_true]; exact this
      · simp (disch := omega) only [if_pos, if_neg, if_true]; exact this
    · have hr' : r < D.1 4 := hr
      rw [r_so _ _ _ (by omega), row _ (by omega) (by omega)]; exact q2 r j hr' hj
    · have hp' : p < D.1 5 := hp
      rw [r_so _ _ _ (by omega), row _ (by omega) (by omega)]; exact q3 p j hp' hj
    · rw [r_so _ _ _ (by omega), row _ (by omega) (by omega)]; exact q4 k hk
    · rw [row3]; exact q5
end LC
