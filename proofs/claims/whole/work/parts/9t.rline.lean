/-! THE TEXT: the reference's lines. -/
/-- the same but for what the reader holds, and the march that is read -/
def r_fL (s t : AS) : Prop := (∀ c, c < 215 ∨ (216 ≤ c ∧ c < 221) ∨ 226 ≤ c → t.1 c = s.1 c) ∧ (∀ k, k < 7 ∨ 14 ≤ k → t.1 215 k = s.1 215 k) ∧ (∀ c, 221 ≤ c → c < 226 → ∀ i, i < r_bl c * 4 → t.1 c i = s.1 c i) ∧ ∀ c, c ≠ 215 → t.2 c = s.2 c
/-- the march that is read -/
def r_DL (D : w_D) (s : AS) : Prop := (∀ j, j < 6 → s.1 222 (28 + j) = nI (D.1 j)) ∧ (∀ r j, r < D.1 4 → j < 3 → s.1 223 (120 + (3 * r + j)) = nI (D.2.1 r j)) ∧ (∀ p j, p < D.1 5 → j < 5 → s.1 224 (160 + (5 * p + j)) = nI (D.2.2.1 p j)) ∧ (∀ k, k < 6 → s.1 225 (24 + k) = nI (D.2.2.2 k)) ∧ s.1 221 4 = nI (D.1 6) ∧ s.1 222 34 = nI 0
section RL
variable {f : Nat → Int32} {n : Nat} {z : a_Z} {s t u : AS} {D : w_D}
theorem r_fL_refl (s : AS) : r_fL s s := ⟨fun _ _ => rfl, fun _ _ => rfl, fun _ _ _ _ _ => rfl, fun _ _ => rfl⟩
theorem r_fL_tr (h : r_fL s t) (k : r_fL t u) : r_fL s u := ⟨fun c hc => (k.1 c hc).trans (h.1 c hc), fun c hc => (k.2.1 c hc).trans (h.2.1 c hc), fun c h1 h2 i hi => (k.2.2.1 c h1 h2 i hi).trans (h.2.2.1 c h1 h2 i hi), fun c hc => (k.2.2.2 c hc).trans (h.2.2.2 c hc)⟩
theorem r_f3L (h : r_f3 s t) : r_fL s t := ⟨fun c hc => h.1 c (by omega), h.2.1, fun c h1 h2 i _ => by rw [h.1 c (by omega)], h.2.2⟩
theorem r_fL_si (h : r_fL s t) {c k : Nat} (x : Int32) (h1 : 221 ≤ c) (h2 : c < 226) (h3 : r_bl c * 4 ≤ k) : r_fL s (am_si t c k x) := ⟨fun d hd => by rw [r_so _ _ _ (by omega)]; exact h.1 d hd, fun j hj => by rw [r_so _ _ _ (by omega)]; exact h.2.1 j hj, fun d g1 g2 i hi => by
  by_cases e : d = c
  · subst e; rw [r_si, r_uo _ _ (by omega)]; exact h.2.2.1 d g1 g2 i hi
  · rw [r_so _ _ _ e]; exact h.2.2.1 d g1 g2 i hi, h.2.2.2⟩
theorem r_has (e : Nat) {v : Nat} (he : e < 7) (h : s.1 222 (28 + e) = nI v) : fX9_hasRead s (nI e) = some (nI v) := by
  unfold fX9_hasRead
  simp (disch := omega) only [b_lq, b_add, b_t, am_g_t, b_lt0, false_or, not_false_eq_true, h]
theorem r_tells (e : Nat) (x : Int32) (he : e < 7) : fX9_tells s (nI e) x = some (am_si s 222 (28 + e) x, ()) := by
  unfold fX9_tells
  simp (disch := omega) only [↓am_lq, b_lq, b_add, b_t, am_g_t, b_lt0, false_or, not_false_eq_true]
theorem l_s {x : Int64} {q : Nat} (h : x = nJ (a_lit q)) : x = nJ (a_lit q) := h
/-- the rows that the reader's own cells leave -/
theorem r_3 (h : r_f3 s t) {c : Nat} (hc : c ≠ 215) : t.1 c = s.1 c := h.1 c hc
/-- the same but for the object's own cells -/
def r_e1 (s t : AS) : Prop := ∀ c, c ≠ 215 → t.1 c = s.1 c
theorem r_e1_f (h : r_f3 s t) : r_e1 s t := h.1
theorem r_e1_tr (h : r_e1 s t) (k : r_e1 t u) : r_e1 s u := fun c hc => (k c hc).trans (h c hc)
theorem r_e1_si (h : r_e1 s t) (c k : Nat) (x : Int32) : r_e1 (am_si s c k x) (am_si t c k x) := fun d hd => by
  by_cases e : d = c
  · subst e; rw [r_si, r_si, h d hd]
  · rw [r_so _ _ _ e, r_so _ _ _ e, h d hd]
theorem r_head (hn : n ≤ 800) (h : r_ST f n z s) (hP : r_DL D s) : ∃ t, fX9_marchLine s = some (t, ()) ∧ r_ST f n (a_head f n z D).1 t ∧ ((a_head f n z D).1.1 = 0 → r_DL (a_head f n z D).2 t) ∧ r_fL s t := by
  obtain ⟨t1, x1, x2, x3⟩ := r_asks hn h (q := 0) (by omega)
  obtain ⟨t2, v1, y1, y2, y3, y4, y5, y6⟩ := r_numw hn x2 (q := 1) (lo := 2) (hi := 7) (by omega) (by omega) (by omega)
  have S3 : r_ST f n (a_h1 f n z).1 (am_si t2 222 28 (nI v1)) := r_ST_o y2 (by omega) (by omega)
  obtain ⟨t4, u1, u2, u3⟩ := r_asks hn S3 (q := 2) (by omega)
  have e1 : t4.1 222 28 = nI v1 := by rw [u3.1 _ (by omega), r_si, r_us]
  have k1 : (a_h1 f n z).1.1 = 0 → v1 = (a_h1 f n z).2 := fun e => y6 (a_nm_0 e).1
  obtain ⟨t5, v2, w1, w2, w3, w4, w5⟩ := r_place hn u2 (m' := (a_h1 f n z).2) (by omega : 1 ≤ v1) y5 e1 (fun e => k1 (a_wd_0 e).1)
  have S5 : r_ST f n (a_h2 f n z).1 (am_si t5 222 29 (nI v2)) := r_ST_o w2 (by omega) (by omega)
  have k2 : (a_h2 f n z).1.1 = 0 → v2 = (a_h2 f n z).2 := fun e => w5 (a_nm_0 e).1
  obtain ⟨t6, v3, p1, p2, p3, p4, p5, p6⟩ := r_numw hn S5 (q := 3) (lo := 0) (hi := 3) (by omega) (by omega) (by omega)
  have S6 : r_ST f n (a_h3 f n z).1 (am_si t6 222 30 (nI v3)) := r_ST_o p2 (by omega) (by omega)
  have k3 : (a_h3 f n z).1.1 = 0 → v3 = (a_h3 f n z).2 := fun e => p6 (a_nm_0 e).1
  obtain ⟨t7, v4, q1, q2, q3, q4, q5, q6⟩ := r_numw hn S6 (q := 4) (lo := 0) (hi := 10) (by omega) (by omega) (by omega)
  have S7 : r_ST f n (a_h4 f n z).1 (am_si t7 222 31 (nI v4)) := r_ST_o q2 (by omega) (by omega)
  have k4 : (a_h4 f n z).1.1 = 0 → v4 = (a_h4 f n z).2 := fun e => q6 (a_nm_0 e).1
  have E : r_e1 (am_si (am_si (am_si (am_si s 222 28 (nI v1)) 222 29 (nI v2)) 222 30 (nI v3)) 222 31 (nI v4)) (am_si t7 222 31 (nI v4)) :=
    r_e1_si (r_e1_tr (r_e1_si (r_e1_tr (r_e1_si (r_e1_tr (r_e1_si (r_e1_tr (r_e1_f x3) (r_e1_f y3)) _ _ _) (r_e1_tr (r_e1_f u3) (r_e1_f w3))) _ _ _) (r_e1_f p3)) _ _ _) (r_e1_f q3)) _ _ _
  have m : ∀ {k : Nat} {x y : AS} (v : Int32), 28 ≤ k → r_fL x y → r_fL x (am_si y 222 k v) := fun v hk hh => r_fL_si hh v (by omega) (by omega) hk
  have x1 : fX9_asks s (nJ 6941627) = _ := x1
  have y1 : fX9_number_ t1 (nJ 235981828) (nI 2) (nI 7) = _ := y1
  have u1 : fX9_asks (am_si t2 222 28 (nI v1)) (nJ 10492274) = _ := u1
  have p1 : fX9_number_ (am_si t5 222 29 (nI v2)) (nJ 369932) (nI 0) (nI 3) = _ := p1
  have q1 : fX9_number_ (am_si t6 222 30 (nI v3)) (nJ 298288) (nI 0) (nI 10) = _ := q1
  have l0 : fX9_tells t2 (nI 0) (nI v1) = some (am_si t2 222 28 (nI v1), ()) := r_tells 0 _ (by omega)
  have l1 : fX9_tells t5 (nI 1) (nI v2) = some (am_si t5 222 29 (nI v2), ()) := r_tells 1 _ (by omega)
  have l2 : fX9_tells t6 (nI 2) (nI v3) = some (am_si t6 222 30 (nI v3), ()) := r_tells 2 _ (by omega)
  have l3 : fX9_tells t7 (nI 3) (nI v4) = some (am_si t7 222 31 (nI v4), ()) := r_tells 3 _ (by omega)
  refine ⟨am_si t7 222 31 (nI v4), ?_, S7, fun e => ?_, m _ (by omega) (r_fL_tr (m _ (by omega) (r_fL_tr (m _ (by omega) (r_fL_tr (m _ (by omega) (r_fL_tr (r_f3L x3) (r_f3L y3))) (r_fL_tr (r_f3L u3) (r_f3L w3)))) (r_f3L p3))) (r_f3L q3))⟩
  · unfold fX9_marchLine
    simp only [b_lq, j_lq]
    rw [x1, am_cq, y1, am_cq, l0, am_cq, u1, am_cq, w1, am_cq, l1, am_cq, p1, am_cq, l2, am_cq, q1, am_cq, l3, am_cq]
  · have g4 : (a_h4 f n z).1.1 = 0 := e
    have g3 := (a_wd_0 (a_nm_0 g4).1).1
    have g2 := (a_wd_0 (a_nm_0 g3).1).1
    have g1 := (a_wd_0 (a_nm_0 g2).1).1
    obtain ⟨c1, c2, c3, c4, c5, c6⟩ := hP
    unfold a_head a_hD
    refine ⟨fun j hj => ?_, fun r j hr hj => ?_, fun p j hp hj => ?_, fun k hk => ?_, ?_, ?_⟩
    · rw [E _ (by omega)]
      show _ = nI (if j = 0 then (a_h1 f n z).2 else if j = 1 then (a_h2 f n z).2 else if j = 2 then (a_h3 f n z).2 else if j = 3 then (a_h4 f n z).2 else D.1 j)
      rw [← k1 g1, ← k2 g2, ← k3 g3, ← k4 g4]
      rcases (by omega : j = 0 ∨ j = 1 ∨ j = 2 ∨ j = 3 ∨ j = 4 ∨ j = 5) with e | e | e | e | e | e <;> subst e
      · simp (disch := omega) only [r_si, r_us, r_uo, if_pos, if_neg, if_true]
      · simp (disch := omega) only [r_si, r_us, r_uo, if_pos, if_neg, if_true]
      · simp (disch := omega) only [r_si, r_us, r_uo, if_pos, if_neg, if_true]
      · simp (disch := omega) only [r_si, r_us, r_uo, if_pos, if_neg, if_true]
      · simp (disch := omega) only [r_si, r_us, r_uo, if_pos, if_neg, if_true]; exact c1 4 (by omega)
      · simp (disch := omega) only [r_si, r_us, r_uo, if_pos, if_neg, if_true]; exact c1 5 (by omega)
    · have hr : r < D.1 4 := hr
      rw [E _ (by omega)]
      simp (disch := omega) only [r_so]
      exact c2 r j hr hj
    · have hp : p < D.1 5 := hp
      rw [E _ (by omega)]
      simp (disch := omega) only [r_so]
      exact c3 p j hp hj
    · rw [E _ (by omega)]
      simp (disch := omega) only [r_so]
      exact c4 k hk
    · rw [E _ (by omega)]
      simp (disch := omega) only [r_so]
      exact c5
    · rw [E _ (by omega)]
      simp (disch := omega) only [r_si, r_uo]
      exact c6
/-- the second place of a road -/
theorem r_mid {y : a_Z} (hn : n ≤ 800) (h : r_ST f n y s) {m : Nat} (hm : 1 ≤ m) (h7 : m ≤ 7) (e : s.1 222 28 = nI m) {X v1 w1 : Nat} (hX : X < 150) (hv : s.1 223 X = nI v1) (hv1 : v1 ≤ m - 1) (hw : y.1 = 0 → v1 = w1) : ∃ t v, (∀ K : AS → Int32 → Option (AS × Unit), (if s.1 215 12 = nI 0 then (if s.1 215 8 = nI 2 then (am_g (¬ (nI X < nI 0 ∨ 150 ≤ (nI X).toNatClampNeg)) (if s.1 215 10 = s.1 223 (nI X).toNatClampNeg then am_c (fX9_fails s (nI 2)) (fun s23 _ => am_c (fX9_placeHere s23) K) else am_c (fX9_placeHere s) K)) else am_c (fX9_placeHere s) K) else am_c (fX9_placeHere s) K) = K t (nI v)) ∧ r_ST f n (if (a_nm f n 0 (m - 1) y).2 = w1 then a_fl (a_nm f n 0 (m - 1) y).1 2 (a_eb f n y.2.2) (a_nm f n 0 (m - 1) y).1.2.2 else (a_nm f n 0 (m - 1) y).1) t ∧ r_f3 s t ∧ v ≤ m - 1 ∧ ((if (a_nm f n 0 (m - 1) y).2 = w1 then a_fl (a_nm f n 0 (m - 1) y).1 2 (a_eb f n y.2.2) (a_nm f n 0 (m - 1) y).1.2.2 else (a_nm f n 0 (m - 1) y).1).1 = 0 → v = (a_nm f n 0 (m - 1) y).2) := by
  obtain ⟨t, v, a1, a2, a3, a4, a5⟩ := r_place hn h hm h7 e (fun _ => rfl)
  obtain ⟨h1, h2, h3, h4, h5⟩ := id h
  have key : ((a_nm f n 0 (m - 1) y).1.1 = 0 → (a_nm f n 0 (m - 1) y).2 ≠ w1) → r_ST f n (if (a_nm f n 0 (m - 1) y).2 = w1 then a_fl (a_nm f n 0 (m - 1) y).1 2 (a_eb f n y.2.2) (a_nm f n 0 (m - 1) y).1.2.2 else (a_nm f n 0 (m - 1) y).1) t ∧ r_f3 s t ∧ v ≤ m - 1 ∧ ((if (a_nm f n 0 (m - 1) y).2 = w1 then a_fl (a_nm f n 0 (m - 1) y).1 2 (a_eb f n y.2.2) (a_nm f n 0 (m - 1) y).1.2.2 else (a_nm f n 0 (m - 1) y).1).1 = 0 → v = (a_nm f n 0 (m - 1) y).2) := fun q => by
    by_cases c : (a_nm f n 0 (m - 1) y).2 = w1
    · rw [if_pos c]
      have nz : (a_nm f n 0 (m - 1) y).1.1 ≠ 0 := fun z0 => q z0 c
      have fk := a_fl_k (c := 2) (a := a_eb f n y.2.2) (p := (a_nm f n 0 (m - 1) y).1.2.2) nz
      exact ⟨r_ST_e a2 nz fk.1.symm fk.2.symm, a3, a4, fun z0 => absurd (fk.1.symm.trans z0) nz⟩
    · rw [if_neg c]
      exact ⟨a2, a3, a4, fun z0 => a5 (a_nm_0 z0).1⟩
  by_cases k : y.1 = 0
  · obtain ⟨k1, k2⟩ := h5 k
    have ee := (a_eb_p (f := f) hn y.2.2).2.1 k1
    cases hd : a_dg f n (a_eb f n y.2.2) with
    | true =>
      have k3 : s.1 215 8 = nI 2 ∧ s.1 215 7 = nI (a_ed f n (a_eb f n y.2.2)) ∧ ∃ v, s.1 215 10 = nI v ∧ v ≤ 2000000 ∧ min v 1000 = a_nv f n (a_eb f n y.2.2) := by
        rcases k2 with ⟨-, ⟨k2, k3⟩ | ⟨k2, k3, k4, k5, k6⟩ | ⟨k2, k3, k4, k5, k6⟩ | ⟨k2, k3, k4, k5, -⟩⟩
        · have := a_dg_n hd; omega
        · rw [a_ld k3] at hd; cases hd
        · exact ⟨k5, k6⟩
        · rw [hd] at k4; cases k4
      obtain ⟨k3, k4, w, k5, k6, k7⟩ := k3
      by_cases c : w = v1
      · obtain ⟨t', b1, b2, b3⟩ := r_fails hn h (c := 2) (by omega) (by omega) (a_eb f n y.2.2)
        have fz : (a_fl y 2 (a_eb f n y.2.2) (a_eb f n y.2.2)) = (2, some (a_eb f n y.2.2), a_eb f n y.2.2) := by unfold a_fl; rw [if_pos k]
        rw [fz] at b2
        have pb := r_place_b b2 (show (2 : Nat) ≠ 0 by omega) (m := m) (by rw [b3.1 _ (by omega)]; exact e)
        have env : a_nv f n (a_eb f n y.2.2) = w := by clear key h4; omega
        have enm : a_nm f n 0 (m - 1) y = ((y.1, y.2.1, a_ed f n (a_eb f n y.2.2)), w) := by
          unfold a_nm
          rw [hd, if_pos rfl, env, if_pos (by clear key h4; omega)]
        have ef : a_fl (y.1, y.2.1, a_ed f n (a_eb f n y.2.2)) 2 (a_eb f n y.2.2) (a_ed f n (a_eb f n y.2.2)) = (2, some (a_eb f n y.2.2), a_ed f n (a_eb f n y.2.2)) := by unfold a_fl; rw [if_pos k]
        refine ⟨t', 0, fun K => ?_, ?_, b3, Nat.zero_le _, fun z0 => ?_⟩
        · rw [h3, if_pos (by rw [k]), k3, if_pos rfl, b_t (by clear key h4; omega), am_g_t (b_ok (by clear key h4; omega) (by clear key h4; omega)), k5, hv, if_pos (by rw [c]), b1, am_cq, pb, am_cq]
        · rw [enm]
          dsimp only
          rw [if_pos (by rw [c]; exact hw k), ef]
          exact r_ST_b b2 (show (2 : Nat) ≠ 0 by omega) _
        · rw [enm] at z0
          dsimp only at z0
          rw [if_pos (by rw [c]; exact hw k), ef] at z0
          cases z0
      · refine ⟨t, v, fun K => ?_, key (fun z0 => ?_)⟩
        · rw [h3, if_pos (by rw [k]), k3, if_pos rfl, b_t (by clear key h4; omega), am_g_t (b_ok (by clear key h4; omega) (by clear key h4; omega)), k5, hv, if_neg (by clear key h4; rw [b_eq (by omega) (by omega)]; exact c), a1, am_cq]
        · obtain ⟨-, -, g3, g4⟩ := a_nm_0 z0
          rw [g4]
          have := hw k
          show a_nv f n (a_eb f n y.2.2) ≠ w1
          clear key h4
          omega
    | false =>
      have k3 : ¬ s.1 215 8 = nI 2 := by
        rcases k2 with ⟨-, ⟨k2, k3⟩ | ⟨k2, k3, k4, k5, k6⟩ | ⟨k2, k3, k4, k5, k6⟩ | ⟨k2, k3, k4, k5, -⟩⟩
        · rw [k3]; decide
        · rw [k4]; decide
        · rw [k4] at hd; cases hd
        · rw [k5]; split <;> decide
      refine ⟨t, v, fun K => ?_, key (fun z0 => ?_)⟩
      · rw [h3, if_pos (by rw [k]), if_neg k3, a1, am_cq]
      · have := (a_nm_0 z0).2.1
        rw [hd] at this; cases this
  · refine ⟨t, v, fun K => ?_, key (fun z0 => absurd (a_nm_0 z0).1 k)⟩
    rw [h3, if_neg (by clear key h4; rw [b_eq (by omega) (by omega)]; exact k), a1, am_cq]
end RL
