/-! THE REFERENCE'S WALK: falling in, leaving, votes, turns. -/
/-- fields of the reference's own row that a walk writes: 24 shut, 42 in, 43 ever, 44 how many, 45 over, 46 why -/
def r_WS (w : w_S) (s : AS) : Prop := s.1 215 42 = nI w.1 ∧ s.1 215 43 = nI w.2.1 ∧ s.1 215 44 = nI w.2.2.1 ∧ (∀ p, p < 8 → s.1 233 p = oI (w.2.2.2.1 p)) ∧ (∀ p, p < 8 → s.1 234 p = oI (w.2.2.2.2.1 p)) ∧ (∀ p, p < 8 → w.2.1.testBit p = true → s.1 235 p = nI (w.2.2.2.2.2 p))
/-- what falling in reads of the case -/
def r_C1 (C : w_C) (s : AS) : Prop := s.1 215 23 = nI C.2.2.1 ∧ ∀ p, p < 8 → (nI p = s.1 215 30 ↔ C.2.2.2.1 p = true)
abbrev r_R1 : Nat → Prop := fun c => c = 215 ∨ c = 233 ∨ c = 235
abbrev r_R2 : Nat → Prop := fun c => c = 215 ∨ c = 234
section RF
variable {D : w_D} {C : w_C}
theorem r_WS_fr {w : w_S} {s t : AS} (h : r_WS w s) (h0 : ∀ k, 42 ≤ k → k < 45 → t.1 215 k = s.1 215 k) (h4 : t.1 233 = s.1 233) (h5 : t.1 234 = s.1 234) (h6 : t.1 235 = s.1 235) : r_WS w t := by
  obtain ⟨a1, a2, a3, a4, a5, a6⟩ := h
  refine ⟨?_, ?_, ?_, ?_, ?_, ?_⟩
  · rw [h0 _ (by omega) (by omega), a1]
  · rw [h0 _ (by omega) (by omega), a2]
  · rw [h0 _ (by omega) (by omega), a3]
  · rw [h4]; exact a4
  · rw [h5]; exact a5
  · rw [h6]; exact a6
theorem r_WS_in {w : w_S} {s : AS} (h : r_WS w s) {n p : Nat} (hp : p < 8) : r_WS (w_ins w.1 p, w_ins w.2.1 p, w.2.2.1 + 1, w_u w.2.2.2.1 p (some n), w.2.2.2.2.1, w_u w.2.2.2.2.2 p w.2.2.1) (am_si (am_si (am_si (am_si (am_si s 215 42 (nI (w_ins w.1 p))) 215 43 (nI (w_ins w.2.1 p))) 233 p (nI n)) 235 p (nI w.2.2.1)) 215 44 (nI (w.2.2.1 + 1))) := by
  obtain ⟨a1, a2, a3, a4, a5, a6⟩ := h
  refine ⟨?_, ?_, ?_, fun q hq => ?_, fun q hq => ?_, fun q hq hb => ?_⟩
  · simp (disch := omega) only [r_si, r_so, r_us, r_uo]
  · simp (disch := omega) only [r_si, r_so, r_us, r_uo]
  · simp (disch := omega) only [r_si, r_so, r_us, r_uo]
  · simp (disch := omega) only [r_si, r_so]
    by_cases e : q = p
    · rw [e, r_us, w_us]; rfl
    · rw [r_uo _ _ e, w_uo _ _ e]; exact a4 q hq
  · simp (disch := omega) only [r_si, r_so]
    exact a5 q hq
  · simp (disch := omega) only [r_si, r_so]
    by_cases e : q = p
    · rw [e, r_us, w_us]
    · rw [r_uo _ _ e, w_uo _ _ e]
      dsimp only at hb
      rw [w_ins_t, decide_eq_false (fun z => e z.symm), Bool.or_false] at hb
      exact a6 q hq hb
theorem w_pc_lt (x : Nat) : w_pc x < 100 := by
  have : ∀ b : Bool, b.toNat ≤ 1 := by decide
  unfold w_pc
  have q0 := this (x.testBit 0); have q1 := this (x.testBit 1); have q2 := this (x.testBit 2); have q3 := this (x.testBit 3); have q4 := this (x.testBit 4); have q5 := this (x.testBit 5); have q6 := this (x.testBit 6); have q7 := this (x.testBit 7); have q8 := this (x.testBit 8); have q9 := this (x.testBit 9)
  omega
theorem r_fi11 {J : AS → Int32 → Option (AS × Unit)} (hD : w_V D) {n pl : Nat} (hn : n < 61) (hpl : pl < 10) (ha : C.2.2.1 < 1024) (s : AS) {w : w_S} (hok : w_ok D w) (hP : r_PL D s) (hC : r_C1 C s) (hw : r_WS w s) : ∃ t, (r_WS (w_rd D C n pl w).1 t ∧ fr r_R1 s t ∧ ∀ k, k < 42 ∨ 44 < k → t.1 215 k = s.1 215 k) ∧ fX9_falls_L11 (nI n) (nI pl) J am_fu s (nI 0) (nI 0) = J t (nI (w_rd D C n pl w).2.toNat) := by
  have hD' := hD
  obtain ⟨d0, d4, d5, dr, dp, -⟩ := hD
  obtain ⟨t, ⟨h1, h2, h3, h4⟩, h5⟩ := sp_lp (fun f (t : AS × Int32) i => fX9_falls_L11 (nI n) (nI pl) J f t.1 t.2 i) (D.1 5) (fun i t => r_WS (sp_it (w_f1 D C n pl) i (w, false)).1 t.1 ∧ t.2 = nI (sp_it (w_f1 D C n pl) i (w, false)).2.toNat ∧ fr r_R1 s t.1 ∧ ∀ k, k < 42 ∨ 44 < k → t.1.1 215 k = s.1 215 k) (fun t => J t.1 t.2) (fun f i t hi h => by
    obtain ⟨h1, h2, h3, h4⟩ := h
    have hok' := w_rd_ok (C := C) (n := n) (pl := pl) d5 hok i (by omega)
    have hP' := r_PL_fr hP h3 (fun c _ _ => by omega)
    have e5 := r_people hP'
    have hlt := w_pow8 d5
    have q0 := dp i hi
    have j0 := hP'.2.2.1 i 0 hi (by omega)
    have j2 := hP'.2.2.1 i 2 hi (by omega)
    have j3 := hP'.2.2.1 i 3 hi (by omega)
    rw [Nat.add_zero] at j0
    have c1 : t.1.1 215 23 = nI C.2.2.1 := by rw [h4 _ (by omega)]; exact hC.1
    have c2 : (nI i = t.1.1 215 30) ↔ C.2.2.2.1 i = true := by rw [h4 _ (by omega)]; exact hC.2 i (by omega)
    show ∃ s' : AS × Int32, (r_WS (w_f1 D C n pl i (sp_it (w_f1 D C n pl) i (w, false))).1 s'.1 ∧ s'.2 = nI (w_f1 D C n pl i (sp_it (w_f1 D C n pl) i (w, false))).2.toNat ∧ _ ∧ _) ∧ _
    generalize sp_it (w_f1 D C n pl) i (w, false) = z at h1 h2 hok' ⊢
    obtain ⟨g1, g2, g3, -⟩ := id h1
    have b1 := hok'.1
    have b2 := hok'.2.1
    have b3 : z.1.2.2.1 < 100 := by
      rw [hok'.2.2.2.2.2.2]
      exact w_pc_lt _
    have b4 := w_pc_lt z.1.1
    have hsz := r_size (x := z.1.1) (by omega)
    have hr : fX9_reasonOf t.1 (nI i) = some (nI (D.2.2.1 i 2)) := by
      unfold fX9_reasonOf
      simp (disch := omega) only [b_lq, b_mul, b_add, b_lt, b_t, am_g_t, j2]
    by_cases hc : w_cn D C pl i z.1 = true
    · have hc0 := hc
      unfold w_cn at hc
      simp only [Bool.and_eq_true, Bool.not_eq_true', beq_iff_eq, decide_eq_true_eq] at hc
      obtain ⟨⟨⟨⟨x1, x2⟩, x3⟩, x4⟩, x5⟩ := hc
      have c3 : ¬ (nI i = t.1.1 215 30) := fun z => by have := c2.mp z; rw [x1] at this; cases this
      refine ⟨(am_si (am_si (am_si (am_si (am_si t.1 215 42 (nI (w_ins z.1.1 i))) 215 43 (nI (w_ins z.1.2.1 i))) 233 i (nI n)) 235 i (nI z.1.2.2.1)) 215 44 (nI (z.1.2.2.1 + 1)), nI 1), ⟨?_, ?_, ?_, ?_⟩, ?_⟩
      · unfold w_f1
        rw [if_pos hc0]
        exact r_WS_in h1 (by omega)
      · unfold w_f1
        rw [if_pos hc0]
        rfl
      · exact fr_si (fr_si (fr_si (fr_si (fr_si h3 _ _ (by omega)) _ _ (by omega)) _ _ (by omega)) _ _ (by omega)) _ _ (by omega)
      · intro k hk
        simp (disch := omega) only [r_si, r_so, r_us, r_uo]
        exact h4 k hk
      · dsimp only
        rw [fX9_falls_L11]
        simp (disch := omega) only [am_lq, b_lq, e5, am_rq, b_le, b_lt, b_t, b_eq, b_mul, b_add, am_g_t, c3, if_neg, if_pos, if_true, if_false, g2, c_isBit, x2, b_tf, j0, x3, hr, c1, x4, g1, hsz, j3, b_sh, b_ins, g3, r_si, r_so, r_us, r_uo]
    · have hc2 : w_cn D C pl i z.1 = false := by simpa using hc
      refine ⟨t, ⟨?_, ?_, h3, h4⟩, ?_⟩
      · unfold w_f1
        rw [if_neg hc]
        exact h1
      · unfold w_f1
        rw [if_neg hc]
        exact h2
      · unfold w_cn at hc2
        rw [fX9_falls_L11]
        simp (disch := omega) only [am_lq, b_lq, e5, am_rq, b_le, b_lt, b_t, b_eq, b_mul, b_add, am_g_t, if_neg, if_false, g2, c_isBit, b_b0, j0, hr, c1, g1, hsz, j3]
        by_cases y1 : nI i = t.1.1 215 30
        · rw [if_pos y1]
        · rw [if_neg y1]
          have x1 : C.2.2.2.1 i = false := by
            cases hh : C.2.2.2.1 i with
            | true => exact absurd (c2.mpr hh) y1
            | false => rfl
          by_cases y2 : z.1.2.1.testBit i = false
          · rw [if_pos y2]
            by_cases y3 : D.2.2.1 i 0 = pl
            · rw [if_pos y3]
              by_cases y4 : C.2.2.1.testBit (D.2.2.1 i 2) = false
              · rw [if_pos y4]
                by_cases y5 : D.2.2.1 i 3 ≤ w_pc z.1.1
                · exfalso
                  rw [x1, y2, y3, y4] at hc2
                  simp [y5] at hc2
                · rw [if_neg y5]
              · rw [if_neg y4]
            · rw [if_neg y3]
          · rw [if_neg y2]) (fun f t h => by
    obtain ⟨h1, h2, h3, h4⟩ := h
    have hP' := r_PL_fr hP h3 (fun c _ _ => by omega)
    have e5 := r_people hP'
    rw [fX9_falls_L11]
    simp (disch := omega) only [am_lq, b_lq, e5, am_rq, b_le, if_pos, if_true]) (s, nI 0) ⟨hw, rfl, fr_refl _ _, fun _ _ => rfl⟩ am_fu (am_fu_gt (by omega))
  have h2' : t.2 = nI (w_rd D C n pl w).2.toNat := h2
  exact ⟨t.1, ⟨h1, h3, h4⟩, by rw [← h2']; exact h5⟩
theorem r_fi2 (hD : w_V D) {n pl : Nat} (hn : n < 61) (hpl : pl < 10) (ha : C.2.2.1 < 1024) : ∀ (k f : Nat) (s : AS) (w : w_S), 9 ≤ w.2.2.1 + k → k + 1 < f → w_ok D w → r_PL D s → r_C1 C s → r_WS w s → ∃ t, (r_WS (w_fl D C n pl k w) t ∧ fr r_R1 s t ∧ ∀ k, k < 42 ∨ 44 < k → t.1 215 k = s.1 215 k) ∧ fX9_falls_L2 (nI n) (nI pl) f s (nI 1) = some (t, ())
  | 0, f, s, w, hk, hf, hok, hP, hC, hw => by
    exfalso
    have h6 := hok.2.2.2.2.2.2
    have := w_pc_8 w.2.1 (Nat.lt_of_lt_of_le hok.2.1 (w_pow8 hD.2.2.1))
    omega
  | k + 1, f, s, w, hk, hf, hok, hP, hC, hw => by
    obtain ⟨f, rfl⟩ : ∃ g, f = g + 1 := ⟨f - 1, by omega⟩
    obtain ⟨t, ⟨h1, h2, h3⟩, h4⟩ := r_fi11 (J := fun s3 x4 => fX9_falls_L2 (nI n) (nI pl) f s3 x4) hD hn hpl ha s hok hP hC hw
    have hstep : fX9_falls_L2 (nI n) (nI pl) (f + 1) s (nI 1) = fX9_falls_L2 (nI n) (nI pl) f t (nI (w_rd D C n pl w).2.toNat) := by
      rw [fX9_falls_L2]
      simp (disch := omega) only [am_lq, b_lq, b_eq, if_neg, if_false]
      rw [h4]
    rw [hstep]
    unfold w_fl
    cases hc : (w_rd D C n pl w).2 with
    | true =>
      rw [if_pos rfl]
      have hcnt := (w_rd_cnt (D := D) (C := C) (n := n) (pl := pl) w (D.1 5)).2 hc
      obtain ⟨t2, ⟨q1, q2, q3⟩, q4⟩ := r_fi2 hD hn hpl ha k f t (w_rd D C n pl w).1 (by have : w.2.2.1 < (w_rd D C n pl w).1.2.2.1 := hcnt; omega) (by omega) (w_rd_ok hD.2.2.1 hok _ (Nat.le_refl _)) (r_PL_fr hP h2 (fun c _ _ => by omega)) ⟨by rw [h3 _ (by omega)]; exact hC.1, fun p hp => by rw [h3 _ (by omega)]; exact hC.2 p hp⟩ h1
      exact ⟨t2, ⟨q1, fr_tr h2 q2, fun k hk => (q3 k hk).trans (h3 k hk)⟩, q4⟩
    | false =>
      rw [if_neg (by simp)]
      refine ⟨t, ⟨h1, h2, h3⟩, ?_⟩
      obtain ⟨f, rfl⟩ : ∃ g, f = g + 1 := ⟨f - 1, by omega⟩
      rw [fX9_falls_L2]
      simp (disch := omega) only [b_lq, b_tf, if_true]
theorem r_falls (hD : w_V D) {n pl : Nat} (hn : n < 61) (hpl : pl < 10) (ha : C.2.2.1 < 1024) {s : AS} {w : w_S} (hok : w_ok D w) (hP : r_PL D s) (hC : r_C1 C s) (hw : r_WS w s) : ∃ t, fX9_falls s (nI n) (nI pl) = some (t, ()) ∧ r_WS (w_fl D C n pl 9 w) t ∧ fr r_R1 s t ∧ ∀ k, k < 42 ∨ 44 < k → t.1 215 k = s.1 215 k := by
  obtain ⟨t, ⟨h1, h2, h3⟩, h4⟩ := r_fi2 hD hn hpl ha 9 am_fu s w (by omega) (by unfold am_fu; omega) hok hP hC hw
  refine ⟨t, ?_, h1, h2, h3⟩
  unfold fX9_falls
  simp only [b_lq]
  exact h4
theorem r_WS_out {w : w_S} {s : AS} (h : r_WS w s) {n p : Nat} (hp : p < 8) : r_WS (w_del w.1 p, w.2.1, w.2.2.1, w.2.2.2.1, w_u w.2.2.2.2.1 p (some n), w.2.2.2.2.2) (am_si (am_si s 215 42 (nI (w_del w.1 p))) 234 p (nI n)) := by
  obtain ⟨a1, a2, a3, a4, a5, a6⟩ := h
  refine ⟨?_, ?_, ?_, fun q hq => ?_, fun q hq => ?_, fun q hq hb => ?_⟩
  · simp (disch := omega) only [r_si, r_so, r_us, r_uo]
  · simp (disch := omega) only [r_si, r_so, r_us, r_uo]
    exact a2
  · simp (disch := omega) only [r_si, r_so, r_us, r_uo]
    exact a3
  · simp (disch := omega) only [r_si, r_so]
    exact a4 q hq
  · simp (disch := omega) only [r_si, r_so]
    by_cases e : q = p
    · rw [e, r_us, w_us]; rfl
    · rw [r_uo _ _ e, w_uo _ _ e]; exact a5 q hq
  · simp (disch := omega) only [r_si, r_so]
    exact a6 q hq hb
theorem r_wants {s : AS} (hD : w_V D) (hP : r_PL D s) {i : Nat} (hi : i < D.1 5) : fX9_wantsOf s (nI i) = some (nI (D.2.2.1 i 1)) := by
  have d5 := hD.2.2.1
  have j1 := hP.2.2.1 i 1 hi (by omega)
  unfold fX9_wantsOf
  simp (disch := omega) only [b_lq, b_mul, b_add, b_lt, b_t, am_g_t, j1]
theorem r_reason {s : AS} (hD : w_V D) (hP : r_PL D s) {i : Nat} (hi : i < D.1 5) : fX9_reasonOf s (nI i) = some (nI (D.2.2.1 i 2)) := by
  have d5 := hD.2.2.1
  have j1 := hP.2.2.1 i 2 hi (by omega)
  unfold fX9_reasonOf
  simp (disch := omega) only [b_lq, b_mul, b_add, b_lt, b_t, am_g_t, j1]
theorem r_leave (hD : w_V D) {n pl : Nat} (hn : n < 61) (hpl : pl < 10) {s : AS} {w : w_S} (hok : w_ok D w) (hP : r_PL D s) (hw : r_WS w s) : ∃ t, fX9_leave s (nI n) (nI pl) = some (t, ()) ∧ r_WS (w_lv D n pl w) t ∧ fr r_R2 s t ∧ ∀ k, k < 42 ∨ 44 < k → t.1 215 k = s.1 215 k := by
  obtain ⟨d0, d4, d5, dr, dp, -⟩ := id hD
  obtain ⟨t, ⟨h1, h2, h3⟩, h4⟩ := sp_lp (fun f t i => fX9_leave_L2 (nI n) (nI pl) f t i) (D.1 5) (fun i t => r_WS (sp_it (w_l1 D n pl) i w) t ∧ fr r_R2 s t ∧ ∀ k, k < 42 ∨ 44 < k → t.1 215 k = s.1 215 k) (fun t => some (t, ())) (fun f i t hi h => by
    obtain ⟨h1, h2, h3⟩ := h
    have hok' := w_lv_ok (n := n) (pl := pl) hok d5 i
    have hP' := r_PL_fr hP h2 (fun c _ _ => by omega)
    have e5 := r_people hP'
    have e6 := r_wants hD hP' hi
    have hlt := w_pow8 d5
    have q0 := dp i hi
    show ∃ s', (r_WS (w_l1 D n pl i (sp_it (w_l1 D n pl) i w)) s' ∧ _ ∧ _) ∧ _
    generalize sp_it (w_l1 D n pl) i w = z at h1 hok' ⊢
    obtain ⟨g1, g2, g3, -⟩ := id h1
    have b1 := hok'.1
    unfold w_l1
    cases hc : z.1.testBit i with
    | false =>
      refine ⟨t, ⟨by simpa using h1, h2, h3⟩, ?_⟩
      rw [fX9_leave_L2]
      simp (disch := omega) only [am_lq, b_lq, e5, g1, b_le, b_eq, c_isBit, hc, am_rq, b_tf, if_neg, if_false, if_true, b_add]
    | true =>
      by_cases c : D.2.2.1 i 1 = pl
      · refine ⟨am_si (am_si t 215 42 (nI (w_del z.1 i))) 234 i (nI n), ⟨?_, fr_si (fr_si h2 _ _ (by omega)) _ _ (by omega), fun k hk => ?_⟩, ?_⟩
        · rw [if_pos (by simp [c])]
          exact r_WS_out h1 (by omega)
        · simp (disch := omega) only [r_si, r_so, r_us, r_uo]
          exact h3 k hk
        · rw [fX9_leave_L2]
          simp (disch := omega) only [am_lq, b_lq, oI_q, e5, e6, g1, b_le, b_lt, b_eq, b_t, am_g_t, c_isBit, hc, am_rq, b_tt, if_neg, if_pos, if_false, if_true, b_add, b_sh, b_del]
      · refine ⟨t, ⟨by simpa [c] using h1, h2, h3⟩, ?_⟩
        rw [fX9_leave_L2]
        simp (disch := omega) only [am_lq, b_lq, oI_q, e5, e6, g1, b_le, b_lt, b_eq, b_t, am_g_t, c_isBit, hc, am_rq, b_tt, if_neg, if_false, b_add]) (fun f t h => by
    have hP' := r_PL_fr hP h.2.1 (fun c _ _ => by omega)
    have e5 := r_people hP'
    rw [fX9_leave_L2]
    simp (disch := omega) only [b_lq, e5, am_rq, b_le, if_pos, if_true]) s ⟨hw, fr_refl _ _, fun _ _ => rfl⟩ am_fu (am_fu_gt (by omega))
  refine ⟨t, ?_, h1, h2, h3⟩
  unfold fX9_leave
  simp only [b_lq]
  exact h4
/-- votes of step n -/
def r_VT (n : Nat) (vt : Nat → Option Nat) (s : AS) : Prop := ∀ p, p < 8 → s.1 232 (8 * n + p) = oI (vt p)
theorem r_votesFor (hD : w_V D) {n q : Nat} (hn : n < 61) (hq : q < 10) (byB : Bool) {vt : Nat → Option Nat} (hvl : ∀ p q, vt p = some q → q < 10) {s : AS} (hP : r_PL D s) (hV : r_VT n vt s) : fX9_votesFor s (nI n) (nI q) (nI byB.toNat) = some (nI (w_sm D vt q byB (D.1 5))) := by
  obtain ⟨d0, d4, d5, dr, dp, -⟩ := id hD
  unfold fX9_votesFor
  simp only [b_lq]
  refine sp_lq (fun f (x : Int32) i => fX9_votesFor_L6 (nI n) (nI q) (nI byB.toNat) s f x i) (D.1 5) (fun i x => x = nI (w_sm D vt q byB i)) (fun r => r = some (nI (w_sm D vt q byB (D.1 5)))) (fun f i x hi h => ?_) (fun f x h => ?_) (nI 0) rfl am_fu (am_fu_gt (by omega))
  · left
    subst h
    refine ⟨_, rfl, ?_⟩
    have e1 := hV i (by omega)
    have e5 := r_people hP
    have j4 := hP.2.2.1 i 4 hi (by omega)
    have hvi := hvl i
    rw [fX9_votesFor_L6, w_sm_s]
    cases hv : vt i with
    | none =>
      rw [hv] at e1
      simp (disch := omega) only [am_lq, b_lq, e5, am_rq, b_le, b_lt, b_t, b_mul, b_add, am_g_t, e1, b_nn2, if_neg, if_false, reduceCtorEq]
    | some z =>
      have := hvi z hv
      rw [hv, oI_s] at e1
      simp (disch := omega) only [am_lq, b_lq, e5, am_rq, b_le, b_lt, b_eq, b_t, b_mul, b_add, am_g_t, e1, if_neg, if_false, j4, Option.some.injEq]
      by_cases c : z = q
      · rw [if_pos c, if_pos c]
        cases byB
        · simp (disch := omega) only [b_tf, b_eq, if_true, Bool.false_eq_true, if_false]
        · simp (disch := omega) only [b_tt, b_eq, if_true, if_neg, if_false]
      · rw [if_neg c, if_neg c]
  · subst h
    have e5 := r_people hP
    rw [fX9_votesFor_L6]
    simp (disch := omega) only [b_lq, e5, am_rq, b_le, if_pos, if_true]
end RF
