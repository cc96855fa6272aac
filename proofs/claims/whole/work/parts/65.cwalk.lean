/-! THE CLASS'S WALK: falling in and leaving. -/
def c_WS (o : Nat) (w : w_S) (s : AS) : Prop := s.1 o 10 = nI w.1 ∧ s.1 o 9 = nI w.2.1 ∧ s.1 o 11 = nI w.2.2.1 ∧ (∀ p, p < 8 → s.1 (o + 4) p = oI (w.2.2.2.1 p)) ∧ (∀ p, p < 8 → s.1 (o + 5) p = oI (w.2.2.2.2.1 p)) ∧ (∀ p, p < 8 → w.2.1.testBit p = true → s.1 (o + 6) p = nI (w.2.2.2.2.2 p))
/-- what falling in reads of the case at oc -/
def c_C1 (oc : Nat) (C : w_C) (s : AS) : Prop := s.1 oc 2 = nI C.2.2.1 ∧ ∃ k, k < 1024 ∧ s.1 oc 3 = nI k ∧ ∀ p, p < 8 → k.testBit p = C.2.2.2.1 p
section CK
variable {o op oc : Nat} {D : w_D} {C : w_C}
theorem c_wfi {s : AS} {pr pl p : Nat} {w : w_S} (hw : c_WS o w s) (h0 : s.1 pr 0 = nI (D.2.2.1 p 0)) (h2 : s.1 pr 2 = nI (D.2.2.1 p 2)) (h3 : s.1 pr 3 = nI (D.2.2.1 p 3)) (hp : p < 8) (hi : w.1 < 1024) (he : w.2.1 < 1024) (hC : c_C1 oc C s) (ha : C.2.2.1 < 1024) (k0 : D.2.2.1 p 0 < 10) (k2 : D.2.2.1 p 2 < 10) (k3 : D.2.2.1 p 3 < 10) (hpl : pl < 10) : fX6_wouldFallIn s o pr 5 (nI p) oc (nI pl) = some (nI (w_cn D C pl p w).toNat) := by
  obtain ⟨hC2, kb, hk, hC3, hkb⟩ := hC
  obtain ⟨w1, w2, -⟩ := hw
  unfold fX6_wouldFallIn
  have hpc : w_pc w.1 < 2147483648 := by
    have : ∀ b : Bool, b.toNat ≤ 1 := by decide
    unfold w_pc
    have q0 := this (w.1.testBit 0); have q1 := this (w.1.testBit 1); have q2 := this (w.1.testBit 2); have q3 := this (w.1.testBit 3); have q4 := this (w.1.testBit 4); have q5 := this (w.1.testBit 5); have q6 := this (w.1.testBit 6); have q7 := this (w.1.testBit 7); have q8 := this (w.1.testBit 8); have q9 := this (w.1.testBit 9)
    omega
  simp (disch := omega) only [am_lq, b_lq, b_lt, b_eq, b_t, am_g_t, am_gT, or_true, true_or, h0, h2, h3, w1, w2, hC2, hC3, c_holds, am_rq, b_bc, b_b0]
  unfold w_cn
  rw [← hkb p hp, show decide (D.2.2.1 p 3 ≤ w_pc w.1) = !decide (w_pc w.1 < D.2.2.1 p 3) by rw [← decide_not]; exact decide_eq_decide.mpr (by omega), show (D.2.2.1 p 0 == pl) = decide (D.2.2.1 p 0 = pl) by by_cases h : D.2.2.1 p 0 = pl <;> simp [h]]
  by_cases c1 : D.2.2.1 p 0 = pl <;> cases c2 : w.2.1.testBit p <;> cases c3 : kb.testBit p <;> cases c4 : C.2.2.1.testBit (D.2.2.1 p 2) <;> by_cases c5 : w_pc w.1 < D.2.2.1 p 3 <;> simp [c1, c5]
theorem c_WS_fr {w : w_S} {s t : AS} (h : c_WS o w s) (h0 : ∀ k, 9 ≤ k → k < 12 → t.1 o k = s.1 o k) (h4 : t.1 (o + 4) = s.1 (o + 4)) (h5 : t.1 (o + 5) = s.1 (o + 5)) (h6 : t.1 (o + 6) = s.1 (o + 6)) : c_WS o w t := by
  obtain ⟨a1, a2, a3, a4, a5, a6⟩ := h
  refine ⟨?_, ?_, ?_, ?_, ?_, ?_⟩
  · rw [h0 _ (by omega) (by omega), a1]
  · rw [h0 _ (by omega) (by omega), a2]
  · rw [h0 _ (by omega) (by omega), a3]
  · rw [h4]; exact a4
  · rw [h5]; exact a5
  · rw [h6]; exact a6
/-- one who falls in -/
theorem c_WS_in {w : w_S} {s : AS} (h : c_WS o w s) {n p : Nat} (hp : p < 8) : c_WS o (w_ins w.1 p, w_ins w.2.1 p, w.2.2.1 + 1, w_u w.2.2.2.1 p (some n), w.2.2.2.2.1, w_u w.2.2.2.2.2 p w.2.2.1) (am_si (am_si (am_si (am_si (am_si s o 10 (nI (w_ins w.1 p))) o 9 (nI (w_ins w.2.1 p))) (o + 4) p (nI n)) (o + 6) p (nI w.2.2.1)) o 11 (nI (w.2.2.1 + 1))) := by
  obtain ⟨a1, a2, a3, a4, a5, a6⟩ := h
  refine ⟨?_, ?_, ?_, fun q hq => ?_, fun q hq => ?_, fun q hq hb => ?_⟩
  · simp (disch := omega) only [r_si, r_so, r_us, r_uo]
  · simp (disch := omega) only [r_si, r_so, r_us, r_uo]
  · simp (disch := omega) only [r_si, r_so, r_us, r_uo]
  · simp (disch := omega) only [r_si, r_so]
    by_cases e : q = p
    · rw [e, r_us, w_us]; rfl
    · rw [r_uo _ _ e, w_uo _ _ e]; exact a4 q hq
  · simp (disch := omega) only [r_si, r_so]
    exact a5 q hq
  · simp (disch := omega) only [r_si, r_so]
    by_cases e : q = p
    · rw [e, r_us, w_us]
    · rw [r_uo _ _ e, w_uo _ _ e]
      dsimp only at hb
      rw [w_ins_t, decide_eq_false (fun z => e z.symm), Bool.or_false] at hb
      exact a6 q hq hb
/-- the rows that falling in writes -/
abbrev c_R1 (o : Nat) : Nat → Prop := fun c => c = o ∨ c = o + 4 ∨ c = o + 6
theorem c_fi24 {J : AS → Int32 → Option (AS × Unit)} (hD : w_V D) (ho : op + 22 ≤ o) (hoc : oc < o ∨ o + 9 ≤ oc) {n pl : Nat} (hn : n < 61) (hpl : pl < 10) (ha : C.2.2.1 < 1024) (s : AS) {w : w_S} (hok : w_ok D w) (hP : c_PL op D s) (hC : c_C1 oc C s) (hw : c_WS o w s) : ∃ t, (c_WS o (w_rd D C n pl w).1 t ∧ fr (c_R1 o) s t ∧ ∀ k, k < 9 → t.1 o k = s.1 o k) ∧ fX6_fallIn_L24 o op oc (nI n) (nI pl) J am_fu s (nI 0) (nI 0) = J t (nI (w_rd D C n pl w).2.toNat) := by
  have hD' := hD
  obtain ⟨d0, d4, d5, dr, dp, -⟩ := hD
  obtain ⟨t, ⟨h1, h2, h3, h4⟩, h5⟩ := sp_lp (fun f (t : AS × Int32) i => fX6_fallIn_L24 o op oc (nI n) (nI pl) J f t.1 t.2 i) (D.1 5) (fun i t => c_WS o (sp_it (w_f1 D C n pl) i (w, false)).1 t.1 ∧ t.2 = nI (sp_it (w_f1 D C n pl) i (w, false)).2.toNat ∧ fr (c_R1 o) s t.1 ∧ ∀ k, k < 9 → t.1.1 o k = s.1 o k) (fun t => J t.1 t.2) (fun f i t hi h => by
    obtain ⟨h1, h2, h3, h4⟩ := h
    have hok' := w_rd_ok (C := C) (n := n) (pl := pl) d5 hok i (by omega)
    have hP' := c_PL_fr hP h3 (fun c _ _ => by omega) d4 d5
    have e5 : t.1.1 op 6 = nI (D.1 5) := hP'.1 5 (by omega)
    have hlt := w_pow8 d5
    have q0 := dp i hi
    have hC' : c_C1 oc C t.1 := by unfold c_C1; rw [h3.2 oc (by omega)]; exact hC
    have hf := c_wfi (pl := pl) h1 (hP'.2.2.1 i 0 hi (by omega)) (hP'.2.2.1 i 2 hi (by omega)) (hP'.2.2.1 i 3 hi (by omega)) (by omega) (by have := hok'.1; omega) (by have := hok'.2.1; omega) hC' ha (by omega) (by omega) (by omega) hpl
    show ∃ s' : AS × Int32, (c_WS o (w_f1 D C n pl i (sp_it (w_f1 D C n pl) i (w, false))).1 s'.1 ∧ s'.2 = nI (w_f1 D C n pl i (sp_it (w_f1 D C n pl) i (w, false))).2.toNat ∧ _ ∧ _) ∧ _
    generalize sp_it (w_f1 D C n pl) i (w, false) = z at h1 h2 hok' hf ⊢
    obtain ⟨g1, g2, g3, -⟩ := id h1
    have b1 := hok'.1
    have b2 := hok'.2.1
    have b3 : z.1.2.2.1 < 100 := by
      rw [hok'.2.2.2.2.2.2]
      have := w_pc_8 z.1.2.1 (by omega)
      omega
    cases hc : w_cn D C pl i z.1 with
    | false =>
      rw [hc] at hf
      refine ⟨t, ⟨?_, ?_, h3, h4⟩, ?_⟩
      · unfold w_f1
        rw [hc]
        exact h1
      · unfold w_f1
        rw [hc]
        exact h2
      · rw [fX6_fallIn_L24]
        simp (disch := omega) only [am_lq, b_lq, e5, b_le, b_lt, b_t, b_eq, am_g_t, am_gT, or_true, true_or, hf, am_rq, b_tf, if_neg, if_pos, if_true, if_false, b_add]
    | true =>
      rw [hc] at hf
      refine ⟨(am_si (am_si (am_si (am_si (am_si t.1 o 10 (nI (w_ins z.1.1 i))) o 9 (nI (w_ins z.1.2.1 i))) (o + 4) i (nI n)) (o + 6) i (nI z.1.2.2.1)) o 11 (nI (z.1.2.2.1 + 1)), nI 1), ⟨?_, ?_, ?_, ?_⟩, ?_⟩
      · unfold w_f1
        rw [hc]
        exact c_WS_in h1 (by omega)
      · unfold w_f1
        rw [hc]
        rfl
      · exact fr_si (fr_si (fr_si (fr_si (fr_si h3 _ _ (by omega)) _ _ (by omega)) _ _ (by omega)) _ _ (by omega)) _ _ (by omega)
      · intro k hk
        simp (disch := omega) only [r_si, r_so, r_us, r_uo]
        exact h4 k hk
      · rw [fX6_fallIn_L24]
        simp (disch := omega) only [am_lq, b_lq, e5, b_le, b_lt, b_t, b_eq, am_g_t, am_gT, or_true, true_or, hf, am_rq, b_tt, if_neg, b_add, b_sh, b_ins, g1, g2, g3, r_si, r_so, r_us, r_uo]) (fun f t h => by
    obtain ⟨h1, h2, h3, h4⟩ := h
    have hP' := c_PL_fr hP h3 (fun c _ _ => by omega) d4 d5
    have e5 : t.1.1 op 6 = nI (D.1 5) := hP'.1 5 (by omega)
    rw [fX6_fallIn_L24]
    simp (disch := omega) only [am_lq, b_lq, e5, b_le, if_pos, if_true]) (s, nI 0) ⟨hw, rfl, fr_refl _ _, fun _ _ => rfl⟩ am_fu (am_fu_gt (by omega))
  have h2' : t.2 = nI (w_rd D C n pl w).2.toNat := h2
  exact ⟨t.1, ⟨h1, h3, h4⟩, by rw [← h2']; exact h5⟩
theorem c_fi6 {J : AS → Option (AS × Unit)} (hD : w_V D) (ho : op + 22 ≤ o) (hoc : oc < o ∨ o + 9 ≤ oc) {n pl : Nat} (hn : n < 61) (hpl : pl < 10) (ha : C.2.2.1 < 1024) : ∀ (k r f : Nat) (s : AS) (w : w_S), r + k = 9 → k < f → w_ok D w → c_PL op D s → c_C1 oc C s → c_WS o w s → ∃ t, (c_WS o (w_fl D C n pl k w) t ∧ fr (c_R1 o) s t ∧ ∀ k, k < 9 → t.1 o k = s.1 o k) ∧ fX6_fallIn_L6 o op oc (nI n) (nI pl) J f s (nI 1) (nI r) = J t
  | 0, r, f, s, w, hr, hf, hok, hP, hC, hw => by
    obtain ⟨f, rfl⟩ : ∃ g, f = g + 1 := ⟨f - 1, by omega⟩
    refine ⟨s, ⟨hw, fr_refl _ _, fun _ _ => rfl⟩, ?_⟩
    rw [fX6_fallIn_L6]
    simp (disch := omega) only [b_lq, b_lt, if_pos, if_true]
  | k + 1, r, f, s, w, hr, hf, hok, hP, hC, hw => by
    obtain ⟨f, rfl⟩ : ∃ g, f = g + 1 := ⟨f - 1, by omega⟩
    obtain ⟨t, ⟨h1, h2, h3⟩, h4⟩ := c_fi24 (J := fun s5 x6 => fX6_fallIn_L6 o op oc (nI n) (nI pl) J f s5 x6 (nI r + nI 1)) hD ho hoc hn hpl ha s hok hP hC hw
    have hstep : fX6_fallIn_L6 o op oc (nI n) (nI pl) J (f + 1) s (nI 1) (nI r) = fX6_fallIn_L6 o op oc (nI n) (nI pl) J f t (nI (w_rd D C n pl w).2.toNat) (nI (r + 1)) := by
      rw [fX6_fallIn_L6]
      simp (disch := omega) only [am_lq, b_lq, b_lt, b_eq, if_neg, if_false]
      rw [h4, b_add]
    rw [hstep]
    unfold w_fl
    cases hc : (w_rd D C n pl w).2 with
    | true =>
      rw [if_pos rfl]
      obtain ⟨t2, ⟨q1, q2, q3⟩, q4⟩ := c_fi6 (J := J) hD ho hoc hn hpl ha k (r + 1) f t (w_rd D C n pl w).1 (by omega) (by omega) (w_rd_ok hD.2.2.1 hok _ (Nat.le_refl _)) (c_PL_fr hP h2 (fun c _ _ => by omega) hD.2.1 hD.2.2.1) (by unfold c_C1; rw [h2.2 oc (by omega)]; exact hC) h1
      exact ⟨t2, ⟨q1, fr_tr h2 q2, fun k hk => (q3 k hk).trans (h3 k hk)⟩, q4⟩
    | false =>
      rw [if_neg (by simp)]
      refine ⟨t, ⟨h1, h2, h3⟩, ?_⟩
      obtain ⟨f, rfl⟩ : ∃ g, f = g + 1 := ⟨f - 1, by omega⟩
      rw [fX6_fallIn_L6]
      simp (disch := omega) only [b_lq, b_lt, b_eq, b_tf, if_pos, if_true]
      split <;> rfl
theorem c_fallIn (hD : w_V D) (ho : op + 22 ≤ o) (hoc : oc < o ∨ o + 9 ≤ oc) {n pl : Nat} (hn : n < 61) (hpl : pl < 10) (ha : C.2.2.1 < 1024) {s : AS} {w : w_S} (hok : w_ok D w) (hP : c_PL op D s) (hC : c_C1 oc C s) (hw : c_WS o w s) : ∃ t, fX6_fallIn s o op oc (nI n) (nI pl) = some (t, ()) ∧ c_WS o (w_fl D C n pl 9 w) t ∧ fr (c_R1 o) s t ∧ ∀ k, k < 9 → t.1 o k = s.1 o k := by
  obtain ⟨t, ⟨h1, h2, h3⟩, h4⟩ := c_fi6 (J := fun s1 => some (s1, ())) hD ho hoc hn hpl ha 9 0 am_fu s w rfl (am_fu_gt (by omega)) hok hP hC hw
  refine ⟨t, ?_, h1, h2, h3⟩
  unfold fX6_fallIn
  simp only [am_lq, b_lq]
  exact h4
/-- leaving -/
theorem c_WS_out {w : w_S} {s : AS} (h : c_WS o w s) {n p : Nat} (hp : p < 8) : c_WS o (w_del w.1 p, w.2.1, w.2.2.1, w.2.2.2.1, w_u w.2.2.2.2.1 p (some n), w.2.2.2.2.2) (am_si (am_si s o 10 (nI (w_del w.1 p))) (o + 5) p (nI n)) := by
  obtain ⟨a1, a2, a3, a4, a5, a6⟩ := h
  refine ⟨?_, ?_, ?_, fun q hq => ?_, fun q hq => ?_, fun q hq hb => ?_⟩
  · simp (disch := omega) only [r_si, r_so, r_us, r_uo]
  · simp (disch := omega) only [r_si, r_so, r_us, r_uo]
    exact a2
  · simp (disch := omega) only [r_si, r_so, r_us, r_uo]
    exact a3
  · simp (disch := omega) only [r_si, r_so]
    exact a4 q hq
  · simp (disch := omega) only [r_si, r_so]
    by_cases e : q = p
    · rw [e, r_us, w_us]; rfl
    · rw [r_uo _ _ e, w_uo _ _ e]; exact a5 q hq
  · simp (disch := omega) only [r_si, r_so]
    exact a6 q hq hb
abbrev c_R2 (o : Nat) : Nat → Prop := fun c => c = o ∨ c = o + 5
theorem c_leaveAt (hD : w_V D) (ho : op + 22 ≤ o) {n pl : Nat} (hn : n < 61) (hpl : pl < 10) {s : AS} {w : w_S} (hok : w_ok D w) (hP : c_PL op D s) (hw : c_WS o w s) : ∃ t, fX6_leaveAt s o op (nI n) (nI pl) = some (t, ()) ∧ c_WS o (w_lv D n pl w) t ∧ fr (c_R2 o) s t ∧ ∀ k, k < 9 → t.1 o k = s.1 o k := by
  obtain ⟨d0, d4, d5, dr, dp, -⟩ := hD
  obtain ⟨t, ⟨h1, h2, h3⟩, h4⟩ := sp_lp (fun f t i => fX6_leaveAt_L3 o op (nI n) (nI pl) f t i) (D.1 5) (fun i t => c_WS o (sp_it (w_l1 D n pl) i w) t ∧ fr (c_R2 o) s t ∧ ∀ k, k < 9 → t.1 o k = s.1 o k) (fun t => some (t, ())) (fun f i t hi h => by
    obtain ⟨h1, h2, h3⟩ := h
    have hok' := w_lv_ok (n := n) (pl := pl) hok d5 i
    have hP' := c_PL_fr hP h2 (fun c _ _ => by omega) d4 d5
    have e5 : t.1 op 6 = nI (D.1 5) := hP'.1 5 (by omega)
    have e6 : t.1 (op + 12 + 1 + i) 1 = nI (D.2.2.1 i 1) := hP'.2.2.1 i 1 hi (by omega)
    have hlt := w_pow8 d5
    have q0 := dp i hi
    show ∃ s', (c_WS o (w_l1 D n pl i (sp_it (w_l1 D n pl) i w)) s' ∧ _ ∧ _) ∧ _
    generalize sp_it (w_l1 D n pl) i w = z at h1 hok' ⊢
    obtain ⟨g1, g2, g3, -⟩ := id h1
    have b1 := hok'.1
    unfold w_l1
    cases hc : z.1.testBit i with
    | false =>
      refine ⟨t, ⟨by simpa using h1, h2, h3⟩, ?_⟩
      rw [fX6_leaveAt_L3]
      simp (disch := omega) only [am_lq, b_lq, e5, g1, b_le, b_eq, c_holds, hc, am_rq, b_tf, if_neg, if_pos, if_true, if_false, b_add]
    | true =>
      by_cases c : D.2.2.1 i 1 = pl
      · refine ⟨am_si (am_si t o 10 (nI (w_del z.1 i))) (o + 5) i (nI n), ⟨?_, fr_si (fr_si h2 _ _ (by omega)) _ _ (by omega), fun k hk => ?_⟩, ?_⟩
        · rw [if_pos (by simp [c])]
          exact c_WS_out h1 (by omega)
        · simp (disch := omega) only [r_si, r_so, r_us, r_uo]
          exact h3 k hk
        · rw [fX6_leaveAt_L3]
          simp (disch := omega) only [am_lq, b_lq, oI_q, e5, e6, g1, b_le, b_lt, b_eq, b_t, am_g_t, am_gT, or_true, true_or, c_holds, hc, am_rq, b_tt, if_neg, if_pos, if_true, if_false, b_add, b_sh, b_del]
      · refine ⟨t, ⟨by simpa [c] using h1, h2, h3⟩, ?_⟩
        rw [fX6_leaveAt_L3]
        simp (disch := omega) only [am_lq, b_lq, oI_q, e5, e6, g1, b_le, b_lt, b_eq, b_t, am_g_t, am_gT, or_true, true_or, c_holds, hc, am_rq, b_tt, if_neg, b_add]) (fun f t h => by
    have hP' := c_PL_fr hP h.2.1 (fun c _ _ => by omega) d4 d5
    have e5 : t.1 op 6 = nI (D.1 5) := hP'.1 5 (by omega)
    rw [fX6_leaveAt_L3]
    simp (disch := omega) only [b_lq, e5, b_le, if_pos, if_true]) s ⟨hw, fr_refl _ _, fun _ _ => rfl⟩ am_fu (am_fu_gt (by omega))
  exact ⟨t, h4, h1, h2, h3⟩
end CK
