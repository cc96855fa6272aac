/-! THE REFERENCE'S WALK: turns. -/
section RT
variable {D : w_D} {C : w_C}
theorem r_turns (hD : w_V D) (hC : w_CK D C) {n : Nat} (hn : n < 61) {w : w_S} (hok : w_ok D w) {vt : Nat → Option Nat} (hvl : ∀ p q, vt p = some q → q < D.1 0) (hvt : ∀ p q, vt p = some q → w.1.testBit p = true) {s : AS} (hP : r_PL D s) (hr : s.1 215 26 = nI C.2.1) (hV : r_VT n vt s) (hR : ∀ p, p < 8 → w.2.1.testBit p = true → s.1 235 p = nI (w.2.2.2.2.2 p)) : fX9_turns s (nI n) = some (oI (w_tn D C w vt)) := by
  obtain ⟨d0, d4, d5, dr, dp, -⟩ := id hD
  have h3 := hC.2.1
  have e0 : s.1 222 0 = nI (D.1 0) := hP.1 0 (by omega)
  have e5 := r_people hP
  have hvl10 : ∀ p q, vt p = some q → q < 10 := fun p q h => by have := hvl p q h; omega
  unfold fX9_turns w_tn
  simp (disch := omega) only [am_lq, b_lq, oI_q, hr, b_le]
  by_cases c2 : 2 ≤ C.2.1
  · rw [if_pos c2, if_neg (by omega)]
    obtain ⟨k0, k1, k2, k3, k4, k5, k6⟩ := hok
    have hcnt : w.2.2.1 < 100 := by
      rw [k6]
      exact w_pc_lt _
    have hbq : (C.2.1 == 2) = decide (C.2.1 = 2) := by by_cases h : C.2.1 = 2 <;> simp [h]
    refine sp_lq (fun f (x : Int32) i => fX9_turns_L76 (nI n) s _ f x i) (D.1 5) (fun i x => x = oI (w_wh vt w.2.2.2.2.2 (C.2.1 == 2) i)) (fun r => r = some (oI ((w_wh vt w.2.2.2.2.2 (C.2.1 == 2) (D.1 5)).bind vt))) (fun f i x hi h => ?_) (fun f x h => ?_) (oI none) rfl am_fu (am_fu_gt (by omega))
    · left
      subst h
      refine ⟨_, rfl, ?_⟩
      have e7 := hV i (by omega)
      rw [fX9_turns_L76, w_wh_s]
      cases hv : vt i with
      | none =>
        rw [hv] at e7
        simp (disch := omega) only [am_lq, b_lq, oI_q, e5, am_rq, e7, b_le, b_lt, b_t, b_mul, b_add, am_g_t, if_neg, if_true, if_false]
      | some q =>
        rw [hv, oI_s] at e7
        have hq := hvt i q hv
        have hq2 := k2 i hq
        have e6 := hR i (by omega) hq2
        have o1 := k3 i hq2
        have b1 : (nI q = oI none) = False := b_nn (by have := hvl i q hv; omega)
        cases hw : w_wh vt w.2.2.2.2.2 (C.2.1 == 2) i with
        | none =>
          simp (disch := omega) only [am_lq, b_lq, oI_q, e5, am_rq, e7, b1, b_le, b_lt, b_t, b_mul, b_add, am_g_t, if_neg, if_true, if_false, oI_t]
        | some k =>
          obtain ⟨hk1, q2, hk2⟩ := w_wh_lt hw
          have hk3 := k2 k (hvt k q2 hk2)
          have e8 := hR k (by omega) hk3
          have o2 := k3 k hk3
          have b2 : (nI k = oI none) = False := b_nn (by omega)
          have ne : w.2.2.2.2.2 k ≠ w.2.2.2.2.2 i := fun z => by have := k4 k i hk3 hq2 z; omega
          rw [hbq]
          simp (disch := omega) only [am_lq, b_lq, oI_q, oI_t, e5, am_rq, e6, e7, e8, b1, b2, hr, b_le, b_lt, b_eq, b_t, b_mul, b_add, am_g_t, if_neg, if_true, if_false, decide_eq_true_eq]
          by_cases c : C.2.1 = 2
          · rw [if_pos c]
            by_cases c3 : w.2.2.2.2.2 k ≤ w.2.2.2.2.2 i
            · rw [if_pos c3, if_neg (by rw [if_pos c]; omega)]
              rfl
            · rw [if_neg c3, if_pos (by rw [if_pos c]; omega)]
              rfl
          · rw [if_neg c]
            by_cases c3 : w.2.2.2.2.2 i ≤ w.2.2.2.2.2 k
            · rw [if_pos c3, if_neg (by rw [if_neg c]; omega)]
              rfl
            · rw [if_neg c3, if_pos (by rw [if_neg c]; omega)]
              rfl
    · subst h
      rw [fX9_turns_L76]
      simp (disch := omega) only [am_lq, b_lq, oI_q, e5, am_rq, b_le, if_pos, if_true]
      cases hw : w_wh vt w.2.2.2.2.2 (C.2.1 == 2) (D.1 5) with
      | none =>
        simp (disch := omega) only [if_true, Option.bind_none]
      | some k =>
        obtain ⟨hk1, q2, hk2⟩ := w_wh_lt hw
        have e7 := hV k (by omega)
        have b2 : (nI k = oI none) = False := b_nn (by omega)
        simp (disch := omega) only [oI_t, b2, if_false, b_lq, b_lt, b_t, b_mul, b_add, am_g_t, e7, Option.bind_some]
  · rw [if_neg c2, if_pos (by omega)]
    have hbq : (C.2.1 == 1) = decide (C.2.1 = 1) := by by_cases h : C.2.1 = 1 <;> simp [h]
    refine sp_lq (fun f (x : Int32 × Int32) i => fX9_turns_L15 (nI n) s f x.1 x.2 i) (D.1 0) (fun i x => x = (oI (w_bp D vt (C.2.1 == 1) i).1, nI (w_bp D vt (C.2.1 == 1) i).2)) (fun r => r = some (oI (w_bp D vt (C.2.1 == 1) (D.1 0)).1)) (fun f i x hi h => ?_) (fun f x h => ?_) (oI none, nI 0) rfl am_fu (am_fu_gt (by omega))
    · left
      subst h
      refine ⟨_, rfl, ?_⟩
      have hvf := r_votesFor hD hn (show i < 10 by omega) (C.2.1 == 1) hvl10 hP hV
      have l1 := w_sm_le hD (vt := vt) (q := i) (byB := (C.2.1 == 1)) (D.1 5) (Nat.le_refl _)
      have l2 := w_bp_le hD (vt := vt) (byB := (C.2.1 == 1)) i
      dsimp only
      rw [fX9_turns_L15, w_bp_s]
      have hb : (if nI C.2.1 = nI 1 then fX9_votesFor s (nI n) (nI i) (nI 1) else fX9_votesFor s (nI n) (nI i) (nI 0)) = some (nI (w_sm D vt i (C.2.1 == 1) (D.1 5))) := by
        by_cases c : C.2.1 = 1
        · rw [c, if_pos rfl]
          rw [c] at hvf
          exact hvf
        · rw [if_neg (by rw [b_eq (by omega) (by omega)]; exact c)]
          have : (C.2.1 == 1) = false := by simp [c]
          rw [this] at hvf ⊢
          exact hvf
      simp (disch := omega) only [am_lq, b_lq, e0, hr, b_le, b_lt, b_t, b_add, am_g_t, if_neg, if_false]
      by_cases c : C.2.1 = 1
      · rw [if_pos (by rw [c])] at hb
        rw [if_pos (by rw [c]), hb, am_rq]
        simp (disch := omega) only [b_lt]
        by_cases c3 : (w_bp D vt (C.2.1 == 1) i).2 < w_sm D vt i (C.2.1 == 1) (D.1 5)
        · rw [if_pos c3, if_pos c3]
          rfl
        · rw [if_neg c3, if_neg c3]
      · rw [if_neg (by rw [b_eq (by omega) (by omega)]; exact c)] at hb
        rw [if_neg (by rw [b_eq (by omega) (by omega)]; exact c), hb, am_rq]
        simp (disch := omega) only [b_lt]
        by_cases c3 : (w_bp D vt (C.2.1 == 1) i).2 < w_sm D vt i (C.2.1 == 1) (D.1 5)
        · rw [if_pos c3, if_pos c3]
          rfl
        · rw [if_neg c3, if_neg c3]
    · subst h
      dsimp only
      rw [fX9_turns_L15]
      simp (disch := omega) only [am_lq, b_lq, e0, b_le, b_lt, b_t, am_g_t, if_pos, if_true]
end RT
