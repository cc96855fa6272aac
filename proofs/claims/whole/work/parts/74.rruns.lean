/-! THE REFERENCE'S WALK, from its start to step 60. -/
section RU
variable {D : w_D} {C : w_C} {tr : Option (Nat × Nat)} {sh : Nat}
theorem r_31 (s : AS) : ∃ t, ((∀ p, p < 8 → t.1 233 p = oI none ∧ t.1 234 p = oI none) ∧ fr (fun c => c = 233 ∨ c = 234) s t) ∧ ∀ J, fX9_runs_L31 J am_fu s (nI 0) = J t := by
  refine sp_lj (fun J f t i => fX9_runs_L31 J f t i) 8 (fun i t => (∀ p, p < i → t.1 233 p = oI none ∧ t.1 234 p = oI none) ∧ fr (fun c => c = 233 ∨ c = 234) s t) (fun f i t hi h => ?_) (fun f t h J => ?_) s ⟨fun p hp => by omega, fr_refl _ _⟩ am_fu (am_fu_gt (by omega))
  · refine ⟨am_si (am_si t 233 i (oI none)) 234 i (oI none), ⟨fun p hp => ?_, fr_si (fr_si h.2 _ _ (by omega)) _ _ (by omega)⟩, fun J => ?_⟩
    · simp (disch := omega) only [r_so, r_si]
      by_cases e : p = i
      · rw [e, r_us, r_us]
        exact ⟨rfl, rfl⟩
      · rw [r_uo _ _ e, r_uo _ _ e]
        exact h.1 p (by omega)
    · rw [fX9_runs_L31]
      simp (disch := omega) only [am_lq, b_lq, oI_q, b_le, b_lt, b_t, b_add, am_g_t, if_neg, if_false]
  · rw [fX9_runs_L31]
    simp (disch := omega) only [b_lq, b_le, if_pos, if_true]
theorem r_runs (hD : w_V D) (hC : w_CK D C) (hsh : sh < 1024) (hnx : ∀ n, n < 61 → C.2.2.2.2.2.2 n = y_N D (r_sh tr sh (n + 1))) (s : AS) (hP : r_PL D s) (hS : r_CS C tr s) (h24 : s.1 215 24 = nI sh) (h25 : s.1 215 25 = nI C.1) : ∃ t, fX9_runs s = some (t, ()) ∧ fr r_RG s t ∧ r_fx s t ∧ r_GI D C tr sh 61 t := by
  obtain ⟨t1, a1, a2, a3⟩ := r_laysWays hD hsh s hP h24
  have f1 : fr r_RG s (am_si (am_si (am_si (am_si (am_si t1 215 42 (nI 0)) 215 43 (nI 0)) 215 44 (nI 0)) 215 45 (oI none)) 215 46 (oI none)) := fr_si (fr_si (fr_si (fr_si (fr_si (fr_mono a2 (fun c (hc : c = 228) => (by omega : r_RG c))) _ _ (by omega)) _ _ (by omega)) _ _ (by omega)) _ _ (by omega)) _ _ (by omega)
  obtain ⟨t2, ⟨b1, b2⟩, b3⟩ := r_31 (am_si (am_si (am_si (am_si (am_si t1 215 42 (nI 0)) 215 43 (nI 0)) 215 44 (nI 0)) 215 45 (oI none)) 215 46 (oI none))
  have f2 := fr_tr f1 (fr_mono b2 (fun c (hc : c = 233 ∨ c = 234) => (by omega : r_RG c)))
  have x2 : r_fx s t2 := fun k h1 h2 => by
    rw [b2.2 _ (by omega)]
    simp (disch := omega) only [r_si, r_uo]
    rw [a2.2 _ (by omega)]
  have g42 : t2.1 215 42 = nI 0 := by rw [b2.2 _ (by omega)]; simp (disch := omega) only [r_si, r_us, r_uo]
  have g43 : t2.1 215 43 = nI 0 := by rw [b2.2 _ (by omega)]; simp (disch := omega) only [r_si, r_us, r_uo]
  have g44 : t2.1 215 44 = nI 0 := by rw [b2.2 _ (by omega)]; simp (disch := omega) only [r_si, r_us, r_uo]
  have g45 : t2.1 215 45 = oI none := by rw [b2.2 _ (by omega)]; simp (disch := omega) only [r_si, r_us, r_uo]
  have g46 : t2.1 215 46 = oI none := by rw [b2.2 _ (by omega)]; simp (disch := omega) only [r_si, r_us, r_uo]
  have g24 : t2.1 215 24 = nI sh := by rw [b2.2 _ (by omega)]; simp (disch := omega) only [r_si, r_us, r_uo]; rw [a2.2 _ (by omega), h24]
  have g25 : t2.1 215 25 = nI C.1 := by rw [x2 25 (by omega) (by omega), h25]
  have hsh0 : sh = r_sh tr sh 0 := by
    unfold r_sh
    cases tr with
    | none => rfl
    | some mk => dsimp only; rw [if_neg (by omega)]
  have G0 : r_GI D C tr sh 0 t2 := ⟨⟨g42, g43, g44, fun p hp => (b1 p hp).1, fun p hp => (b1 p hp).2, fun p hp hb => absurd hb (by show ¬ (0 : Nat).testBit p = true; simp)⟩, fun k hk => by omega, fun k hk => by omega, fun k hk => by omega, fun k p hk => by omega, g45, g46, sh, hsh, g24, fun x y hx hy => by rw [b2.2 _ (by omega)]; simp (disch := omega) only [r_so]; exact a3 x y hx hy, fun _ => hsh0, fun _ => rfl⟩
  unfold fX9_runs
  rw [a1, am_cq]
  simp (disch := omega) only [↓am_lq, b_lq, oI_q, b3, g25]
  have key := sp_lq (fun f (x : AS × Int32) i => fX9_runs_L64 f x.1 x.2 i) 61 (fun n x => x.2 = oI (w_at D C n) ∧ fr r_RG s x.1 ∧ r_fx s x.1 ∧ r_GI D C tr sh n x.1) (fun r => ∃ t, r = some (t, ()) ∧ fr r_RG s t ∧ r_fx s t ∧ r_GI D C tr sh 61 t) (fun f n x hn h => by
    left
    obtain ⟨t, x⟩ := x
    obtain ⟨e1, e2, e3, e4⟩ := h
    dsimp only at e1 e2 e3 e4 ⊢
    subst e1
    cases hat : w_at D C n with
    | none =>
      obtain ⟨t', q1, q2, q3, q4⟩ := r_go0 hn hat t e4
      exact ⟨(t', oI (w_at D C (n + 1))), ⟨rfl, fr_tr e2 q2, r_fx_tr e3 q3, q1⟩, q4 f⟩
    | some pl =>
      obtain ⟨t', q1, q2, q3, q4⟩ := r_go1 hD hC hsh hnx hn hat t (r_PL_fr hP e2 (fun c _ _ => by omega)) (r_CS_fr hS (fun k h1 h2 h3 => e3 k h3 (by omega)) e2.1) e4
      exact ⟨(t', oI (w_at D C (n + 1))), ⟨rfl, fr_tr e2 q2, r_fx_tr e3 q3, q1⟩, q4 f⟩) (fun f x h => by
    obtain ⟨t, x⟩ := x
    obtain ⟨e1, e2, e3, e4⟩ := h
    refine ⟨t, ?_, e2, e3, e4⟩
    dsimp only
    rw [fX9_runs_L64]
    simp (disch := omega) only [↓am_lq, b_lq, b_lt, if_pos]) (t2, nI C.1) ⟨rfl, f2, x2, G0⟩ am_fu (am_fu_gt (by omega))
  exact key
/-- the reference's first step at a place, from a step on -/
theorem r_firstAt (s : AS) {wa : Nat → Option Nat} (h : ∀ k, k < 61 → s.1 229 k = oI (wa k)) (hwa : ∀ k q, wa k = some q → q < 10) {pl from_ : Nat} (hpl : pl < 10) (hf : from_ ≤ 61) : fX9_firstAt s (nI pl) (nI from_) = some (oI (y_fd (fun k => decide (from_ ≤ k) && (wa k == some pl)) 61)) := by
  unfold fX9_firstAt
  have key : ∀ j i f, i + j = 61 → j < f → from_ ≤ i → (∀ k, k < i → (decide (from_ ≤ k) && (wa k == some pl)) = false) → fX9_firstAt_L2 (nI pl) s f (nI i) = some (oI (y_fd (fun k => decide (from_ ≤ k) && (wa k == some pl)) 61)) := by
    intro j
    induction j with
    | zero =>
      intro i f hi hf hfr hk
      obtain ⟨f, rfl⟩ : ∃ g, f = g + 1 := ⟨f - 1, by omega⟩
      have : i = 61 := by omega
      subst this
      rw [fX9_firstAt_L2, y_fd_n.mpr hk]
      simp (disch := omega) only [b_lq, oI_q, b_lt, if_pos, if_true]
    | succ j ih =>
      intro i f hi hf hfr hk
      obtain ⟨f, rfl⟩ : ∃ g, f = g + 1 := ⟨f - 1, by omega⟩
      rw [fX9_firstAt_L2]
      have e1 := h i (by omega)
      cases hw : wa i with
      | none =>
        rw [hw] at e1
        simp (disch := omega) only [am_lq, b_lq, b_le, b_lt, b_t, am_g_t, e1, b_nn2, if_neg, if_false, b_add]
        refine ih (i + 1) f (by omega) (by omega) (by omega) (fun k hk2 => ?_)
        by_cases e : k = i
        · rw [e, hw]; simp
        · exact hk k (by omega)
      | some q =>
        have := hwa i q hw
        rw [hw, oI_s] at e1
        simp (disch := omega) only [am_lq, b_lq, b_le, b_lt, b_t, am_g_t, e1, b_eq, if_neg, if_false, b_add]
        by_cases c : q = pl
        · have : y_fd (fun k => decide (from_ ≤ k) && (wa k == some pl)) 61 = some i := y_fd_s.mpr ⟨by omega, by rw [hw, c]; simp [hfr], hk⟩
          rw [if_pos c, this]
          rfl
        · rw [if_neg c]
          refine ih (i + 1) f (by omega) (by omega) (by omega) (fun k hk2 => ?_)
          by_cases e : k = i
          · rw [e, hw]; simp [c]
          · exact hk k (by omega)
  exact key (61 - from_) from_ am_fu (by omega) (am_fu_gt (by omega)) (Nat.le_refl _) (fun k hk => by simp; omega)
end RU
