/-! THE CLASS'S WALK: from clear() to its end. -/
section CH
variable {o op oc : Nat} {D : w_D} {C : w_C}
theorem c_GI_s {n : Nat} {t : AS} (h : w_at D C n = none) (k : c_GI o D C n t) : c_GI o D C (n + 1) t := by
  obtain ⟨i1, i2, i3, i4, i5, i6, i7⟩ := k
  have hg : w_at D C (n + 1) = none := (w_at_n h (n + 1) (by omega)).1
  have ho : w_on D C (n + 1) = w_on D C n := by
    rw [w_on_s, h]
    cases w_on D C n <;> rfl
  refine ⟨by rw [w_W_n h]; exact i1, fun q hq => ?_, fun q hq => ?_, fun q hq => ?_, by rw [ho]; exact i5, ?_, by rw [w_se_s, h]; exact i7⟩
  · rw [i2 q hq]
    by_cases e : q = n
    · rw [e, if_neg (by omega), if_pos (by omega), h]
    · by_cases c : q < n
      · rw [if_pos c, if_pos (by omega)]
      · rw [if_neg c, if_neg (by omega)]
  · rw [i3 q hq]
    by_cases e : q = n
    · rw [e, if_neg (by omega), if_pos (by omega)]
      unfold w_cr
      rw [h]
    · by_cases c : q < n
      · rw [if_pos c, if_pos (by omega)]
      · rw [if_neg c, if_neg (by omega)]
  · rw [i4 q hq]
    by_cases e : q = n
    · rw [e, if_neg (by omega), if_pos (by omega)]
      unfold w_go
      rw [hg]
    · by_cases c : q < n
      · rw [if_pos c, if_pos (by omega)]
      · rw [if_neg c, if_neg (by omega)]
  · unfold w_wn at i6 ⊢
    rw [ho]
    exact i6
theorem c_GI_n {n : Nat} {t : AS} (h : w_at D C n = none) (k : c_GI o D C n t) : ∀ j, c_GI o D C (n + j) t
  | 0 => k
  | j + 1 => c_GI_s (w_at_n h (n + j) (by omega)).1 (c_GI_n h k j)
theorem c_clear (s : AS) : ∃ t, fX6_clear s o = some (t, ()) ∧ c_GI o D C 0 t ∧ fr (c_RG o) s t := by
  obtain ⟨s1, a1, b1, c1⟩ := c_fill s (o + 1) 61 (oI none) (by omega)
  obtain ⟨s2, a2, b2, c2⟩ := c_fill s1 (o + 2) 61 (nI 0) (by omega)
  obtain ⟨s3, a3, b3, c3⟩ := c_fill s2 (o + 3) 61 (oI none) (by omega)
  obtain ⟨s4, a4, b4, c4⟩ := c_fill s3 (o + 4) 8 (oI none) (by omega)
  obtain ⟨s5, a5, b5, c5⟩ := c_fill s4 (o + 5) 8 (oI none) (by omega)
  obtain ⟨s6, a6, b6, c6⟩ := c_fill s5 (o + 6) 8 (oI none) (by omega)
  have m : ∀ {j : Nat} {x y : AS}, j < 9 → fr (fun c => c = o + j) x y → fr (c_RG o) x y := fun hj h => fr_mono h (fun c hc => ⟨by omega, by omega⟩)
  have F := fr_tr (m (by omega) c1) (fr_tr (m (by omega) c2) (fr_tr (m (by omega) c3) (fr_tr (m (by omega) c4) (fr_tr (m (by omega) c5) (m (by omega) c6)))))
  refine ⟨am_si (am_si (am_si (am_si (am_si (am_si s6 o 6 (oI none)) o 7 (oI none)) o 8 (nI 0)) o 9 (nI 0)) o 10 (nI 0)) o 11 (nI 0), ?_, ⟨⟨?_, ?_, ?_, fun p hp => ?_, fun p hp => ?_, fun p hp hb => ?_⟩, fun k hk => ?_, fun k hk => ?_, fun k hk => ?_, ?_, ?_, ?_⟩, ?_⟩
  · unfold fX6_clear
    simp only [b_lq, oI_q, a1, a2, a3, a4, a5, a6, am_cq, am_lq]
  · simp (disch := omega) only [r_si, r_us, r_uo]; rfl
  · simp (disch := omega) only [r_si, r_us, r_uo]; rfl
  · simp (disch := omega) only [r_si, r_us, r_uo]; rfl
  · simp (disch := omega) only [r_so]
    rw [c6.2 _ (by omega), c5.2 _ (by omega), b4, if_pos hp]; rfl
  · simp (disch := omega) only [r_so]
    rw [c6.2 _ (by omega), b5, if_pos hp]; rfl
  · exact absurd hb (by show ¬ (0 : Nat).testBit p = true; simp)
  · simp (disch := omega) only [r_so]
    rw [c6.2 _ (by omega), c5.2 _ (by omega), c4.2 _ (by omega), c3.2 _ (by omega), c2.2 _ (by omega), b1, if_pos hk, if_neg (by omega)]
  · simp (disch := omega) only [r_so]
    rw [c6.2 _ (by omega), c5.2 _ (by omega), c4.2 _ (by omega), c3.2 _ (by omega), b2, if_pos hk, if_neg (by omega)]
  · simp (disch := omega) only [r_so]
    rw [c6.2 _ (by omega), c5.2 _ (by omega), c4.2 _ (by omega), b3, if_pos hk, if_neg (by omega)]
  · simp (disch := omega) only [r_si, r_us, r_uo]; rfl
  · simp (disch := omega) only [r_si, r_us, r_uo]; rfl
  · simp (disch := omega) only [r_si, r_us, r_uo]; rfl
  · exact fr_si (fr_si (fr_si (fr_si (fr_si (fr_si F _ _ (by omega)) _ _ (by omega)) _ _ (by omega)) _ _ (by omega)) _ _ (by omega)) _ _ (by omega)
/-- what a walk of the class leaves -/
def c_GP (o : Nat) (D : w_D) (C : w_C) (g : Option Nat) (last : Nat) (t : AS) : Prop := ((∀ k, k ≤ last → ∀ q, w_at D C k = some q → g ≠ some q) → c_GI o D C (last + 1) t) ∧ ∃ se, se < 128 ∧ t.1 o 8 = nI se ∧ ∀ q, (g = none ∨ g = some q) → (se.testBit q = true ↔ ∃ k, k ≤ last ∧ w_at D C k = some q)
theorem c_GP_of (hD : w_V D) (hC : w_CK D C) {g : Option Nat} {last : Nat} {t : AS} (h : c_GI o D C (last + 1) t) : c_GP o D C g last t := by
  refine ⟨fun _ => h, w_se D C (last + 1), w_se_lt hD hC _, h.2.2.2.2.2.2, fun q _ => ?_⟩
  rw [w_se_t]
  exact ⟨fun ⟨k, h1, h2⟩ => ⟨k, by omega, h2⟩, fun ⟨k, h1, h2⟩ => ⟨k, by omega, h2⟩⟩
theorem c_go (hD : w_V D) (hC : w_CK D C) (ho : op + 22 ≤ o) (hoc : oc < o ∨ o + 9 ≤ oc) {g : Option Nat} {last : Nat} (hg : ∀ q, g = some q → q < 10) (hl : last ≤ 60) (s : AS) (hP : c_PL op D s) (hS : c_CS oc C s) (hW : c_WA oc o D C s) (h0 : s.1 oc 0 = nI C.1) (h4 : s.1 oc 4 = oI g) (h5 : s.1 oc 5 = nI last) (hsh : ∀ n p, n < 61 → p < 8 → (C.2.2.2.2.2.1 n p).isSome = true → (w_W D C (n + 1)).2.1.testBit p = true) : ∃ t, fX6_go s o op oc = some (t, ()) ∧ fr (c_RG o) s t ∧ c_GP o D C g last t := by
  obtain ⟨d0, d4, d5, dr, dp, -⟩ := id hD
  obtain ⟨s1, a1, a2, a3⟩ := c_clear (o := o) (D := D) (C := C) s
  have hC1 := hC.1
  unfold fX6_go
  rw [a1, am_cq]
  simp only [am_lq, b_lq]
  rw [a3.2 oc (by omega), h0]
  refine sp_lq (fun f (x : AS × Int32) i => fX6_go_L12 o op oc (fun s4 => some (s4, ())) f x.1 x.2 i) (last + 1) (fun n x => x.2 = oI (w_at D C n) ∧ c_GI o D C n x.1 ∧ fr (c_RG o) s x.1 ∧ ∀ k, k < n → ∀ q, w_at D C k = some q → g ≠ some q) (fun r => ∃ t, r = some (t, ()) ∧ fr (c_RG o) s t ∧ c_GP o D C g last t) (fun f n x hn h => ?_) (fun f x h => ?_) (s1, nI C.1) ⟨rfl, a2, a3, fun k hk => by omega⟩ am_fu (am_fu_gt (by omega))
  · obtain ⟨t, x⟩ := x
    obtain ⟨e1, e2, e3, e4⟩ := h
    dsimp only at e1 e2 e3 e4 ⊢
    subst e1
    have k4 : t.1 oc 4 = oI g := by rw [e3.2 oc (by omega), h4]
    have k5 : t.1 oc 5 = nI last := by rw [e3.2 oc (by omega), h5]
    cases hat : w_at D C n with
    | none =>
      right
      have e5 := c_GI_n hat e2 (last + 1 - n)
      rw [show n + (last + 1 - n) = last + 1 by omega] at e5
      refine ⟨t, ?_, e3, c_GP_of hD hC e5⟩
      rw [fX6_go_L12]
      simp (disch := omega) only [am_lq, b_lq, oI_q, b_le, b_lt, k5, if_neg, if_false, if_true]
    | some pl =>
      have hpl := w_at_lt hC hat
      by_cases c : g = some pl
      · right
        have hse := w_se_lt hD hC n
        have hins : w_ins (w_se D C n) pl < 2 ^ 7 := w_ins_lt hse (by omega)
        have i7 := e2.2.2.2.2.2.2
        have b1 : (nI pl = oI none) = False := b_nn (by omega)
        refine ⟨am_si (am_si t (o + 1) n (nI pl)) o 8 (nI (w_ins (w_se D C n) pl)), ?_, fr_si (fr_si e3 _ _ (by omega)) _ _ (by omega), fun h => ?_, w_ins (w_se D C n) pl, by omega, ?_, fun q hq => ?_⟩
        · rw [fX6_go_L12]
          rw [c, oI_s] at k4
          simp (disch := omega) only [am_lq, b_lq, oI_q, oI_t, b_le, b_lt, b_t, k4, k5, am_g_t, b1, if_neg, if_false, if_true, b_sh, r_so, i7, b_ins]
        · exact absurd c (h n (by omega) pl hat)
        · simp only [r_si, r_us]
        · rcases hq with hq | hq
          · rw [hq] at c; cases c
          · rw [c] at hq
            cases hq
            rw [w_ins_t]
            simp only [decide_true, Bool.or_true, true_iff]
            exact ⟨n, by omega, hat⟩
      · left
        have hne : ¬ nI pl = t.1 oc 4 := by
          rw [k4]
          cases hgg : g with
          | none => rw [b_nn (by omega)]; exact fun z => z
          | some q =>
            have := hg q hgg
            rw [oI_s, b_eq (by omega) (by omega)]
            intro z
            rw [hgg, z] at c
            exact c rfl
        obtain ⟨t', q1, q2, q3⟩ := c_go1 hD hC ho hoc (by omega) hat t (c_PL_fr hP e3 (fun c _ _ => by omega) d4 d5) (c_CS_fr hS (e3.2 oc (by omega)) e3.1) (c_WA_fr hD hW (e3.2 oc (by omega)) e3) e2 (fun p hp h => hsh n p (by omega) hp h)
        refine ⟨(t', oI (w_at D C (n + 1))), ⟨rfl, q1, fr_tr e3 q2, fun k hk q hq => ?_⟩, ?_⟩
        · by_cases e : k = n
          · rw [e, hat] at hq
            cases hq
            exact c
          · exact e4 k (by omega) q hq
        · exact q3 hne (by rw [k5, b_lt (by omega) (by omega)]; omega) _ f
  · obtain ⟨t, x⟩ := x
    obtain ⟨e1, e2, e3, e4⟩ := h
    dsimp only at e1 e2 e3 e4 ⊢
    have k5 : t.1 oc 5 = nI last := by rw [e3.2 oc (by omega), h5]
    refine ⟨t, ?_, e3, c_GP_of hD hC e2⟩
    rw [fX6_go_L12]
    simp (disch := omega) only [am_lq, b_lq, b_le, b_lt, k5]
    by_cases c : 61 ≤ last + 1
    · rw [if_pos c]
    · rw [if_neg c, if_pos (by omega)]
/-- the first step from a step on, of a walk told to its end -/
theorem c_firstAt (s : AS) {wa : Nat → Option Nat} (h : ∀ k, k < 61 → s.1 (o + 1) k = oI (wa k)) (hwa : ∀ k q, wa k = some q → q < 10) {pl from_ : Nat} (hpl : pl < 10) (hf : from_ ≤ 61) : fX6_firstAt s o (nI pl) (nI from_) = some (oI (y_fd (fun k => decide (from_ ≤ k) && (wa k == some pl)) 61)) := by
  unfold fX6_firstAt
  simp (disch := omega) only [am_lq, b_lq, b_lt, if_neg, if_false]
  have key : ∀ j i f, i + j = 61 → j < f → from_ ≤ i → (∀ k, k < i → (decide (from_ ≤ k) && (wa k == some pl)) = false) → fX6_firstAt_L6 o (nI pl) s f (nI i) = some (oI (y_fd (fun k => decide (from_ ≤ k) && (wa k == some pl)) 61)) := by
    intro j
    induction j with
    | zero =>
      intro i f hi hf hfr hk
      obtain ⟨f, rfl⟩ : ∃ g, f = g + 1 := ⟨f - 1, by omega⟩
      have : i = 61 := by omega
      subst this
      rw [fX6_firstAt_L6, y_fd_n.mpr hk]
      simp (disch := omega) only [b_lq, oI_q, b_le, if_pos, if_true]
    | succ j ih =>
      intro i f hi hf hfr hk
      obtain ⟨f, rfl⟩ : ∃ g, f = g + 1 := ⟨f - 1, by omega⟩
      rw [fX6_firstAt_L6]
      have e1 := h i (by omega)
      cases hw : wa i with
      | none =>
        rw [hw] at e1
        simp (disch := omega) only [am_lq, b_lq, b_le, b_lt, b_t, am_g_t, e1, b_nn2, if_neg, if_false, b_add]
        refine ih (i + 1) f (by omega) (by omega) (by omega) (fun k hk2 => ?_)
        by_cases e : k = i
        · rw [e, hw]; simp
        · exact hk k (by omega)
      | some q =>
        have := hwa i q hw
        rw [hw, oI_s] at e1
        simp (disch := omega) only [am_lq, b_lq, b_le, b_lt, b_t, am_g_t, e1, b_eq, if_neg, if_false, b_add]
        by_cases c : q = pl
        · have : y_fd (fun k => decide (from_ ≤ k) && (wa k == some pl)) 61 = some i := y_fd_s.mpr ⟨by omega, by rw [hw, c]; simp [hfr], hk⟩
          rw [if_pos c, this]
          rfl
        · rw [if_neg c]
          refine ih (i + 1) f (by omega) (by omega) (by omega) (fun k hk2 => ?_)
          by_cases e : k = i
          · rw [e, hw]; simp [c]
          · exact hk k (by omega)
  exact key (61 - from_) from_ am_fu (by omega) (am_fu_gt (by omega)) (Nat.le_refl _) (fun k hk => by simp; omega)
end CH
