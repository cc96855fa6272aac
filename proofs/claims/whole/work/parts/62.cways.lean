/-! THE CLASS'S WAYS. -/
theorem am_fu_gt {n : Nat} (h : n < 1000000) : n < am_fu := h
theorem c_fill (s : AS) (o n : Nat) (x : Int32) (hn : n < 1000) : ∃ s1, fJ7_fill_53178 s o n x = some (s1, ()) ∧ (∀ k, s1.1 o k = if k < n then x else s.1 o k) ∧ fr (fun c => c = o) s s1 := by
  obtain ⟨s1, ⟨h1, h2⟩, h3⟩ := sp_lp (fun f (t : AS) i => fJ7_fill_53178_L5 o n x (Int32.ofNat n) f t i) n (fun i t => (∀ k, t.1 o k = if k < i then x else s.1 o k) ∧ fr (fun c => c = o) s t) (fun t => some (t, ())) (fun f i t hi h => ⟨am_si t o i x, ⟨fun k => by
      rw [r_si]
      unfold upd
      rw [h.1]
      by_cases e : k = i
      · rw [if_pos e, if_pos (by omega)]
      · rw [if_neg e]
        by_cases c : k < i
        · rw [if_pos c, if_pos (by omega)]
        · rw [if_neg c, if_neg (by omega)], fr_si h.2 i x rfl⟩, by
      rw [fJ7_fill_53178_L5]
      simp (disch := omega) only [am_lq, b_lq, b_oq, b_le, b_lt, am_g_t, am_gT, or_true, true_or, b_t, b_add, if_neg, if_false]⟩) (fun f t h => by
      rw [fJ7_fill_53178_L5]
      simp (disch := omega) only [am_lq, b_lq, b_oq, b_le, if_pos, if_true]) s ⟨fun k => by rw [if_neg (by omega)], fr_refl _ _⟩ am_fu (am_fu_gt (by omega))
  refine ⟨s1, ?_, h1, h2⟩
  unfold fJ7_fill_53178
  simp only [am_lq, b_lq]
  exact h3
theorem c_holds {x p : Nat} (hx : x < 1024) (hp : p < 10) : fX8_holds (nI x) (nI p) = some (nI (x.testBit p).toNat) := by
  rw [p_holds]
  simp only [b_lq, b_bit x hx p hp, b_b1]
  cases x.testBit p <;> rfl
theorem c_isBit {x p : Nat} (hx : x < 1024) (hp : p < 10) : fX9_isBit (nI x) (nI p) = some (nI (x.testBit p).toNat) := by
  rw [p_isBit]
  simp only [b_lq, b_bit x hx p hp, b_b1]
  cases x.testBit p <;> rfl
abbrev w_D := (Nat → Nat) × (Nat → Nat → Nat) × (Nat → Nat → Nat) × (Nat → Nat)
/-- the plan at o is D (0 places, 1 start, 2 rule, 3 odds, 4 roads, 5 persons, 6 lines) -/
def c_PL (o : Nat) (D : w_D) (s : AS) : Prop := (∀ j, j < 6 → s.1 o (1 + j) = nI (D.1 j)) ∧ (∀ r j, r < D.1 4 → j < 3 → s.1 (o + 1 + 1 + r) j = nI (D.2.1 r j)) ∧ (∀ p j, p < D.1 5 → j < 5 → s.1 (o + 12 + 1 + p) j = nI (D.2.2.1 p j)) ∧ (∀ k, k < 6 → s.1 (o + 21) k = nI (D.2.2.2 k)) ∧ s.1 o 0 = nI (D.1 6)
theorem c_PL_fr {o : Nat} {D : w_D} {R : Nat → Prop} {s s1 : AS} (h : c_PL o D s) (k : fr R s s1) (hR : ∀ c, o ≤ c → c < o + 22 → ¬ R c) (h4 : D.1 4 ≤ 10) (h5 : D.1 5 ≤ 8) : c_PL o D s1 := by
  obtain ⟨a1, a2, a3, a4, a5⟩ := h
  refine ⟨fun j hj => ?_, fun r j hr hj => ?_, fun p j hp hj => ?_, fun j hj => ?_, ?_⟩
  · rw [k.2 o (hR o (by omega) (by omega))]; exact a1 j hj
  · rw [k.2 _ (hR _ (by omega) (by omega))]; exact a2 r j hr hj
  · rw [k.2 _ (hR _ (by omega) (by omega))]; exact a3 p j hp hj
  · rw [k.2 _ (hR _ (by omega) (by omega))]; exact a4 j hj
  · rw [k.2 o (hR o (by omega) (by omega))]; exact a5
def w_V (D : w_D) : Prop := D.1 0 ≤ 7 ∧ D.1 4 ≤ 10 ∧ D.1 5 ≤ 8 ∧ (∀ r, r < D.1 4 → D.2.1 r 0 < D.1 0 ∧ D.2.1 r 1 < D.1 0 ∧ D.2.1 r 0 ≠ D.2.1 r 1 ∧ 1 ≤ D.2.1 r 2 ∧ D.2.1 r 2 ≤ 99) ∧ (∀ p, p < D.1 5 → D.2.2.1 p 0 < D.1 0 ∧ D.2.2.1 p 1 < D.1 0 ∧ D.2.2.1 p 2 < 6 ∧ D.2.2.1 p 3 ≤ 9 ∧ 1 ≤ D.2.2.1 p 4 ∧ D.2.2.1 p 4 ≤ 99) ∧ (∀ k, k < 6 → D.2.2.2 k ≤ 99) ∧ (0 < D.1 6 → D.1 1 < D.1 0) ∧ D.1 2 ≤ 3 ∧ D.1 3 ≤ 10 ∧ D.1 6 ≤ 800 ∧ (D.1 6 = 0 → ∀ j, j < 6 → D.1 j = 0)
section CW
variable {v op sh : Nat} {D : w_D}
/-- the rows of the ways at v -/
abbrev c_R (v : Nat) : Nat → Prop := fun c => v ≤ c ∧ c < v + 25
theorem c_m10 {np : Nat} {J : AS → Option (AS × Unit)} (hnp : np ≤ 7) (s : AS) (h0 : s.1 v 0 = nI np) : ∃ s', (fr (fun c => v + 1 + 1 ≤ c ∧ c < v + 9) s s' ∧ ∀ a b, a < np → b < 7 → s'.1 (v + 1 + 1 + a) b = nI 1000000) ∧ fX7_measure_L10 v J am_fu s (nI 0) = J s' := by
  refine sp_lp (fun f t i => fX7_measure_L10 v J f t i) np (fun i t => fr (fun c => v + 1 + 1 ≤ c ∧ c < v + 9) s t ∧ ∀ a b, a < i → b < 7 → t.1 (v + 1 + 1 + a) b = nI 1000000) J (fun f i t hi h => ?_) (fun f t h => ?_) s ⟨fr_refl _ _, fun a b ha => by omega⟩ am_fu (am_fu_gt (by omega))
  · have hv : t.1 v 0 = nI np := by rw [h.1.2 v (by omega), h0]
    obtain ⟨t1, k1, k2, k3⟩ := c_fill t (v + 1 + 1 + i) 7 (nI 1000000) (by omega)
    refine ⟨t1, ⟨fr_tr h.1 (fr_mono k3 (fun c hc => by omega)), fun a b ha hb => ?_⟩, ?_⟩
    · by_cases e : a = i
      · rw [e, k2, if_pos hb]
      · rw [k3.2 _ (by omega)]
        exact h.2 a b (by omega) hb
    · rw [fX7_measure_L10]
      simp (disch := omega) only [am_lq, b_lq, hv, b_le, b_lt, am_g_t, am_gT, or_true, true_or, b_t, if_neg, k1, am_cq, b_add]
  · have hv : t.1 v 0 = nI np := by rw [h.1.2 v (by omega), h0]
    rw [fX7_measure_L10]
    simp (disch := omega) only [am_lq, b_lq, hv, b_le, if_pos, if_true]
theorem c_mn (a b : Nat) : (if b < a then nI b else nI a) = nI (min a b) := by
  split
  · rw [Nat.min_eq_right (by omega)]
  · rw [Nat.min_eq_left (by omega)]
theorem y_fl_q (d0 : Nat → Nat → Nat) (k a b : Nat) : min (y_fl d0 k a b) (y_fl d0 k a k + y_fl d0 k k b) = y_fl d0 (k + 1) a b := Eq.trans rfl rfl
/-- one road is laid -/
theorem c_join (s : AS) (r x y l bx : Nat) (hx : x < 7) (hy : y < 7) (hxy : x ≠ y) (hl : l ≤ 99) (hb : bx ≤ 1000000) (h0 : s.1 r 0 = nI x) (h1 : s.1 r 1 = nI y) (h2 : s.1 r 2 = nI l) (hr : r < v) (hB : s.1 (v + 1 + 1 + x) y = nI bx) : ∃ s', fX7_join s v r 3 = some (s', ()) ∧ fr (fun c => v + 1 + 1 ≤ c ∧ c < v + 9) s s' ∧ ∀ a b, a < 7 → b < 7 → s'.1 (v + 1 + 1 + a) b = if (a = x ∧ b = y) ∨ (a = y ∧ b = x) then nI (min bx l) else s.1 (v + 1 + 1 + a) b := by
  refine ⟨am_si (am_si s (v + 1 + 1 + x) y (nI (min bx l))) (v + 1 + 1 + y) x (nI (min bx l)), ?_, fr_si (fr_si (fr_refl _ _) _ _ (by omega)) _ _ (by omega), fun a b ha hb => ?_⟩
  · unfold fX7_join
    simp (disch := omega) only [am_lq, b_lq, h0, h1, h2, b_lt, am_g_t, am_gT, or_true, true_or, b_t, hB, c_mn, r_si, r_us, r_so, Nat.add_left_cancel_iff]
  · simp only [am_si_1, Nat.add_left_cancel_iff]
    by_cases c1 : a = y
    · by_cases c2 : b = x
      · rw [if_pos c1, if_pos c2, if_pos (.inr ⟨c1, c2⟩)]
      · rw [if_pos c1, if_neg c2, if_neg (by omega : ¬ a = x), if_neg (by omega)]
    · rw [if_neg c1]
      by_cases c3 : a = x
      · by_cases c4 : b = y
        · rw [if_pos c3, if_pos c4, if_pos (.inl ⟨c3, c4⟩)]
        · rw [if_pos c3, if_neg c4, if_neg (by omega)]
      · rw [if_neg c3, if_neg (by omega)]
/-- beside -/
def c_BS (v : Nat) (D : w_D) (sh n : Nat) (s : AS) : Prop := ∀ a b, a < D.1 0 → b < D.1 0 → s.1 (v + 1 + 1 + a) b = nI (y_bs 1000000 D.2.1 sh a b n)
def c_ex (v : Nat) (t : AS) : Option (AS × Unit) := am_c (fX7_findLengths t v) (fun s _ => am_c (fX7_findFirsts s v) (fun s _ => some (s, ())))
theorem c_m37 (hD : w_V D) (hsh : sh < 1024) (hv : op + 22 ≤ v) (s : AS) (hP : c_PL op D s) (h0 : s.1 v 0 = nI (D.1 0)) (hB : c_BS v D sh 0 s) : ∃ s', (fr (fun c => v + 1 + 1 ≤ c ∧ c < v + 9) s s' ∧ c_BS v D sh (D.1 4) s') ∧ fX7_measure_L37 v op (nI sh) am_fu s (nI 0) = c_ex v s' := by
  obtain ⟨d0, d4, d5, dr, -⟩ := hD
  refine sp_lp (fun f t i => fX7_measure_L37 v op (nI sh) f t i) (D.1 4) (fun i t => fr (fun c => v + 1 + 1 ≤ c ∧ c < v + 9) s t ∧ c_BS v D sh i t) (c_ex v) (fun f i t hi h => ?_) (fun f t h => ?_) s ⟨fr_refl _ _, hB⟩ am_fu (am_fu_gt (by omega))
  · have hP' := c_PL_fr hP h.1 (fun c _ _ => by omega) d4 d5
    have e4 : t.1 op 5 = nI (D.1 4) := hP'.1 4 (by omega)
    obtain ⟨r0, r1, r2, r3, r4⟩ := dr i hi
    cases hb : sh.testBit i with
    | true =>
      refine ⟨t, ⟨h.1, fun a b ha hb' => ?_⟩, ?_⟩
      · rw [h.2 a b ha hb']
        rw [y_bs_s]
        rw [if_neg (by unfold y_e; rw [hb]; simp)]
      · rw [fX7_measure_L37]
        simp (disch := omega) only [am_lq, b_lq, e4, b_le, c_holds, hb, am_rq, b_tt, b_eq, if_neg, b_add]
    | false =>
      have j0 : t.1 (op + 1 + 1 + i) 0 = nI (D.2.1 i 0) := hP'.2.1 i 0 hi (by omega)
      have j1 : t.1 (op + 1 + 1 + i) 1 = nI (D.2.1 i 1) := hP'.2.1 i 1 hi (by omega)
      have j2 : t.1 (op + 1 + 1 + i) 2 = nI (D.2.1 i 2) := hP'.2.1 i 2 hi (by omega)
      obtain ⟨t1, k1, k2, k3⟩ := c_join (v := v) t (op + 1 + 1 + i) (D.2.1 i 0) (D.2.1 i 1) (D.2.1 i 2) (y_bs 1000000 D.2.1 sh (D.2.1 i 0) (D.2.1 i 1) i) (by omega) (by omega) r2 r4 (y_bs_le ..) j0 j1 j2 (by omega) (h.2 _ _ r0 r1)
      refine ⟨t1, ⟨fr_tr h.1 k2, fun a b ha hb' => ?_⟩, ?_⟩
      · rw [k3 a b (by omega) (by omega)]
        rw [y_bs_s]
        by_cases c1 : a = D.2.1 i 0 ∧ b = D.2.1 i 1
        · rw [if_pos (.inl c1), if_pos (by unfold y_e; rw [hb, c1.1, c1.2]; simp), c1.1, c1.2]
        · by_cases c2 : a = D.2.1 i 1 ∧ b = D.2.1 i 0
          · rw [if_pos (.inr c2), if_pos (by unfold y_e; rw [hb, c2.1, c2.2]; simp), c2.1, c2.2, y_bs_c]
          · rw [if_neg (by omega), h.2 a b ha hb', if_neg]
            unfold y_e
            rw [hb]
            simp only [Bool.not_false, Bool.true_and, Bool.or_eq_true, Bool.and_eq_true, beq_iff_eq]
            omega
      · rw [fX7_measure_L37]
        simp (disch := omega) only [am_lq, b_lq, e4, b_le, c_holds, hb, am_rq, b_tf, b_eq, if_neg, if_pos, if_true, if_false, b_add, b_t, b_lt, am_g_t, am_gT, or_true, true_or, k1, am_cq]
  · have e4 : t.1 op 5 = nI (D.1 4) := by rw [h.1.2 op (by omega)]; exact hP.1 4 (by omega)
    rw [fX7_measure_L37]
    simp (disch := omega) only [am_lq, b_lq, e4, b_le, if_pos, if_true]
    rfl
/-- lengths: the first rows -/
theorem c_l2 {J : AS → Option (AS × Unit)} (hD : w_V D) (s : AS) (h0 : s.1 v 0 = nI (D.1 0)) (hB : c_BS v D sh (D.1 4) s) : ∃ s', (fr (fun c => v + 10 ≤ c ∧ c < v + 17) s s' ∧ ∀ a b, a < D.1 0 → b < D.1 0 → s'.1 (v + 9 + 1 + a) b = nI (y_d0 1000000 (D.1 4) D.2.1 sh a b)) ∧ fX7_findLengths_L2 v J am_fu s (nI 0) = J s' := by
  obtain ⟨d0, d4, d5, dr, -⟩ := hD
  refine sp_lp (fun f t i => fX7_findLengths_L2 v J f t i) (D.1 0) (fun i t => fr (fun c => v + 10 ≤ c ∧ c < v + 17) s t ∧ ∀ a b, a < i → b < D.1 0 → t.1 (v + 9 + 1 + a) b = nI (y_d0 1000000 (D.1 4) D.2.1 sh a b)) J (fun f i t hi h => ?_) (fun f t h => ?_) s ⟨fr_refl _ _, fun a b ha => by omega⟩ am_fu (am_fu_gt (by omega))
  · have hv : t.1 v 0 = nI (D.1 0) := by rw [h.1.2 v (by omega), h0]
    refine ⟨am_si (am_sr t (v + 9 + 1 + i) (va_cpy (t.1 (v + 1 + 1 + i)) (t.1 (v + 9 + 1 + i)) 0 0 (D.1 0))) (v + 9 + 1 + i) i (nI 0), ⟨fr_si (fr_sr h.1 _ (by omega)) _ _ (by omega), fun a b ha hb => ?_⟩, ?_⟩
    · by_cases e : a = i
      · subst e
        rw [r_si]
        unfold y_d0
        by_cases e2 : b = a
        · rw [e2, r_us, if_pos rfl]
        · rw [r_uo _ _ e2, r_ri, if_neg (fun z => e2 z.symm)]
          unfold va_cpy
          rw [if_pos (by omega), show 0 + (b - 0) = b by omega, h.1.2 _ (by omega)]
          exact hB a b hi hb
      · rw [r_so _ _ _ (by omega), r_ro _ _ (by omega)]
        exact h.2 a b (by omega) hb
    · rw [fX7_findLengths_L2]
      simp (disch := omega) only [am_lq, b_lq, hv, b_le, b_lt, b_t, b_add, am_g_t, am_gT, or_true, true_or, if_neg, if_false]
  · have hv : t.1 v 0 = nI (D.1 0) := by rw [h.1.2 v (by omega), h0]
    rw [fX7_findLengths_L2]
    simp (disch := omega) only [am_lq, b_lq, hv, b_le, if_pos, if_true]
/-- lengths: by way of k, from a, to the b-th -/
def c_LN (v : Nat) (D : w_D) (sh k a b : Nat) (s : AS) : Prop := ∀ x y, x < D.1 0 → y < D.1 0 → s.1 (v + 9 + 1 + x) y = nI (y_fl (y_d0 1000000 (D.1 4) D.2.1 sh) (if x < a ∨ (x = a ∧ y < b) then k + 1 else k) x y)
theorem c_lnle {sh k x y : Nat} {D : w_D} : y_fl (y_d0 1000000 (D.1 4) D.2.1 sh) k x y ≤ 1000000 := Nat.le_trans (y_fl_0 _ x y k) (y_d0_le x y)
theorem c_l68 {J : AS → Option (AS × Unit)} (hD : w_V D) {k a : Nat} (hk : k < D.1 0) (ha : a < D.1 0) (s : AS) (h0 : s.1 v 0 = nI (D.1 0)) (hL : c_LN v D sh k a 0 s) : ∃ s', (fr (fun c => v + 10 ≤ c ∧ c < v + 17) s s' ∧ c_LN v D sh k a (D.1 0) s') ∧ fX7_findLengths_L68 v (nI k) (nI a) J am_fu s (nI 0) = J s' := by
  have d0 := hD.1
  refine sp_lp (fun f t i => fX7_findLengths_L68 v (nI k) (nI a) J f t i) (D.1 0) (fun i t => fr (fun c => v + 10 ≤ c ∧ c < v + 17) s t ∧ c_LN v D sh k a i t) J (fun f b t hb h => ?_) (fun f t h => ?_) s ⟨fr_refl _ _, hL⟩ am_fu (am_fu_gt (by omega))
  · have hv : t.1 v 0 = nI (D.1 0) := by rw [h.1.2 v (by omega), h0]
    have e1 : t.1 (v + 9 + 1 + a) k = nI (y_fl (y_d0 1000000 (D.1 4) D.2.1 sh) k a k) := by
      rw [h.2 a k ha hk]
      split
      · rw [y_fl_c y_d0_d]
      · rfl
    have e2 : t.1 (v + 9 + 1 + k) b = nI (y_fl (y_d0 1000000 (D.1 4) D.2.1 sh) k k b) := by
      rw [h.2 k b hk hb]
      split
      · rw [y_fl_r y_d0_d]
      · rfl
    have e3 : t.1 (v + 9 + 1 + a) b = nI (y_fl (y_d0 1000000 (D.1 4) D.2.1 sh) k a b) := by
      rw [h.2 a b ha hb, if_neg (by omega)]
    have l1 := c_lnle (D := D) (sh := sh) (k := k) (x := a) (y := k)
    have l2 := c_lnle (D := D) (sh := sh) (k := k) (x := k) (y := b)
    have l3 := c_lnle (D := D) (sh := sh) (k := k) (x := a) (y := b)
    refine ⟨am_si t (v + 9 + 1 + a) b (nI (y_fl (y_d0 1000000 (D.1 4) D.2.1 sh) (k + 1) a b)), ⟨fr_si h.1 _ _ (by omega), fun x y hx hy => ?_⟩, ?_⟩
    · by_cases c : x = a
      · subst c
        rw [r_si]
        by_cases c2 : y = b
        · subst c2
          rw [r_us, if_pos (by omega)]
        · rw [r_uo _ _ c2, h.2 x y hx hy]
          by_cases c3 : y < b
          · rw [if_pos (by omega), if_pos (by omega)]
          · rw [if_neg (by omega), if_neg (by omega)]
      · rw [r_so _ _ _ (by omega), h.2 x y hx hy]
        by_cases c3 : x < a
        · rw [if_pos (by omega), if_pos (by omega)]
        · rw [if_neg (by omega), if_neg (by omega)]
    · rw [fX7_findLengths_L68]
      simp (disch := omega) only [am_lq, b_lq, hv, b_le, b_t, b_add, e1, e2, e3, c_mn, b_lt, am_g_t, am_gT, or_true, true_or, if_neg, if_false, y_fl_q]
  · have hv : t.1 v 0 = nI (D.1 0) := by rw [h.1.2 v (by omega), h0]
    rw [fX7_findLengths_L68]
    simp (disch := omega) only [am_lq, b_lq, hv, b_le, if_pos, if_true]
theorem c_l58 {J : AS → Option (AS × Unit)} (hD : w_V D) {k : Nat} (hk : k < D.1 0) (s : AS) (h0 : s.1 v 0 = nI (D.1 0)) (hL : c_LN v D sh k 0 0 s) : ∃ s', (fr (fun c => v + 10 ≤ c ∧ c < v + 17) s s' ∧ c_LN v D sh k (D.1 0) 0 s') ∧ fX7_findLengths_L58 v (nI k) J am_fu s (nI 0) = J s' := by
  have d0 := hD.1
  refine sp_lp (fun f t i => fX7_findLengths_L58 v (nI k) J f t i) (D.1 0) (fun i t => fr (fun c => v + 10 ≤ c ∧ c < v + 17) s t ∧ c_LN v D sh k i 0 t) J (fun f a t ha h => ?_) (fun f t h => ?_) s ⟨fr_refl _ _, hL⟩ am_fu (am_fu_gt (by omega))
  · have hv : t.1 v 0 = nI (D.1 0) := by rw [h.1.2 v (by omega), h0]
    obtain ⟨t1, ⟨k1, k2⟩, k3⟩ := c_l68 (J := fun s8 => fX7_findLengths_L58 v (nI k) J f s8 (nI a + nI 1)) hD hk ha t hv h.2
    refine ⟨t1, ⟨fr_tr h.1 k1, fun x y hx hy => ?_⟩, ?_⟩
    · rw [k2 x y hx hy]
      by_cases c : x < a + 1
      · rw [if_pos (by omega), if_pos (by omega)]
      · rw [if_neg (by omega), if_neg (by omega)]
    · rw [fX7_findLengths_L58]
      simp (disch := omega) only [am_lq, b_lq, hv, b_le, if_neg, if_false]
      rw [k3, b_add]
  · have hv : t.1 v 0 = nI (D.1 0) := by rw [h.1.2 v (by omega), h0]
    rw [fX7_findLengths_L58]
    simp (disch := omega) only [am_lq, b_lq, hv, b_le, if_pos, if_true]
theorem c_l48 (hD : w_V D) (s : AS) (h0 : s.1 v 0 = nI (D.1 0)) (hL : c_LN v D sh 0 0 0 s) : ∃ s', (fr (fun c => v + 10 ≤ c ∧ c < v + 17) s s' ∧ c_LN v D sh (D.1 0) 0 0 s') ∧ fX7_findLengths_L48 v am_fu s (nI 0) = some (s', ()) := by
  have d0 := hD.1
  refine sp_lp (fun f t i => fX7_findLengths_L48 v f t i) (D.1 0) (fun i t => fr (fun c => v + 10 ≤ c ∧ c < v + 17) s t ∧ c_LN v D sh i 0 0 t) (fun t => some (t, ())) (fun f k t hk h => ?_) (fun f t h => ?_) s ⟨fr_refl _ _, hL⟩ am_fu (am_fu_gt (by omega))
  · have hv : t.1 v 0 = nI (D.1 0) := by rw [h.1.2 v (by omega), h0]
    obtain ⟨t1, ⟨k1, k2⟩, k3⟩ := c_l58 (J := fun s4 => fX7_findLengths_L48 v f s4 (nI k + nI 1)) hD hk t hv h.2
    refine ⟨t1, ⟨fr_tr h.1 k1, fun x y hx hy => ?_⟩, ?_⟩
    · rw [k2 x y hx hy, if_pos (by omega), if_neg (by omega)]
    · rw [fX7_findLengths_L48]
      simp (disch := omega) only [am_lq, b_lq, hv, b_le, if_neg, if_false]
      rw [k3, b_add]
  · have hv : t.1 v 0 = nI (D.1 0) := by rw [h.1.2 v (by omega), h0]
    rw [fX7_findLengths_L48]
    simp (disch := omega) only [am_lq, b_lq, hv, b_le, if_pos, if_true]
theorem c_findLengths (hD : w_V D) (s : AS) (h0 : s.1 v 0 = nI (D.1 0)) (hB : c_BS v D sh (D.1 4) s) : ∃ s', fX7_findLengths s v = some (s', ()) ∧ fr (fun c => v + 10 ≤ c ∧ c < v + 17) s s' ∧ ∀ a b, a < D.1 0 → b < D.1 0 → s'.1 (v + 9 + 1 + a) b = nI (y_ln 1000000 (D.1 0) (D.1 4) D.2.1 sh a b) := by
  obtain ⟨s1, ⟨k1, k2⟩, k3⟩ := c_l2 (J := fun s1 => fX7_findLengths_L48 v am_fu s1 (nI 0)) hD s h0 hB
  obtain ⟨s2, ⟨q1, q2⟩, q3⟩ := c_l48 (sh := sh) hD s1 (by rw [k1.2 v (by omega), h0]) (fun x y hx hy => by rw [k2 x y hx hy, if_neg (by omega)]; rfl)
  refine ⟨s2, ?_, fr_tr k1 q1, fun a b ha hb => ?_⟩
  · unfold fX7_findLengths
    simp only [am_lq, b_lq]
    rw [k3, q3]
  · rw [q2 a b ha hb, if_neg (by omega)]
    rfl
/-- what the ways at v tell -/
def c_WY (v : Nat) (D : w_D) (sh : Nat) (s : AS) : Prop := s.1 v 0 = nI (D.1 0) ∧ c_BS v D sh (D.1 4) s ∧ (∀ a b, a < D.1 0 → b < D.1 0 → s.1 (v + 9 + 1 + a) b = nI (y_ln 1000000 (D.1 0) (D.1 4) D.2.1 sh a b)) ∧ (∀ a b, a < D.1 0 → b < D.1 0 → s.1 (v + 17 + 1 + a) b = oI (y_nx 1000000 (D.1 0) (D.1 4) D.2.1 sh a b))
theorem c_findFirst (hD : w_V D) (s : AS) (h0 : s.1 v 0 = nI (D.1 0)) (hB : c_BS v D sh (D.1 4) s) (hL : ∀ a b, a < D.1 0 → b < D.1 0 → s.1 (v + 9 + 1 + a) b = nI (y_ln 1000000 (D.1 0) (D.1 4) D.2.1 sh a b)) {a b : Nat} (ha : a < D.1 0) (hb : b < D.1 0) : fX7_findFirst s v (nI a) (nI b) = some (oI (y_fd (fun m => decide (y_bs 1000000 D.2.1 sh a m (D.1 4) < 1000000 ∧ y_bs 1000000 D.2.1 sh a m (D.1 4) + y_ln 1000000 (D.1 0) (D.1 4) D.2.1 sh m b = y_ln 1000000 (D.1 0) (D.1 4) D.2.1 sh a b)) (D.1 0))) := by
  have d0 := hD.1
  refine sp_lq (fun f (_ : Unit) i => fX7_findFirst_L2 v (nI a) (nI b) s f i) (D.1 0) (fun i _ => ∀ j, j < i → decide (y_bs 1000000 D.2.1 sh a j (D.1 4) < 1000000 ∧ y_bs 1000000 D.2.1 sh a j (D.1 4) + y_ln 1000000 (D.1 0) (D.1 4) D.2.1 sh j b = y_ln 1000000 (D.1 0) (D.1 4) D.2.1 sh a b) = false) (fun r => r = _) (fun f m _ hm h => ?_) (fun f _ h => ?_) () (fun j hj => by omega) am_fu (am_fu_gt (by omega))
  · have e1 := hB a m ha hm
    have e2 := hL m b hm hb
    have e3 := hL a b ha hb
    have l1 := y_bs_le 1000000 D.2.1 sh a m (D.1 4)
    have l2 := y_ln_le (F := 1000000) (np := D.1 0) (nr := D.1 4) (ro := D.2.1) (sh := sh) m b
    have l3 := y_ln_le (F := 1000000) (np := D.1 0) (nr := D.1 4) (ro := D.2.1) (sh := sh) a b
    rw [fX7_findFirst_L2]
    simp (disch := omega) only [am_lq, b_lq, h0, b_le, b_lt, b_t, b_add, b_eq, e1, e2, e3, am_g_t, am_gT, or_true, true_or, if_neg, if_false]
    by_cases c1 : 1000000 ≤ y_bs 1000000 D.2.1 sh a m (D.1 4)
    · left
      refine ⟨(), fun j hj => ?_, by rw [if_pos c1]⟩
      by_cases e : j = m
      · subst e
        exact decide_eq_false (by omega)
      · exact h j (by omega)
    · rw [if_neg c1]
      by_cases c2 : y_bs 1000000 D.2.1 sh a m (D.1 4) + y_ln 1000000 (D.1 0) (D.1 4) D.2.1 sh m b = y_ln 1000000 (D.1 0) (D.1 4) D.2.1 sh a b
      · right
        rw [if_pos c2]
        have : y_fd (fun m => decide (y_bs 1000000 D.2.1 sh a m (D.1 4) < 1000000 ∧ y_bs 1000000 D.2.1 sh a m (D.1 4) + y_ln 1000000 (D.1 0) (D.1 4) D.2.1 sh m b = y_ln 1000000 (D.1 0) (D.1 4) D.2.1 sh a b)) (D.1 0) = some m := y_fd_s.mpr ⟨hm, decide_eq_true ⟨by omega, c2⟩, h⟩
        rw [this]
        rfl
      · left
        refine ⟨(), fun j hj => ?_, by rw [if_neg c2]⟩
        by_cases e : j = m
        · subst e
          exact decide_eq_false (by omega)
        · exact h j (by omega)
  · rw [fX7_findFirst_L2]
    simp (disch := omega) only [am_lq, b_lq, h0, b_le, if_pos, if_true]
    rw [y_fd_n.mpr h]
    rfl
/-- the firsts: rows before a, in row a places before b -/
def c_FN (v : Nat) (D : w_D) (sh a b : Nat) (s : AS) : Prop := ∀ x y, x < D.1 0 → y < D.1 0 → (x < a ∨ (x = a ∧ y < b)) → s.1 (v + 17 + 1 + x) y = oI (y_nx 1000000 (D.1 0) (D.1 4) D.2.1 sh x y)
def c_WL (v : Nat) (D : w_D) (sh : Nat) (s : AS) : Prop := s.1 v 0 = nI (D.1 0) ∧ c_BS v D sh (D.1 4) s ∧ (∀ a b, a < D.1 0 → b < D.1 0 → s.1 (v + 9 + 1 + a) b = nI (y_ln 1000000 (D.1 0) (D.1 4) D.2.1 sh a b))
theorem c_WL_fr {s t : AS} (hD : w_V D) (h : c_WL v D sh s) (k : fr (fun c => v + 18 ≤ c ∧ c < v + 25) s t) : c_WL v D sh t := by
  have d0 := hD.1
  refine ⟨by rw [k.2 v (by omega)]; exact h.1, fun a b ha hb => ?_, fun a b ha hb => ?_⟩
  · rw [k.2 _ (by omega)]; exact h.2.1 a b ha hb
  · rw [k.2 _ (by omega)]; exact h.2.2 a b ha hb
theorem c_f12 {J : AS → Option (AS × Unit)} (hD : w_V D) {a : Nat} (ha : a < D.1 0) (s : AS) (hW : c_WL v D sh s) (hF : c_FN v D sh a 0 s) : ∃ s', (fr (fun c => v + 18 ≤ c ∧ c < v + 25) s s' ∧ c_FN v D sh a (D.1 0) s') ∧ fX7_findFirsts_L12 v (nI a) J am_fu s (nI 0) = J s' := by
  have d0 := hD.1
  refine sp_lp (fun f t i => fX7_findFirsts_L12 v (nI a) J f t i) (D.1 0) (fun i t => fr (fun c => v + 18 ≤ c ∧ c < v + 25) s t ∧ c_FN v D sh a i t) J (fun f b t hb h => ?_) (fun f t h => ?_) s ⟨fr_refl _ _, hF⟩ am_fu (am_fu_gt (by omega))
  · obtain ⟨hv, hB, hL⟩ := c_WL_fr hD hW h.1
    have e3 := hL a b ha hb
    have l3 := y_ln_le (F := 1000000) (np := D.1 0) (nr := D.1 4) (ro := D.2.1) (sh := sh) a b
    have hf := c_findFirst hD t hv hB hL ha hb
    refine ⟨am_si t (v + 17 + 1 + a) b (oI (y_nx 1000000 (D.1 0) (D.1 4) D.2.1 sh a b)), ⟨fr_si h.1 _ _ (by omega), fun x y hx hy hh => ?_⟩, ?_⟩
    · by_cases c : x = a
      · subst c
        rw [r_si]
        by_cases c2 : y = b
        · subst c2
          rw [r_us]
        · rw [r_uo _ _ c2]
          exact h.2 x y hx hy (by omega)
      · rw [r_so _ _ _ (by omega)]
        exact h.2 x y hx hy (by omega)
    · rw [fX7_findFirsts_L12]
      simp (disch := omega) only [am_lq, b_lq, oI_q, hv, b_le, b_lt, b_eq, b_t, b_add, e3, am_g_t, am_gT, or_true, true_or, if_neg, hf, am_rq]
      unfold y_nx
      by_cases c1 : a = b
      · rw [if_pos c1, if_pos (.inl c1)]
      · by_cases c2 : y_ln 1000000 (D.1 0) (D.1 4) D.2.1 sh a b < 1000000
        · rw [if_neg c1, if_pos c2, if_neg (by omega)]
        · rw [if_neg c1, if_neg c2, if_pos (.inr (by omega))]
  · obtain ⟨hv, hB, hL⟩ := c_WL_fr hD hW h.1
    rw [fX7_findFirsts_L12]
    simp (disch := omega) only [am_lq, b_lq, hv, b_le, if_pos, if_true]
theorem c_findFirsts (hD : w_V D) (s : AS) (hW : c_WL v D sh s) : ∃ s', fX7_findFirsts s v = some (s', ()) ∧ fr (fun c => v + 18 ≤ c ∧ c < v + 25) s s' ∧ c_WY v D sh s' := by
  have d0 := hD.1
  obtain ⟨s', ⟨h1, h2⟩, h3⟩ := sp_lp (fun f t i => fX7_findFirsts_L2 v f t i) (D.1 0) (fun i t => fr (fun c => v + 18 ≤ c ∧ c < v + 25) s t ∧ c_FN v D sh i 0 t) (fun t => some (t, ())) (fun f a t ha h => by
    obtain ⟨hv, hB, hL⟩ := c_WL_fr hD hW h.1
    obtain ⟨t1, ⟨k1, k2⟩, k3⟩ := c_f12 (J := fun s4 => fX7_findFirsts_L2 v f s4 (nI a + nI 1)) hD ha t (c_WL_fr hD hW h.1) h.2
    refine ⟨t1, ⟨fr_tr h.1 k1, fun x y hx hy hh => k2 x y hx hy (by omega)⟩, ?_⟩
    rw [fX7_findFirsts_L2]
    simp (disch := omega) only [am_lq, b_lq, hv, b_le, if_neg, if_false]
    rw [k3, b_add]) (fun f t h => by
    obtain ⟨hv, hB, hL⟩ := c_WL_fr hD hW h.1
    rw [fX7_findFirsts_L2]
    simp (disch := omega) only [am_lq, b_lq, hv, b_le, if_pos, if_true]) s ⟨fr_refl _ _, fun x y hx hy hh => by omega⟩ am_fu (am_fu_gt (by omega))
  have w := c_WL_fr hD hW h1
  exact ⟨s', h3, h1, w.1, w.2.1, w.2.2, fun a b ha hb => h2 a b ha hb (by omega)⟩
/-- the ways are measured -/
theorem c_measure (hD : w_V D) (hsh : sh < 1024) (hv : op + 22 ≤ v) (s : AS) (hP : c_PL op D s) : ∃ s', fX7_measure s v op (nI sh) = some (s', ()) ∧ fr (c_R v) s s' ∧ c_WY v D sh s' := by
  obtain ⟨d0, d4, d5, -⟩ := id hD
  have e1 : s.1 op 1 = nI (D.1 0) := hP.1 0 (by omega)
  have f0 : fr (c_R v) s (am_si s v 0 (nI (D.1 0))) := fr_si (fr_refl _ _) _ _ (by omega)
  obtain ⟨s1, ⟨a1, a2⟩, a3⟩ := c_m10 (v := v) (J := fun s2 => fX7_measure_L37 v op (nI sh) am_fu s2 (nI 0)) d0 (am_si s v 0 (nI (D.1 0))) (by rw [r_si, r_us])
  have f1 := fr_tr f0 (fr_mono a1 (fun c (hc : v + 1 + 1 ≤ c ∧ c < v + 9) => (by omega : c_R v c)))
  obtain ⟨s2, ⟨b1, b2⟩, b3⟩ := c_m37 (sh := sh) hD hsh hv s1 (c_PL_fr hP f1 (fun c _ _ => by omega) d4 d5) (by rw [a1.2 v (by omega), r_si, r_us]) (fun a b ha hb => a2 a b ha (by omega))
  have f2 := fr_tr f1 (fr_mono b1 (fun c (hc : v + 1 + 1 ≤ c ∧ c < v + 9) => (by omega : c_R v c)))
  have v2 : s2.1 v 0 = nI (D.1 0) := by rw [b1.2 v (by omega), a1.2 v (by omega), r_si, r_us]
  obtain ⟨s3, c1, c2, c3⟩ := c_findLengths hD s2 v2 b2
  have f3 := fr_tr f2 (fr_mono c2 (fun c (hc : v + 10 ≤ c ∧ c < v + 17) => (by omega : c_R v c)))
  obtain ⟨s4, g1, g2, g3⟩ := c_findFirsts (sh := sh) hD s3 ⟨by rw [c2.2 v (by omega), v2], fun a b ha hb => by rw [c2.2 _ (by omega)]; exact b2 a b ha hb, c3⟩
  refine ⟨s4, ?_, fr_tr f3 (fr_mono g2 (fun c (hc : v + 18 ≤ c ∧ c < v + 25) => (by omega : c_R v c))), g3⟩
  unfold fX7_measure
  simp only [am_lq, b_lq, e1]
  rw [a3, b3]
  unfold c_ex
  rw [c1, am_cq, g1, am_cq]
theorem c_has (s : AS) {np a b : Nat} (h0 : s.1 v 0 = nI np) (hnp : np ≤ 7) (ha : a < np) (hb : b < np) : fX7_has s v (nI a) (nI b) = some (nI 1) := by
  unfold fX7_has
  simp (disch := omega) only [am_lq, b_lq, h0, b_le, b_lt, b_eq, am_g_t, am_gT, or_true, true_or, if_neg, if_false]
theorem c_nextOf (hD : w_V D) (s : AS) (hW : c_WY v D sh s) {a b : Nat} (ha : a < D.1 0) (hb : b < D.1 0) : fX7_nextOf s v (nI a) (nI b) = some (oI (y_nx 1000000 (D.1 0) (D.1 4) D.2.1 sh a b)) := by
  have d0 := hD.1
  unfold fX7_nextOf
  rw [c_has s hW.1 d0 ha hb]
  simp (disch := omega) only [am_lq, am_rq, b_lq, b_lt, b_eq, b_t, am_g_t, am_gT, or_true, true_or, if_neg, hW.2.2.2 a b ha hb]
theorem c_lengthOf (hD : w_V D) (s : AS) (hW : c_WY v D sh s) {a b : Nat} (ha : a < D.1 0) (hb : b < D.1 0) : fX7_lengthOf s v (nI a) (nI b) = some (if y_ln 1000000 (D.1 0) (D.1 4) D.2.1 sh a b < 1000000 then nI (y_ln 1000000 (D.1 0) (D.1 4) D.2.1 sh a b) else oI none) := by
  have d0 := hD.1
  have l3 := y_ln_le (F := 1000000) (np := D.1 0) (nr := D.1 4) (ro := D.2.1) (sh := sh) a b
  unfold fX7_lengthOf
  rw [c_has s hW.1 d0 ha hb]
  simp (disch := omega) only [am_lq, am_rq, b_lq, oI_q, b_lt, b_le, b_eq, b_t, am_g_t, am_gT, or_true, true_or, if_neg, hW.2.2.1 a b ha hb]
  by_cases c : 1000000 ≤ y_ln 1000000 (D.1 0) (D.1 4) D.2.1 sh a b
  · rw [if_pos c, if_neg (by omega)]
  · rw [if_neg c, if_pos (by omega)]
theorem c_areBeside (hD : w_V D) (s : AS) (hW : c_WY v D sh s) {a b : Nat} (ha : a < D.1 0) (hb : b < D.1 0) : fX7_areBeside s v (nI a) (nI b) = some (nI (decide (y_bs 1000000 D.2.1 sh a b (D.1 4) < 1000000)).toNat) := by
  have d0 := hD.1
  have l3 := y_bs_le 1000000 D.2.1 sh a b (D.1 4)
  unfold fX7_areBeside
  rw [c_has s hW.1 d0 ha hb]
  simp (disch := omega) only [am_lq, am_rq, b_lq, b_lt, b_le, b_eq, b_t, am_g_t, am_gT, or_true, true_or, if_neg, hW.2.1 a b ha hb]
  by_cases c : 1000000 ≤ y_bs 1000000 D.2.1 sh a b (D.1 4)
  · rw [if_pos c, decide_eq_false (by omega)]; rfl
  · rw [if_neg c, decide_eq_true (by omega)]; rfl
theorem c_besideBy (hD : w_V D) (s : AS) (hW : c_WY v D sh s) {a b : Nat} (ha : a < D.1 0) (hb : b < D.1 0) : fX7_besideBy s v (nI a) (nI b) = some (nI (if y_bs 1000000 D.2.1 sh a b (D.1 4) < 1000000 then y_bs 1000000 D.2.1 sh a b (D.1 4) else 0)) := by
  have d0 := hD.1
  unfold fX7_besideBy
  rw [c_areBeside hD s hW ha hb]
  simp (disch := omega) only [am_lq, am_rq, b_lq, b_b0, b_lt, b_le, b_eq, b_t, am_g_t, am_gT, or_true, true_or, hW.2.1 a b ha hb]
  by_cases c : y_bs 1000000 D.2.1 sh a b (D.1 4) < 1000000
  · rw [if_pos c, decide_eq_true c, if_neg (by simp)]
  · rw [if_neg c, decide_eq_false c, if_pos rfl]
end CW
