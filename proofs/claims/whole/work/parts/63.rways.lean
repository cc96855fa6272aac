/-! THE REFERENCE'S WAYS. -/
/-- the reference's march (block 0) is D -/
def r_PL (D : w_D) (s : AS) : Prop := (∀ j, j < 6 → s.1 222 j = nI (D.1 j)) ∧ (∀ r j, r < D.1 4 → j < 3 → s.1 223 (3 * r + j) = nI (D.2.1 r j)) ∧ (∀ p j, p < D.1 5 → j < 5 → s.1 224 (5 * p + j) = nI (D.2.2.1 p j)) ∧ (∀ k, k < 6 → s.1 225 k = nI (D.2.2.2 k)) ∧ s.1 221 0 = nI (D.1 6)
theorem r_PL_fr {D : w_D} {R : Nat → Prop} {s s1 : AS} (h : r_PL D s) (k : fr R s s1) (hR : ∀ c, 221 ≤ c → c < 226 → ¬ R c) : r_PL D s1 := by
  obtain ⟨a1, a2, a3, a4, a5⟩ := h
  refine ⟨fun j hj => ?_, fun r j hr hj => ?_, fun p j hp hj => ?_, fun j hj => ?_, ?_⟩
  · rw [k.2 222 (hR _ (by omega) (by omega))]; exact a1 j hj
  · rw [k.2 223 (hR _ (by omega) (by omega))]; exact a2 r j hr hj
  · rw [k.2 224 (hR _ (by omega) (by omega))]; exact a3 p j hp hj
  · rw [k.2 225 (hR _ (by omega) (by omega))]; exact a4 j hj
  · rw [k.2 221 (hR _ (by omega) (by omega))]; exact a5
section RW
variable {sh : Nat} {D : w_D}
theorem r_w10 {J : AS → Option (AS × Unit)} {a : Nat} (ha : a < 7) (s : AS) (h : ∀ x y, x < 7 → y < 7 → x < a → s.1 228 (7 * x + y) = nI (y_d0 100000 0 D.2.1 sh x y)) : ∃ s', (fr (fun c => c = 228) s s' ∧ ∀ x y, x < 7 → y < 7 → x < a + 1 → s'.1 228 (7 * x + y) = nI (y_d0 100000 0 D.2.1 sh x y)) ∧ fX9_laysWays_L10 (nI a) J am_fu s (nI 0) = J s' := by
  obtain ⟨s', ⟨h1, h2⟩, h3⟩ := sp_lp (fun f t i => fX9_laysWays_L10 (nI a) J f t i) 7 (fun i t => fr (fun c => c = 228) s t ∧ ∀ x y, x < 7 → y < 7 → (x < a ∨ x = a ∧ y < i) → t.1 228 (7 * x + y) = nI (y_d0 100000 0 D.2.1 sh x y)) J (fun f b t hb h => by
    refine ⟨am_si t 228 (7 * a + b) (nI (y_d0 100000 0 D.2.1 sh a b)), ⟨fr_si h.1 _ _ rfl, fun x y hx hy hh => ?_⟩, ?_⟩
    · rw [r_si]
      by_cases c : 7 * x + y = 7 * a + b
      · have e1 : x = a := by omega
        have e2 : y = b := by omega
        rw [e1, e2, r_us]
      · rw [r_uo _ _ c]
        exact h.2 x y hx hy (by omega)
    · rw [fX9_laysWays_L10]
      simp (disch := omega) only [am_lq, b_lq, b_le, b_lt, b_eq, b_t, b_add, b_mul, am_g_t, am_gT, or_true, true_or, if_neg, if_false]
      unfold y_d0
      by_cases c : a = b
      · rw [if_pos c, if_pos c]
      · rw [if_neg c, if_neg c]
        rfl) (fun f t h => by
    rw [fX9_laysWays_L10]
    simp (disch := omega) only [am_lq, b_lq, b_le, if_pos, if_true]) s ⟨fr_refl _ _, fun x y hx hy hh => h x y hx hy (by omega)⟩ am_fu (am_fu_gt (by omega))
  exact ⟨s', ⟨h1, fun x y hx hy hh => h2 x y hx hy (by omega)⟩, h3⟩
theorem r_w2 {J : AS → Option (AS × Unit)} (s : AS) : ∃ s', (fr (fun c => c = 228) s s' ∧ ∀ x y, x < 7 → y < 7 → s'.1 228 (7 * x + y) = nI (y_d0 100000 0 D.2.1 sh x y)) ∧ fX9_laysWays_L2 J am_fu s (nI 0) = J s' := by
  obtain ⟨s', ⟨h1, h2⟩, h3⟩ := sp_lp (fun f t i => fX9_laysWays_L2 J f t i) 7 (fun i t => fr (fun c => c = 228) s t ∧ ∀ x y, x < 7 → y < 7 → x < i → t.1 228 (7 * x + y) = nI (y_d0 100000 0 D.2.1 sh x y)) J (fun f a t ha h => by
    obtain ⟨t1, ⟨k1, k2⟩, k3⟩ := r_w10 (D := D) (sh := sh) (J := fun s44 => fX9_laysWays_L2 J f s44 (nI a + nI 1)) ha t h.2
    refine ⟨t1, ⟨fr_tr h.1 k1, k2⟩, ?_⟩
    rw [fX9_laysWays_L2]
    simp (disch := omega) only [am_lq, b_lq, b_le, if_neg, if_false]
    rw [k3, b_add]) (fun f t h => by
    rw [fX9_laysWays_L2]
    simp (disch := omega) only [am_lq, b_lq, b_le, if_pos, if_true]) s ⟨fr_refl _ _, fun x y hx hy hh => by omega⟩ am_fu (am_fu_gt (by omega))
  exact ⟨s', ⟨h1, fun x y hx hy => h2 x y hx hy hx⟩, h3⟩
theorem r_w52 {J : AS → Option (AS × Unit)} (hD : w_V D) (hsh : sh < 1024) (s : AS) (hP : r_PL D s) (hs : s.1 215 24 = nI sh) (h : ∀ x y, x < 7 → y < 7 → s.1 228 (7 * x + y) = nI (y_d0 100000 0 D.2.1 sh x y)) : ∃ s', (fr (fun c => c = 228) s s' ∧ ∀ x y, x < 7 → y < 7 → s'.1 228 (7 * x + y) = nI (y_d0 100000 (D.1 4) D.2.1 sh x y)) ∧ fX9_laysWays_L52 J am_fu s (nI 0) = J s' := by
  obtain ⟨d0, d4, d5, dr, -⟩ := hD
  refine sp_lp (fun f t i => fX9_laysWays_L52 J f t i) (D.1 4) (fun i t => fr (fun c => c = 228) s t ∧ ∀ x y, x < 7 → y < 7 → t.1 228 (7 * x + y) = nI (y_d0 100000 i D.2.1 sh x y)) J (fun f i t hi h => ?_) (fun f t h => ?_) s ⟨fr_refl _ _, h⟩ am_fu (am_fu_gt (by omega))
  · have e4 : t.1 222 4 = nI (D.1 4) := by rw [h.1.2 _ (by omega)]; exact hP.1 4 (by omega)
    have es : t.1 215 24 = nI sh := by rw [h.1.2 _ (by omega), hs]
    have j0 : t.1 223 (3 * i) = nI (D.2.1 i 0) := by rw [h.1.2 _ (by omega)]; exact hP.2.1 i 0 hi (by omega)
    have j1 : t.1 223 (3 * i + 1) = nI (D.2.1 i 1) := by rw [h.1.2 _ (by omega)]; exact hP.2.1 i 1 hi (by omega)
    have j2 : t.1 223 (3 * i + 2) = nI (D.2.1 i 2) := by rw [h.1.2 _ (by omega)]; exact hP.2.1 i 2 hi (by omega)
    obtain ⟨r0, r1, r2, r3, r4⟩ := dr i hi
    have step : ∀ x y, y_d0 100000 (i + 1) D.2.1 sh x y = if x ≠ y ∧ y_e D.2.1 sh i x y = true then min (y_d0 100000 i D.2.1 sh x y) (D.2.1 i 2) else y_d0 100000 i D.2.1 sh x y := by
      intro x y
      unfold y_d0
      by_cases c : x = y
      · rw [if_pos c, if_pos c, if_neg (fun z => z.1 c)]
      · rw [if_neg c, if_neg c]
        show (if _ then _ else _) = _
        by_cases c2 : y_e D.2.1 sh i x y = true
        · rw [if_pos c2, if_pos ⟨c, c2⟩]
        · rw [if_neg c2, if_neg (fun z => c2 z.2)]
    cases hb : sh.testBit i with
    | true =>
      refine ⟨t, ⟨h.1, fun x y hx hy => ?_⟩, ?_⟩
      · rw [step, if_neg (by unfold y_e; rw [hb]; simp)]
        exact h.2 x y hx hy
      · rw [fX9_laysWays_L52]
        simp (disch := omega) only [am_lq, b_lq, e4, es, b_le, b_lt, b_t, b_eq, am_g_t, am_gT, or_true, true_or, c_isBit, hb, am_rq, b_tt, if_neg, b_add]
    | false =>
      have k1 := h.2 (D.2.1 i 0) (D.2.1 i 1) (by omega) (by omega)
      have l1 := y_d0_le (F := 100000) (nr := i) (ro := D.2.1) (sh := sh) (D.2.1 i 0) (D.2.1 i 1)
      have ye : ∀ x y, y_e D.2.1 sh i x y = true ↔ ((x = D.2.1 i 0 ∧ y = D.2.1 i 1) ∨ (x = D.2.1 i 1 ∧ y = D.2.1 i 0)) := by
        intro x y
        unfold y_e
        rw [hb]
        simp only [Bool.not_false, Bool.true_and, Bool.or_eq_true, Bool.and_eq_true, beq_iff_eq]
        omega
      have sym : y_d0 100000 i D.2.1 sh (D.2.1 i 1) (D.2.1 i 0) = y_d0 100000 i D.2.1 sh (D.2.1 i 0) (D.2.1 i 1) := by
        unfold y_d0
        rw [if_neg (Ne.symm r2), if_neg r2, y_bs_c]
      by_cases c : y_d0 100000 i D.2.1 sh (D.2.1 i 0) (D.2.1 i 1) ≤ D.2.1 i 2
      · refine ⟨t, ⟨h.1, fun x y hx hy => ?_⟩, ?_⟩
        · rw [step, h.2 x y hx hy]
          split
          · rename_i q
            rcases (ye x y).mp q.2 with z | z
            · rw [z.1, z.2, Nat.min_eq_left c]
            · rw [z.1, z.2, sym, Nat.min_eq_left c]
          · rfl
        · rw [fX9_laysWays_L52]
          simp (disch := omega) only [am_lq, b_lq, e4, es, b_le, b_lt, b_t, b_eq, b_mul, am_g_t, am_gT, or_true, true_or, c_isBit, hb, am_rq, b_tf, if_neg, if_pos, if_true, if_false, b_add, j0, j1, j2, k1]
      · refine ⟨am_si (am_si t 228 (7 * D.2.1 i 0 + D.2.1 i 1) (nI (D.2.1 i 2))) 228 (7 * D.2.1 i 1 + D.2.1 i 0) (nI (D.2.1 i 2)), ⟨fr_si (fr_si h.1 _ _ rfl) _ _ rfl, fun x y hx hy => ?_⟩, ?_⟩
        · rw [step, r_si, r_si]
          by_cases c1 : 7 * x + y = 7 * D.2.1 i 1 + D.2.1 i 0
          · have z1 : x = D.2.1 i 1 := by omega
            have z2 : y = D.2.1 i 0 := by omega
            rw [c1, r_us, if_pos ⟨by omega, (ye x y).mpr (.inr ⟨z1, z2⟩)⟩, z1, z2, sym, Nat.min_eq_right (by omega)]
          · rw [r_uo _ _ c1]
            by_cases c2 : 7 * x + y = 7 * D.2.1 i 0 + D.2.1 i 1
            · have z1 : x = D.2.1 i 0 := by omega
              have z2 : y = D.2.1 i 1 := by omega
              rw [c2, r_us, if_pos ⟨by omega, (ye x y).mpr (.inl ⟨z1, z2⟩)⟩, z1, z2, Nat.min_eq_right (by omega)]
            · rw [r_uo _ _ c2, h.2 x y hx hy, if_neg]
              intro q
              rcases (ye x y).mp q.2 with z | z
              · exact c2 (by rw [z.1, z.2])
              · exact c1 (by rw [z.1, z.2])
        · rw [fX9_laysWays_L52]
          simp (disch := omega) only [am_lq, b_lq, e4, es, b_le, b_lt, b_t, b_eq, b_mul, am_g_t, am_gT, or_true, true_or, c_isBit, hb, am_rq, b_tf, if_neg, if_pos, if_true, if_false, b_add, j0, j1, j2, k1, r_so]
  · have e4 : t.1 222 4 = nI (D.1 4) := by rw [h.1.2 _ (by omega)]; exact hP.1 4 (by omega)
    rw [fX9_laysWays_L52]
    simp (disch := omega) only [am_lq, b_lq, e4, b_le, b_lt, b_t, am_g_t, am_gT, or_true, true_or, if_pos, if_true]
/-- lengths: by way of k, from a, to the b-th -/
def r_LN (d0 : Nat → Nat → Nat) (k a b : Nat) (s : AS) : Prop := ∀ x y, x < 7 → y < 7 → s.1 228 (7 * x + y) = nI (y_fl d0 (if x < a ∨ (x = a ∧ y < b) then k + 1 else k) x y)
theorem r_w200 {J : AS → Option (AS × Unit)} {d0 : Nat → Nat → Nat} (hd : ∀ a, d0 a a = 0) (hl : ∀ a b, d0 a b ≤ 100000) {k a : Nat} (hk : k < 7) (ha : a < 7) (s : AS) (hL : r_LN d0 k a 0 s) : ∃ s', (fr (fun c => c = 228) s s' ∧ r_LN d0 k a 7 s') ∧ fX9_laysWays_L200 (nI k) (nI a) J am_fu s (nI 0) = J s' := by
  refine sp_lp (fun f t i => fX9_laysWays_L200 (nI k) (nI a) J f t i) 7 (fun i t => fr (fun c => c = 228) s t ∧ r_LN d0 k a i t) J (fun f b t hb h => ?_) (fun f t h => ?_) s ⟨fr_refl _ _, hL⟩ am_fu (am_fu_gt (by omega))
  · have e1 : t.1 228 (7 * a + k) = nI (y_fl d0 k a k) := by
      rw [h.2 a k ha hk]
      split
      · rw [y_fl_c hd]
      · rfl
    have e2 : t.1 228 (7 * k + b) = nI (y_fl d0 k k b) := by
      rw [h.2 k b hk hb]
      split
      · rw [y_fl_r hd]
      · rfl
    have e3 : t.1 228 (7 * a + b) = nI (y_fl d0 k a b) := by
      rw [h.2 a b ha hb, if_neg (by omega)]
    have l1 := Nat.le_trans (y_fl_0 d0 a k k) (hl a k)
    have l2 := Nat.le_trans (y_fl_0 d0 k b k) (hl k b)
    have l3 := Nat.le_trans (y_fl_0 d0 a b k) (hl a b)
    by_cases c0 : y_fl d0 k a b ≤ y_fl d0 k a k + y_fl d0 k k b
    · refine ⟨t, ⟨h.1, fun x y hx hy => ?_⟩, ?_⟩
      · rw [h.2 x y hx hy]
        by_cases c : x = a ∧ y = b
        · rw [c.1, c.2, if_neg (by omega), if_pos (by omega)]
          show nI (y_fl d0 k a b) = nI (min _ _)
          rw [Nat.min_eq_left c0]
        · by_cases c3 : x < a ∨ x = a ∧ y < b
          · rw [if_pos c3, if_pos (by omega)]
          · rw [if_neg c3, if_neg (by omega)]
      · rw [fX9_laysWays_L200]
        simp (disch := omega) only [am_lq, b_lq, b_le, b_lt, b_t, b_add, b_mul, e1, e2, e3, am_g_t, am_gT, or_true, true_or, if_neg, if_pos, if_true]
    · refine ⟨am_si t 228 (7 * a + b) (nI (y_fl d0 k a k + y_fl d0 k k b)), ⟨fr_si h.1 _ _ rfl, fun x y hx hy => ?_⟩, ?_⟩
      · rw [r_si]
        by_cases c : x = a ∧ y = b
        · rw [c.1, c.2, r_us, if_pos (by omega)]
          show _ = nI (min _ _)
          rw [Nat.min_eq_right (by omega)]
        · rw [r_uo _ _ (by omega), h.2 x y hx hy]
          by_cases c3 : x < a ∨ x = a ∧ y < b
          · rw [if_pos c3, if_pos (by omega)]
          · rw [if_neg c3, if_neg (by omega)]
      · rw [fX9_laysWays_L200]
        simp (disch := omega) only [am_lq, b_lq, b_le, b_lt, b_t, b_add, b_mul, e1, e2, e3, am_g_t, am_gT, or_true, true_or, if_neg, if_false]
  · rw [fX9_laysWays_L200]
    simp (disch := omega) only [am_lq, b_lq, b_le, if_pos, if_true]
theorem r_w192 {J : AS → Option (AS × Unit)} {d0 : Nat → Nat → Nat} (hd : ∀ a, d0 a a = 0) (hl : ∀ a b, d0 a b ≤ 100000) {k : Nat} (hk : k < 7) (s : AS) (hL : r_LN d0 k 0 0 s) : ∃ s', (fr (fun c => c = 228) s s' ∧ r_LN d0 k 7 0 s') ∧ fX9_laysWays_L192 (nI k) J am_fu s (nI 0) = J s' := by
  refine sp_lp (fun f t i => fX9_laysWays_L192 (nI k) J f t i) 7 (fun i t => fr (fun c => c = 228) s t ∧ r_LN d0 k i 0 t) J (fun f a t ha h => ?_) (fun f t h => ?_) s ⟨fr_refl _ _, hL⟩ am_fu (am_fu_gt (by omega))
  · obtain ⟨t1, ⟨k1, k2⟩, k3⟩ := r_w200 (J := fun s9 => fX9_laysWays_L192 (nI k) J f s9 (nI a + nI 1)) hd hl hk ha t h.2
    refine ⟨t1, ⟨fr_tr h.1 k1, fun x y hx hy => ?_⟩, ?_⟩
    · rw [k2 x y hx hy]
      by_cases c : x < a + 1
      · rw [if_pos (by omega), if_pos (by omega)]
      · rw [if_neg (by omega), if_neg (by omega)]
    · rw [fX9_laysWays_L192]
      simp (disch := omega) only [am_lq, b_lq, b_le, if_neg, if_false]
      rw [k3, b_add]
  · rw [fX9_laysWays_L192]
    simp (disch := omega) only [am_lq, b_lq, b_le, if_pos, if_true]
theorem r_w184 {d0 : Nat → Nat → Nat} (hd : ∀ a, d0 a a = 0) (hl : ∀ a b, d0 a b ≤ 100000) (s : AS) (hL : r_LN d0 0 0 0 s) : ∃ s', (fr (fun c => c = 228) s s' ∧ r_LN d0 7 0 0 s') ∧ fX9_laysWays_L184 am_fu s (nI 0) = some (s', ()) := by
  refine sp_lp (fun f t i => fX9_laysWays_L184 f t i) 7 (fun i t => fr (fun c => c = 228) s t ∧ r_LN d0 i 0 0 t) (fun t => some (t, ())) (fun f k t hk h => ?_) (fun f t h => ?_) s ⟨fr_refl _ _, hL⟩ am_fu (am_fu_gt (by omega))
  · obtain ⟨t1, ⟨k1, k2⟩, k3⟩ := r_w192 (J := fun s5 => fX9_laysWays_L184 f s5 (nI k + nI 1)) hd hl hk t h.2
    refine ⟨t1, ⟨fr_tr h.1 k1, fun x y hx hy => ?_⟩, ?_⟩
    · rw [k2 x y hx hy, if_pos (by omega), if_neg (by omega)]
    · rw [fX9_laysWays_L184]
      simp (disch := omega) only [am_lq, b_lq, b_le, if_neg, if_false]
      rw [k3, b_add]
  · rw [fX9_laysWays_L184]
    simp (disch := omega) only [am_lq, b_lq, b_le, if_pos, if_true]
/-- what the reference's ways tell -/
def r_WY (D : w_D) (sh : Nat) (s : AS) : Prop := ∀ x y, x < 7 → y < 7 → s.1 228 (7 * x + y) = nI (y_ln 100000 (D.1 0) (D.1 4) D.2.1 sh x y)
theorem r_laysWays (hD : w_V D) (hsh : sh < 1024) (s : AS) (hP : r_PL D s) (hs : s.1 215 24 = nI sh) : ∃ s', fX9_laysWays s = some (s', ()) ∧ fr (fun c => c = 228) s s' ∧ r_WY D sh s' := by
  obtain ⟨s1, ⟨a1, a2⟩, a3⟩ := r_w2 (D := D) (sh := sh) (J := fun s1 => fX9_laysWays_L52 (fun s2 => fX9_laysWays_L184 am_fu s2 (nI 0)) am_fu s1 (nI 0)) s
  obtain ⟨s2, ⟨b1, b2⟩, b3⟩ := r_w52 (J := fun s2 => fX9_laysWays_L184 am_fu s2 (nI 0)) hD hsh s1 (r_PL_fr hP a1 (fun c _ _ => by omega)) (by rw [a1.2 _ (by omega), hs]) a2
  obtain ⟨s3, ⟨c1, c2⟩, c3⟩ := r_w184 (d0 := y_d0 100000 (D.1 4) D.2.1 sh) y_d0_d y_d0_le s2 (fun x y hx hy => by rw [if_neg (by omega)]; exact b2 x y hx hy)
  refine ⟨s3, ?_, fr_tr a1 (fr_tr b1 c1), fun x y hx hy => ?_⟩
  · unfold fX9_laysWays
    simp only [am_lq, b_lq]
    rw [a3, b3, c3]
  · rw [c2 x y hx hy, if_neg (by omega)]
    have d0 := hD.1
    have key : ∀ j, D.1 0 + j ≤ 7 → y_fl (y_d0 100000 (D.1 4) D.2.1 sh) (D.1 0 + j) x y = y_ln 100000 (D.1 0) (D.1 4) D.2.1 sh x y := by
      intro j
      induction j with
      | zero => intro _; rfl
      | succ j ih =>
        intro hj
        rw [show D.1 0 + (j + 1) = (D.1 0 + j) + 1 by omega, y_fl_iso (F := 100000) y_d0_d y_d0_le, ih (by omega)]
        intro z hz
        unfold y_d0
        rw [if_neg hz]
        apply Nat.le_of_not_lt
        intro q
        obtain ⟨r, r1, r2, r3⟩ := y_bs_x _ _ _ _ _ q
        have := hD.2.2.2.1 r r1
        unfold y_e at r2
        simp only [Bool.and_eq_true, Bool.or_eq_true, beq_iff_eq] at r2
        omega
    have := key (7 - D.1 0) (by omega)
    rw [show D.1 0 + (7 - D.1 0) = 7 by omega] at this
    rw [this]
end RW
