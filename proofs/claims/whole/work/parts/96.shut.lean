/-! WOULD: shut, shuts. -/
section SH
variable {M : m_M} {s t : AS} {P : m_P}
theorem m_sel_p {c : Nat → Nat} {ok : Nat → Bool} : ∀ {n : Nat}, (m_sel c ok n = none → ∀ j, j < n → ok j = false) ∧ ∀ b, m_sel c ok n = some b → ok b = true ∧ (∀ j, j < n → ok j = true → c b ≤ c j) ∧ ∀ j, j < b → ok j = true → c b < c j
  | 0 => ⟨fun _ j hj => by omega, fun b h => by cases h⟩
  | n + 1 => by
    obtain ⟨i1, i2⟩ := m_sel_p (c := c) (ok := ok) (n := n)
    rw [m_sel_s]
    cases h : m_sel c ok n with
    | none =>
      have a := i1 h
      dsimp only
      cases ho : ok n with
      | false =>
        rw [if_neg (by decide)]
        refine ⟨fun _ j hj => ?_, fun b h => by cases h⟩
        by_cases e : j = n
        · rw [e]; exact ho
        · exact a j (by omega)
      | true =>
        rw [if_pos rfl]
        refine ⟨(fun h => by cases h), fun b h => ?_⟩
        injection h with h
        subst h
        refine ⟨ho, fun j hj hj2 => ?_, fun j hj hj2 => ?_⟩
        · by_cases e : j = n
          · rw [e]; exact Nat.le_refl _
          · rw [a j (by omega)] at hj2; cases hj2
        · rw [a j (by omega)] at hj2; cases hj2
    | some b =>
      obtain ⟨a1, a2, a3⟩ := i2 b h
      have hb := m_sel_lt h
      dsimp only
      have old : ¬ (c n < c b ∧ ok n = true) → ok b = true ∧ (∀ j, j < n + 1 → ok j = true → c b ≤ c j) ∧ ∀ j, j < b → ok j = true → c b < c j := fun q => ⟨a1, fun j hj hj2 => by
        by_cases e : j = n
        · subst e
          have : ¬ c j < c b := fun z => q ⟨z, hj2⟩
          omega
        · exact a2 j (by omega) hj2, a3⟩
      by_cases q : c n < c b
      · rw [if_pos q]
        cases ho : ok n with
        | false =>
          rw [if_neg (by decide)]
          exact ⟨(fun h => by cases h), fun b' h => by injection h with h; subst h; exact old (fun z => by rw [ho] at z; cases z.2)⟩
        | true =>
          rw [if_pos rfl]
          refine ⟨(fun h => by cases h), fun b' h => ?_⟩
          injection h with h
          subst h
          refine ⟨ho, fun j hj hj2 => ?_, fun j hj hj2 => ?_⟩
          · by_cases e : j = n
            · rw [e]; exact Nat.le_refl _
            · have := a2 j (by omega) hj2; omega
          · have := a2 j (by omega) hj2; omega
      · rw [if_neg q]
        exact ⟨(fun h => by cases h), fun b' h => by injection h with h; subst h; exact old (fun z => q z.1)⟩
theorem m_sel_n {c : Nat → Nat} {ok : Nat → Bool} {n : Nat} (h : ∀ j, j < n → ok j = false) : m_sel c ok n = none := by
  cases e : m_sel c ok n with
  | none => rfl
  | some b =>
    have := (m_sel_p.2 b e).1
    rw [h b (m_sel_lt e)] at this
    cases this
theorem m_sel_e {c : Nat → Nat} {ok : Nat → Bool} {n b : Nat} (hb : b < n) (h1 : ok b = true) (h2 : ∀ j, j < n → ok j = true → c b ≤ c j) (h3 : ∀ j, j < b → ok j = true → c b < c j) : m_sel c ok n = some b := by
  cases e : m_sel c ok n with
  | none =>
    rw [m_sel_p.1 e b hb] at h1
    cases h1
  | some d =>
    obtain ⟨a1, a2, a3⟩ := m_sel_p.2 d e
    have hd := m_sel_lt e
    have k1 := h2 d hd a1
    have k2 := a2 b hb h1
    rcases Nat.lt_trichotomy b d with q | q | q
    · have := a3 b q h1; omega
    · rw [q]
    · have := h3 d q a1; omega
theorem w_pc_n : ∀ n, n < 11 → ∀ x, x < 1024 → x < 2 ^ n → w_pc x ≤ n := by decide +kernel
/-- with these shut -/
abbrev m_bc (P : m_P) (sh : Nat) : w_C := m_X P (P.1.1 1) (P.1.1 2) (m_AN P) (fun _ => false) sh
theorem c_comesB (hV : m_PV P) (hl : 0 < P.1.1 6) {sh pl : Nat} (hsh : sh < 1024) (hp : pl < 10) (s : AS) (hP : c_PA 25 47 P s) : ∃ t, fX8_comesBarred s (nI pl) (nI sh) = some (t, nI (m_cs P (m_bc P sh) pl).toNat) ∧ c_mw s t := by
  have hV' := hV.1
  obtain ⟨v0, v4, v5, vr, vp, vg, vs, vr2, vo, vl, vz⟩ := hV'
  obtain ⟨t0, z1, z2, z3⟩ := c_measure (v := 173) (op := 25) (sh := sh) hV.1 hsh (by omega) s hP.1
  have m0 : c_mw s t0 := c_mw_fr z2 (fun c hc => by have : 173 ≤ c ∧ c < 173 + 25 := hc; omega)
  have P0 := c_PA_eq hP hV (fun c _ _ => m0.1 c (by omega)) (fun c _ _ => m0.1 c (by omega))
  obtain ⟨t1, a1, a2, b0, b1, b2, b3, b4, b5, b7, b8, b9, b10, b11, b12, b6, hr⟩ := c_begin (v := 173) (by omega) t0 P0.1 (x := nI (m_AN P))
  have m2 : c_mw s (am_si t1 172 4 (nI pl)) := c_mw_tr (c_mw_tr m0 a2) ⟨fun c hc => by rw [r_so _ _ _ (by omega)], fun _ _ => rfl⟩
  obtain ⟨t2, d1, d2, d3, d4⟩ := c_wd (K := fun _ => false) (g := some pl) (last := 60) (v := 173) (sh := sh) (x := P.1.1 1) (y := P.1.1 2) (A := m_AN P) hV (vs hl) vr2 (m_AN_lt hV) (fun q h => by injection h with h; omega) (by omega) (.inr rfl) (am_si t1 172 4 (nI pl)) (c_PA_eq hP hV (fun c _ _ => m2.1 c (by omega)) (fun c _ _ => m2.1 c (by omega))).1 (by simp (disch := omega) only [r_si, r_uo, b0]) (by simp (disch := omega) only [r_si, r_uo, b1]) (by simp (disch := omega) only [r_si, r_uo, b2]) ⟨0, by omega, by simp (disch := omega) only [r_si, r_uo, b3], fun p hp => by simp⟩ (by rw [r_si, r_us]; rfl) (by simp (disch := omega) only [r_si, r_uo, b5]) (by simp (disch := omega) only [r_si, r_uo, b7]) (by simp (disch := omega) only [r_si, r_uo, b8]) (by simp (disch := omega) only [r_si, r_uo, b10]) b6 (c_WY_eq hV.1 z3 (fun c _ _ => by rw [r_so _ _ _ (by omega), hr c (by omega)]))
  obtain ⟨se, s1, s2, s3⟩ := d4.2
  have e : se.testBit pl = m_cs P (m_bc P sh) pl := by
    have := s3 pl (.inr rfl)
    rw [← m_cs_t] at this
    exact Bool.eq_iff_iff.mpr this
  refine ⟨t2, ?_, c_mw_tr m2 d2⟩
  unfold fX8_comesBarred
  rw [z1, am_cq, show t0.1 47 1 = nI (m_AN P) from P0.2.2.1, a1, am_cq]
  simp (disch := omega) only [↓am_lq, b_lq, d1, am_cq, s2, c_holds, am_rq, e]
  cases m_cs P (m_bc P sh) pl
  · exact am_g_t (.inl rfl)
  · exact am_g_t (.inr rfl)
abbrev m_shs (P : m_P) (pl : Nat) : Option Nat := m_sel w_pc (fun sh => !m_cs P (m_bc P sh) pl) (2 ^ P.1.1 4)
theorem c_shutting {M : m_M} (hV : m_MV M) (hl : 0 < M.2.2.1.1.1 6) {pl : Nat} (hp : pl < 10) (s : AS) (hI : c_I M s) : ∃ t, fX8_shuttingSet s (nI pl) = some (t, oI (m_shs M.2.2.1 pl)) ∧ c_mw s t := by
  have hP := m_MV_P hV
  have hV' := hP.1
  obtain ⟨v0, v4, v5, vr, vp, vg, vs, vr2, vo, vl, vz⟩ := hV'
  have hx := vs hl
  have hn : 2 ^ M.2.2.1.1.1 4 ≤ 2 ^ 10 := Nat.pow_le_pow_right (by omega) v4
  have e2 : s.1 25 2 = nI (M.2.2.1.1.1 1) := hI.1.2.2.1.1.1 1 (by omega)
  unfold fX8_shuttingSet
  rw [e2]
  by_cases c : pl = M.2.2.1.1.1 1
  · rw [if_pos (by rw [c])]
    refine ⟨s, ?_, c_mw_refl s⟩
    rw [m_shs, m_sel_n (fun j hj => by
      rw [m_cs_t.mpr ⟨0, by omega, by rw [c]; rfl⟩]; rfl)]
    rfl
  · rw [if_neg (by rw [b_eq (by omega) (by omega)]; exact c)]
    simp only [b_lq]
    refine sp_lq (fun f (x : AS) i => fX8_shuttingSet_L15 (nI pl) f x i) (M.2.2.1.1.1 4 + 1) (fun i x => c_mw s x ∧ ∀ j, j < 2 ^ M.2.2.1.1.1 4 → w_pc j < i → m_cs M.2.2.1 (m_bc M.2.2.1 j) pl = true) (fun r => ∃ t, r = some (t, oI (m_shs M.2.2.1 pl)) ∧ c_mw s t) (fun f i x hi hx => ?_) (fun f x hx => ?_) s ⟨c_mw_refl s, fun j _ h => by omega⟩ am_fu (am_fu_gt (by omega))
    · obtain ⟨k1, k2⟩ := hx
      have e5 : x.1 25 5 = nI (M.2.2.1.1.1 4) := (k1.1 25 (by omega)).symm ▸ hI.1.2.2.1.1.1 4 (by omega)
      rw [fX8_shuttingSet_L15]
      simp (disch := omega) only [↓am_lq, b_lq, e5, b_lt, if_neg, b_add]
      refine sp_lq (fun g (y : AS) k => fX8_shuttingSet_L28 (nI pl) (nI i) (fun s3 => fX8_shuttingSet_L15 (nI pl) f s3 (nI (i + 1))) g y k) (2 ^ M.2.2.1.1.1 4) (fun k y => c_mw s y ∧ ∀ j, j < k → w_pc j = i → m_cs M.2.2.1 (m_bc M.2.2.1 j) pl = true) (fun r => (∃ s', (c_mw s s' ∧ ∀ j, j < 2 ^ M.2.2.1.1.1 4 → w_pc j < i + 1 → m_cs M.2.2.1 (m_bc M.2.2.1 j) pl = true) ∧ r = fX8_shuttingSet_L15 (nI pl) f s' (nI (i + 1))) ∨ ∃ t, r = some (t, oI (m_shs M.2.2.1 pl)) ∧ c_mw s t) (fun g k y hk hy => ?_) (fun g y hy => ?_) x ⟨k1, fun j h => by omega⟩ am_fu (am_fu_gt (by omega))
      · obtain ⟨y1, y2⟩ := hy
        have e5' : y.1 25 5 = nI (M.2.2.1.1.1 4) := (y1.1 25 (by omega)).symm ▸ hI.1.2.2.1.1.1 4 (by omega)
        have hk10 : k < 1024 := by omega
        have pc : w_pc k ≤ 10 := w_pc_n 10 (by omega) k hk10 hk10
        have I1 := c_I_mw hV hI y1
        obtain ⟨w, w1, w2⟩ := c_comesB hP hl (sh := k) hk10 hp y I1.1.2.2.1
        by_cases d : w_pc k = i
        · cases hc : m_cs M.2.2.1 (m_bc M.2.2.1 k) pl with
          | false =>
            right; right
            refine ⟨w, ?_, c_mw_tr y1 w2⟩
            have hs : m_shs M.2.2.1 pl = some k := m_sel_e hk (by rw [hc]; rfl) (fun j hj hj2 => by
              have : ¬ w_pc j < w_pc k := fun z => by
                have := k2 j hj (by omega)
                rw [this] at hj2; cases hj2
              omega) (fun j hj hj2 => by
              have a : ¬ w_pc j < w_pc k := fun z => by
                have := k2 j (by omega) (by omega)
                rw [this] at hj2; cases hj2
              have b : ¬ w_pc j = w_pc k := fun z => by
                have := y2 j hj (by omega)
                rw [this] at hj2; cases hj2
              omega)
            rw [hc] at w1
            rw [hs, fX8_shuttingSet_L28]
            simp (disch := omega) only [↓am_lq, b_lq, e5', b_sh, b_le, b_eq, b_bc, am_rq, d, w1, am_cq, b_tf, if_neg, if_true, oI_t]
          | true =>
            left
            refine ⟨w, ⟨c_mw_tr y1 w2, fun j hj hj2 => ?_⟩, ?_⟩
            · by_cases e : j = k
              · rw [e]; exact hc
              · exact y2 j (by omega) hj2
            · rw [hc] at w1
              rw [fX8_shuttingSet_L28]
              simp (disch := omega) only [↓am_lq, b_lq, e5', b_sh, b_le, b_eq, b_bc, am_rq, d, w1, am_cq, b_tt, b_add, if_neg, if_true, if_false]
        · left
          refine ⟨y, ⟨y1, fun j hj hj2 => ?_⟩, ?_⟩
          · by_cases e : j = k
            · subst e; exact absurd hj2 d
            · exact y2 j (by omega) hj2
          · rw [fX8_shuttingSet_L28]
            simp (disch := omega) only [↓am_lq, b_lq, e5', b_sh, b_le, b_eq, b_bc, am_rq, d, b_add, if_neg, if_true, if_false]
      · obtain ⟨y1, y2⟩ := hy
        have e5' : y.1 25 5 = nI (M.2.2.1.1.1 4) := (y1.1 25 (by omega)).symm ▸ hI.1.2.2.1.1.1 4 (by omega)
        left
        refine ⟨y, ⟨y1, fun j hj hj2 => ?_⟩, ?_⟩
        · by_cases e : w_pc j = i
          · exact y2 j hj e
          · exact k2 j hj (by omega)
        · rw [fX8_shuttingSet_L28]
          simp (disch := omega) only [↓am_lq, b_lq, e5', b_sh, b_le, if_pos, if_true]
    · obtain ⟨k1, k2⟩ := hx
      have e5 : x.1 25 5 = nI (M.2.2.1.1.1 4) := (k1.1 25 (by omega)).symm ▸ hI.1.2.2.1.1.1 4 (by omega)
      refine ⟨x, ?_, k1⟩
      rw [fX8_shuttingSet_L15, m_shs, m_sel_n (fun j hj => by
        have := w_pc_n (M.2.2.1.1.1 4) (by omega) j (by omega) hj
        rw [k2 j hj (by omega)]; rfl)]
      simp (disch := omega) only [b_lq, oI_q, e5, b_lt, if_pos, if_true]
theorem r_shuts (hV : m_PV P) (hl : 0 < P.1.1 6) {pl : Nat} (hp : pl < 10) (s : AS) (hP : r_PA 0 P s) : ∃ t, fX9_shutsOf s (nI pl) = some (t, oI (m_shs P pl)) ∧ r_mv s t := by
  have hV' := hV.1
  obtain ⟨v0, v4, v5, vr, vp, vg, vs, vr2, vo, vl, vz⟩ := hV'
  have hn : 2 ^ P.1.1 4 ≤ 2 ^ 10 := Nat.pow_le_pow_right (by omega) v4
  obtain ⟨t, a1, a2, a3, a4⟩ := r_lays hV s hP
  have P1 := r_PA_PL (r_PA_eq hP (fun c _ _ => a4 c (by omega)))
  have key : ∃ u, fX9_shutsOf_L8 (nI pl) am_fu t (oI none) (nI 0) = some (u, oI (m_shs P pl)) ∧ r_mv t u := by
    refine sp_lq (fun f (x : AS × Int32) i => fX9_shutsOf_L8 (nI pl) f x.1 x.2 i) (2 ^ P.1.1 4) (fun i x => (r_mv t x.1 ∧ r_PL P.1 x.1 ∧ ∃ sh, r_W (P.1.1 1) (P.1.1 2) (m_AN P) sh none x.1) ∧ x.2 = oI (m_sel w_pc (fun sh => !m_cs P (m_bc P sh) pl) i)) (fun r => ∃ u, r = some (u, oI (m_shs P pl)) ∧ r_mv t u) (fun f i x hi hx => ?_) (fun f x hx => ?_) (t, oI none) ⟨⟨r_mv_refl t, P1, m_BA P, a3⟩, rfl⟩ am_fu (am_fu_gt (by omega))
    · left
      obtain ⟨u, x⟩ := x
      obtain ⟨⟨k1, k3, A, k4⟩, k2⟩ := hx
      dsimp only at k1 k2 k3 k4 ⊢
      subst k2
      have i10 : i < 1024 := by omega
      have e4 : u.1 222 4 = nI (P.1.1 4) := k3.1 4 (by omega)
      have m1 : w_pc i ≤ 10 := w_pc_n 10 (by omega) i i10 i10
      have c1 := r_size i10
      have k5 : r_mv u (am_si u 215 24 (nI i)) := r_mv_si (r_mv_refl u) _ (by omega)
      have k4' := k4
      obtain ⟨d1, d2, d3, d4, d5, d6, d7, d8⟩ := k4
      obtain ⟨w, w1, w2, w3, w4, w5, w6⟩ := r_wd (K := fun _ => false) (ab := none) (x := P.1.1 1) (y := P.1.1 2) (A := m_AN P) (sh := i) hV (vs hl) vr2 (m_AN_lt hV) i10 (fun q hq => by rw [b_nn (by omega)]; exact ⟨fun z => z.elim, fun z => (by cases z)⟩) (am_si u 215 24 (nI i)) (r_PL_fr (R := fun c => c = 215) k3 (fr_si (fr_refl _ u) _ _ rfl) (fun c _ _ => by omega)) ⟨by simp (disch := omega) only [r_si, r_uo, d1], by rw [r_si, r_us], by simp (disch := omega) only [r_si, r_uo, d3], by simp (disch := omega) only [r_si, r_uo, d4], by simp (disch := omega) only [r_si, r_uo, d5], by simp (disch := omega) only [r_si, r_uo, d6], by simp (disch := omega) only [r_si, r_uo, d7], d8⟩
      have f1 := r_firstAt w (wa := w_at P.1 (m_bc P i)) (fun k hk => w5.2.1 k hk) (fun k q hq => by have := w_at_lt (m_XK hV (vs hl) vr2 (m_AN_lt hV)) hq; omega) hp (from_ := 0) (by omega)
      have e : ∀ {α : Type} (X Y : α), (if oI (y_fd (fun k => decide (0 ≤ k) && (w_at P.1 (m_bc P i) k == some pl)) 61) = oI none then X else Y) = if m_cs P (m_bc P i) pl = true then Y else X := by
        intro α X Y
        unfold m_cs
        cases h : y_fd (fun k => decide (0 ≤ k) && (w_at P.1 (m_bc P i) k == some pl)) 61 with
        | none => rw [if_pos rfl, if_neg (by simp)]
        | some k =>
          have := (y_fd_s.mp h).1
          rw [oI_s, if_neg (by rw [b_nn (by omega)]; exact fun z => z), if_pos (show (some k).isSome = true from rfl)]
      rw [fX9_shutsOf_L8]
      cases hs : m_sel w_pc (fun sh => !m_cs P (m_bc P sh) pl) i with
      | none =>
        refine ⟨(w, oI (m_sel w_pc (fun sh => !m_cs P (m_bc P sh) pl) (i + 1))), ⟨⟨r_mv_tr (r_mv_tr k1 k5) w2, w4, i, w3⟩, rfl⟩, ?_⟩
        rw [m_sel_s, hs]
        simp (disch := omega) only [↓am_lq, b_lq, oI_q, e4, b_sh, b_le, b_lt, b_eq, b_t, b_add, am_g_t, w1, am_cq, f1, am_rq, e, if_neg, if_true, if_false]
        cases hc : m_cs P (m_bc P i) pl <;> simp only [if_true, if_false, Bool.not_true, Bool.not_false, Bool.false_eq_true, oI_t]
      | some b =>
        have hb := m_sel_lt hs
        have b10 : b < 1024 := by omega
        have m2 : w_pc b ≤ 10 := w_pc_n 10 (by omega) b b10 b10
        have c2 := r_size b10
        have b1 : (nI b = oI none) = False := b_nn (by omega)
        by_cases c : w_pc i < w_pc b
        · refine ⟨(w, oI (m_sel w_pc (fun sh => !m_cs P (m_bc P sh) pl) (i + 1))), ⟨⟨r_mv_tr (r_mv_tr k1 k5) w2, w4, i, w3⟩, rfl⟩, ?_⟩
          rw [m_sel_s, hs]
          simp (disch := omega) only [↓am_lq, b_lq, oI_q, e4, b_sh, b_le, b_lt, b_eq, b_t, b_add, am_g_t, b1, c1, c2, c, w1, am_cq, f1, am_rq, e, if_neg, if_true, if_false, oI_t]
          cases hc : m_cs P (m_bc P i) pl <;> simp only [if_true, if_false, Bool.not_true, Bool.not_false, Bool.false_eq_true, oI_t]
        · refine ⟨(u, oI (m_sel w_pc (fun sh => !m_cs P (m_bc P sh) pl) (i + 1))), ⟨⟨k1, k3, A, k4'⟩, rfl⟩, ?_⟩
          rw [m_sel_s, hs]
          simp (disch := omega) only [↓am_lq, b_lq, oI_q, e4, b_sh, b_le, b_lt, b_eq, b_t, b_add, am_g_t, b1, c1, c2, c, am_rq, if_neg, if_true, if_false, oI_t]
    · obtain ⟨u, x⟩ := x
      obtain ⟨⟨k1, k3, A, k4⟩, k2⟩ := hx
      dsimp only at k1 k2 k3 k4 ⊢
      subst k2
      have e4 : u.1 222 4 = nI (P.1.1 4) := k3.1 4 (by omega)
      refine ⟨u, ?_, k1⟩
      rw [fX9_shutsOf_L8]
      simp (disch := omega) only [b_lq, e4, b_sh, b_le, b_lt, b_t, am_g_t, if_pos, if_true]
  obtain ⟨u, u1, u2⟩ := key
  refine ⟨u, ?_, r_mv_tr a2 u2⟩
  unfold fX9_shutsOf
  rw [a1, am_cq]
  exact u1
theorem Q_shuts (a : Int32) : m_OK (fun s => fX8_shuts s a) (fun s => fX9_shuts s a) := m_ok_q (fun M => m_in a (M.2.2.1.1.1 0)) (fun M => oI (m_shs M.2.2.1 a.toNatClampNeg))
  (fun M s hV hI => by
    unfold fX8_shuts
    rw [g8_place hI.1, am_rq]
    simp only [↓am_lq, b_lq, m_if0]
    cases hb : m_in a (M.2.2.1.1.1 0) with
    | false => exact ⟨s, rfl, hI, fun _ _ => ⟨rfl, rfl⟩⟩
    | true =>
      obtain ⟨j, hj, hj2, rfl⟩ := k_place hV hb
      obtain ⟨t, h1, h2⟩ := c_shutting hV (hl_place hV hb) hj2 s hI
      refine ⟨t, ?_, c_I_mw hV hI h2, c_mw_F h2⟩
      rw [if_pos rfl, if_pos rfl, h1, am_cq, b_t (by omega)])
  (fun M s hV hI => by
    obtain ⟨I1, m1⟩ := r_0 hI
    unfold fX9_shuts
    simp only [↓am_lq, b_lq]
    rw [g9_place I1 hV, am_rq, m_if0]
    cases hb : m_in a (M.2.2.1.1.1 0) with
    | false => exact ⟨_, rfl, I1, m1.1⟩
    | true =>
      obtain ⟨j, hj, hj2, rfl⟩ := k_place hV hb
      obtain ⟨t, h1, h2⟩ := r_shuts (m_MV_P hV) (hl_place hV hb) hj2 _ I1.2.2.1
      refine ⟨t, ?_, r_I_mv I1 h2, r_F_tr m1.1 h2.1⟩
      rw [if_pos rfl, if_pos rfl, h1, am_cq, b_t (by omega)])
theorem m_shs_lt (hV : m_PV P) {pl b : Nat} (h : m_shs P pl = some b) : b < 1024 := by
  have := m_sel_lt h
  have hn : 2 ^ P.1.1 4 ≤ 2 ^ 10 := Nat.pow_le_pow_right (by omega) hV.1.2.1
  omega
theorem Q_shut (a : Int32) : m_OK (fun s => fX8_shut s a) (fun s => fX9_shut s a) := m_ok_q (fun M => m_in a (M.2.2.1.1.1 0)) (fun M => oI ((m_shs M.2.2.1 a.toNatClampNeg).map w_pc))
  (fun M s hV hI => by
    unfold fX8_shut
    rw [g8_place hI.1, am_rq]
    simp only [↓am_lq, b_lq, m_if0]
    cases hb : m_in a (M.2.2.1.1.1 0) with
    | false => exact ⟨s, rfl, hI, fun _ _ => ⟨rfl, rfl⟩⟩
    | true =>
      obtain ⟨j, hj, hj2, rfl⟩ := k_place hV hb
      obtain ⟨t, h1, h2⟩ := c_shutting hV (hl_place hV hb) hj2 s hI
      refine ⟨t, ?_, c_I_mw hV hI h2, c_mw_F h2⟩
      rw [if_pos rfl, if_pos rfl, h1, am_cq, b_t (by omega)]
      cases hs : m_shs M.2.2.1 j with
      | none => rfl
      | some b =>
        have hb := m_shs_lt (m_MV_P hV) hs
        rw [oI_s, oI_q, if_neg (by rw [b_nn (by omega)]; exact fun z => z), b_bc b hb, am_rq]
        rfl)
  (fun M s hV hI => by
    obtain ⟨I1, m1⟩ := r_0 hI
    unfold fX9_shut
    simp only [↓am_lq, b_lq]
    rw [g9_place I1 hV, am_rq, m_if0]
    cases hb : m_in a (M.2.2.1.1.1 0) with
    | false => exact ⟨_, rfl, I1, m1.1⟩
    | true =>
      obtain ⟨j, hj, hj2, rfl⟩ := k_place hV hb
      obtain ⟨t, h1, h2⟩ := r_shuts (m_MV_P hV) (hl_place hV hb) hj2 _ I1.2.2.1
      refine ⟨t, ?_, r_I_mv I1 h2, r_F_tr m1.1 h2.1⟩
      rw [if_pos rfl, if_pos rfl, h1, am_cq, b_t (by omega)]
      cases hs : m_shs M.2.2.1 j with
      | none => rfl
      | some b =>
        have hb := m_shs_lt (m_MV_P hV) hs
        rw [oI_s, oI_q, if_neg (by rw [b_nn (by omega)]; exact fun z => z), r_size hb, am_rq]
        rfl)
end SH
