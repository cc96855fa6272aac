/-! PASTE. -/
/-- n numbers from a on lie in a row of z -/
def m_hf (a n : Int32) (z : Nat) : Bool := decide (0 ≤ a.toInt ∧ 0 ≤ n.toInt ∧ a.toInt + n.toInt ≤ z)
theorem m_hf_k {a n : Int32} {z : Nat} (hz : z ≤ 60) (h : m_hf a n z = true) : ∃ i j, a = nI i ∧ n = nI j ∧ i + j ≤ z := by
  have h := of_decide_eq_true h
  refine ⟨a.toInt.toNat, n.toInt.toNat, ?_, ?_, by omega⟩
  · apply Int32.toInt_inj.mp
    rw [b_toI (by omega)]
    omega
  · apply Int32.toInt_inj.mp
    rw [b_toI (by omega)]
    omega
theorem b_lti (x y : Int32) : (x < y) = (x.toInt < y.toInt) := propext Int32.lt_iff_toInt_lt
section PA
variable {M : m_M} {s t : AS}
theorem c_hasFrom {o z : Nat} (hz : z ≤ 60) (h : s.1 o 2 = nI z) (a n : Int32) : fX5_hasFrom s o a n = some (nI (m_hf a n z).toNat) := by
  unfold fX5_hasFrom
  simp (disch := omega) only [↓am_lq, b_lq, b_eq, or_true, true_or, am_gT, h]
  have e0 : (nI 0).toInt = 0 := b_toI (by omega)
  have ez : (nI z).toInt = z := b_toI (by omega)
  by_cases c1 : a < nI 0
  · rw [if_pos c1]
    rw [b_lti, e0] at c1
    rw [show m_hf a n z = false from decide_eq_false (by omega)]; rfl
  · rw [if_neg c1]
    rw [b_lti, e0] at c1
    by_cases c2 : n < nI 0
    · rw [if_pos c2]
      rw [b_lti, e0] at c2
      rw [show m_hf a n z = false from decide_eq_false (by omega)]; rfl
    · rw [if_neg c2]
      rw [b_lti, e0] at c2
      by_cases c3 : nI z < a
      · rw [if_pos c3]
        rw [b_lti, ez] at c3
        rw [show m_hf a n z = false from decide_eq_false (by omega)]; rfl
      · rw [if_neg c3]
        rw [b_lti, ez] at c3
        have ea : a = nI a.toInt.toNat := by
          apply Int32.toInt_inj.mp
          rw [b_toI (by omega)]
          omega
        have es : (nI z - a).toInt = z - a.toInt := by
          have : nI z - a = nI (z - a.toInt.toNat) := by
            conv => lhs; rw [ea]
            rw [b_sub (by omega)]
          rw [this, b_toI (by omega)]
          omega
        by_cases c4 : nI z - a < n
        · rw [if_pos c4]
          rw [b_lti, es] at c4
          rw [show m_hf a n z = false from decide_eq_false (by omega)]; rfl
        · rw [if_neg c4]
          rw [b_lti, es] at c4
          rw [show m_hf a n z = true from decide_eq_true (by omega)]; rfl
theorem r_sum64 (a n : Int32) {z : Nat} (hz : z ≤ 60) : (a.toInt64 + n.toInt64 ≤ (nI z).toInt64) ↔ a.toInt + n.toInt ≤ z := by
  have ha := a.toInt_lt
  have ha' := a.le_toInt
  have hn := n.toInt_lt
  have hn' := n.le_toInt
  rw [Int64.le_iff_toInt_le, Int64.toInt_add, Int32.toInt_toInt64, Int32.toInt_toInt64, Int32.toInt_toInt64, b_toI (by omega)]
  rw [Int.bmod_eq_of_le (by simp; omega) (by simp; omega)]
theorem Q_paste (a b c d e : Int32) : m_OK (fun s => fX8_paste s a b c d e) (fun s => fX9_paste s a b c d e) := m_ok_c fun M hV => by
  by_cases h1 : (m_in a 4 && m_in c 4) = true
  · simp only [Bool.and_eq_true] at h1
    obtain ⟨ha, hc⟩ := h1
    have ha' := ha
    have hc' := hc
    obtain ⟨k, hk, rfl⟩ := m_in_k (by omega) ha
    obtain ⟨q, hq, rfl⟩ := m_in_k (by omega) hc
    have v1 := hV.2.2.2.2.2 k hk
    have v2 := hV.2.2.2.2.2 q hq
    cases hk0 : (M.2.2.2.2 k).1 with
    | none =>
      refine ⟨M, -nI 6, hV, fun s hI => ⟨s, ?_, hI, c_F_refl s⟩, fun s hI => ⟨_, ?_, (r_0 hI).1, (r_0 hI).2.1⟩⟩
      · have e1 := (hI.1.2.2.2.2 k hk).1
        rw [hk0] at e1
        unfold fX8_paste
        simp (disch := omega) only [g8_slot, ↓am_lq, b_lq, am_rq, m_if0, ha', hc', if_true, b_lt, b_t, am_g_t, e1, Option.isSome_none, b_tf]
      · have e1 := ((r_0 hI).1.2.2.2.2 k hk).1
        rw [hk0] at e1
        unfold fX9_paste
        simp (disch := omega) only [g9_slot, ↓am_lq, b_lq, oI_q, am_rq, m_if0, ha', hc', if_true, b_lt, b_t, am_g_t, e1]
    | some w1 =>
      have hw1 := v1.2 w1 hk0
      cases hq0 : (M.2.2.2.2 q).1 with
      | none =>
        refine ⟨M, -nI 6, hV, fun s hI => ⟨s, ?_, hI, c_F_refl s⟩, fun s hI => ⟨_, ?_, (r_0 hI).1, (r_0 hI).2.1⟩⟩
        · have e1 := (hI.1.2.2.2.2 k hk).1
          have e2 := (hI.1.2.2.2.2 q hq).1
          rw [hk0] at e1
          rw [hq0] at e2
          unfold fX8_paste
          simp (disch := omega) only [g8_slot, ↓am_lq, b_lq, am_rq, m_if0, ha', hc', if_true, b_lt, b_t, b_eq, am_g_t, e1, e2, Option.isSome_none, Option.isSome_some, b_tf, b_tt, if_neg, if_false]
        · have e1 := ((r_0 hI).1.2.2.2.2 k hk).1
          have e2 := ((r_0 hI).1.2.2.2.2 q hq).1
          rw [hk0, oI_s] at e1
          rw [hq0] at e2
          unfold fX9_paste
          simp (disch := omega) only [g9_slot, ↓am_lq, b_lq, oI_q, am_rq, m_if0, ha', hc', if_true, b_lt, b_t, b_nn, am_g_t, e1, e2, if_false]
      | some w2 =>
        have hw2 := v2.2 w2 hq0
        by_cases hw : w1 = w2
        · subst hw
          by_cases hh : (m_hf b e (M.2.2.2.2 k).2.1 && m_hf d e (M.2.2.2.2 q).2.1) = true
          · simp only [Bool.and_eq_true] at hh
            obtain ⟨x1, x2⟩ := hh
            obtain ⟨i, n, rfl, rfl, hin⟩ := m_hf_k v1.1 x1
            obtain ⟨j, n', rfl, en, hjn⟩ := m_hf_k v2.1 x2
            have hn : n = n' := by
              rw [b_eq (by have := v1.1; omega) (by have := v2.1; omega)] at en
              exact en
            subst hn
            have z1 := v1.1
            have z2 := v2.1
            refine ⟨m_sl M q (some w1, (M.2.2.2.2 q).2.1, va_cpy (M.2.2.2.2 k).2.2 (M.2.2.2.2 q).2.2 i j n), nI 0, m_MV_sl hV v2.1 (fun w' hw' => by cases hw'; exact hw1), fun s hI => ?_, fun s hI => ?_⟩
            · have e1 := (hI.1.2.2.2.2 k hk).1
              obtain ⟨e2, e3, e4⟩ := (hI.1.2.2.2.2 k hk).2 w1 hk0
              have f1 := (hI.1.2.2.2.2 q hq).1
              obtain ⟨f2, f3, f4⟩ := (hI.1.2.2.2.2 q hq).2 w1 hq0
              rw [hk0] at e1
              rw [hq0] at f1
              have key := c_I_sl (t := am_srj s (130 + 2 * q + 1) (va_cpy (s.2 (130 + 2 * k + 1)) (s.2 (130 + 2 * q + 1)) i j n)) hV hI hq (x := (some w1, (M.2.2.2.2 q).2.1, va_cpy (M.2.2.2.2 k).2.2 (M.2.2.2.2 q).2.2 i j n)) (fun c hc => rfl) (fun c hc => by
                show am_u2 s.2 _ _ c = _
                unfold am_u2
                rw [if_neg (by omega)]) ⟨f1, fun w' hw' => by
                cases hw'
                refine ⟨f2, f3, fun y hy => ?_⟩
                have hy : y < (M.2.2.2.2 q).2.1 := hy
                show am_u2 s.2 _ _ _ y = va_cpy (M.2.2.2.2 k).2.2 (M.2.2.2.2 q).2.2 i j n y
                unfold am_u2
                rw [if_pos (by omega)]
                unfold va_cpy
                by_cases cc : j ≤ y ∧ y < j + n
                · rw [if_pos cc, if_pos cc]
                  have := e4 (i + (y - j)) (by omega)
                  rw [show 131 + 2 * k = 130 + 2 * k + 1 by omega] at this
                  exact this
                · rw [if_neg cc, if_neg cc]
                  have := f4 y hy
                  rw [show 131 + 2 * q = 130 + 2 * q + 1 by omega] at this
                  exact this⟩
              refine ⟨_, ?_, key.1, key.2⟩
              have g1 := c_hasFrom (s := s) v1.1 e3 (nI i) (nI n)
              have g2 := c_hasFrom (s := s) v2.1 f3 (nI j) (nI n)
              rw [x1] at g1
              rw [x2] at g2
              unfold fX8_paste
              simp (disch := omega) only [g8_slot, ↓am_lq, b_lq, am_rq, m_if0, ha', hc', if_true, b_lt, b_t, b_eq, am_g_t, e1, f1, e2, f2, Option.isSome_some, b_tt, if_neg, if_false, g1, g2]
            · obtain ⟨I1, m1⟩ := r_0 hI
              have e1 := (I1.2.2.2.2 k hk).1
              obtain ⟨e2, e3⟩ := (I1.2.2.2.2 k hk).2 w1 hk0
              have f1 := (I1.2.2.2.2 q hq).1
              obtain ⟨f2, f3⟩ := (I1.2.2.2.2 q hq).2 w1 hq0
              rw [hk0, oI_s] at e1
              rw [hq0, oI_s] at f1
              obtain ⟨t1, ⟨a1, a2, a3⟩, a4⟩ := sp_lj (fun J f (t : AS) y => fX9_paste_L118 (nI k) (nI i) (nI n) J f t y) n (fun y t => t.1 = (am_si s 215 0 (nI 0)).1 ∧ (∀ c, c ≠ 219 → t.2 c = s.2 c) ∧ ∀ x, x < y → t.2 219 x = s.2 218 (60 * k + i + x)) (fun f y t hy h => by
                refine ⟨am_sj t 219 y (s.2 218 (60 * k + i + y)), ⟨h.1, fun c hc => by rw [r_jo _ _ _ hc]; exact h.2.1 c hc, fun x hx => ?_⟩, fun J => ?_⟩
                · rw [r_ji]
                  by_cases c : x = y
                  · rw [c, r_ls]
                  · rw [r_lo _ _ c]; exact h.2.2 x (by omega)
                · rw [fX9_paste_L118]
                  simp (disch := omega) only [↓am_lq, b_lq, b_le, b_lt, b_t, b_mul, b_add, am_g_t, if_neg, if_false, h.2.1]) (fun f t h J => by
                rw [fX9_paste_L118]
                simp (disch := omega) only [b_lq, b_le, if_pos, if_true]) (am_si s 215 0 (nI 0)) ⟨rfl, fun _ _ => rfl, fun x hx => by omega⟩ am_fu (am_fu_gt (by omega))
              obtain ⟨t2, ⟨b1, b2, b3, b4⟩, b5⟩ := sp_lp (fun f (t : AS) y => fX9_paste_L155 (nI q) (nI j) (nI n) f t y) n (fun y t => t.1 = (am_si s 215 0 (nI 0)).1 ∧ (∀ c, c ≠ 218 → t.2 c = t1.2 c) ∧ (∀ x, (x < 60 * q + j ∨ 60 * q + j + y ≤ x) → t.2 218 x = s.2 218 x) ∧ ∀ x, x < y → t.2 218 (60 * q + j + x) = t1.2 219 x) (fun t => some (t, nI 0)) (fun f y t hy h => by
                refine ⟨am_sj t 218 (60 * q + j + y) (t1.2 219 y), ⟨h.1, fun c hc => by rw [r_jo _ _ _ hc]; exact h.2.1 c hc, fun x hx => by rw [r_ji, r_lo _ _ (by omega)]; exact h.2.2.1 x (by omega), fun x hx => ?_⟩, ?_⟩
                · rw [r_ji]
                  by_cases c : x = y
                  · rw [c, r_ls]
                  · rw [r_lo _ _ (by omega)]; exact h.2.2.2 x (by omega)
                · rw [fX9_paste_L155]
                  simp (disch := omega) only [↓am_lq, b_lq, b_le, b_lt, b_t, b_mul, b_add, am_g_t, if_neg, if_false, h.2.1]) (fun f t h => by
                rw [fX9_paste_L155]
                simp (disch := omega) only [b_lq, b_le, if_pos, if_true]) t1 ⟨a1, fun _ _ => rfl, fun x hx => a2 218 (by omega) ▸ rfl, fun x hx => by omega⟩ am_fu (am_fu_gt (by omega))
              have key := r_I_sl (t := t2) I1 hq (x := (some w1, (M.2.2.2.2 q).2.1, va_cpy (M.2.2.2.2 k).2.2 (M.2.2.2.2 q).2.2 i j n)) hV (fun c _ _ => by rw [b1]) (fun c _ => by rw [b1]; exact ⟨rfl, rfl⟩) (fun c h1 h2 => by rw [b2 c h1, a2 c h2]; rfl) (fun x hx => by rw [b3 x (by omega)]; rfl) ⟨by rw [b1]; exact f1, fun w' hw' => ⟨by rw [b1]; exact f2, fun y hy => by
                have hy : y < (M.2.2.2.2 q).2.1 := hy
                show t2.2 218 (60 * q + y) = va_cpy (M.2.2.2.2 k).2.2 (M.2.2.2.2 q).2.2 i j n y
                unfold va_cpy
                by_cases cc : j ≤ y ∧ y < j + n
                · rw [if_pos cc, show 60 * q + y = 60 * q + j + (y - j) by omega, b4 _ (by omega), a3 _ (by omega), show 60 * k + i + (y - j) = 60 * k + (i + (y - j)) by omega]
                  exact e3 (i + (y - j)) (by omega)
                · rw [if_neg cc, b3 _ (by omega)]
                  exact f3 y hy⟩⟩
              refine ⟨t2, ?_, key.1, r_F_tr m1.1 key.2⟩
              have s1 : ¬ (0 < lg_cmp ((nI i).toInt64 + (nI n).toInt64) (nI (M.2.2.2.2 k).2.1).toInt64) := by
                rw [lg_cmp_gt, Int64.not_lt, r_sum64 _ _ z1, b_toI (by omega), b_toI (by omega)]
                omega
              have s2 : lg_cmp ((nI j).toInt64 + (nI n).toInt64) (nI (M.2.2.2.2 q).2.1).toInt64 ≤ 0 := by
                rw [lg_cmp_le, r_sum64 _ _ z2, b_toI (by omega), b_toI (by omega)]
                omega
              unfold fX9_paste
              simp only [b_lq] at s1 s2
              simp (disch := omega) only [g9_slot, ↓am_lq, b_lq, oI_q, am_rq, m_if0, ha', hc', if_true, b_lt, b_t, b_nn, am_g_t, e1, f1, e2, f2, if_false, s1, s2, if_neg, if_pos, a4]
              exact b5
          · refine ⟨M, -nI 7, hV, fun s hI => ⟨s, ?_, hI, c_F_refl s⟩, fun s hI => ⟨_, ?_, (r_0 hI).1, (r_0 hI).2.1⟩⟩
            · have e1 := (hI.1.2.2.2.2 k hk).1
              obtain ⟨e2, e3, e4⟩ := (hI.1.2.2.2.2 k hk).2 w1 hk0
              have f1 := (hI.1.2.2.2.2 q hq).1
              obtain ⟨f2, f3, f4⟩ := (hI.1.2.2.2.2 q hq).2 w1 hq0
              rw [hk0] at e1
              rw [hq0] at f1
              have g1 := c_hasFrom (s := s) v1.1 e3 b e
              have g2 := c_hasFrom (s := s) v2.1 f3 d e
              unfold fX8_paste
              simp (disch := omega) only [g8_slot, ↓am_lq, b_lq, am_rq, m_if0, ha', hc', if_true, b_lt, b_t, b_eq, am_g_t, e1, f1, e2, f2, Option.isSome_some, b_tt, if_neg, if_false, g1, g2]
              cases d2 : m_hf b e (M.2.2.2.2 k).2.1 with
              | false => rfl
              | true =>
                cases d3 : m_hf d e (M.2.2.2.2 q).2.1 with
                | false => rfl
                | true => exact absurd (by rw [d2, d3]; rfl) hh
            · have I1 := (r_0 hI).1
              have e1 := (I1.2.2.2.2 k hk).1
              have e2 := ((I1.2.2.2.2 k hk).2 w1 hk0).1
              have f1 := (I1.2.2.2.2 q hq).1
              have f2 := ((I1.2.2.2.2 q hq).2 w1 hq0).1
              rw [hk0, oI_s] at e1
              rw [hq0, oI_s] at f1
              have z1 := v1.1
              have z2 := v2.1
              unfold fX9_paste
              simp (disch := omega) only [g9_slot, ↓am_lq, b_lq, oI_q, am_rq, m_if0, ha', hc', if_true, b_lt, b_t, b_nn, am_g_t, e1, f1, e2, f2, if_false]
              have e0 : (nI 0).toInt = 0 := b_toI (by omega)
              by_cases c1 : b < nI 0
              · rw [if_pos c1]
              · rw [if_neg c1]
                by_cases c2 : d < nI 0
                · rw [if_pos c2]
                · rw [if_neg c2]
                  by_cases c3 : e < nI 0
                  · rw [if_pos c3]
                  · rw [if_neg c3]
                    rw [b_lti, e0] at c1 c2 c3
                    by_cases c4 : nI 0 < lg_cmp (b.toInt64 + e.toInt64) (nI (M.2.2.2.2 k).2.1).toInt64
                    · rw [if_pos c4]
                    · rw [if_neg c4]
                      by_cases c5 : lg_cmp (d.toInt64 + e.toInt64) (nI (M.2.2.2.2 q).2.1).toInt64 ≤ nI 0
                      · exfalso
                        have c4 : ¬ (0 < lg_cmp (b.toInt64 + e.toInt64) (nI (M.2.2.2.2 k).2.1).toInt64) := c4
                        have c5 : lg_cmp (d.toInt64 + e.toInt64) (nI (M.2.2.2.2 q).2.1).toInt64 ≤ 0 := c5
                        rw [lg_cmp_gt, Int64.not_lt, r_sum64 _ _ z1] at c4
                        rw [lg_cmp_le, r_sum64 _ _ z2] at c5
                        apply hh
                        rw [show m_hf b e (M.2.2.2.2 k).2.1 = true from decide_eq_true (by omega), show m_hf d e (M.2.2.2.2 q).2.1 = true from decide_eq_true (by omega)]
                        rfl
                      · rw [if_neg c5]
        · refine ⟨M, -nI 8, hV, fun s hI => ⟨s, ?_, hI, c_F_refl s⟩, fun s hI => ⟨_, ?_, (r_0 hI).1, (r_0 hI).2.1⟩⟩
          · have e1 := (hI.1.2.2.2.2 k hk).1
            have e2 := (hI.1.2.2.2.2 q hq).1
            have f1 := ((hI.1.2.2.2.2 k hk).2 w1 hk0).1
            have f2 := ((hI.1.2.2.2.2 q hq).2 w2 hq0).1
            rw [hk0] at e1
            rw [hq0] at e2
            unfold fX8_paste
            simp (disch := omega) only [g8_slot, ↓am_lq, b_lq, am_rq, m_if0, ha', hc', if_true, b_lt, b_t, b_eq, am_g_t, e1, e2, f1, f2, Option.isSome_some, b_tt, if_neg, if_false, hw]
          · have e1 := ((r_0 hI).1.2.2.2.2 k hk).1
            have e2 := ((r_0 hI).1.2.2.2.2 q hq).1
            rw [hk0, oI_s] at e1
            rw [hq0, oI_s] at e2
            unfold fX9_paste
            simp (disch := omega) only [g9_slot, ↓am_lq, b_lq, oI_q, am_rq, m_if0, ha', hc', if_true, b_lt, b_t, b_eq, b_nn, am_g_t, e1, e2, if_false, hw]
  · refine ⟨M, -nI 2, hV, fun s hI => ⟨s, ?_, hI, c_F_refl s⟩, fun s hI => ⟨_, ?_, (r_0 hI).1, (r_0 hI).2.1⟩⟩
    · unfold fX8_paste
      rw [g8_slot, am_rq]
      cases d2 : m_in a 4 with
      | false => simp only [↓am_lq, b_lq, m_if0, Bool.false_eq_true, if_false]
      | true =>
        rw [g8_slot]
        cases d3 : m_in c 4 with
        | false => simp only [↓am_lq, b_lq, am_rq, m_if0, Bool.false_eq_true, if_false, if_true]
        | true => exact absurd (by rw [d2, d3]; rfl) h1
    · unfold fX9_paste
      rw [am_lq, g9_slot, am_rq]
      cases d2 : m_in a 4 with
      | false => simp only [↓am_lq, b_lq, m_if0, Bool.false_eq_true, if_false]
      | true =>
        rw [g9_slot]
        cases d3 : m_in c 4 with
        | false => simp only [↓am_lq, b_lq, am_rq, m_if0, Bool.false_eq_true, if_false, if_true]
        | true => exact absurd (by rw [d2, d3]; rfl) h1
end PA
