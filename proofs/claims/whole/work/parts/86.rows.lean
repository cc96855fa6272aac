/-! ROWS: row, write, paste. -/
theorem c_fillJ (s : AS) (o n : Nat) (x : Int64) (hn : n < 1000) : ∃ s1, fJ7_fill_d0a16 s o n x = some (s1, ()) ∧ (∀ k, k < n → s1.2 o k = x) ∧ s1.1 = s.1 ∧ ∀ c, c ≠ o → s1.2 c = s.2 c := by
  obtain ⟨s1, ⟨h1, h2, h3⟩, h4⟩ := sp_lp (fun f (t : AS) i => fJ7_fill_d0a16_L6 o n x (Int32.ofNat n) f t i) n (fun i t => (∀ k, k < i → t.2 o k = x) ∧ t.1 = s.1 ∧ ∀ c, c ≠ o → t.2 c = s.2 c) (fun t => some (t, ())) (fun f i t hi h => ⟨am_sj t o i x, ⟨fun k hk => by
      rw [r_ji]
      by_cases e : k = i
      · rw [e, r_ls]
      · rw [r_lo _ _ e]; exact h.1 k (by omega), h.2.1, fun c hc => by rw [r_jo _ _ _ hc]; exact h.2.2 c hc⟩, by
      rw [fJ7_fill_d0a16_L6]
      simp (disch := omega) only [am_lq, b_lq, b_oq, b_le, b_lt, b_t, am_g_t, if_neg, if_false, b_add]⟩) (fun f t h => by
      rw [fJ7_fill_d0a16_L6]
      simp (disch := omega) only [b_lq, b_oq, b_le, if_pos, if_true]) s ⟨fun k hk => by omega, rfl, fun _ _ => rfl⟩ am_fu (am_fu_gt (by omega))
  refine ⟨s1, ?_, h1, h2, h3⟩
  unfold fJ7_fill_d0a16
  simp only [am_lq, b_lq]
  exact h4
abbrev m_sl (M : m_M) (k : Nat) (x : Option Nat × Nat × (Nat → Int64)) : m_M := (M.1, M.2.1, M.2.2.1, M.2.2.2.1, w_u M.2.2.2.2 k x)
section RO
variable {M : m_M} {s t : AS}
theorem m_MV_sl (h : m_MV M) {k : Nat} {x : Option Nat × Nat × (Nat → Int64)} (h1 : x.2.1 ≤ 60) (h2 : ∀ w, x.1 = some w → w < 4) : m_MV (m_sl M k x) := by
  refine ⟨h.1, h.2.1, h.2.2.1, h.2.2.2.1, h.2.2.2.2.1, fun j hj => ?_⟩
  dsimp only
  by_cases e : j = k
  · rw [e, w_us]; exact ⟨h1, h2⟩
  · rw [w_uo _ _ e]; exact h.2.2.2.2.2 j hj
theorem c_I_sl (hV : m_MV M) (hI : c_I M s) {k : Nat} (hk : k < 4) {x : Option Nat × Nat × (Nat → Int64)} (h1 : ∀ c, c ≠ 130 + 2 * k → t.1 c = s.1 c) (h2 : ∀ c, c ≠ 131 + 2 * k → t.2 c = s.2 c) (hs : t.1 (130 + 2 * k) 0 = nI x.1.isSome.toNat ∧ (∀ w, x.1 = some w → t.1 (130 + 2 * k) 1 = nI w ∧ t.1 (130 + 2 * k) 2 = nI x.2.1 ∧ ∀ i, i < x.2.1 → t.2 (131 + 2 * k) i = x.2.2 i)) : c_I (m_sl M k x) t ∧ c_F s t := by
  obtain ⟨⟨a1, a2, a3, a4, a5⟩, a6⟩ := hI
  obtain ⟨v1, v2, v3, v4, v5, v6⟩ := hV
  refine ⟨⟨⟨⟨?_, fun i => ?_⟩, ⟨?_, ?_⟩, ?_, fun j hj => ⟨?_, ?_⟩, fun j hj => ?_⟩, ?_⟩, fun c hc => ⟨h1 c (by omega), h2 c (by omega)⟩⟩
  · rw [h1 _ (by omega)]; exact a1.1
  · rw [h1 _ (by omega)]; exact a1.2 i
  · rw [h1 _ (by omega)]; exact a2.1
  · rw [h1 _ (by omega)]; exact a2.2
  · exact c_PA_eq a3 v4 (fun c _ _ => h1 c (by omega)) (fun c _ _ => h1 c (by omega))
  · rw [h1 _ (by omega)]; exact (a4 j hj).1
  · exact c_PA_eq (a4 j hj).2 (v5 j hj) (fun c _ _ => h1 c (by omega)) (fun c _ _ => h1 c (by omega))
  · dsimp only
    by_cases e : j = k
    · rw [e, w_us]; exact hs
    · rw [w_uo _ _ e, h1 _ (by omega), h2 _ (by omega)]; exact a5 j hj
  · rw [h1 0 (by omega)]
    rcases a6 with q | q
    · exact .inl q
    · exact .inr ⟨q.1, ⟨c_WY_eq v4.1 q.2.1.1 (fun c _ _ => h1 c (by omega)), c_GI_eq q.2.1.2 (fun c _ _ => h1 c (by omega))⟩, q.2.2⟩
theorem r_I_sl (hI : r_I M s) {k : Nat} (hk : k < 4) {x : Option Nat × Nat × (Nat → Int64)} (hV : m_MV M) (h1 : ∀ c, c ≠ 216 → c ≠ 217 → t.1 c = s.1 c) (h3 : ∀ j, j ≠ k → t.1 216 j = s.1 216 j ∧ t.1 217 j = s.1 217 j) (h2 : ∀ c, c ≠ 218 → c ≠ 219 → t.2 c = s.2 c) (h4 : ∀ i, (i < 60 * k ∨ 60 * k + 60 ≤ i) → t.2 218 i = s.2 218 i) (hs : t.1 216 k = oI x.1 ∧ (∀ w, x.1 = some w → t.1 217 k = nI x.2.1 ∧ ∀ i, i < x.2.1 → t.2 218 (60 * k + i) = x.2.2 i)) : r_I (m_sl M k x) t ∧ r_F s t := by
  obtain ⟨a1, a2, a3, a4, a5⟩ := hI
  refine ⟨⟨⟨?_, fun i => ?_⟩, ⟨?_, ?_⟩, ?_, fun j hj => ⟨?_, ?_⟩, fun j hj => ?_⟩, fun c hc => ⟨h1 c (by omega) (by omega), h2 c (by omega) (by omega)⟩⟩
  · rw [h1 _ (by omega) (by omega)]; exact a1.1
  · rw [h1 _ (by omega) (by omega)]; exact a1.2 i
  · rw [h1 _ (by omega) (by omega)]; exact a2.1
  · rw [h1 _ (by omega) (by omega)]; exact a2.2
  · exact r_PA_eq a3 (fun c _ _ => h1 c (by omega) (by omega))
  · rw [h1 _ (by omega) (by omega)]; exact (a4 j hj).1
  · exact r_PA_eq (a4 j hj).2 (fun c _ _ => h1 c (by omega) (by omega))
  · dsimp only
    by_cases e : j = k
    · rw [e, w_us]; exact hs
    · have v := (hV.2.2.2.2.2 j hj).1
      rw [w_uo _ _ e, (h3 j e).1, (h3 j e).2]
      refine ⟨(a5 j hj).1, fun w hw => ⟨((a5 j hj).2 w hw).1, fun i hi => ?_⟩⟩
      rw [h4 _ (by omega)]
      exact ((a5 j hj).2 w hw).2 i hi
theorem g8_slot {a : Int32} : fX8_isSlot a = some (nI (m_in a 4).toNat) := by
  unfold fX8_isSlot
  simp (disch := omega) only [↓am_lq, b_lq, b_eq, or_true, true_or, am_gT]
  rw [m_ge (by omega)]
  cases m_in a 4 <;> rfl
theorem g9_slot {a : Int32} : fX9_isSlot a = some (nI (m_in a 4).toNat) := by
  unfold fX9_isSlot
  rw [r_in (m := 3) (by omega) (by decide), am_rq]
  simp (disch := omega) only [b_lq, b_b0, b_b1, b_ft, am_gT]
theorem Q_row (a b c : Int32) : m_OK (fun s => fX8_row s a b c) (fun s => fX9_row s a b c) := m_ok_c fun M hV => by
  by_cases h1 : (m_in a 4 && m_in b 4) = true
  · simp only [Bool.and_eq_true] at h1
    obtain ⟨h2, h3⟩ := h1
    have h2' := h2
    have h3' := h3
    obtain ⟨k, hk, rfl⟩ := m_in_k (by omega) h2
    obtain ⟨w, hw, rfl⟩ := m_in_k (by omega) h3
    by_cases h60 : c ≤ nI 60
    · by_cases h0 : nI 0 ≤ c
      · -- a row
        have hc : m_in c 61 = true := by
          apply decide_eq_true
          refine ⟨h0, ?_⟩
          have := Int32.le_iff_toInt_le.mp h60
          rw [b_toI (by omega)] at this
          rw [Int32.lt_iff_toInt_lt, b_toI (by omega)]
          omega
        obtain ⟨n, hn, rfl⟩ := m_in_k (by omega) hc
        refine ⟨m_sl M k (some w, n, fun _ => 0), nI 0, m_MV_sl hV (show n ≤ 60 by omega) (fun w' hw' => by cases hw'; exact hw), fun s hI => ?_, fun s hI => ?_⟩
        · obtain ⟨t, f1, f2, f3, f4⟩ := c_fillJ (am_si (am_si (am_si s (130 + 2 * k) 0 (nI 1)) (130 + 2 * k) 1 (nI w)) (130 + 2 * k) 2 (nI n)) (130 + 2 * k + 1) 60 0 (by omega)
          have key := c_I_sl (t := t) hV hI hk (x := (some w, n, fun _ => 0)) (fun c hc => by rw [f3]; simp (disch := omega) only [r_so]) (fun c hc => by rw [f4 c (by omega)]; rfl) ⟨by rw [f3]; simp (disch := omega) only [r_si, r_us, r_uo]; rfl, fun w' hw' => by
            cases hw'
            refine ⟨by rw [f3]; simp (disch := omega) only [r_si, r_us, r_uo], by rw [f3]; simp (disch := omega) only [r_si, r_us, r_uo], fun i hi => ?_⟩
            have : i < n := hi
            rw [show 131 + 2 * k = 130 + 2 * k + 1 by omega]
            exact f2 i (by omega)⟩
          refine ⟨t, ?_, key.1, key.2⟩
          unfold fX8_row fX5_begin
          simp (disch := omega) only [g8_slot, ↓am_lq, b_lq, am_rq, m_if0, h2', if_true, b_lt, b_le, b_t, am_g_t, if_neg, if_pos, if_false, f1, am_cq]
        · obtain ⟨I1, m1⟩ := r_0 hI
          obtain ⟨t, ⟨q1, q2, q3, q4⟩, q5⟩ := sp_lp (fun f (t : AS) i => fX9_row_L57 (nI k) (nI n) f t i) n (fun i t => t.1 = (am_si (am_si (am_si s 215 0 (nI 0)) 216 k (nI w)) 217 k (nI n)).1 ∧ (∀ c, c ≠ 218 → t.2 c = s.2 c) ∧ (∀ j, (j < 60 * k ∨ 60 * k + 60 ≤ j) → t.2 218 j = s.2 218 j) ∧ ∀ j, j < i → t.2 218 (60 * k + j) = 0) (fun t => some (t, nI 0)) (fun f i t hi h => by
            refine ⟨am_sj t 218 (60 * k + i) 0, ⟨h.1, fun c hc => by rw [r_jo _ _ _ hc]; exact h.2.1 c hc, fun j hj => by rw [r_ji, r_lo _ _ (by omega)]; exact h.2.2.1 j hj, fun j hj => ?_⟩, ?_⟩
            · rw [r_ji]
              by_cases e : j = i
              · rw [e, r_ls]
              · rw [r_lo _ _ (by omega)]; exact h.2.2.2 j (by omega)
            · rw [fX9_row_L57]
              simp (disch := omega) only [am_lq, b_lq, b_le, b_lt, b_t, b_mul, b_add, am_g_t, if_neg, if_false]) (fun f t h => by
            rw [fX9_row_L57]
            simp (disch := omega) only [b_lq, b_le, if_pos, if_true]) (am_si (am_si (am_si s 215 0 (nI 0)) 216 k (nI w)) 217 k (nI n)) ⟨rfl, fun _ _ => rfl, fun _ _ => rfl, fun j hj => by omega⟩ am_fu (am_fu_gt (by omega))
          have key := r_I_sl (t := t) I1 hk (x := (some w, n, fun _ => 0)) hV (fun c h1 h2 => by rw [q1, r_so _ _ _ (by omega), r_so _ _ _ (by omega)]) (fun j hj => ⟨by rw [q1, r_so _ _ _ (by omega), r_si, r_uo _ _ hj], by rw [q1, r_si, r_uo _ _ hj, r_so _ _ _ (by omega)]⟩) (fun c h1 h2 => by rw [q2 c h1]; rfl) (fun i hi => by rw [q3 i hi]; rfl) ⟨by rw [q1, r_so _ _ _ (by omega), r_si, r_us]; rfl, fun w' hw' => ⟨by rw [q1, r_si, r_us], fun i hi => q4 i hi⟩⟩
          refine ⟨t, ?_, key.1, r_F_tr m1.1 key.2⟩
          unfold fX9_row
          simp (disch := omega) only [↓am_lq, b_lq, g9_slot, am_rq, m_if0, h2', if_true, r_in (m := 3) (x := 3) (by omega) (by decide), m_in_n (show w < 3 + 1 by omega), b_le, b_lt, b_t, am_g_t, if_pos]
          exact q5
      · refine ⟨M, -nI 3, hV, fun s hI => ⟨s, ?_, hI, c_F_refl s⟩, fun s hI => ⟨_, ?_, (r_0 hI).1, (r_0 hI).2.1⟩⟩
        · unfold fX8_row
          simp (disch := omega) only [g8_slot, ↓am_lq, b_lq, am_rq, m_if0, h2', if_true, b_lt, b_le, if_neg, if_false]
          first | done | rfl | (rw [if_pos h60]; first | done | rfl | rw [if_neg h0])
        · unfold fX9_row
          simp (disch := omega) only [↓am_lq, b_lq, g9_slot, am_rq, m_if0, h2', if_true, r_in (m := 3) (x := 3) (by omega) (by decide), m_in_n (show w < 3 + 1 by omega)]
          first | done | rfl | (rw [if_pos h60]; first | done | rfl | rw [if_neg h0])
    · refine ⟨M, -nI 2, hV, fun s hI => ⟨s, ?_, hI, c_F_refl s⟩, fun s hI => ⟨_, ?_, (r_0 hI).1, (r_0 hI).2.1⟩⟩
      · unfold fX8_row
        simp (disch := omega) only [g8_slot, ↓am_lq, b_lq, am_rq, m_if0, h2', if_true, b_lt, b_le, if_neg, if_false]
        first | done | rfl | rw [if_neg h60]
      · unfold fX9_row
        simp (disch := omega) only [↓am_lq, b_lq, g9_slot, am_rq, m_if0, h2', if_true, r_in (m := 3) (x := 3) (by omega) (by decide), m_in_n (show w < 3 + 1 by omega)]
        first | done | rfl | rw [if_neg h60]
  · refine ⟨M, -nI 2, hV, fun s hI => ⟨s, ?_, hI, c_F_refl s⟩, fun s hI => ⟨_, ?_, (r_0 hI).1, (r_0 hI).2.1⟩⟩
    · unfold fX8_row
      simp (disch := omega) only [g8_slot, ↓am_lq, b_lq, am_rq, m_if0]
      rw [m_ge (by omega)]
      cases d2 : m_in a 4 with
      | false => rfl
      | true =>
        cases d3 : m_in b 4 with
        | false => rfl
        | true => exact absurd (by rw [d2, d3]; rfl) h1
    · unfold fX9_row
      simp (disch := omega) only [↓am_lq, b_lq, g9_slot, am_rq, m_if0, r_in (m := 3) (x := 3) (by omega) (by decide)]
      cases d2 : m_in a 4 with
      | false => rfl
      | true =>
        cases d3 : m_in b 4 with
        | false => rfl
        | true => exact absurd (by rw [d2, d3]; rfl) h1
def m_cut (v : Int64) (w : Nat) : Int64 := if w = 0 then v.toInt32.toInt8.toInt32.toInt64 else if w = 1 then v.toInt32.toInt16.toInt32.toInt64 else if w = 2 then v.toInt32.toInt64 else v
/-- a place in a row of n numbers -/
theorem r_sz60 {a : Int32} {n : Nat} (hn : n ≤ 60) : fX9_in a.toInt64 0 (nI n - nI 1).toInt64 = some (nI (m_in a n).toNat) := by
  by_cases c : n = 0
  · rw [c, p_in]
    have : m_in a 0 = false := by
      apply decide_eq_false
      rintro ⟨h1, h2⟩
      exact absurd h2 (Int32.not_lt.mpr h1)
    rw [this, if_neg]
    · rfl
    · rintro ⟨h1, h2⟩
      rw [show (nI 0 - nI 1).toInt64 = -1 from by decide] at h2
      exact absurd (Int64.le_trans h1 h2) (by decide)
  · have h := r_in (a := a) (m := n - 1) (x := (nI n - nI 1).toInt64) (by omega) (by
      rw [show n - 1 + 1 = n by omega]
      have : ∀ n, n < 61 → 0 < n → (nI n - nI 1).toInt64 = (nI n).toInt64 - 1 := by decide
      exact this _ (by omega) (by omega))
    rw [show n - 1 + 1 = n by omega] at h
    exact h
theorem Q_write (a b : Int32) (v : Int64) : m_OK (fun s => fX8_write s a b v) (fun s => fX9_write s a b v) := m_ok_c fun M hV => by
  cases h2' : m_in a 4 with
  | false =>
    refine ⟨M, -nI 2, hV, fun s hI => ⟨s, ?_, hI, c_F_refl s⟩, fun s hI => ⟨_, ?_, (r_0 hI).1, (r_0 hI).2.1⟩⟩
    · unfold fX8_write
      simp (disch := omega) only [g8_slot, ↓am_lq, b_lq, am_rq, m_if0, h2', Bool.false_eq_true, if_false]
    · unfold fX9_write
      simp (disch := omega) only [g9_slot, ↓am_lq, b_lq, am_rq, m_if0, h2', Bool.false_eq_true, if_false]
  | true =>
    have h2 := h2'
    obtain ⟨k, hk, rfl⟩ := m_in_k (by omega) h2
    have v6 := hV.2.2.2.2.2 k hk
    cases ho : (M.2.2.2.2 k).1 with
    | none =>
      refine ⟨M, -nI 6, hV, fun s hI => ⟨s, ?_, hI, c_F_refl s⟩, fun s hI => ⟨_, ?_, (r_0 hI).1, (r_0 hI).2.1⟩⟩
      · have e := (hI.1.2.2.2.2 k hk).1
        rw [ho] at e
        unfold fX8_write
        simp (disch := omega) only [g8_slot, ↓am_lq, b_lq, am_rq, m_if0, h2', if_true, b_lt, b_t, am_g_t, e, Option.isSome_none, b_tf]
      · have e := ((r_0 hI).1.2.2.2.2 k hk).1
        rw [ho] at e
        unfold fX9_write
        simp (disch := omega) only [g9_slot, ↓am_lq, b_lq, oI_q, am_rq, m_if0, h2', if_true, b_lt, b_t, am_g_t, e]
    | some w =>
      have hw := v6.2 w ho
      cases h3 : m_in b (M.2.2.2.2 k).2.1 with
      | false =>
        refine ⟨M, -nI 7, hV, fun s hI => ⟨s, ?_, hI, c_F_refl s⟩, fun s hI => ⟨_, ?_, (r_0 hI).1, (r_0 hI).2.1⟩⟩
        · have e := (hI.1.2.2.2.2 k hk).1
          have e2 := ((hI.1.2.2.2.2 k hk).2 w ho).2.1
          rw [ho] at e
          unfold fX8_write
          simp (disch := omega) only [g8_slot, ↓am_lq, b_lq, am_rq, m_if0, h2', if_true, b_lt, b_t, b_eq, am_g_t, e, Option.isSome_some, b_tt, if_neg, if_false, e2]
          rw [m_if (by omega), h3, if_neg (by simp)]
        · have I1 := (r_0 hI).1
          have e := (I1.2.2.2.2 k hk).1
          have e2 := ((I1.2.2.2.2 k hk).2 w ho).1
          rw [ho, oI_s] at e
          unfold fX9_write
          simp (disch := omega) only [g9_slot, ↓am_lq, b_lq, oI_q, am_rq, m_if0, h2', if_true, b_lt, b_t, b_nn, am_g_t, e, if_false, e2]
          rw [r_sz60 v6.1, am_rq, m_if0, h3, if_neg (by simp)]
      | true =>
        have h3' := h3
        have v60 := v6.1
        obtain ⟨j, hj, rfl⟩ := m_in_k (by omega) h3
        refine ⟨m_sl M k (some w, (M.2.2.2.2 k).2.1, fun i => if i = j then m_cut v w else (M.2.2.2.2 k).2.2 i), nI 0, m_MV_sl hV v60 (fun w' hw' => by cases hw'; exact hw), fun s hI => ?_, fun s hI => ?_⟩
        · have e := (hI.1.2.2.2.2 k hk).1
          obtain ⟨e1, e2, e3⟩ := (hI.1.2.2.2.2 k hk).2 w ho
          rw [ho] at e
          have key := c_I_sl (t := am_sj s (130 + 2 * k + 1) j (m_cut v w)) hV hI hk (x := (some w, (M.2.2.2.2 k).2.1, fun i => if i = j then m_cut v w else (M.2.2.2.2 k).2.2 i)) (fun c hc => rfl) (fun c hc => by rw [r_jo _ _ _ (by omega)]) ⟨e, fun w' hw' => by
            cases hw'
            refine ⟨e1, e2, fun i hi => ?_⟩
            rw [show 131 + 2 * k = 130 + 2 * k + 1 by omega, r_ji]
            by_cases c : i = j
            · rw [c, r_ls]; exact (if_pos rfl).symm
            · rw [r_lo _ _ c]
              dsimp only
              rw [if_neg c]
              have := e3 i hi
              rw [show 131 + 2 * k = 130 + 2 * k + 1 by omega] at this
              exact this⟩
          refine ⟨_, ?_, key.1, key.2⟩
          unfold fX8_write fX5_put m_cut
          have hj' : j < (M.2.2.2.2 k).2.1 := hj
          rcases (by omega : w = 0 ∨ w = 1 ∨ w = 2 ∨ w = 3) with q | q | q | q <;> subst q <;> simp (disch := omega) only [g8_slot, ↓am_lq, b_lq, am_rq, am_cq, m_if0, h2', if_true, b_lt, b_t, b_eq, am_g_t, e, Option.isSome_some, b_tt, if_neg, if_pos, if_false, e1, e2]
        · obtain ⟨I1, m1⟩ := r_0 hI
          have e := (I1.2.2.2.2 k hk).1
          obtain ⟨e2, e3⟩ := (I1.2.2.2.2 k hk).2 w ho
          rw [ho, oI_s] at e
          have key := r_I_sl (t := am_sj (am_si s 215 0 (nI 0)) 218 (60 * k + j) (m_cut v w)) I1 hk (x := (some w, (M.2.2.2.2 k).2.1, fun i => if i = j then m_cut v w else (M.2.2.2.2 k).2.2 i)) hV (fun c _ _ => rfl) (fun c _ => ⟨rfl, rfl⟩) (fun c h1 h2 => by rw [r_jo _ _ _ h1]) (fun i hi => by rw [r_ji, r_lo _ _ (by omega)]) ⟨e, fun w' hw' => ⟨e2, fun i hi => by
            rw [r_ji]
            by_cases c : i = j
            · rw [c, r_ls]; exact (if_pos rfl).symm
            · rw [r_lo _ _ (by omega)]
              dsimp only
              rw [if_neg c]
              exact e3 i hi⟩⟩
          refine ⟨_, ?_, key.1, r_F_tr m1.1 key.2⟩
          unfold fX9_write
          simp (disch := omega) only [g9_slot, ↓am_lq, b_lq, oI_q, am_rq, m_if0, h2', if_true, b_lt, b_t, b_nn, am_g_t, e, if_false, e2]
          rw [r_sz60 v60, am_rq, m_if0, h3', if_pos rfl]
          unfold fX9_cut m_cut
          rcases (by omega : w = 0 ∨ w = 1 ∨ w = 2 ∨ w = 3) with q | q | q | q <;> subst q <;> simp (disch := omega) only [↓am_lq, b_lq, am_rq, if_true, b_lt, b_t, b_eq, b_mul, b_add, am_g_t, if_neg, if_pos, if_false]
end RO
