/-! WOULD: ask. -/
/-- how many of the starts S, of the first n, give o -/
def m_cnn (S : Nat) (F : Nat → Option Nat) (o : Option Nat) : Nat → Nat
  | 0 => 0
  | k + 1 => if S.testBit k then (if F k = o then m_cnn S F o k + 1 else m_cnn S F o k) else m_cnn S F o k
theorem m_cnn_s (S : Nat) (F : Nat → Option Nat) (o : Option Nat) (k : Nat) : m_cnn S F o (k + 1) = if S.testBit k then (if F k = o then m_cnn S F o k + 1 else m_cnn S F o k) else m_cnn S F o k := Eq.trans rfl rfl
/-- the most left, at worst: counted at the end; counted as one goes -/
def m_wr (S : Nat) (F : Nat → Option Nat) (N : Nat) : Nat → Nat
  | 0 => 0
  | k + 1 => if S.testBit k then max (m_wr S F N k) (m_cnn S F (F k) N) else m_wr S F N k
theorem m_wr_s (S : Nat) (F : Nat → Option Nat) (N k : Nat) : m_wr S F N (k + 1) = if S.testBit k then max (m_wr S F N k) (m_cnn S F (F k) N) else m_wr S F N k := Eq.trans rfl rfl
def m_rw (S : Nat) (F : Nat → Option Nat) : Nat → Nat
  | 0 => 0
  | k + 1 => if S.testBit k then max (m_rw S F k) (m_cnn S F (F k) (k + 1)) else m_rw S F k
theorem m_rw_s (S : Nat) (F : Nat → Option Nat) (k : Nat) : m_rw S F (k + 1) = if S.testBit k then max (m_rw S F k) (m_cnn S F (F k) (k + 1)) else m_rw S F k := Eq.trans rfl rfl
theorem m_cnn_le (S : Nat) (F : Nat → Option Nat) (o : Option Nat) : ∀ k, m_cnn S F o k ≤ k
  | 0 => Nat.le_refl 0
  | k + 1 => by
    have ih := m_cnn_le S F o k
    rw [m_cnn_s]
    split
    · split <;> omega
    · omega
theorem m_cnn_mono (S : Nat) (F : Nat → Option Nat) (o : Option Nat) (k : Nat) : ∀ j, m_cnn S F o k ≤ m_cnn S F o (k + j)
  | 0 => Nat.le_refl _
  | j + 1 => by
    have ih := m_cnn_mono S F o k j
    rw [← Nat.add_assoc, m_cnn_s]
    split
    · split <;> omega
    · exact ih
theorem m_rw_le (S : Nat) (F : Nat → Option Nat) : ∀ k, m_rw S F k ≤ k
  | 0 => Nat.le_refl 0
  | k + 1 => by
    have ih := m_rw_le S F k
    have := m_cnn_le S F (F k) (k + 1)
    rw [m_rw_s]
    split
    · exact Nat.max_le.mpr ⟨by omega, this⟩
    · omega
theorem m_rw_u (S : Nat) (F : Nat → Option Nat) (k : Nat) : m_rw S F k ≤ m_rw S F (k + 1) := by
  rw [m_rw_s]
  split
  · exact Nat.le_max_left _ _
  · exact Nat.le_refl _
theorem m_cnn_rw (S : Nat) (F : Nat → Option Nat) (o : Option Nat) : ∀ n, m_cnn S F o n ≤ m_rw S F n
  | 0 => Nat.le_refl 0
  | n + 1 => by
    have ih := m_cnn_rw S F o n
    have u := m_rw_u S F n
    by_cases c : S.testBit n = true
    · by_cases d : F n = o
      · subst d
        rw [m_rw_s, if_pos c]
        exact Nat.le_max_right _ _
      · rw [m_cnn_s, if_pos c, if_neg d]; omega
    · rw [m_cnn_s, if_neg c]; omega
theorem m_wr_le (S : Nat) (F : Nat → Option Nat) (n : Nat) : ∀ k, m_wr S F n k ≤ m_rw S F n
  | 0 => Nat.zero_le _
  | k + 1 => by
    rw [m_wr_s]
    split
    · exact Nat.max_le.mpr ⟨m_wr_le S F n k, m_cnn_rw S F (F k) n⟩
    · exact m_wr_le S F n k
theorem m_rw_wr0 (S : Nat) (F : Nat → Option Nat) (n : Nat) : ∀ k, k ≤ n → m_rw S F k ≤ m_wr S F n k
  | 0, _ => Nat.le_refl _
  | k + 1, h => by
    have ih := m_rw_wr0 S F n k (by omega)
    have m := m_cnn_mono S F (F k) (k + 1) (n - (k + 1))
    rw [show k + 1 + (n - (k + 1)) = n by omega] at m
    rw [m_rw_s, m_wr_s]
    split
    · exact Nat.max_le.mpr ⟨Nat.le_trans ih (Nat.le_max_left _ _), Nat.le_trans m (Nat.le_max_right _ _)⟩
    · exact ih
theorem m_rw_wr (S : Nat) (F : Nat → Option Nat) (n : Nat) : m_wr S F n n = m_rw S F n := Nat.le_antisymm (m_wr_le S F n n) (m_rw_wr0 S F n n (Nat.le_refl n))
/-- whom to ask -/
def m_bk (wst : Nat → Nat) (c : Nat) : Nat → Option Nat × Nat
  | 0 => (none, c)
  | p + 1 => if wst p < (m_bk wst c p).2 then (some p, wst p) else m_bk wst c p
theorem m_bk_s (wst : Nat → Nat) (c p : Nat) : m_bk wst c (p + 1) = if wst p < (m_bk wst c p).2 then (some p, wst p) else m_bk wst c p := Eq.trans rfl rfl
theorem m_bk_le (wst : Nat → Nat) (c : Nat) : ∀ p, (m_bk wst c p).2 ≤ c
  | 0 => Nat.le_refl _
  | p + 1 => by
    have ih := m_bk_le wst c p
    rw [m_bk_s]
    split
    · dsimp only; omega
    · exact ih
theorem oI_eq {a b : Option Nat} (ha : ∀ k, a = some k → k < 61) (hb : ∀ k, b = some k → k < 61) : (oI a = oI b) = (a = b) := by
  cases a with
  | none =>
    cases b with
    | none => exact propext ⟨fun _ => rfl, fun _ => rfl⟩
    | some k =>
      have := hb k rfl
      rw [oI_s, b_nn2 (by omega)]
      exact propext ⟨fun z => z.elim, fun z => (by cases z)⟩
  | some j =>
    have h1 := ha j rfl
    cases b with
    | none =>
      rw [oI_s, b_nn (by omega)]
      exact propext ⟨fun z => z.elim, fun z => (by cases z)⟩
    | some k =>
      have := hb k rfl
      rw [oI_s, oI_s, b_eq (by omega) (by omega)]
      exact propext ⟨fun z => by rw [z], fun z => by injection z⟩
def m_ix : Option Nat → Nat
  | none => 0
  | some k => 1 + k
theorem b_ix (o : Option Nat) : nI 1 + oI o = nI (m_ix o) := by
  cases o with
  | none => decide
  | some k => rw [oI_s, b_add]; rfl
theorem m_ix_i {a b : Option Nat} (h : m_ix a = m_ix b) : a = b := by
  cases a <;> cases b <;> simp only [m_ix] at h
  · rfl
  · omega
  · omega
  · rw [show _ = _ from Nat.add_left_cancel h]
section AK
variable {M : m_M} {s t : AS} {P : m_P} {S n0 n5 : Nat} {F : Nat → Nat → Option Nat}
theorem c_like (hn : n0 ≤ 7) (e1 : s.1 25 1 = nI n0) (hS : S < 1024) (hF : ∀ q p, q < n0 → p < 8 → s.1 (208 + q) p = oI (F q p)) (hb : ∀ q p k, F q p = some k → k < 61) {q p : Nat} (hq : q < n0) (hp : p < 8) : fX8_likeStarts s (nI S) (nI q) (nI p) = some (nI (m_cnn S (fun k => F k p) (F q p) n0)) := by
  unfold fX8_likeStarts
  simp only [b_lq]
  refine sp_lq (fun f (x : Int32) i => fX8_likeStarts_L6 (nI S) (nI q) (nI p) s f x i) n0 (fun i x => x = nI (m_cnn S (fun k => F k p) (F q p) i)) (fun r => r = some (nI (m_cnn S (fun k => F k p) (F q p) n0))) (fun f i x hi hx => ?_) (fun f x hx => ?_) (nI 0) rfl am_fu (am_fu_gt (by omega))
  · left
    refine ⟨_, rfl, ?_⟩
    try dsimp only
    subst hx
    have y1 := hF i p hi hp
    have y2 := hF q p hq hp
    have e : (oI (F i p) = oI (F q p)) = (F i p = F q p) := oI_eq (fun k h => hb _ _ _ h) (fun k h => hb _ _ _ h)
    rw [fX8_likeStarts_L6, m_cnn_s]
    simp (disch := omega) only [↓am_lq, b_lq, e1, b_le, c_holds, am_rq, m_if0, b_lt, b_t, am_g_t, y1, y2, e, b_add, if_neg]
    cases S.testBit i
    · rfl
    · by_cases c : F i p = F q p
      · simp only [if_true, if_pos c]
      · simp only [if_true, if_neg c]
  · try dsimp only
    rw [fX8_likeStarts_L6, hx]
    simp (disch := omega) only [b_lq, e1, b_le, if_pos]
theorem c_worst (hn : n0 ≤ 7) (e1 : s.1 25 1 = nI n0) (hS : S < 1024) (hF : ∀ q p, q < n0 → p < 8 → s.1 (208 + q) p = oI (F q p)) (hb : ∀ q p k, F q p = some k → k < 61) {p : Nat} (hp : p < 8) : fX8_leftAtWorst s (nI S) (nI p) = some (nI (m_wr S (fun k => F k p) n0 n0)) := by
  unfold fX8_leftAtWorst
  simp only [b_lq]
  refine sp_lq (fun f (x : Int32) i => fX8_leftAtWorst_L5 (nI S) (nI p) s f x i) n0 (fun i x => x = nI (m_wr S (fun k => F k p) n0 i)) (fun r => r = some (nI (m_wr S (fun k => F k p) n0 n0))) (fun f i x hi hx => ?_) (fun f x hx => ?_) (nI 0) rfl am_fu (am_fu_gt (by omega))
  · left
    refine ⟨_, rfl, ?_⟩
    try dsimp only
    subst hx
    have y1 := c_like hn e1 hS hF hb hi hp
    have b1 := m_cnn_le S (fun k => F k p) (F i p) n0
    have b2 := m_wr_le S (fun k => F k p) n0 i
    have b3 := m_rw_le S (fun k => F k p) n0
    rw [fX8_leftAtWorst_L5, m_wr_s]
    simp (disch := omega) only [↓am_lq, b_lq, e1, b_le, c_holds, am_rq, m_if0, b_lt, y1, b_add, if_neg]
    cases S.testBit i
    · rfl
    · by_cases c : m_wr S (fun k => F k p) n0 i < m_cnn S (fun k => F k p) (F i p) n0
      · simp only [if_true, if_pos c]
        rw [Nat.max_eq_right (by omega)]
      · simp only [if_true, if_neg c]
        rw [Nat.max_eq_left (by omega)]
  · try dsimp only
    rw [fX8_leftAtWorst_L5, hx]
    simp (disch := omega) only [b_lq, e1, b_le, if_pos]
theorem c_bestAsked (hn : n0 ≤ 7) (h5 : n5 ≤ 8) (e1 : s.1 25 1 = nI n0) (e6 : s.1 25 6 = nI n5) (hS : S < 1024) (hF : ∀ q p, q < n0 → p < 8 → s.1 (208 + q) p = oI (F q p)) (hb : ∀ q p k, F q p = some k → k < 61) : fX8_bestAsked s (nI S) = some (oI (m_bk (fun p => m_rw S (fun k => F k p) n0) (w_pc S) n5).1) := by
  have hpc : w_pc S ≤ 10 := w_pc_n 10 (by omega) S hS hS
  unfold fX8_bestAsked
  rw [b_bc S hS, am_rq]
  simp only [b_lq, oI_q]
  refine sp_lq (fun f (x : Int32 × Int32) i => fX8_bestAsked_L10 (nI S) s f x.1 x.2 i) n5 (fun i x => x = (oI (m_bk (fun p => m_rw S (fun k => F k p) n0) (w_pc S) i).1, nI (m_bk (fun p => m_rw S (fun k => F k p) n0) (w_pc S) i).2)) (fun r => r = some (oI (m_bk (fun p => m_rw S (fun k => F k p) n0) (w_pc S) n5).1)) (fun f i x hi hx => ?_) (fun f x hx => ?_) (oI none, nI (w_pc S)) rfl am_fu (am_fu_gt (by omega))
  · left
    refine ⟨_, rfl, ?_⟩
    try dsimp only
    subst hx
    have y1 := c_worst hn e1 hS hF hb (p := i) (by omega)
    rw [m_rw_wr] at y1
    have b3 := m_rw_le S (fun k => F k i) n0
    have b4 := m_bk_le (fun p => m_rw S (fun k => F k p) n0) (w_pc S) i
    rw [fX8_bestAsked_L10, m_bk_s]
    simp (disch := omega) only [↓am_lq, b_lq, e6, b_le, am_rq, y1, b_add, if_neg]
    by_cases c : m_rw S (fun k => F k i) n0 < (m_bk (fun p => m_rw S (fun k => F k p) n0) (w_pc S) i).2
    · rw [if_neg (by omega), if_pos c]; rfl
    · rw [if_pos (by omega), if_neg c]
  · try dsimp only
    rw [fX8_bestAsked_L10, hx]
    simp (disch := omega) only [b_lq, e6, b_le, if_pos]
theorem r_W_236 {x y A sh : Nat} {ab : Option Nat} {k : Nat} {v : Int32} (h : r_W x y A sh ab s) : r_W x y A sh ab (am_si s 236 k v) := by
  unfold r_W at h ⊢
  rw [r_so _ _ _ (by omega)]
  exact h
abbrev m_F (P : m_P) (q p : Nat) : Option Nat := w_fe P.1 (m_sc P q (P.1.1 2)) p
theorem r_ask74 (hV : m_PV P) (hS : S < 1024) {p : Nat} (hp : p < 8) {J : AS → Int32 → Option (AS × Int32)} (u : AS) (k3 : r_PL P.1 u) (k4 : ∃ z, r_W z (P.1.1 2) (m_AN P) (m_BA P) none u) (h0 : ∀ i, i < 62 → u.1 236 i = nI 0) : ∃ w, fX9_ask_L74 (nI S) (nI p) J am_fu u (nI 0) (nI 0) = J w (nI (m_rw S (fun k => m_F P k p) (P.1.1 0))) ∧ r_mv u w ∧ r_PL P.1 w ∧ ∃ z, r_W z (P.1.1 2) (m_AN P) (m_BA P) none w := by
  have hV' := hV.1
  obtain ⟨v0, v4, v5, vr, vp, vg, vs, vr2, vo, vl, vz⟩ := hV'
  refine sp_lq (fun f (x : AS × Int32) i => fX9_ask_L74 (nI S) (nI p) J f x.1 x.2 i) (P.1.1 0) (fun i x => (r_mv u x.1 ∧ r_PL P.1 x.1 ∧ (∃ z, r_W z (P.1.1 2) (m_AN P) (m_BA P) none x.1) ∧ ∀ o, m_ix o < 62 → x.1.1 236 (m_ix o) = nI (m_cnn S (fun k => m_F P k p) o i)) ∧ x.2 = nI (m_rw S (fun k => m_F P k p) i)) (fun r => ∃ w, r = J w (nI (m_rw S (fun k => m_F P k p) (P.1.1 0))) ∧ r_mv u w ∧ r_PL P.1 w ∧ ∃ z, r_W z (P.1.1 2) (m_AN P) (m_BA P) none w) (fun f i x hi hx => ?_) (fun f x hx => ?_) (u, nI 0) ⟨⟨r_mv_refl u, k3, k4, fun o ho => h0 _ ho⟩, rfl⟩ am_fu (am_fu_gt (by omega))
  · left
    obtain ⟨t, x⟩ := x
    obtain ⟨⟨k1, k3, ⟨z, k4⟩, k6⟩, k2⟩ := hx
    dsimp only at k1 k2 k3 k4 k6 ⊢
    subst k2
    have e0 : t.1 222 0 = nI (P.1.1 0) := k3.1 0 (by omega)
    rw [fX9_ask_L74, m_rw_s]
    cases hs : S.testBit i with
    | false =>
      refine ⟨(t, nI (m_rw S (fun k => m_F P k p) i)), ⟨⟨k1, k3, ⟨z, k4⟩, fun o ho => ?_⟩, by dsimp only; rw [if_neg (by simp)]⟩, ?_⟩
      · try dsimp only
        rw [m_cnn_s, hs, if_neg (by simp)]
        exact k6 o ho
      · simp (disch := omega) only [↓am_lq, b_lq, e0, b_le, b_lt, b_t, am_g_t, c_isBit, am_rq, m_if0, hs, b_add, if_neg, if_false, Bool.false_eq_true]
    | true =>
      have k5 : r_mv t (am_si t 215 25 (nI i)) := r_mv_si (r_mv_refl t) _ (by omega)
      obtain ⟨d1, d2, d3, d4, d5, d6, d7, d8⟩ := k4
      obtain ⟨w, w1, w2, w3, w4, w5, w6⟩ := r_wd3 (x := i) (y := P.1.1 2) hV hi vr2 (am_si t 215 25 (nI i)) (r_PL_fr (R := fun c => c = 215) k3 (fr_si (fr_refl _ t) _ _ rfl) (fun c _ _ => by omega)) ⟨by simp (disch := omega) only [r_si, r_uo, d1], by simp (disch := omega) only [r_si, r_uo, d2], by rw [r_si, r_us], by simp (disch := omega) only [r_si, r_uo, d4], by simp (disch := omega) only [r_si, r_uo, d5], by simp (disch := omega) only [r_si, r_uo, d6], by simp (disch := omega) only [r_si, r_uo, d7], d8⟩
      have e1 : w.1 233 p = oI (m_F P i p) := w5.1.2.2.2.1 p hp
      have w7 : ∀ o, m_ix o < 62 → w.1 236 (m_ix o) = nI (m_cnn S (fun k => m_F P k p) o i) := fun o ho => by rw [w6, r_so _ _ _ (by omega)]; exact k6 o ho
      have hix : m_ix (m_F P i p) < 62 := by
        cases h : m_F P i p with
        | none => show 0 < 62; omega
        | some k => have := w_fe_lt h; show 1 + k < 62; omega
      have e2 := w7 _ hix
      have e3 : m_cnn S (fun k => m_F P k p) (m_F P i p) (i + 1) = m_cnn S (fun k => m_F P k p) (m_F P i p) i + 1 := by rw [m_cnn_s, if_pos hs, if_pos rfl]
      have b1 := m_cnn_le S (fun k => m_F P k p) (m_F P i p) i
      have b2 := m_rw_le S (fun k => m_F P k p) i
      refine ⟨(am_si w 236 (m_ix (m_F P i p)) (nI (m_cnn S (fun k => m_F P k p) (m_F P i p) i + 1)), nI (max (m_rw S (fun k => m_F P k p) i) (m_cnn S (fun k => m_F P k p) (m_F P i p) i + 1))), ⟨⟨r_mv_sr (r_mv_tr (r_mv_tr k1 k5) w2) _ (by omega), r_PL_fr (R := fun c => c = 236) w4 (fr_si (fr_refl _ w) _ _ rfl) (fun c _ _ => by omega), ⟨i, r_W_236 w3⟩, fun o ho => ?_⟩, ?_⟩, ?_⟩
      · try dsimp only
        rw [r_si]
        by_cases c : o = m_F P i p
        · rw [c, r_us, e3]
        · rw [r_uo _ _ (fun z => c (m_ix_i z)), w7 o ho, m_cnn_s, if_pos hs, if_neg (fun z => c z.symm)]
      · try dsimp only
        rw [if_pos rfl, e3]
      · simp (disch := omega) only [↓am_lq, b_lq, e0, b_le, b_lt, b_t, am_g_t, c_isBit, am_rq, m_if0, hs, b_add, if_neg, if_true, w1, am_cq, e1, b_ix, e2, r_so, r_si, r_us]
        by_cases c : m_cnn S (fun k => m_F P k p) (m_F P i p) i + 1 ≤ m_rw S (fun k => m_F P k p) i
        · rw [if_pos c, Nat.max_eq_left c]
        · rw [if_neg c, Nat.max_eq_right (by omega)]
  · obtain ⟨t, x⟩ := x
    obtain ⟨⟨k1, k3, k4, k6⟩, k2⟩ := hx
    dsimp only at k1 k2 k3 k4 ⊢
    subst k2
    have e0 : t.1 222 0 = nI (P.1.1 0) := k3.1 0 (by omega)
    refine ⟨t, ?_, k1, k3, k4⟩
    rw [fX9_ask_L74]
    simp (disch := omega) only [b_lq, e0, b_le, b_lt, b_t, am_g_t, if_pos, if_true]
theorem r_ask47 {J : AS → Option (AS × Int32)} (u : AS) (k3 : r_PL P.1 u) (k4 : ∃ z, r_W z (P.1.1 2) (m_AN P) (m_BA P) none u) : ∃ w, fX9_ask_L47 J am_fu u (nI 0) = J w ∧ r_mv u w ∧ r_PL P.1 w ∧ (∃ z, r_W z (P.1.1 2) (m_AN P) (m_BA P) none w) ∧ ∀ i, i < 62 → w.1 236 i = nI 0 := by
  refine sp_lq (fun f (x : AS) i => fX9_ask_L47 J f x i) 62 (fun i x => r_mv u x ∧ r_PL P.1 x ∧ (∃ z, r_W z (P.1.1 2) (m_AN P) (m_BA P) none x) ∧ ∀ k, k < i → x.1 236 k = nI 0) (fun r => ∃ w, r = J w ∧ r_mv u w ∧ r_PL P.1 w ∧ (∃ z, r_W z (P.1.1 2) (m_AN P) (m_BA P) none w) ∧ ∀ i, i < 62 → w.1 236 i = nI 0) (fun f i x hi hx => ?_) (fun f x hx => ?_) u ⟨r_mv_refl u, k3, k4, fun k hk => by omega⟩ am_fu (am_fu_gt (by omega))
  · left
    obtain ⟨k1, k3, ⟨z, k4⟩, k6⟩ := hx
    refine ⟨am_si x 236 i (nI 0), ⟨r_mv_sr k1 _ (by omega), r_PL_fr (R := fun c => c = 236) k3 (fr_si (fr_refl _ x) _ _ rfl) (fun c _ _ => by omega), ⟨z, r_W_236 k4⟩, fun k hk => ?_⟩, ?_⟩
    · rw [r_si]
      by_cases c : k = i
      · rw [c, r_us]
      · rw [r_uo _ _ c]; exact k6 k (by omega)
    · rw [fX9_ask_L47]
      simp (disch := omega) only [↓am_lq, b_lq, b_le, b_lt, b_t, am_g_t, b_add, if_neg]
  · obtain ⟨k1, k3, k4, k6⟩ := hx
    refine ⟨x, ?_, k1, k3, k4, k6⟩
    rw [fX9_ask_L47]
    simp (disch := omega) only [b_lq, b_le, if_pos]
theorem r_ask35 (hV : m_PV P) (hS : S < 1024) (u : AS) (k3 : r_PL P.1 u) (k4 : ∃ z, r_W z (P.1.1 2) (m_AN P) (m_BA P) none u) : ∃ w, fX9_ask_L35 (nI S) am_fu u (oI none) (nI (w_pc S)) (nI 0) = some (w, oI (m_bk (fun p => m_rw S (fun k => m_F P k p) (P.1.1 0)) (w_pc S) (P.1.1 5)).1) ∧ r_mv u w := by
  have hV' := hV.1
  obtain ⟨v0, v4, v5, vr, vp, vg, vs, vr2, vo, vl, vz⟩ := hV'
  have hpc : w_pc S ≤ 10 := w_pc_n 10 (by omega) S hS hS
  refine sp_lq (fun f (x : AS × Int32 × Int32) i => fX9_ask_L35 (nI S) f x.1 x.2.1 x.2.2 i) (P.1.1 5) (fun i x => (r_mv u x.1 ∧ r_PL P.1 x.1 ∧ ∃ z, r_W z (P.1.1 2) (m_AN P) (m_BA P) none x.1) ∧ x.2 = (oI (m_bk (fun p => m_rw S (fun k => m_F P k p) (P.1.1 0)) (w_pc S) i).1, nI (m_bk (fun p => m_rw S (fun k => m_F P k p) (P.1.1 0)) (w_pc S) i).2)) (fun r => ∃ w, r = some (w, oI (m_bk (fun p => m_rw S (fun k => m_F P k p) (P.1.1 0)) (w_pc S) (P.1.1 5)).1) ∧ r_mv u w) (fun f i x hi hx => ?_) (fun f x hx => ?_) (u, oI none, nI (w_pc S)) ⟨⟨r_mv_refl u, k3, k4⟩, rfl⟩ am_fu (am_fu_gt (by omega))
  · left
    obtain ⟨t, x⟩ := x
    obtain ⟨⟨k1, k3, k4⟩, k2⟩ := hx
    dsimp only at k1 k2 k3 k4 ⊢
    subst k2
    have e6 := r_people k3
    have b3 := m_rw_le S (fun k => m_F P k i) (P.1.1 0)
    have b4 := m_bk_le (fun p => m_rw S (fun k => m_F P k p) (P.1.1 0)) (w_pc S) i
    rw [fX9_ask_L35, m_bk_s, e6, am_rq]
    simp (disch := omega) only [↓am_lq, b_lq, b_le, if_neg]
    obtain ⟨w1, a1, a2, a3, a4, a5⟩ := r_ask47 (P := P) (J := fun s11 => fX9_ask_L74 (nI S) (nI i) (fun (s12 : AS) (x13 : Int32) => if x13 < nI (m_bk (fun p => m_rw S (fun k => m_F P k p) (P.1.1 0)) (w_pc S) i).2 then fX9_ask_L35 (nI S) f s12 (nI i) x13 (nI i + nI 1) else fX9_ask_L35 (nI S) f s12 (oI (m_bk (fun p => m_rw S (fun k => m_F P k p) (P.1.1 0)) (w_pc S) i).1) (nI (m_bk (fun p => m_rw S (fun k => m_F P k p) (P.1.1 0)) (w_pc S) i).2) (nI i + nI 1)) am_fu s11 (nI 0) (nI 0)) t k3 k4
    obtain ⟨w2, c1, c2, c3, c4⟩ := r_ask74 (p := i) (J := fun (s12 : AS) (x13 : Int32) => if x13 < nI (m_bk (fun p => m_rw S (fun k => m_F P k p) (P.1.1 0)) (w_pc S) i).2 then fX9_ask_L35 (nI S) f s12 (nI i) x13 (nI i + nI 1) else fX9_ask_L35 (nI S) f s12 (oI (m_bk (fun p => m_rw S (fun k => m_F P k p) (P.1.1 0)) (w_pc S) i).1) (nI (m_bk (fun p => m_rw S (fun k => m_F P k p) (P.1.1 0)) (w_pc S) i).2) (nI i + nI 1)) hV hS (by omega) w1 a3 a4 a5
    refine ⟨(w2, _), ⟨⟨r_mv_tr (r_mv_tr k1 a2) c2, c3, c4⟩, rfl⟩, ?_⟩
    refine (a1.trans c1).trans ?_
    try dsimp only
    simp (disch := omega) only [b_lt, b_add]
    by_cases c : m_rw S (fun k => m_F P k i) (P.1.1 0) < (m_bk (fun p => m_rw S (fun k => m_F P k p) (P.1.1 0)) (w_pc S) i).2
    · rw [if_pos c, if_pos c]; rfl
    · rw [if_neg c, if_neg c]
  · obtain ⟨t, x⟩ := x
    obtain ⟨⟨k1, k3, k4⟩, k2⟩ := hx
    dsimp only at k1 k2 k3 k4 ⊢
    subst k2
    have e6 := r_people k3
    refine ⟨t, ?_, k1⟩
    rw [fX9_ask_L35, e6, am_rq]
    simp (disch := omega) only [b_le, if_pos]
theorem Q_ask (a : Int32) : m_OK (fun s => fX8_ask s a) (fun s => fX9_ask s a) := m_ok_v (fun M => m_rk M a (m_tf M.2.2.1.1 (M.2.2.2.2 a.toNatClampNeg)) (oI (m_bk (fun p => m_rw (m_bs (m_so M.2.2.1 (M.2.2.2.2 a.toNatClampNeg)) (M.2.2.1.1.1 0)) (fun k => m_F M.2.2.1 k p) (M.2.2.1.1.1 0)) (w_pc (m_bs (m_so M.2.2.1 (M.2.2.2.2 a.toNatClampNeg)) (M.2.2.1.1.1 0))) (M.2.2.1.1.1 5)).1))
  (fun M s hV hI => by
    unfold fX8_ask
    rw [c_lacks hI.1 hV, am_rq]
    have v0 := (m_MV_P hV).1.1
    have v5 := (m_MV_P hV).1.2.2.1
    cases hb : m_in a 4 && decide (0 < M.2.2.1.1.1 6) with
    | false =>
      obtain ⟨h1, -⟩ := m_lk_f hb (b := true) (r := nI 0)
      rw [h1, (m_lk_f hb).2]
      exact ⟨s, if_neg (by decide), hI, c_F_refl s⟩
    | true =>
      have hb' := hb
      rw [Bool.and_eq_true] at hb
      have hl := of_decide_eq_true hb.2
      obtain ⟨j, hj, rfl⟩ := m_in_k (by omega) hb.1
      rw [b_t (by omega)]
      cases hw : (M.2.2.2.2 j).1 with
      | none =>
        obtain ⟨h1, -⟩ := m_lk_n hj hb' hw (b := true) (r := nI 0)
        rw [h1, (m_lk_n hj hb' hw).2]
        exact ⟨s, if_neg (by decide), hI, c_F_refl s⟩
      | some w =>
        obtain ⟨h1, -⟩ := m_lk_s hj hb' hw (b := true) (r := nI 0)
        rw [h1, (m_lk_s hj hb' hw).2]
        obtain ⟨x1, x2, x3⟩ := c_slot hI.1 hV hj hw
        have e6 : s.1 25 6 = nI (M.2.2.1.1.1 5) := T_np hI.1.2.2.1.1 (j := 5) (by omega)
        have ct := c_tellsFalls (D := M.2.2.1.1) x1 x2 x3 e6
        simp (disch := omega) only [↓am_lq, b_lq, b_lt, b_t, am_g_t, ct, am_rq, m_if0, if_true]
        cases ht : m_tf M.2.2.1.1 (M.2.2.2.2 j) with
        | false =>
          have ht' : (decide ((M.2.2.2.2 j).2.1 % 2 = 0) && m_al (m_of M.2.2.1.1 (M.2.2.2.2 j).2.2) ((M.2.2.2.2 j).2.1 / 2)) = false := ht
          rw [ht']
          exact ⟨s, rfl, hI, c_F_refl s⟩
        | true =>
          have ht' : (decide ((M.2.2.2.2 j).2.1 % 2 = 0) && m_al (m_of M.2.2.1.1 (M.2.2.2.2 j).2.2) ((M.2.2.2.2 j).2.1 / 2)) = true := ht
          rw [ht']
          obtain ⟨t, t1, t2, t3, t4⟩ := c_startsBy hV hl hj hw ht s hI
          have hS : m_bs (m_so M.2.2.1 (M.2.2.2.2 j)) (M.2.2.1.1.1 0) < 1024 := m_bs_lt (n := 10) _ _ (by omega)
          have ca := c_bestAsked (S := m_bs (m_so M.2.2.1 (M.2.2.2.2 j)) (M.2.2.1.1.1 0)) (F := fun q p => m_F M.2.2.1 q p) v0 v5 (T_np t2.1.2.2.1.1 (j := 0) (by omega)) (T_np t2.1.2.2.1.1 (j := 5) (by omega)) hS t4 (fun q p k h => w_fe_lt h)
          refine ⟨t, ?_, t2, t3⟩
          rw [if_pos rfl, if_pos rfl, t1, am_cq, ca, am_rq])
  (fun M s hV hI => by
    obtain ⟨I1, m1⟩ := r_0 hI
    have v0 := (m_MV_P hV).1.1
    unfold fX9_ask
    simp only [↓am_lq, b_lq]
    rw [r_whyNot I1 hV, am_rq]
    cases hb : m_in a 4 && decide (0 < M.2.2.1.1.1 6) with
    | false =>
      rw [(m_lk_f hb).2, (m_lk_f hb).2]
      exact ⟨_, if_neg (by decide), I1, m1.1⟩
    | true =>
      have hb' := hb
      rw [Bool.and_eq_true] at hb
      have hl := of_decide_eq_true hb.2
      obtain ⟨j, hj, rfl⟩ := m_in_k (by omega) hb.1
      rw [b_t (by omega)]
      cases hw : (M.2.2.2.2 j).1 with
      | none =>
        rw [(m_lk_n hj hb' hw).2, (m_lk_n hj hb' hw).2]
        exact ⟨_, if_neg (by decide), I1, m1.1⟩
      | some w =>
        rw [(m_lk_s hj hb' hw).2, (m_lk_s hj hb' hw).2]
        cases ht : m_tf M.2.2.1.1 (M.2.2.2.2 j) with
        | false => exact ⟨_, if_neg (by decide), I1, m1.1⟩
        | true =>
          obtain ⟨t, t1, t2, t3, t4⟩ := r_startsOf hV hl hj hw ht _ I1
          have hS : m_bs (m_so M.2.2.1 (M.2.2.2.2 j)) (M.2.2.1.1.1 0) < 1024 := m_bs_lt (n := 10) _ _ (by omega)
          obtain ⟨u, u1, u2⟩ := r_ask35 (S := m_bs (m_so M.2.2.1 (M.2.2.2.2 j)) (M.2.2.1.1.1 0)) (m_MV_P hV) hS t t3 t4
          refine ⟨u, ?_, r_I_mv (r_I_mv I1 t2) u2, r_F_tr m1.1 (r_F_tr t2.1 u2.1)⟩
          rw [if_pos rfl, if_pos rfl, if_pos rfl, t1, am_cq, r_size hS, am_rq]
          exact u1)
end AK
