/-! ACTS: answer, bar, undo, anew. -/
theorem m_ok_c {f8 f9 : AS → Option (AS × Int32)} (h : ∀ M, m_MV M → ∃ M' v, m_MV M' ∧ (∀ s, c_I M s → ∃ t, f8 s = some (t, v) ∧ c_I M' t ∧ c_F s t) ∧ (∀ s, r_I M s → ∃ t, f9 s = some (t, v) ∧ r_I M' t ∧ r_F s t)) : m_OK f8 f9 := by
  intro M s hV hC hR
  obtain ⟨M', v, h1, h2, h3⟩ := h M hV
  obtain ⟨t, a1, a2, a3⟩ := h2 s hC
  obtain ⟨u, b1, b2, b3⟩ := h3 t (r_I_F hR a3)
  exact ⟨M', t, v, u, h1, a1, b1, c_I_F h1 a2 b3, b2⟩
abbrev m_set (M : m_M) (P : m_P) : m_M := (M.1, M.2.1, P, M.2.2.2)
theorem m_MV_set {M : m_M} {P : m_P} (h : m_MV M) (hP : m_PV P) : m_MV (m_set M P) := ⟨h.1, h.2.1, h.2.2.1, hP, h.2.2.2.2.1, h.2.2.2.2.2⟩
theorem c_F_refl (s : AS) : c_F s s := fun _ _ => ⟨rfl, rfl⟩
theorem r_F_refl (s : AS) : r_F s s := fun _ _ => ⟨rfl, rfl⟩
theorem c_I_setP {M : m_M} {P : m_P} {s t : AS} (hV : m_MV M) (hI : c_I M s) (h1 : ∀ c, (0 < c ∧ c < 25) ∨ (50 ≤ c ∧ c < 138) ∨ 215 ≤ c → t.1 c = s.1 c) (h0 : ∀ k, k ≠ 8 → t.1 0 k = s.1 0 k) (h2 : ∀ c, t.2 c = s.2 c) (h8 : t.1 0 8 = nI 0) (hP : c_PA 25 47 P t) : c_I (m_set M P) t ∧ c_F s t := by
  obtain ⟨⟨a1, a2, a3, a4, a5⟩, a6⟩ := hI
  obtain ⟨v1, v2, v3, v4, v5, v6⟩ := hV
  refine ⟨⟨⟨⟨?_, fun i => ?_⟩, ⟨?_, ?_⟩, hP, fun j hj => ⟨?_, ?_⟩, fun j hj => ⟨?_, fun w hw => ⟨?_, ?_, fun i hi => ?_⟩⟩⟩, .inl h8⟩, fun c hc => ⟨h1 c (by omega), h2 c⟩⟩
  · rw [h0 _ (by omega)]; exact a1.1
  · rw [h1 _ (by omega)]; exact a1.2 i
  · rw [h1 _ (by omega)]; exact a2.1
  · rw [h1 _ (by omega)]; exact a2.2
  · rw [h1 _ (by omega)]; exact (a4 j hj).1
  · exact c_PA_eq (a4 j hj).2 (v5 j hj) (fun c _ _ => h1 c (by omega)) (fun c _ _ => h1 c (by omega))
  · rw [h1 _ (by omega)]; exact (a5 j hj).1
  · rw [h1 _ (by omega)]; exact ((a5 j hj).2 w hw).1
  · rw [h1 _ (by omega)]; exact ((a5 j hj).2 w hw).2.1
  · rw [h2]; exact ((a5 j hj).2 w hw).2.2 i hi
/-- how long block 0 is in the row c -/
def r_bl (c : Nat) : Nat := if c = 221 then 1 else if c = 222 then 7 else if c = 223 then 30 else if c = 224 then 40 else if c = 225 then 6 else 120
theorem r_PA_bl {b : Nat} {P : m_P} {s t : AS} (hb : 1 ≤ b) (h : r_PA b P s) (k : ∀ c, 221 ≤ c → c < 227 → ∀ i, r_bl c ≤ i → t.1 c i = s.1 c i) : r_PA b P t := by
  obtain ⟨a1, a2, a3, a4, a5, a6, a7⟩ := h
  have k1 := k 221 (by omega) (by omega)
  have k2 := k 222 (by omega) (by omega)
  have k3 := k 223 (by omega) (by omega)
  have k4 := k 224 (by omega) (by omega)
  have k5 := k 225 (by omega) (by omega)
  have k6 := k 226 (by omega) (by omega)
  simp only [show r_bl 221 = 1 from rfl, show r_bl 222 = 7 from rfl, show r_bl 223 = 30 from rfl, show r_bl 224 = 40 from rfl, show r_bl 225 = 6 from rfl, show r_bl 226 = 120 from rfl] at k1 k2 k3 k4 k5 k6
  refine ⟨fun j hj => ?_, fun r j hr hj => ?_, fun p j hp hj => ?_, fun j hj => ?_, ?_, ?_, fun j hj => ⟨?_, ?_, ?_⟩⟩
  · rw [k2 _ (by omega)]; exact a1 j hj
  · rw [k3 _ (by omega)]; exact a2 r j hr hj
  · rw [k4 _ (by omega)]; exact a3 p j hp hj
  · rw [k5 _ (by omega)]; exact a4 j hj
  · rw [k1 _ (by omega)]; exact a5
  · rw [k2 _ (by omega)]; exact a6
  · rw [k6 _ (by omega)]; exact (a7 j hj).1
  · rw [k6 _ (by omega)]; exact (a7 j hj).2.1
  · rw [k6 _ (by omega)]; exact (a7 j hj).2.2
theorem r_I_setP {M : m_M} {P : m_P} {s t : AS} (hI : r_I M s) (h1 : ∀ c, c < 215 → t.1 c = s.1 c) (h3 : ∀ c, (216 ≤ c ∧ c < 221) ∨ c = 227 → t.1 c = s.1 c) (h4 : ∀ c, 221 ≤ c → c < 227 → ∀ i, r_bl c ≤ i → t.1 c i = s.1 c i) (h0 : ∀ k, 0 < k → k < 23 → t.1 215 k = s.1 215 k) (h2 : ∀ c, c ≠ 215 → t.2 c = s.2 c) (hP : r_PA 0 P t) : r_I (m_set M P) t ∧ r_F s t := by
  obtain ⟨a1, a2, a3, a4, a5⟩ := hI
  refine ⟨⟨⟨?_, fun i => ?_⟩, ⟨?_, ?_⟩, hP, fun j hj => ⟨?_, ?_⟩, fun j hj => ⟨?_, fun w hw => ⟨?_, fun i hi => ?_⟩⟩⟩, fun c hc => ⟨h1 c hc, h2 c (by omega)⟩⟩
  · rw [h0 _ (by omega) (by omega)]; exact a1.1
  · rw [h3 _ (by omega)]; exact a1.2 i
  · rw [h0 _ (by omega) (by omega)]; exact a2.1
  · rw [h0 _ (by omega) (by omega)]; exact a2.2
  · rw [h3 _ (by omega)]; exact (a4 j hj).1
  · exact r_PA_bl (by omega) (a4 j hj).2 h4
  · rw [h3 _ (by omega)]; exact (a5 j hj).1
  · rw [h3 _ (by omega)]; exact ((a5 j hj).2 w hw).1
  · rw [h2 _ (by omega)]; exact ((a5 j hj).2 w hw).2 i hi
theorem m_an_eq {a b : Nat → Nat × Nat × Bool} : ∀ {k : Nat}, (∀ j, j < k → a j = b j) → m_an a k = m_an b k ∧ m_ba a k = m_ba b k
  | 0, _ => ⟨rfl, rfl⟩
  | k + 1, h => by
    have ih := m_an_eq (a := a) (b := b) (k := k) (fun j hj => h j (by omega))
    have e := h k (by omega)
    unfold m_an m_ba
    rw [ih.1, ih.2, e]
    exact ⟨rfl, rfl⟩
theorem m_an_s (a : Nat → Nat × Nat × Bool) (k : Nat) : m_an a (k + 1) = if (a k).1 = 0 then (if (a k).2.2 then w_ins (m_an a k) (a k).2.1 else w_del (m_an a k) (a k).2.1) else m_an a k := rfl
theorem m_ba_s (a : Nat → Nat × Nat × Bool) (k : Nat) : m_ba a (k + 1) = if (a k).1 = 0 then m_ba a k else (if (a k).2.2 then w_ins (m_ba a k) (a k).2.1 else w_del (m_ba a k) (a k).2.1) := rfl
/-- one act more -/
abbrev m_add (P : m_P) (w i : Nat) (on : Bool) : m_P := (P.1, P.2.1 + 1, w_u P.2.2 P.2.1 (w, i, on))
theorem m_PV_add {P : m_P} {w i : Nat} {on : Bool} (h : m_PV P) (h40 : P.2.1 < 40) (hi : i < 10) (hw : w = 0 ∨ w = 1) : m_PV (m_add P w i on) := by
  refine ⟨h.1, h40, fun k hk => ?_⟩
  by_cases e : k = P.2.1
  · rw [e, show (m_add P w i on).2.2 P.2.1 = (w, i, on) from w_us _ _ _]
    exact ⟨hi, hw⟩
  · rw [show (m_add P w i on).2.2 k = P.2.2 k from w_uo _ _ e]
    exact h.2.2 k (by have : k < P.2.1 + 1 := hk; omega)
theorem m_add_b {P : m_P} {w i : Nat} {on : Bool} {k : Nat} (hk : k ≤ P.2.1) : m_an (m_add P w i on).2.2 k = m_an P.2.2 k ∧ m_ba (m_add P w i on).2.2 k = m_ba P.2.2 k := m_an_eq (fun j hj => w_uo _ _ (by omega))
theorem m_add_an {P : m_P} {w i : Nat} {on : Bool} : m_AN (m_add P w i on) = if w = 0 then (if on then w_ins (m_AN P) i else w_del (m_AN P) i) else m_AN P := by
  show m_an (w_u P.2.2 P.2.1 (w, i, on)) (P.2.1 + 1) = _
  rw [m_an_s, w_us, (m_an_eq (a := w_u P.2.2 P.2.1 (w, i, on)) (b := P.2.2) (k := P.2.1) (fun j hj => w_uo _ _ (by omega))).1]
theorem m_add_ba {P : m_P} {w i : Nat} {on : Bool} : m_BA (m_add P w i on) = if w = 0 then m_BA P else (if on then w_ins (m_BA P) i else w_del (m_BA P) i) := by
  show m_ba (w_u P.2.2 P.2.1 (w, i, on)) (P.2.1 + 1) = _
  rw [m_ba_s, w_us, (m_an_eq (a := w_u P.2.2 P.2.1 (w, i, on)) (b := P.2.2) (k := P.2.1) (fun j hj => w_uo _ _ (by omega))).2]
section AC
variable {M : m_M} {s t : AS} {P : m_P}
/-- the class keeps an act, and sets what is answered and shut -/
theorem c_keep (hV : m_MV M) (hI : c_I M s) (h40 : M.2.2.1.2.1 < 40) : ∃ t, fX0_keep s 47 = some (t, ()) ∧ t.1 47 1 = nI (m_AN M.2.2.1) ∧ t.1 47 2 = nI (m_BA M.2.2.1) ∧ ∀ (w i : Nat) (on : Bool) (f : Nat) (y : Int32), ((f = 1 ∧ y = nI (m_AN (m_add M.2.2.1 w i on)) ∧ ¬ w = 1) ∨ (f = 2 ∧ y = nI (m_BA (m_add M.2.2.1 w i on)) ∧ w = 1)) → (w = 0 ∨ w = 1) → c_I (m_set M (m_add M.2.2.1 w i on)) (am_si (am_si t 47 f y) 0 8 (nI 0)) ∧ c_F s (am_si (am_si t 47 f y) 0 8 (nI 0)) := by
  have hP := m_MV_P hV
  obtain ⟨p1, p2, p3, p4, p5⟩ := hI.1.2.2.1
  refine ⟨am_si (am_si (am_si s 48 M.2.2.1.2.1 (nI (m_AN M.2.2.1))) 49 M.2.2.1.2.1 (nI (m_BA M.2.2.1))) 47 0 (nI (M.2.2.1.2.1 + 1)), ?_, ?_, ?_, fun w i on f y hf hw => ?_⟩
  · unfold fX0_keep
    simp (disch := omega) only [↓am_lq, b_lq, p2, p3, p4, b_le, b_lt, b_t, am_g_t, if_neg, if_false, r_so, b_add]
  · simp (disch := omega) only [r_si, r_so, r_uo, p3]
  · simp (disch := omega) only [r_si, r_so, r_uo, p4]
  · have an := m_add_an (P := M.2.2.1) (w := w) (i := i) (on := on)
    have ba := m_add_ba (P := M.2.2.1) (w := w) (i := i) (on := on)
    refine c_I_setP hV hI (fun c hc => ?_) (fun k hk => ?_) (fun c => rfl) ?_ ⟨⟨fun j hj => ?_, fun r j hr hj => ?_, fun p j hp hj => ?_, fun k hk => ?_, ?_⟩, ?_, ?_, ?_, fun k hk => ?_⟩
    · simp (disch := omega) only [r_so]
    · simp (disch := omega) only [r_si, r_so, r_uo]
    · simp (disch := omega) only [r_si, r_us]
    · simp (disch := omega) only [r_so]; exact p1.1 j hj
    · have v4 := hP.1.2.1
      have hr : r < M.2.2.1.1.1 4 := hr
      simp (disch := omega) only [r_so]; exact p1.2.1 r j hr hj
    · have v5 := hP.1.2.2.1
      have hp : p < M.2.2.1.1.1 5 := hp
      simp (disch := omega) only [r_so]; exact p1.2.2.1 p j hp hj
    · simp (disch := omega) only [r_so]; exact p1.2.2.2.1 k hk
    · simp (disch := omega) only [r_so]; exact p1.2.2.2.2
    · have : f ≠ 0 := by omega
      simp (disch := omega) only [r_so, r_si, r_us, r_uo]
    · rcases hf with ⟨e, h1, h2⟩ | ⟨e, h1, h2⟩
      · rw [e, h1]
        simp (disch := omega) only [r_so, r_si, r_us, r_uo]
      · rw [e]
        simp (disch := omega) only [r_so, r_si, r_us, r_uo]
        rw [p3, an, if_neg (by omega)]
    · rcases hf with ⟨e, h1, h2⟩ | ⟨e, h1, h2⟩
      · rw [e]
        simp (disch := omega) only [r_so, r_si, r_us, r_uo]
        rw [p4, ba, if_pos (by omega)]
      · rw [e, h1]
        simp (disch := omega) only [r_so, r_si, r_us, r_uo]
    · have hk : k < M.2.2.1.2.1 + 1 := hk
      have kb := m_add_b (P := M.2.2.1) (w := w) (i := i) (on := on) (k := k) (by omega)
      rw [kb.1, kb.2]
      simp (disch := omega) only [r_so, r_si]
      by_cases e : k = M.2.2.1.2.1
      · rw [e, r_us, r_us]; exact ⟨rfl, rfl⟩
      · rw [r_uo _ _ e, r_uo _ _ e]; exact p5 k (by omega)
/-- the reference's act -/
theorem r_acts (hV : m_MV M) (hI : r_I M s) (h40 : M.2.2.1.2.1 < 40) {w i : Nat} (hw : w < 100) (hi : i < 100) (on : Bool) : ∃ t, fX9_acts s (nI w) (nI i) (nI on.toNat) = some (t, ()) ∧ r_I (m_set M (m_add M.2.2.1 w i on)) t ∧ r_F s t ∧ t.1 215 = s.1 215 := by
  obtain ⟨a1, a2, a3, a4, a5, a6, a7⟩ := hI.2.2.1
  simp only [Nat.mul_zero, Nat.zero_add] at a6
  refine ⟨am_si (am_si (am_si (am_si s 226 (3 * M.2.2.1.2.1) (nI w)) 226 (3 * M.2.2.1.2.1 + 1) (nI i)) 226 (3 * M.2.2.1.2.1 + 2) (nI on.toNat)) 222 6 (nI (M.2.2.1.2.1 + 1)), ?_, ?_⟩
  · unfold fX9_acts
    simp (disch := omega) only [↓am_lq, b_lq, b_lt, b_t, am_g_t, a6, b_mul, b_add, r_so]
  · rw [← and_assoc]
    refine ⟨r_I_setP hI (fun c hc => ?_) (fun c hc => ?_) (fun c h1 h2 j hj => ?_) (fun k h1 h2 => ?_) (fun c hc => rfl) ⟨fun j hj => ?_, fun r j hr hj => ?_, fun p j hp hj => ?_, fun j hj => ?_, ?_, ?_, fun k hk => ?_⟩, ?_⟩
    · simp (disch := omega) only [r_so]
    · simp (disch := omega) only [r_so]
    · simp only [am_si_1]
      unfold r_bl at hj
      by_cases c6 : c = 226
      · subst c6
        have hj : 120 ≤ j := hj
        rw [if_neg (by omega), if_pos rfl, if_neg (by omega), if_pos rfl, if_neg (by omega), if_pos rfl, if_neg (by omega)]
      · by_cases c2 : c = 222
        · subst c2
          have hj : 7 ≤ j := hj
          rw [if_pos rfl, if_neg (by omega), if_neg (by omega), if_neg (by omega), if_neg (by omega)]
        · rw [if_neg c2, if_neg c6, if_neg c6, if_neg c6]
    · simp (disch := omega) only [r_so]
    · simp (disch := omega) only [r_so, r_si, r_uo]; exact a1 j hj
    · simp (disch := omega) only [r_so]; exact a2 r j hr hj
    · simp (disch := omega) only [r_so]; exact a3 p j hp hj
    · simp (disch := omega) only [r_so]; exact a4 j hj
    · simp (disch := omega) only [r_so]; exact a5
    · simp (disch := omega) only [r_so, r_si, r_us, Nat.mul_zero, Nat.zero_add]
    · have hk : k < M.2.2.1.2.1 + 1 := hk
      simp (disch := omega) only [r_so, r_si, Nat.mul_zero, Nat.zero_add]
      by_cases e : k = M.2.2.1.2.1
      · rw [e, w_us]
        simp (disch := omega) only [r_us, r_uo]
        refine ⟨?_, ?_, ?_⟩ <;> first | trivial | rfl
      · rw [w_uo _ _ e]
        simp (disch := omega) only [r_uo]
        have := a7 k (by omega)
        simp only [Nat.mul_zero, Nat.zero_add] at this
        exact this
    · simp (disch := omega) only [r_so]
theorem on_k {a : Int32} (h : m_in a 2 = true) : ∃ b : Bool, a = nI b.toNat := by
  obtain ⟨k, h1, rfl⟩ := m_in_k (by omega) h
  rcases (by omega : k = 0 ∨ k = 1) with e | e
  · exact ⟨false, by rw [e]; rfl⟩
  · exact ⟨true, by rw [e]; rfl⟩
theorem g8_on {a : Int32} : fX8_isOnOrOff a = some (nI (m_in a 2).toNat) := by
  unfold fX8_isOnOrOff
  simp (disch := omega) only [↓am_lq, b_lq, b_eq, or_true, true_or, am_gT]
  cases h : m_in a 2 with
  | true =>
    obtain ⟨k, h1, rfl⟩ := m_in_k (by omega) h
    rcases (by omega : k = 0 ∨ k = 1) with e | e
    · rw [e, if_pos rfl]; rfl
    · rw [e, if_neg (by decide), if_pos rfl]; rfl
  | false =>
    have h0 : ¬ a = nI 0 := fun z => by rw [z, m_in_n (by omega) (by omega)] at h; cases h
    have h1 : ¬ a = nI 1 := fun z => by rw [z, m_in_n (by omega) (by omega)] at h; cases h
    rw [if_neg h0, if_neg h1]; rfl
theorem g8_half {a : Int32} : fX8_isPartOfFraction a = some (nI (m_in a 2).toNat) := g8_on
theorem g9_half {a : Int32} : fX9_isHalf a = some (nI (m_in a 2).toNat) := by
  unfold fX9_isHalf
  rw [r_in (m := 1) (by omega) (by decide), am_rq]
  simp (disch := omega) only [b_lq, b_b0, b_b1, b_ft, am_gT]
theorem m_ge {α : Type} {a : Int32} {n : Nat} {x y : α} (hn : n ≤ 2000000001) : (if a < nI 0 then x else if nI n ≤ a then x else y) = if m_in a n then y else x := by
  rw [← m_if hn]
  by_cases c : a < nI 0
  · rw [if_pos c, if_pos c]
  · rw [if_neg c, if_neg c]
    by_cases c2 : nI n ≤ a
    · rw [if_pos c2, if_neg (Int32.not_lt.mpr c2)]
    · rw [if_neg c2, if_pos (Int32.not_le.mp c2)]
theorem Q_answer (a b : Int32) : m_OK (fun s => fX8_answer s a b) (fun s => fX9_answer s a b) := m_ok_c fun M hV => by
  have hP := m_MV_P hV
  by_cases h1 : (decide (0 < M.2.2.1.1.1 6) && m_in a 6 && m_in b 2) = true
  · simp only [Bool.and_eq_true] at h1
    obtain ⟨⟨h1, h2⟩, h3⟩ := h1
    obtain ⟨k, hk, rfl⟩ := m_in_k (by omega) h2
    obtain ⟨on, rfl⟩ := on_k h3
    by_cases h40 : M.2.2.1.2.1 < 40
    · refine ⟨m_set M (m_add M.2.2.1 0 k on), nI ((m_AN M.2.2.1).testBit k).toNat, m_MV_set hV (m_PV_add hP h40 (by omega) (.inl rfl)), fun s hI => ?_, fun s hI => ?_⟩
      · obtain ⟨t, e1, e2, e3, e4⟩ := c_keep hV hI h40
        have an := m_add_an (P := M.2.2.1) (w := 0) (i := k) (on := on)
        have key := e4 0 k on 1 _ (.inl ⟨rfl, rfl, by omega⟩) (.inl rfl)
        refine ⟨_, ?_, key.1, key.2⟩
        have lt := m_AN_lt hP
        have p2 : s.1 47 0 = nI M.2.2.1.2.1 := hI.1.2.2.1.2.1
        have p3 : s.1 47 1 = nI (m_AN M.2.2.1) := hI.1.2.2.1.2.2.1
        have hh := c_holds (x := m_AN M.2.2.1) (p := k) lt (by omega)
        unfold fX8_answer
        rw [an]
        simp (disch := omega) only [g8_march hI.1 hV, ↓am_lq, b_lq, oI_q, am_rq, m_if0, h1, h3, if_true, b_lt, b_le, if_neg, if_pos, g8_on, p2, p3, hh, e1, am_cq, e2, b_sh]
        cases on with
        | true =>
          simp (disch := omega) only [b_tt, b_eq, if_neg, b_ins, if_false]
          cases (m_AN M.2.2.1).testBit k <;> rfl
        | false =>
          simp (disch := omega) only [b_tf, if_true, b_del, if_pos, Bool.false_eq_true, if_false]
          cases (m_AN M.2.2.1).testBit k <;> rfl
      · obtain ⟨I1, m1⟩ := r_0 hI
        obtain ⟨t, a1, a2, a3, a4⟩ := r_lays hP _ I1.2.2.1
        have I2 := r_I_mv I1 a2
        obtain ⟨u, b1, b2, b3, b4⟩ := r_acts (w := 0) (i := k) hV I2 h40 (by omega) (by omega) on
        refine ⟨u, ?_, b2, r_F_tr m1.1 (r_F_tr a2.1 b3)⟩
        have e6 : (am_si s 215 0 (nI 0)).1 222 6 = nI M.2.2.1.2.1 := I1.2.2.1.2.2.2.2.2.1
        have hh := c_isBit (x := m_AN M.2.2.1) (p := k) (m_AN_lt hP) (by omega)
        unfold fX9_answer
        simp (disch := omega) only [↓am_lq, b_lq, g9_march I1 hV, am_rq, m_if0, h1, h3, r_in (m := 5) (x := 5) (by omega) (by decide), m_in_n (show k < 5 + 1 by omega), if_true, g9_half, b_lt, b_t, am_g_t, e6, b_eq, if_neg, if_false, a1, am_cq, b1, b4, a3.1, hh]
        cases (m_AN M.2.2.1).testBit k <;> rfl
    · have h41 : M.2.2.1.2.1 = 40 := by have := hP.2.1; omega
      refine ⟨M, -nI 5, hV, fun s hI => ⟨s, ?_, hI, c_F_refl s⟩, fun s hI => ⟨_, ?_, (r_0 hI).1, (r_0 hI).2.1⟩⟩
      · have p2 : s.1 47 0 = nI M.2.2.1.2.1 := hI.1.2.2.1.2.1
        unfold fX8_answer
        simp (disch := omega) only [g8_march hI.1 hV, ↓am_lq, b_lq, am_rq, m_if0, h1, h3, if_true, b_lt, b_le, if_neg, if_false, g8_on, p2]
      · have I1 := (r_0 hI).1
        have e6 : (am_si s 215 0 (nI 0)).1 222 6 = nI M.2.2.1.2.1 := I1.2.2.1.2.2.2.2.2.1
        unfold fX9_answer
        simp (disch := omega) only [↓am_lq, b_lq, g9_march I1 hV, am_rq, m_if0, h1, h3, r_in (m := 5) (x := 5) (by omega) (by decide), m_in_n (show k < 5 + 1 by omega), if_true, g9_half, b_lt, b_t, am_g_t, e6, h41]
  · refine ⟨M, -nI 2, hV, fun s hI => ⟨s, ?_, hI, c_F_refl s⟩, fun s hI => ⟨_, ?_, (r_0 hI).1, (r_0 hI).2.1⟩⟩
    · unfold fX8_answer
      simp (disch := omega) only [g8_march hI.1 hV, ↓am_lq, b_lq, am_rq, m_if0, g8_on]
      rw [m_ge (by omega)]
      cases d1 : decide (0 < M.2.2.1.1.1 6) with
      | false => rfl
      | true =>
        cases d2 : m_in a 6 with
        | false => rfl
        | true =>
          cases d3 : m_in b 2 with
          | false => rfl
          | true => exact absurd (by rw [d1, d2, d3]; rfl) h1
    · have I1 := (r_0 hI).1
      unfold fX9_answer
      simp (disch := omega) only [↓am_lq, b_lq, g9_march I1 hV, am_rq, m_if0, r_in (m := 5) (x := 5) (by omega) (by decide), g9_half]
      cases d1 : decide (0 < M.2.2.1.1.1 6) with
      | false => rfl
      | true =>
        cases d2 : m_in a 6 with
        | false => rfl
        | true =>
          cases d3 : m_in b 2 with
          | false => rfl
          | true => exact absurd (by rw [d1, d2, d3]; rfl) h1
/-- the reference's question for a road -/
theorem g9_road {a : Int32} (hV : m_MV M) : fX9_in a.toInt64 0 (nI (M.2.2.1.1.1 4) - nI 1).toInt64 = some (nI (m_in a (M.2.2.1.1.1 4)).toNat) := by
  have v4 := (m_MV_P hV).1.2.1
  by_cases c : M.2.2.1.1.1 4 = 0
  · rw [c, p_in]
    have : m_in a 0 = false := by
      apply decide_eq_false
      rintro ⟨h1, h2⟩
      exact absurd h2 (Int32.not_lt.mpr h1)
    rw [this, if_neg]
    · rfl
    · rintro ⟨h1, h2⟩
      rw [show (nI 0 - nI 1).toInt64 = -1 from by decide] at h2
      exact absurd (Int64.le_trans h1 h2) (by decide)
  · have h := r_in (a := a) (m := M.2.2.1.1.1 4 - 1) (x := (nI (M.2.2.1.1.1 4) - nI 1).toInt64) (by omega) (by
      rw [show M.2.2.1.1.1 4 - 1 + 1 = M.2.2.1.1.1 4 by omega]
      have : ∀ n, n < 11 → 0 < n → (nI n - nI 1).toInt64 = (nI n).toInt64 - 1 := by decide
      exact this _ (by omega) (by omega))
    rw [show M.2.2.1.1.1 4 - 1 + 1 = M.2.2.1.1.1 4 by omega] at h
    exact h
theorem Q_bar (a b : Int32) : m_OK (fun s => fX8_bar s a b) (fun s => fX9_bar s a b) := m_ok_c fun M hV => by
  have hP := m_MV_P hV
  have v4 := hP.1.2.1
  have e4 : ∀ s, r_I M s → s.1 222 4 = nI (M.2.2.1.1.1 4) := fun s hI => (r_PA_PL hI.2.2.1).1 4 (by omega)
  by_cases h1 : (m_in a (M.2.2.1.1.1 4) && m_in b 2) = true
  · simp only [Bool.and_eq_true] at h1
    obtain ⟨h2, h3⟩ := h1
    have h2' := h2
    obtain ⟨k, hk, rfl⟩ := m_in_k (by omega) h2
    obtain ⟨on, rfl⟩ := on_k h3
    by_cases h40 : M.2.2.1.2.1 < 40
    · refine ⟨m_set M (m_add M.2.2.1 1 k on), nI ((m_BA M.2.2.1).testBit k).toNat, m_MV_set hV (m_PV_add hP h40 (by omega) (.inr rfl)), fun s hI => ?_, fun s hI => ?_⟩
      · obtain ⟨t, e1, e2, e3, e4⟩ := c_keep hV hI h40
        have an := m_add_ba (P := M.2.2.1) (w := 1) (i := k) (on := on)
        have key := e4 1 k on 2 _ (.inr ⟨rfl, rfl, rfl⟩) (.inr rfl)
        refine ⟨_, ?_, key.1, key.2⟩
        have lt := m_BA_lt hP
        have p2 : s.1 47 0 = nI M.2.2.1.2.1 := hI.1.2.2.1.2.1
        have p3 : s.1 47 2 = nI (m_BA M.2.2.1) := hI.1.2.2.1.2.2.2.1
        have hh := c_holds (x := m_BA M.2.2.1) (p := k) lt (by omega)
        unfold fX8_bar
        rw [an]
        simp (disch := omega) only [g8_road hI.1, ↓am_lq, b_lq, oI_q, am_rq, m_if0, h2', h3, if_true, b_lt, b_le, if_neg, if_pos, g8_on, p2, p3, hh, e1, am_cq, e3, b_sh]
        cases on with
        | true =>
          simp (disch := omega) only [b_tt, b_eq, if_neg, b_ins, if_false, if_true]
          cases (m_BA M.2.2.1).testBit k <;> rfl
        | false =>
          simp (disch := omega) only [b_tf, if_true, b_del, if_pos, Bool.false_eq_true, if_false, b_eq, if_neg]
          cases (m_BA M.2.2.1).testBit k <;> rfl
      · obtain ⟨I1, m1⟩ := r_0 hI
        obtain ⟨t, a1, a2, a3, a4⟩ := r_lays hP _ I1.2.2.1
        have I2 := r_I_mv I1 a2
        obtain ⟨u, b1, b2, b3, b4⟩ := r_acts (w := 1) (i := k) hV I2 h40 (by omega) (by omega) on
        refine ⟨u, ?_, b2, r_F_tr m1.1 (r_F_tr a2.1 b3)⟩
        have e6 : (am_si s 215 0 (nI 0)).1 222 6 = nI M.2.2.1.2.1 := I1.2.2.1.2.2.2.2.2.1
        have hh := c_isBit (x := m_BA M.2.2.1) (p := k) (m_BA_lt hP) (by omega)
        unfold fX9_bar
        simp (disch := omega) only [↓am_lq, b_lq, b_lt, b_t, am_g_t, e4 _ I1, g9_road hV, am_rq, m_if0, h2', h3, if_true, g9_half, e6, b_eq, if_neg, if_false, a1, am_cq, b1, b4, a3.2.1, hh]
        cases (m_BA M.2.2.1).testBit k <;> rfl
    · have h41 : M.2.2.1.2.1 = 40 := by have := hP.2.1; omega
      refine ⟨M, -nI 5, hV, fun s hI => ⟨s, ?_, hI, c_F_refl s⟩, fun s hI => ⟨_, ?_, (r_0 hI).1, (r_0 hI).2.1⟩⟩
      · have p2 : s.1 47 0 = nI M.2.2.1.2.1 := hI.1.2.2.1.2.1
        unfold fX8_bar
        simp (disch := omega) only [g8_road hI.1, ↓am_lq, b_lq, am_rq, m_if0, h2', h3, if_true, b_lt, b_le, if_neg, if_false, g8_on, p2]
      · have I1 := (r_0 hI).1
        have e6 : (am_si s 215 0 (nI 0)).1 222 6 = nI M.2.2.1.2.1 := I1.2.2.1.2.2.2.2.2.1
        unfold fX9_bar
        simp (disch := omega) only [↓am_lq, b_lq, b_lt, b_t, am_g_t, e4 _ I1, g9_road hV, am_rq, m_if0, h2', h3, if_true, g9_half, e6, h41]
  · refine ⟨M, -nI 2, hV, fun s hI => ⟨s, ?_, hI, c_F_refl s⟩, fun s hI => ⟨_, ?_, (r_0 hI).1, (r_0 hI).2.1⟩⟩
    · unfold fX8_bar
      simp (disch := omega) only [g8_road hI.1, ↓am_lq, b_lq, am_rq, m_if0, g8_on]
      cases d2 : m_in a (M.2.2.1.1.1 4) with
      | false => rfl
      | true =>
        cases d3 : m_in b 2 with
        | false => rfl
        | true => exact absurd (by rw [d2, d3]; rfl) h1
    · have I1 := (r_0 hI).1
      unfold fX9_bar
      simp (disch := omega) only [↓am_lq, b_lq, b_lt, b_t, am_g_t, e4 _ I1, g9_road hV, am_rq, m_if0, g9_half]
      cases d2 : m_in a (M.2.2.1.1.1 4) with
      | false => rfl
      | true =>
        cases d3 : m_in b 2 with
        | false => rfl
        | true => exact absurd (by rw [d2, d3]; rfl) h1
/-- the reference's count of acts is set -/
theorem r_cnt (hV : m_MV M) (hI : r_I M s) {n : Nat} (hn : n ≤ M.2.2.1.2.1) : r_I (m_set M (M.2.2.1.1, n, M.2.2.1.2.2)) (am_si s 222 6 (nI n)) ∧ r_F s (am_si s 222 6 (nI n)) := by
  obtain ⟨a1, a2, a3, a4, a5, a6, a7⟩ := hI.2.2.1
  refine r_I_setP hI (fun c hc => ?_) (fun c hc => ?_) (fun c h1 h2 j hj => ?_) (fun k h1 h2 => ?_) (fun c hc => rfl) ⟨fun j hj => ?_, fun r j hr hj => ?_, fun p j hp hj => ?_, fun j hj => ?_, ?_, ?_, fun k hk => ?_⟩
  · simp (disch := omega) only [r_so]
  · simp (disch := omega) only [r_so]
  · simp only [am_si_1]
    unfold r_bl at hj
    by_cases c2 : c = 222
    · subst c2
      have hj : 7 ≤ j := hj
      rw [if_pos rfl, if_neg (by omega)]
    · rw [if_neg c2]
  · simp (disch := omega) only [r_so]
  · simp (disch := omega) only [r_si, r_uo]; exact a1 j hj
  · simp (disch := omega) only [r_so]; exact a2 r j hr hj
  · simp (disch := omega) only [r_so]; exact a3 p j hp hj
  · simp (disch := omega) only [r_so]; exact a4 j hj
  · simp (disch := omega) only [r_so]; exact a5
  · simp (disch := omega) only [r_si, r_us, Nat.mul_zero, Nat.zero_add]
  · have hk : k < n := hk
    simp (disch := omega) only [r_so]
    exact a7 k (by omega)
/-- the class's acts are set back to n -/
theorem c_cnt (hV : m_MV M) (hI : c_I M s) {n : Nat} (hn : n ≤ M.2.2.1.2.1) : c_I (m_set M (M.2.2.1.1, n, M.2.2.1.2.2)) (am_si (am_si (am_si (am_si s 47 0 (nI n)) 47 1 (nI (m_an M.2.2.1.2.2 n))) 47 2 (nI (m_ba M.2.2.1.2.2 n))) 0 8 (nI 0)) ∧ c_F s (am_si (am_si (am_si (am_si s 47 0 (nI n)) 47 1 (nI (m_an M.2.2.1.2.2 n))) 47 2 (nI (m_ba M.2.2.1.2.2 n))) 0 8 (nI 0)) := by
  have hP := m_MV_P hV
  obtain ⟨p1, p2, p3, p4, p5⟩ := hI.1.2.2.1
  refine c_I_setP hV hI (fun c hc => ?_) (fun k hk => ?_) (fun c => rfl) ?_ ⟨⟨fun j hj => ?_, fun r j hr hj => ?_, fun p j hp hj => ?_, fun k hk => ?_, ?_⟩, ?_, ?_, ?_, fun k hk => ?_⟩
  · simp (disch := omega) only [r_so]
  · simp (disch := omega) only [r_si, r_so, r_uo]
  · simp (disch := omega) only [r_si, r_us]
  · simp (disch := omega) only [r_so]; exact p1.1 j hj
  · have v4 := hP.1.2.1
    have hr : r < M.2.2.1.1.1 4 := hr
    simp (disch := omega) only [r_so]; exact p1.2.1 r j hr hj
  · have v5 := hP.1.2.2.1
    have hp : p < M.2.2.1.1.1 5 := hp
    simp (disch := omega) only [r_so]; exact p1.2.2.1 p j hp hj
  · simp (disch := omega) only [r_so]; exact p1.2.2.2.1 k hk
  · simp (disch := omega) only [r_so]; exact p1.2.2.2.2
  · simp (disch := omega) only [r_so, r_si, r_us, r_uo]
  · simp (disch := omega) only [r_so, r_si, r_us, r_uo]
  · simp (disch := omega) only [r_so, r_si, r_us, r_uo]
  · have hk : k < n := hk
    simp (disch := omega) only [r_so]
    exact p5 k (by omega)
theorem m_PV_cnt (h : m_PV P) {n : Nat} (hn : n ≤ P.2.1) : m_PV (P.1, n, P.2.2) := ⟨h.1, by have := h.2.1; show n ≤ 40; omega, fun k hk => h.2.2 k (by have : k < n := hk; omega)⟩
theorem Q_undo : m_OK (fun s => fX8_undo s) (fun s => fX9_undo s) := m_ok_c fun M hV => by
  have hP := m_MV_P hV
  have h40 := hP.2.1
  cases h1 : decide (0 < M.2.2.1.1.1 6) with
  | false =>
    refine ⟨M, -nI 2, hV, fun s hI => ⟨s, ?_, hI, c_F_refl s⟩, fun s hI => ⟨_, ?_, (r_0 hI).1, (r_0 hI).2.1⟩⟩
    · unfold fX8_undo
      simp (disch := omega) only [g8_march hI.1 hV, ↓am_lq, b_lq, am_rq, m_if0, h1, Bool.false_eq_true, if_false]
    · have I1 := (r_0 hI).1
      unfold fX9_undo
      simp (disch := omega) only [↓am_lq, b_lq, g9_march I1 hV, am_rq, m_if0, h1, Bool.false_eq_true, if_false]
  | true =>
    by_cases h0 : M.2.2.1.2.1 = 0
    · refine ⟨M, -nI 5, hV, fun s hI => ⟨s, ?_, hI, c_F_refl s⟩, fun s hI => ⟨_, ?_, (r_0 hI).1, (r_0 hI).2.1⟩⟩
      · have p2 : s.1 47 0 = nI M.2.2.1.2.1 := hI.1.2.2.1.2.1
        unfold fX8_undo
        simp (disch := omega) only [g8_march hI.1 hV, ↓am_lq, b_lq, am_rq, m_if0, h1, if_true, p2, h0]
      · have I1 := (r_0 hI).1
        have e6 : (am_si s 215 0 (nI 0)).1 222 6 = nI M.2.2.1.2.1 := I1.2.2.1.2.2.2.2.2.1
        unfold fX9_undo
        simp (disch := omega) only [↓am_lq, b_lq, g9_march I1 hV, am_rq, m_if0, h1, if_true, b_lt, b_t, am_g_t, e6, h0]
    · refine ⟨m_set M (M.2.2.1.1, M.2.2.1.2.1 - 1, M.2.2.1.2.2), nI (M.2.2.1.2.1 - 1), m_MV_set hV (m_PV_cnt hP (by omega)), fun s hI => ?_, fun s hI => ?_⟩
      · have key := c_cnt hV hI (n := M.2.2.1.2.1 - 1) (by omega)
        refine ⟨_, ?_, key.1, key.2⟩
        obtain ⟨p1, p2, p3, p4, p5⟩ := hI.1.2.2.1
        have q := p5 (M.2.2.1.2.1 - 1) (by omega)
        unfold fX8_undo fX0_takeBack
        simp (disch := omega) only [g8_march hI.1 hV, ↓am_lq, b_lq, am_rq, am_cq, m_if0, h1, if_true, p2, b_eq, b_le, b_lt, b_t, am_g_t, h0, if_neg, if_false, b_sub, r_si, r_us, r_uo, r_so, q.1, q.2]
      · obtain ⟨I1, m1⟩ := r_0 hI
        have key := r_cnt hV I1 (n := M.2.2.1.2.1 - 1) (by omega)
        refine ⟨_, ?_, key.1, r_F_tr m1.1 key.2⟩
        have e6 : (am_si s 215 0 (nI 0)).1 222 6 = nI M.2.2.1.2.1 := I1.2.2.1.2.2.2.2.2.1
        unfold fX9_undo
        simp (disch := omega) only [↓am_lq, b_lq, g9_march I1 hV, am_rq, m_if0, h1, if_true, b_lt, b_t, b_eq, am_g_t, e6, h0, if_false, b_sub, r_si, r_us]
theorem Q_anew : m_OK (fun s => fX8_anew s) (fun s => fX9_anew s) := m_ok_c fun M hV => by
  have hP := m_MV_P hV
  have h40 := hP.2.1
  cases h1 : decide (0 < M.2.2.1.1.1 6) with
  | false =>
    refine ⟨M, -nI 2, hV, fun s hI => ⟨s, ?_, hI, c_F_refl s⟩, fun s hI => ⟨_, ?_, (r_0 hI).1, (r_0 hI).2.1⟩⟩
    · unfold fX8_anew
      simp (disch := omega) only [g8_march hI.1 hV, ↓am_lq, b_lq, am_rq, m_if0, h1, Bool.false_eq_true, if_false]
    · have I1 := (r_0 hI).1
      unfold fX9_anew
      simp (disch := omega) only [↓am_lq, b_lq, g9_march I1 hV, am_rq, m_if0, h1, Bool.false_eq_true, if_false]
  | true =>
    refine ⟨m_set M (M.2.2.1.1, 0, M.2.2.1.2.2), nI M.2.2.1.2.1, m_MV_set hV (m_PV_cnt hP (by omega)), fun s hI => ?_, fun s hI => ?_⟩
    · have key := c_cnt hV hI (n := 0) (by omega)
      refine ⟨_, ?_, key.1, key.2⟩
      obtain ⟨p1, p2, p3, p4, p5⟩ := hI.1.2.2.1
      unfold fX8_anew fX0_clear
      simp (disch := omega) only [g8_march hI.1 hV, ↓am_lq, b_lq, am_rq, am_cq, m_if0, h1, if_true, p2]
      rfl
    · obtain ⟨I1, m1⟩ := r_0 hI
      have key := r_cnt hV I1 (n := 0) (by omega)
      refine ⟨_, ?_, key.1, r_F_tr m1.1 key.2⟩
      have e6 : (am_si s 215 0 (nI 0)).1 222 6 = nI M.2.2.1.2.1 := I1.2.2.1.2.2.2.2.2.1
      unfold fX9_anew
      simp (disch := omega) only [↓am_lq, b_lq, g9_march I1 hV, am_rq, m_if0, h1, if_true, b_lt, b_t, am_g_t, e6]
end AC
