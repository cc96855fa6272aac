/-! THE TEXT: the reference takes words and numbers. -/
def r_ST (f : Nat → Int32) (n : Nat) (z : a_Z) (s : AS) : Prop := p_RT n f s ∧ z.1 ≤ 3 ∧ s.1 215 12 = nI z.1 ∧ (z.1 ≠ 0 → ∃ k, z.2.1 = some k ∧ s.1 215 13 = nI k ∧ k ≤ 800) ∧ (z.1 = 0 → z.2.2 ≤ n ∧ r_TK f n (a_eb f n z.2.2) s)
/-- the same but for what the reader holds -/
def r_f3 (s t : AS) : Prop := (∀ c, c ≠ 215 → t.1 c = s.1 c) ∧ (∀ k, k < 7 ∨ 14 ≤ k → t.1 215 k = s.1 215 k) ∧ ∀ c, c ≠ 215 → t.2 c = s.2 c
section RK
variable {f : Nat → Int32} {n : Nat} {z : a_Z} {s t u : AS} {D : w_D}
theorem r_f3_refl (s : AS) : r_f3 s s := ⟨fun _ _ => rfl, fun _ _ => rfl, fun _ _ => rfl⟩
theorem r_f3_tr (h : r_f3 s t) (k : r_f3 t u) : r_f3 s u := ⟨fun c hc => (k.1 c hc).trans (h.1 c hc), fun c hc => (k.2.1 c hc).trans (h.2.1 c hc), fun c hc => (k.2.2 c hc).trans (h.2.2 c hc)⟩
theorem r_f13 (h : r_f1 s t) : r_f3 s t := ⟨h.1, fun k hk => h.2.1 k (by omega), h.2.2⟩
theorem r_f3_si (h : r_f3 s t) {k : Nat} (x : Int32) (h7 : 7 ≤ k) (h14 : k < 14) : r_f3 s (am_si t 215 k x) := ⟨fun c hc => by rw [r_so _ _ _ hc]; exact h.1 c hc, fun j hj => by rw [r_si, r_uo _ _ (by omega)]; exact h.2.1 j hj, h.2.2⟩
theorem p_RT_f3 (h : p_RT n f s) (k : r_f3 s t) : p_RT n f t := ⟨by rw [k.2.1 6 (by omega)]; exact h.1, fun i => by rw [k.1 220 (by omega)]; exact h.2 i⟩
/-- with a fault, where it reads is all the same -/
theorem r_ST_b (h : r_ST f n z s) (hz : z.1 ≠ 0) (p : Nat) : r_ST f n (z.1, z.2.1, p) s := ⟨h.1, h.2.1, h.2.2.1, h.2.2.2.1, fun e => absurd e hz⟩
theorem r_ST_o (h : r_ST f n z s) {c k : Nat} {x : Int32} (h1 : c ≠ 215) (h2 : c ≠ 220) : r_ST f n z (am_si s c k x) := by
  have e1 : (am_si s c k x).1 215 = s.1 215 := r_so _ _ _ (fun e => h1 e.symm)
  have e2 : (am_si s c k x).1 220 = s.1 220 := r_so _ _ _ (fun e => h2 e.symm)
  unfold r_ST p_RT r_TK at h ⊢
  rw [e1, e2, r_s2]
  exact h
theorem r_fails (hn : n ≤ 800) (h : r_ST f n z s) {c : Nat} (hc : c ≤ 3) (h0 : c ≠ 0) (p : Nat) : ∃ t, fX9_fails s (nI c) = some (t, ()) ∧ r_ST f n (a_fl z c (a_eb f n z.2.2) p) t ∧ r_f3 s t := by
  obtain ⟨h1, h2, h3, h4, h5⟩ := id h
  unfold fX9_fails
  simp only [↓am_lq, b_lq]
  by_cases k : z.1 = 0
  · obtain ⟨k1, k2⟩ := h5 k
    have e9 : s.1 215 9 = nI (a_eb f n z.2.2) := k2.1
    have eb := (a_eb_p (f := f) hn z.2.2).2.1 k1
    have F : r_f3 s (am_si (am_si s 215 12 (nI c)) 215 13 (nI (a_eb f n z.2.2))) := r_f3_si (r_f3_si (r_f3_refl s) _ (by omega) (by omega)) _ (by omega) (by omega)
    refine ⟨_, ?_, ?_, F⟩
    · rw [h3, if_pos (by rw [k]), r_si, r_uo _ _ (by omega), e9]
    · unfold a_fl
      rw [if_pos k]
      refine ⟨p_RT_f3 h1 F, hc, ?_, fun _ => ⟨_, rfl, ?_, by omega⟩, fun e => absurd e h0⟩
      · rw [r_si, r_uo _ _ (by omega), r_si, r_us]
      · rw [r_si, r_us]
  · refine ⟨s, ?_, ?_, r_f3_refl s⟩
    · rw [h3, if_neg (by rw [b_eq (by omega) (by omega)]; exact k)]
    · unfold a_fl
      rw [if_neg k]
      exact r_ST_b h k p
theorem a_mt_l {q p : Nat} (hq : q < 16) (h : a_mt f n q p = true) : a_le f n p = true := by
  have hl := (a_len_d q hq).2
  obtain ⟨h1, h2⟩ := a_mt_1 hq h 0 (by omega)
  have hc := (a_ch_d q hq 0 (by omega)).2
  rw [Nat.add_zero] at h1 h2
  exact a_le_i h1 hc.1 hc.2 h2
theorem a_ld {p : Nat} (h : a_le f n p = true) : a_dg f n p = false := by
  cases hd : a_dg f n p with
  | false => rfl
  | true =>
    obtain ⟨c, c1, c2, c3⟩ := a_le_c h
    obtain ⟨d, d1, d2, d3⟩ := a_dg_c hd
    rw [c3, b_eq (by omega) (by omega)] at d3
    omega
theorem j_nm (a : Nat) (h : a < 9223372036854775808) : ¬ (-1 : Int64) = nJ a := by
  intro e
  have := congrArg Int64.toInt e
  rw [j_t h] at this
  have e1 : (-1 : Int64).toInt = -1 := by decide
  omega
theorem r_wv_lit (hn : n ≤ 800) {q p : Nat} (hq : q < 16) : r_wv f n p = nJ (a_lit q) ↔ a_mt f n q p = true := by
  have hl := (a_lit_d q hq).2
  have hs := (a_len_d q hq).2
  rw [a_mt_h hn hq]
  unfold r_wv
  by_cases k : a_el f n p - p ≤ 12
  · rw [if_pos k]
    have b : a_hv (a_cd f p) (a_el f n p - p) < 27 ^ 12 := Nat.lt_of_lt_of_le (a_hv_le (fun i hi => (a_cd_c hn hi).2.1)) (Nat.pow_le_pow_right (by omega) k)
    rw [show (27 : Nat) ^ 12 = 150094635296999121 from by decide] at b
    rw [j_neq (by omega) (by omega)]
    refine ⟨fun e => ⟨?_, e⟩, fun e => e.2⟩
    exact (a_hv_inj (c := a_cd f p) (d := a_ch q) (k := a_el f n p - p) (l := a_len q) (fun i hi => ⟨(a_cd_c hn hi).1, (a_cd_c hn hi).2.1⟩) (fun i hi => (a_ch_d q hq i hi).2) (e.trans (a_lit_d q hq).1.symm)).1
  · rw [if_neg k]
    exact ⟨fun e => (j_nm _ (by omega) e).elim, fun e => by omega⟩
theorem r_is (hn : n ≤ 800) (h : r_ST f n z s) {q : Nat} (hq : q < 16) : fX9_is s (nJ (a_lit q)) = some (nI (decide (z.1 = 0) && a_mt f n q (a_eb f n z.2.2)).toNat) := by
  obtain ⟨h1, h2, h3, h4, h5⟩ := id h
  unfold fX9_is
  simp only [↓am_lq, b_lq]
  rw [h3]
  by_cases k : z.1 = 0
  · obtain ⟨k1, k2⟩ := h5 k
    rw [if_pos (by rw [k]), decide_eq_true k, Bool.true_and]
    generalize a_eb f n z.2.2 = p at k2
    have mf : a_le f n p = false → a_mt f n q p = false := fun e => by
      cases m : a_mt f n q p with
      | false => rfl
      | true => rw [a_mt_l hq m] at e; cases e
    rcases k2 with ⟨-, ⟨k2, k3⟩ | ⟨k2, k3, k4, k5, k6⟩ | ⟨k2, k3, k4, k5, -⟩ | ⟨k2, k3, k4, k5, -⟩⟩
    · have e : a_le f n p = false := by
        unfold a_le
        rw [decide_eq_false (by omega), Bool.false_and]
      rw [k3, if_neg (by decide), mf e]
      first | exact am_g_t (.inl rfl) | exact am_g_t (.inl trivial)
    · rw [k4, if_pos rfl, k6]
      cases m : a_mt f n q p with
      | true =>
        rw [if_pos (by rw [j_eq]; exact (r_wv_lit hn hq).mpr m)]
        first | exact am_g_t (.inr rfl) | exact am_g_t (.inr trivial)
      | false =>
        rw [if_neg (fun e => by rw [j_eq] at e; rw [(r_wv_lit hn hq).mp e] at m; cases m)]
        first | exact am_g_t (.inl rfl) | exact am_g_t (.inl trivial)
    · rw [k5, if_neg (by decide), mf k3]
      first | exact am_g_t (.inl rfl) | exact am_g_t (.inl trivial)
    · rw [k5, mf k3]
      have : ¬ (if f p = nI 59 then nI 3 else nI 4) = nI 1 := by split <;> decide
      rw [if_neg this]
      first | exact am_g_t (.inl rfl) | exact am_g_t (.inl trivial)
  · rw [if_neg (by rw [b_eq (by omega) (by omega)]; exact k), decide_eq_false k, Bool.false_and]
    first | exact am_g_t (.inl rfl) | exact am_g_t (.inl trivial)
/-- on, behind the token -/
theorem r_on (hn : n ≤ 800) (h : r_ST f n z s) (hz : z.1 = 0) {q : Nat} (hq : q ≤ n) (h7 : s.1 215 7 = nI q) : ∃ t, fX9_goesOn s = some (t, ()) ∧ r_ST f n (z.1, z.2.1, q) t ∧ r_f3 s t := by
  obtain ⟨h1, h2, h3, h4, h5⟩ := id h
  obtain ⟨t, a1, a2, a3⟩ := r_goesOn hn h1 hq h7
  exact ⟨t, a1, ⟨p_RT_f1 h1 a3, h2, by rw [a3.2.1 12 (by omega)]; exact h3, fun e => absurd hz e, fun _ => ⟨hq, a2⟩⟩, r_f13 a3⟩
theorem r_on_w (hn : n ≤ 800) (h : r_ST f n z s) (hz : z.1 = 0) {q : Nat} (hq : q < 16) (m : a_mt f n q (a_eb f n z.2.2) = true) : ∃ t, fX9_goesOn s = some (t, ()) ∧ r_ST f n (a_wd f n q z) t ∧ r_f3 s t := by
  obtain ⟨k1, k2⟩ := h.2.2.2.2 hz
  have e2 := (a_eb_p (f := f) hn z.2.2).2.1 k1
  have el := (a_el_p (f := f) hn (a_eb f n z.2.2)).2.1 e2
  have ml := a_mt_l hq m
  have m2 := a_mt_2 hn hq m
  have s7 : s.1 215 7 = nI (a_el f n (a_eb f n z.2.2)) := by
    rcases k2 with ⟨-, ⟨k2, k3⟩ | ⟨k2, k3, k4, k5, k6⟩ | ⟨k2, k3, k4, k5, -⟩ | ⟨k2, k3, k4, k5, -⟩⟩
    · have := a_le_n ml; omega
    · exact k5
    · rw [ml] at k3; cases k3
    · rw [ml] at k3; cases k3
  rw [m2] at s7 el
  obtain ⟨t, a1, a2, a3⟩ := r_on hn h hz el s7
  refine ⟨t, a1, ?_, a3⟩
  unfold a_wd
  rw [m, if_pos rfl]
  exact a2
theorem r_asks (hn : n ≤ 800) (h : r_ST f n z s) {q : Nat} (hq : q < 16) : ∃ t, fX9_asks s (nJ (a_lit q)) = some (t, ()) ∧ r_ST f n (a_wd f n q z) t ∧ r_f3 s t := by
  have hi := r_is hn h hq
  unfold fX9_asks fX9_takes
  rw [hi, am_rq]
  simp only [↓am_lq, b_lq, m_if0]
  cases hb : (decide (z.1 = 0) && a_mt f n q (a_eb f n z.2.2)) with
  | true =>
    rw [Bool.and_eq_true] at hb
    obtain ⟨t, a1, a2, a3⟩ := r_on_w hn h (of_decide_eq_true hb.1) hq hb.2
    refine ⟨t, ?_, a2, a3⟩
    rw [if_pos rfl, a1, am_cq, am_cq, if_neg (by decide)]
  | false =>
    obtain ⟨t, a1, a2, a3⟩ := r_fails hn h (c := 1) (by omega) (by omega) (a_eb f n z.2.2)
    refine ⟨t, ?_, ?_, a3⟩
    · rw [if_neg (by simp), am_cq, if_pos rfl, a1, am_cq]
    · unfold a_wd
      cases m : a_mt f n q (a_eb f n z.2.2) with
      | false => rw [if_neg (by simp)]; exact a2
      | true =>
        rw [m, Bool.and_true, decide_eq_false_iff_not] at hb
        rw [if_pos rfl]
        unfold a_fl at a2
        rw [if_neg hb] at a2
        exact r_ST_b a2 hb _
theorem r_in_n {v lo hi : Nat} (hv : v ≤ 2000000) (hlo : lo ≤ 100) (hhi : hi ≤ 100) : fX9_in (nI v).toInt64 (nI lo).toInt64 (nI hi).toInt64 = some (nI (decide (lo ≤ v ∧ v ≤ hi)).toNat) := by
  rw [p_in, j_i (by omega), j_i (by omega), j_i (by omega)]
  have e : (nJ lo ≤ nJ v ∧ nJ v ≤ nJ hi) ↔ (lo ≤ v ∧ v ≤ hi) := by rw [j_nle (by omega) (by omega), j_nle (by omega) (by omega)]
  by_cases c : lo ≤ v ∧ v ≤ hi
  · rw [if_pos (e.mpr c), decide_eq_true c]; rfl
  · rw [if_neg (fun z => c (e.mp z)), decide_eq_false c]; rfl
theorem r_num (hn : n ≤ 800) (h : r_ST f n z s) {lo hi : Nat} (hl : lo ≤ hi) (hhi : hi ≤ 100) : ∃ t v, fX9_number s (nI lo) (nI hi) = some (t, nI v) ∧ r_ST f n (a_nm f n lo hi z).1 t ∧ r_f3 s t ∧ lo ≤ v ∧ v ≤ hi ∧ (z.1 = 0 → v = (a_nm f n lo hi z).2) := by
  obtain ⟨h1, h2, h3, h4, h5⟩ := id h
  unfold fX9_number
  simp only [↓am_lq, b_lq]
  by_cases k : z.1 = 0
  · obtain ⟨k1, k2⟩ := h5 k
    have ee := (a_eb_p (f := f) hn z.2.2).2.1 k1
    have ed := (a_ed_p (f := f) hn (a_eb f n z.2.2)).2.1 ee
    rw [h3, if_pos (by rw [k])]
    cases hd : a_dg f n (a_eb f n z.2.2) with
    | true =>
      have k3 : s.1 215 8 = nI 2 ∧ s.1 215 7 = nI (a_ed f n (a_eb f n z.2.2)) ∧ ∃ v, s.1 215 10 = nI v ∧ v ≤ 2000000 ∧ min v 1000 = a_nv f n (a_eb f n z.2.2) := by
        rcases k2 with ⟨-, ⟨k2, k3⟩ | ⟨k2, k3, k4, k5, k6⟩ | ⟨k2, k3, k4, k5, k6⟩ | ⟨k2, k3, k4, k5, -⟩⟩
        · have := a_dg_n hd; omega
        · rw [a_ld k3] at hd; cases hd
        · exact ⟨k5, k6⟩
        · rw [hd] at k4; cases k4
      obtain ⟨k3, k4, v, k5, k6, k7⟩ := k3
      rw [k3, if_pos rfl, k5, r_in_n k6 (by omega) hhi, am_rq, m_if0]
      unfold a_nm
      rw [hd, if_pos rfl]
      by_cases c : lo ≤ v ∧ v ≤ hi
      · have e : a_nv f n (a_eb f n z.2.2) = v := by omega
        obtain ⟨t, a1, a2, a3⟩ := r_on hn h k ed k4
        refine ⟨t, v, ?_, ?_, a3, c.1, c.2, fun _ => ?_⟩
        · rw [decide_eq_true c, if_pos rfl, a1, am_cq]
        · rw [e, if_pos c]; exact a2
        · rw [e, if_pos c]
      · have e : ¬ (lo ≤ a_nv f n (a_eb f n z.2.2) ∧ a_nv f n (a_eb f n z.2.2) ≤ hi) := by omega
        obtain ⟨t, a1, a2, a3⟩ := r_fails hn h (c := 2) (by omega) (by omega) (a_ed f n (a_eb f n z.2.2))
        refine ⟨t, lo, ?_, ?_, a3, Nat.le_refl _, hl, fun _ => ?_⟩
        · rw [decide_eq_false c, if_neg (by simp), a1, am_cq]
        · rw [if_neg e]; exact a2
        · rw [if_neg e]
    | false =>
      have k3 : ¬ s.1 215 8 = nI 2 := by
        rcases k2 with ⟨-, ⟨k2, k3⟩ | ⟨k2, k3, k4, k5, k6⟩ | ⟨k2, k3, k4, k5, k6⟩ | ⟨k2, k3, k4, k5, -⟩⟩
        · rw [k3]; decide
        · rw [k4]; decide
        · rw [k4] at hd; cases hd
        · rw [k5]; split <;> decide
      obtain ⟨t, a1, a2, a3⟩ := r_fails hn h (c := 1) (by omega) (by omega) (a_eb f n z.2.2)
      unfold a_nm
      rw [hd]
      refine ⟨t, lo, ?_, ?_, a3, Nat.le_refl _, hl, fun _ => ?_⟩
      · rw [if_neg k3, a1, am_cq]
      · rw [if_neg (by simp)]; exact a2
      · rw [if_neg (by simp)]
  · refine ⟨s, lo, ?_, ?_, r_f3_refl s, Nat.le_refl _, hl, fun e => absurd e k⟩
    · rw [h3, if_neg (by rw [b_eq (by omega) (by omega)]; exact k)]
    · unfold a_nm a_fl
      split
      · split
        · exact r_ST_b h k _
        · first | exact r_ST_b h k _ | (rw [if_neg k]; exact r_ST_b h k _)
      · first | exact r_ST_b h k _ | (rw [if_neg k]; exact r_ST_b h k _)
theorem r_numw (hn : n ≤ 800) (h : r_ST f n z s) {q lo hi : Nat} (hq : q < 16) (hl : lo ≤ hi) (hhi : hi ≤ 100) : ∃ t v, fX9_number_ s (nJ (a_lit q)) (nI lo) (nI hi) = some (t, nI v) ∧ r_ST f n (a_wn f n q lo hi z).1 t ∧ r_f3 s t ∧ lo ≤ v ∧ v ≤ hi ∧ ((a_wd f n q z).1 = 0 → v = (a_wn f n q lo hi z).2) := by
  obtain ⟨t1, a1, a2, a3⟩ := r_asks hn h hq
  obtain ⟨t2, v, b1, b2, b3, b4, b5, b6⟩ := r_num hn a2 hl hhi
  refine ⟨t2, v, ?_, b2, r_f3_tr a3 b3, b4, b5, b6⟩
  unfold fX9_number_
  rw [a1, am_cq, b1, am_cq]
/-- with a fault, a number is the least; where it reads is all the same -/
theorem r_ST_e {y : a_Z} (h : r_ST f n y s) (hy : y.1 ≠ 0) (e1 : y.1 = z.1) (e2 : y.2.1 = z.2.1) : r_ST f n z s := by
  have := r_ST_b h hy z.2.2
  rw [e1, e2] at this
  exact this
theorem a_fl_k {c a p : Nat} (hz : z.1 ≠ 0) : (a_fl z c a p).1 = z.1 ∧ (a_fl z c a p).2.1 = z.2.1 := by
  unfold a_fl
  rw [if_neg hz]
  exact ⟨rfl, rfl⟩
theorem a_wd_k {q : Nat} (hz : z.1 ≠ 0) : (a_wd f n q z).1 = z.1 ∧ (a_wd f n q z).2.1 = z.2.1 := by
  unfold a_wd
  split
  · exact ⟨rfl, rfl⟩
  · exact a_fl_k hz
theorem a_sg_k (hz : z.1 ≠ 0) : (a_sg f n z).1 = z.1 ∧ (a_sg f n z).2.1 = z.2.1 := by
  unfold a_sg
  split
  · exact ⟨rfl, rfl⟩
  · exact a_fl_k hz
theorem a_nm_k {lo hi : Nat} (hz : z.1 ≠ 0) : (a_nm f n lo hi z).1.1 = z.1 ∧ (a_nm f n lo hi z).1.2.1 = z.2.1 := by
  unfold a_nm
  split
  · split
    · exact ⟨rfl, rfl⟩
    · exact a_fl_k hz
  · exact a_fl_k hz
theorem r_place (hn : n ≤ 800) (h : r_ST f n z s) {m m' : Nat} (hm : 1 ≤ m) (h7 : m ≤ 7) (e : s.1 222 28 = nI m) (hm' : z.1 = 0 → m = m') : ∃ t v, fX9_placeHere s = some (t, nI v) ∧ r_ST f n (a_nm f n 0 (m' - 1) z).1 t ∧ r_f3 s t ∧ v ≤ m - 1 ∧ (z.1 = 0 → v = (a_nm f n 0 (m' - 1) z).2) := by
  obtain ⟨t, v, b1, b2, b3, b4, b5, b6⟩ := r_num hn h (lo := 0) (hi := m - 1) (by omega) (by omega)
  refine ⟨t, v, ?_, ?_, b3, b5, fun k => by rw [← hm' k]; exact b6 k⟩
  · unfold fX9_placeHere fX9_hasRead
    simp (disch := omega) only [b_lq, b_add, b_t, am_g_t, b_lt0, false_or, not_false_eq_true, e, am_rq, b_sub]
    rw [b1, am_cq]
  · by_cases k : z.1 = 0
    · rw [← hm' k]; exact b2
    · have k1 := a_nm_k (f := f) (n := n) (lo := 0) (hi := m - 1) k
      have k2 := a_nm_k (f := f) (n := n) (lo := 0) (hi := m' - 1) k
      exact r_ST_e b2 (by rw [k1.1]; exact k) (by rw [k1.1, k2.1]) (by rw [k1.2, k2.2])
theorem r_place_b (h : r_ST f n z s) (hz : z.1 ≠ 0) {m : Nat} (e : s.1 222 28 = nI m) : fX9_placeHere s = some (s, nI 0) := by
  obtain ⟨h1, h2, h3, h4, h5⟩ := id h
  unfold fX9_placeHere fX9_hasRead fX9_number
  simp (disch := omega) only [b_lq, b_add, b_t, am_g_t, b_lt0, false_or, not_false_eq_true, e, am_rq, h3, b_eq, if_neg, am_cq]
end RK
