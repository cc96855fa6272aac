/-! THE TEXT: the reference's tokens. -/
/-- the same but for the reader's own cells -/
def r_f1 (s t : AS) : Prop := (∀ c, c ≠ 215 → t.1 c = s.1 c) ∧ (∀ k, k < 7 ∨ 11 ≤ k → t.1 215 k = s.1 215 k) ∧ ∀ c, c ≠ 215 → t.2 c = s.2 c
def r_wv (f : Nat → Int32) (n p : Nat) : Int64 := if a_el f n p - p ≤ 12 then nJ (a_hv (a_cd f p) (a_el f n p - p)) else -1
/-- what the reader holds of the token at p -/
def r_TK (f : Nat → Int32) (n p : Nat) (s : AS) : Prop := s.1 215 9 = nI p ∧ ((p = n ∧ s.1 215 8 = nI 0) ∨ (p < n ∧ a_le f n p = true ∧ s.1 215 8 = nI 1 ∧ s.1 215 7 = nI (a_el f n p) ∧ s.2 215 11 = r_wv f n p) ∨ (p < n ∧ a_le f n p = false ∧ a_dg f n p = true ∧ s.1 215 8 = nI 2 ∧ s.1 215 7 = nI (a_ed f n p) ∧ ∃ v, s.1 215 10 = nI v ∧ v ≤ 2000000 ∧ min v 1000 = a_nv f n p) ∨ (p < n ∧ a_le f n p = false ∧ a_dg f n p = false ∧ s.1 215 8 = (if f p = nI 59 then nI 3 else nI 4) ∧ s.1 215 7 = nI (p + 1)))
theorem b_ok {i m : Nat} (h : i < m) (hi : i < 2147483648) : ¬ (nI i < nI 0 ∨ m ≤ i) := by
  rw [b_lt0 hi]
  rintro (h1 | h1)
  · exact h1
  · omega
theorem b_ok2 {i m : Nat} (h : i < m) (hi : i < 2147483648) : ¬ (nI i < nI 0 ∨ m ≤ (nI i).toNatClampNeg) := by
  rw [b_t hi]
  exact b_ok h hi
section RT
variable {f : Nat → Int32} {n : Nat} {s t u : AS}
theorem r_f1_refl (s : AS) : r_f1 s s := ⟨fun _ _ => rfl, fun _ _ => rfl, fun _ _ => rfl⟩
theorem r_f1_tr (h : r_f1 s t) (k : r_f1 t u) : r_f1 s u := ⟨fun c hc => (k.1 c hc).trans (h.1 c hc), fun c hc => (k.2.1 c hc).trans (h.2.1 c hc), fun c hc => (k.2.2 c hc).trans (h.2.2 c hc)⟩
theorem r_f1_si (h : r_f1 s t) {k : Nat} (x : Int32) (h7 : 7 ≤ k) (h14 : k < 11) : r_f1 s (am_si t 215 k x) := ⟨fun c hc => by rw [r_so _ _ _ hc]; exact h.1 c hc, fun j hj => by rw [r_si, r_uo _ _ (by omega)]; exact h.2.1 j hj, h.2.2⟩
theorem r_f1_sj (h : r_f1 s t) (k : Nat) (x : Int64) : r_f1 s (am_sj t 215 k x) := ⟨h.1, h.2.1, fun c hc => by rw [r_jo _ _ _ hc]; exact h.2.2 c hc⟩
theorem p_RT_f1 (h : p_RT n f s) (k : r_f1 s t) : p_RT n f t := ⟨by rw [k.2.1 6 (by omega)]; exact h.1, fun i => by rw [k.1 220 (by omega)]; exact h.2 i⟩
theorem r_byte (hn : n ≤ 800) (h : p_RT n f s) {i lo hi : Nat} (hi' : i < 100000) : fX9_isByte s (nI i) (nI lo) (nI hi) = some (nI (decide (i < n) && (decide (nI lo ≤ f i) && decide (f i ≤ nI hi))).toNat) := by
  have h1 := h.1
  have h2 := h.2
  unfold fX9_isByte
  simp only [↓am_lq, b_lq]
  rw [h1]
  by_cases c : i < n
  · rw [if_neg (by rw [b_le (by omega) (by omega)]; omega), decide_eq_true c, Bool.true_and]
    simp (disch := omega) only [b_t, b_lt0, am_g_t, h2, false_or, not_false_eq_true, Nat.not_le]
    by_cases c1 : f i < nI lo
    · rw [if_pos c1, decide_eq_false (Int32.not_le.mpr c1)]
      first | exact am_g_t (.inl rfl) | exact am_g_t (.inl trivial)
    · rw [if_neg c1, decide_eq_true (Int32.not_lt.mp c1), Bool.true_and]
      by_cases c2 : nI hi < f i
      · rw [if_pos c2, decide_eq_false (Int32.not_le.mpr c2)]
        first | exact am_g_t (.inl rfl) | exact am_g_t (.inl trivial)
      · rw [if_neg c2, decide_eq_true (Int32.not_lt.mp c2)]
        first | exact am_g_t (.inr rfl) | exact am_g_t (.inr trivial)
  · rw [if_pos (by rw [b_le (by omega) (by omega)]; omega), decide_eq_false c, Bool.false_and]
    first | exact am_g_t (.inl rfl) | exact am_g_t (.inl trivial)
theorem r_isLe (hn : n ≤ 800) (h : p_RT n f s) {i : Nat} (hi : i < 100000) : fX9_isByte s (nI i) (nI 97) (nI 122) = some (nI (a_le f n i).toNat) := r_byte hn h hi
theorem r_isDg (hn : n ≤ 800) (h : p_RT n f s) {i : Nat} (hi : i < 100000) : fX9_isByte s (nI i) (nI 48) (nI 57) = some (nI (a_dg f n i).toNat) := r_byte hn h hi
theorem r_isC (hn : n ≤ 800) (h : p_RT n f s) {i c : Nat} (hi : i < 100000) : fX9_isByte s (nI i) (nI c) (nI c) = some (nI (decide (i < n) && decide (f i = nI c)).toNat) := by
  have e : (decide (nI c ≤ f i) && decide (f i ≤ nI c)) = decide (f i = nI c) := by
    by_cases k : f i = nI c
    · rw [k]; simp
    · rw [decide_eq_false k, Bool.and_eq_false_iff]
      by_cases k1 : nI c ≤ f i
      · right
        rw [decide_eq_false_iff_not]
        exact fun k2 => k (Int32.le_antisymm k2 k1)
      · left
        exact decide_eq_false k1
  rw [r_byte hn h hi, e]
/-- over the blanks -/
theorem r_L0 (hn : n ≤ 800) (h : p_RT n f s) {q : Nat} (hq : q ≤ n) (h7 : s.1 215 7 = nI q) : ∃ t, (∀ J, fX9_goesOn_L0 J am_fu s = J t) ∧ t.1 215 7 = nI (a_eb f n q) ∧ r_f1 s t := by
  obtain ⟨e1, e2, e3, e4⟩ := a_eb_p (f := f) hn q
  have e2 := e2 hq
  refine sp_g (fun g (x : AS) => fun J => fX9_goesOn_L0 J g x) q (a_eb f n q) (fun i x => x.1 215 7 = nI i ∧ r_f1 s x) (fun r => ∃ t, (∀ J, r J = J t) ∧ t.1 215 7 = nI (a_eb f n q) ∧ r_f1 s t) (fun g i x h1 h2 hx => ?_) (fun g x hx => ?_) e1 s ⟨h7, r_f1_refl s⟩ am_fu (by have := am_fu_gt (n := 1000) (by omega); omega)
  · obtain ⟨k1, k2⟩ := hx
    have R := p_RT_f1 h k2
    have hb := e4 i h1 h2
    have hin := a_bk_n hb
    refine ⟨am_si x 215 7 (nI (i + 1)), ⟨by rw [r_si, r_us], r_f1_si k2 _ (by omega) (by omega)⟩, ?_⟩
    have b1 := r_isC (c := 32) hn R (show i < 100000 by omega)
    have b2 := r_isC (c := 10) hn R (show i < 100000 by omega)
    unfold a_bk at hb
    rw [decide_eq_true hin, Bool.true_and, Bool.or_eq_true] at hb
    funext J
    show fX9_goesOn_L0 J (g + 1) x = fX9_goesOn_L0 J g _
    rw [fX9_goesOn_L0]
    simp only [↓am_lq, b_lq]
    rw [k1, b1, am_rq, decide_eq_true hin, Bool.true_and, m_if0, b_add]
    rcases hb with d | d
    · rw [d, if_pos rfl]
    · by_cases d0 : decide (f i = nI 32) = true
      · rw [if_pos d0]
      · rw [if_neg d0, b2, am_rq, decide_eq_true hin, Bool.true_and, m_if0, if_pos d]
  · obtain ⟨k1, k2⟩ := hx
    have R := p_RT_f1 h k2
    refine ⟨x, fun J => ?_, k1, k2⟩
    show fX9_goesOn_L0 J (g + 1) x = J x
    generalize a_eb f n q = e at *
    have b1 := r_isC (c := 32) hn R (show e < 100000 by omega)
    have b2 := r_isC (c := 10) hn R (show e < 100000 by omega)
    unfold a_bk at e3
    have d1 : (decide (e < n) && decide (f e = nI 32)) = false := by
      cases a : decide (e < n) with
      | false => rfl
      | true => rw [a, Bool.true_and, Bool.or_eq_false_iff] at e3; rw [e3.1]; rfl
    have d2 : (decide (e < n) && decide (f e = nI 10)) = false := by
      cases a : decide (e < n) with
      | false => rfl
      | true => rw [a, Bool.true_and, Bool.or_eq_false_iff] at e3; rw [e3.2]; rfl
    rw [fX9_goesOn_L0]
    simp only [↓am_lq, b_lq]
    rw [k1, b1, am_rq, d1, m_if0, if_neg (by simp), b2, am_rq, d2, m_if0, if_neg (by simp)]
theorem j_m1 : (-1 : Int64) = -nJ 1 := Eq.trans rfl rfl
theorem r_wv_s {p i c : Nat} (hc : c = (f i).toNatClampNeg) (h1 : 97 ≤ c) (h2 : c ≤ 122) (hf : f i = nI c) (hp : p ≤ i) (k : i - p ≤ 11) : (27 : Int64) * nJ (a_hv (a_cd f p) (i - p)) + (f i).toInt64 - 96 = nJ (a_hv (a_cd f p) (i + 1 - p)) := by
  rw [show i + 1 - p = (i - p) + 1 by omega, a_hv_s, show a_cd f p (i - p) = c by show (f (p + (i - p))).toNatClampNeg = c; rw [show p + (i - p) = i by omega, hc], hf, j_i (by omega), show (27 : Int64) = nJ 27 from rfl, show (96 : Int64) = nJ 96 from rfl, j_mul, j_add, j_nsub (by omega)]
  congr 1
  omega
/-- over the letters -/
theorem r_L102 (hn : n ≤ 800) (h : p_RT n f s) {p : Nat} (hp : p ≤ n) (h7 : s.1 215 7 = nI p) (hw : s.2 215 11 = 0) : ∃ t, (∀ J, fX9_goesOn_L102 J am_fu s (nI 0) = J t) ∧ t.1 215 7 = nI (a_el f n p) ∧ t.2 215 11 = r_wv f n p ∧ t.1 215 8 = s.1 215 8 ∧ t.1 215 9 = s.1 215 9 ∧ r_f1 s t := by
  obtain ⟨e1, e2, e3, e4⟩ := a_el_p (f := f) hn p
  have e2 := e2 hp
  refine sp_g (fun g (x : AS × Int32) => fun J => fX9_goesOn_L102 J g x.1 x.2) p (a_el f n p) (fun i x => x.1.1 215 7 = nI i ∧ x.1.2 215 11 = (if i - p ≤ 12 then nJ (a_hv (a_cd f p) (i - p)) else -1) ∧ x.1.1 215 8 = s.1 215 8 ∧ x.1.1 215 9 = s.1 215 9 ∧ r_f1 s x.1 ∧ x.2 = nI (i - p)) (fun r => ∃ t, (∀ J, r J = J t) ∧ t.1 215 7 = nI (a_el f n p) ∧ t.2 215 11 = r_wv f n p ∧ t.1 215 8 = s.1 215 8 ∧ t.1 215 9 = s.1 215 9 ∧ r_f1 s t) (fun g i x h1 h2 hx => ?_) (fun g x hx => ?_) e1 (s, nI 0) ⟨h7, by rw [Nat.sub_self, if_pos (by omega), hw]; rfl, rfl, rfl, r_f1_refl s, by rw [Nat.sub_self]⟩ am_fu (by have := am_fu_gt (n := 1000) (by omega); omega)
  · obtain ⟨x, y⟩ := x
    obtain ⟨k1, k2, k3, k4, k5, k6⟩ := hx
    dsimp only at k1 k2 k3 k4 k5 k6 ⊢
    subst k6
    have R := p_RT_f1 h k5
    have hb := e4 i h1 h2
    have hin := a_le_n hb
    obtain ⟨c, c1, c2, c3⟩ := a_le_c hb
    have b1 := r_isLe hn R (show i < 100000 by omega)
    have ec : c = (f i).toNatClampNeg := by rw [c3, b_t (by omega)]
    by_cases c11 : i - p ≤ 11
    · refine ⟨(am_si (am_sj x 215 11 (nJ (a_hv (a_cd f p) (i + 1 - p)))) 215 7 (nI (i + 1)), nI (i + 1 - p)), ⟨by rw [r_si, r_us], ?_, ?_, ?_, r_f1_si (r_f1_sj k5 _ _) _ (by omega) (by omega), rfl⟩, ?_⟩
      · rw [if_pos (by omega), r_s2, r_ji, r_ls]
      · rw [r_si, r_uo _ _ (by omega)]; exact k3
      · rw [r_si, r_uo _ _ (by omega)]; exact k4
      · funext J
        show fX9_goesOn_L102 J (g + 1) x _ = fX9_goesOn_L102 J g _ _
        rw [fX9_goesOn_L102]
        simp only [↓am_lq, b_lq]
        rw [k1, b1, am_rq, hb, m_if0, if_pos rfl, if_pos (by rw [b_le (by omega) (by omega)]; exact c11), b_t (by omega), am_g_t (b_ok (by omega) (by omega))]
        rw [if_pos (by rw [b_le (by omega) (by omega)]; exact c11), k2, if_pos (by omega), R.2 i, r_wv_s ec c1 c2 c3 h1 c11, r_j1, k1, b_add, b_add, show i - p + 1 = i + 1 - p by omega]
    · refine ⟨(am_si (am_sj (am_sj x 215 11 (-1)) 215 11 (-1)) 215 7 (nI (i + 1)), nI (i + 1 - p)), ⟨by rw [r_si, r_us], ?_, ?_, ?_, r_f1_si (r_f1_sj (r_f1_sj k5 _ _) _ _) _ (by omega) (by omega), rfl⟩, ?_⟩
      · rw [if_neg (by omega), r_s2, r_ji, r_ls]
      · rw [r_si, r_uo _ _ (by omega)]; exact k3
      · rw [r_si, r_uo _ _ (by omega)]; exact k4
      · funext J
        show fX9_goesOn_L102 J (g + 1) x _ = fX9_goesOn_L102 J g _ _
        rw [fX9_goesOn_L102]
        simp only [↓am_lq, b_lq]
        rw [k1, b1, am_rq, hb, m_if0, if_pos rfl, if_neg (by rw [b_le (by omega) (by omega)]; exact c11), if_neg (by rw [b_le (by omega) (by omega)]; exact c11), r_j1, r_j1, k1, b_add, b_add, show i - p + 1 = i + 1 - p by omega]
  · obtain ⟨x, y⟩ := x
    obtain ⟨k1, k2, k3, k4, k5, k6⟩ := hx
    dsimp only at k1 k2 k3 k4 k5 k6 ⊢
    subst k6
    have R := p_RT_f1 h k5
    have b1 := r_isLe hn R (show a_el f n p < 100000 by omega)
    refine ⟨x, fun J => ?_, k1, k2, k3, k4, k5⟩
    show fX9_goesOn_L102 J (g + 1) x _ = J x
    rw [fX9_goesOn_L102]
    simp only [b_lq]
    rw [k1, b1, am_rq, e3, m_if0, if_neg (by simp)]
/-- over the digits -/
theorem r_L208 (hn : n ≤ 800) (h : p_RT n f s) {p : Nat} (hp : p ≤ n) (h7 : s.1 215 7 = nI p) (hw : s.1 215 10 = nI 0) : ∃ t, (∀ J, fX9_goesOn_L208 J am_fu s = J t) ∧ t.1 215 7 = nI (a_ed f n p) ∧ (∃ v, t.1 215 10 = nI v ∧ v ≤ 2000000 ∧ min v 1000 = a_nv f n p) ∧ t.1 215 8 = s.1 215 8 ∧ t.1 215 9 = s.1 215 9 ∧ r_f1 s t := by
  obtain ⟨e1, e2, e3, e4⟩ := a_ed_p (f := f) hn p
  have e2 := e2 hp
  refine sp_g (fun g (x : AS) => fun J => fX9_goesOn_L208 J g x) p (a_ed f n p) (fun i x => x.1 215 7 = nI i ∧ (∃ v, x.1 215 10 = nI v ∧ v ≤ 2000000 ∧ min v 1000 = min (a_vl f p (i - p)) 1000) ∧ x.1 215 8 = s.1 215 8 ∧ x.1 215 9 = s.1 215 9 ∧ r_f1 s x) (fun r => ∃ t, (∀ J, r J = J t) ∧ t.1 215 7 = nI (a_ed f n p) ∧ (∃ v, t.1 215 10 = nI v ∧ v ≤ 2000000 ∧ min v 1000 = a_nv f n p) ∧ t.1 215 8 = s.1 215 8 ∧ t.1 215 9 = s.1 215 9 ∧ r_f1 s t) (fun g i x h1 h2 hx => ?_) (fun g x hx => ?_) e1 s ⟨h7, ⟨0, hw, by omega, by rw [Nat.sub_self]; rfl⟩, rfl, rfl, r_f1_refl s⟩ am_fu (by have := am_fu_gt (n := 1000) (by omega); omega)
  · obtain ⟨k1, ⟨v, kv, kl, km⟩, k3, k4, k5⟩ := hx
    have R := p_RT_f1 h k5
    have hb := e4 i h1 h2
    have hin := a_dg_n hb
    obtain ⟨c, c1, c2, c3⟩ := a_dg_c hb
    have b1 := r_isDg hn R (show i < 100000 by omega)
    have ev : a_vl f p (i + 1 - p) = 10 * a_vl f p (i - p) + (c - 48) := by
      rw [show i + 1 - p = (i - p) + 1 by omega, a_vl_s, show p + (i - p) = i by omega, c3, b_t (by omega)]
    rw [ev]
    generalize a_vl f p (i - p) = w at km
    by_cases c0 : v ≤ 100000
    · refine ⟨am_si (am_si x 215 10 (nI (10 * v + c - 48))) 215 7 (nI (i + 1)), ⟨by rw [r_si, r_us], ⟨10 * v + c - 48, ?_, by omega, by omega⟩, ?_, ?_, r_f1_si (r_f1_si k5 _ (by omega) (by omega)) _ (by omega) (by omega)⟩, ?_⟩
      · rw [r_si, r_uo _ _ (by omega), r_si, r_us]
      · rw [r_si, r_uo _ _ (by omega), r_si, r_uo _ _ (by omega)]; exact k3
      · rw [r_si, r_uo _ _ (by omega), r_si, r_uo _ _ (by omega)]; exact k4
      · funext J
        show fX9_goesOn_L208 J (g + 1) x = fX9_goesOn_L208 J g _
        rw [fX9_goesOn_L208]
        simp only [↓am_lq, b_lq]
        rw [k1, b1, am_rq, hb, m_if0, if_pos rfl, kv, if_pos (by rw [b_le (by omega) (by omega)]; exact c0), b_t (by omega), am_g_t (b_ok (by omega) (by omega)), R.2 i, c3, b_mul, b_add, b_sub (by omega), r_si, r_uo _ _ (by omega), k1, b_add]
    · refine ⟨am_si (am_si x 215 10 (nI 1000000)) 215 7 (nI (i + 1)), ⟨by rw [r_si, r_us], ⟨1000000, ?_, by omega, by omega⟩, ?_, ?_, r_f1_si (r_f1_si k5 _ (by omega) (by omega)) _ (by omega) (by omega)⟩, ?_⟩
      · rw [r_si, r_uo _ _ (by omega), r_si, r_us]
      · rw [r_si, r_uo _ _ (by omega), r_si, r_uo _ _ (by omega)]; exact k3
      · rw [r_si, r_uo _ _ (by omega), r_si, r_uo _ _ (by omega)]; exact k4
      · funext J
        show fX9_goesOn_L208 J (g + 1) x = fX9_goesOn_L208 J g _
        rw [fX9_goesOn_L208]
        simp only [↓am_lq, b_lq]
        rw [k1, b1, am_rq, hb, m_if0, if_pos rfl, kv, if_neg (by rw [b_le (by omega) (by omega)]; exact c0), r_si, r_uo _ _ (by omega), k1, b_add]
  · obtain ⟨k1, kv, k3, k4, k5⟩ := hx
    have R := p_RT_f1 h k5
    have b1 := r_isDg hn R (show a_ed f n p < 100000 by omega)
    refine ⟨x, fun J => ?_, k1, kv, k3, k4, k5⟩
    show fX9_goesOn_L208 J (g + 1) x = J x
    rw [fX9_goesOn_L208]
    simp only [b_lq]
    rw [k1, b1, am_rq, e3, m_if0, if_neg (by simp)]
/-- the next token -/
theorem r_goesOn (hn : n ≤ 800) (h : p_RT n f s) {q : Nat} (hq : q ≤ n) (h7 : s.1 215 7 = nI q) : ∃ t, fX9_goesOn s = some (t, ()) ∧ r_TK f n (a_eb f n q) t ∧ r_f1 s t := by
  obtain ⟨t1, a1, a2, a3⟩ := r_L0 hn h hq h7
  obtain ⟨e1, e2, e3, e4⟩ := a_eb_p (f := f) hn q
  have e2 := e2 hq
  generalize a_eb f n q = e at *
  unfold fX9_goesOn
  simp only [↓am_lq, b_lq]
  rw [a1, a2]
  have F : r_f1 s (am_sj (am_si (am_si t1 215 9 (nI e)) 215 10 (nI 0)) 215 11 0) := r_f1_sj (r_f1_si (r_f1_si a3 _ (by omega) (by omega)) _ (by omega) (by omega)) _ _
  have g7 : (am_sj (am_si (am_si t1 215 9 (nI e)) 215 10 (nI 0)) 215 11 0).1 215 7 = nI e := by rw [r_j1, r_si, r_uo _ _ (by omega), r_si, r_uo _ _ (by omega)]; exact a2
  have g9 : (am_sj (am_si (am_si t1 215 9 (nI e)) 215 10 (nI 0)) 215 11 0).1 215 9 = nI e := by rw [r_j1, r_si, r_uo _ _ (by omega), r_si, r_us]
  have g10 : (am_sj (am_si (am_si t1 215 9 (nI e)) 215 10 (nI 0)) 215 11 0).1 215 10 = nI 0 := by rw [r_j1, r_si, r_us]
  have g11 : (am_sj (am_si (am_si t1 215 9 (nI e)) 215 10 (nI 0)) 215 11 0).2 215 11 = 0 := by rw [r_ji, r_ls]
  generalize am_sj (am_si (am_si t1 215 9 (nI e)) 215 10 (nI 0)) 215 11 0 = w at F g7 g9 g10 g11 ⊢
  have R := p_RT_f1 h F
  rw [g7, R.1]
  have b1 := r_isLe hn R (show e < 100000 by omega)
  have b2 := r_isDg hn R (show e < 100000 by omega)
  by_cases c : e = n
  · refine ⟨am_si w 215 8 (nI 0), ?_, ⟨?_, .inl ⟨c, ?_⟩⟩, r_f1_si F _ (by omega) (by omega)⟩
    · rw [if_pos (by rw [c])]
    · rw [r_si, r_uo _ _ (by omega)]; exact g9
    · rw [r_si, r_us]
  · have c' : e < n := by omega
    rw [if_neg (by rw [b_eq (by omega) (by omega)]; exact c), b1, am_rq, m_if0]
    cases hl : a_le f n e with
    | true =>
      rw [if_pos rfl]
      have w7 : (am_si w 215 8 (nI 1)).1 215 7 = nI e := by rw [r_si, r_uo _ _ (by omega)]; exact g7
      obtain ⟨t, q1, q2, q3, q4, q5, q6⟩ := r_L102 hn (s := am_si w 215 8 (nI 1)) (p_RT_f1 R (r_f1_si (r_f1_refl w) _ (by omega) (by omega))) e2 w7 (by rw [r_s2]; exact g11)
      refine ⟨t, ?_, ⟨?_, .inr (.inl ⟨c', hl, ?_, q2, q3⟩)⟩, r_f1_tr (r_f1_si F _ (by omega) (by omega)) q6⟩
      · rw [q1]
      · rw [q5, r_si, r_uo _ _ (by omega)]; exact g9
      · rw [q4, r_si, r_us]
    | false =>
      rw [if_neg (by simp), b2, am_rq, m_if0]
      cases hd : a_dg f n e with
      | true =>
        rw [if_pos rfl]
        have w7 : (am_si w 215 8 (nI 2)).1 215 7 = nI e := by rw [r_si, r_uo _ _ (by omega)]; exact g7
        obtain ⟨t, q1, q2, q3, q4, q5, q6⟩ := r_L208 hn (s := am_si w 215 8 (nI 2)) (p_RT_f1 R (r_f1_si (r_f1_refl w) _ (by omega) (by omega))) e2 w7 (by rw [r_si, r_uo _ _ (by omega)]; exact g10)
        refine ⟨t, ?_, ⟨?_, .inr (.inr (.inl ⟨c', hl, hd, ?_, q2, q3⟩))⟩, r_f1_tr (r_f1_si F _ (by omega) (by omega)) q6⟩
        · rw [q1]
        · rw [q5, r_si, r_uo _ _ (by omega)]; exact g9
        · rw [q4, r_si, r_us]
      | false =>
        rw [if_neg (by simp), b_t (by omega), am_g_t (b_ok (by omega) (by omega)), R.2 e]
        refine ⟨am_si (am_si w 215 8 (if f e = nI 59 then nI 3 else nI 4)) 215 7 (nI (e + 1)), ?_, ⟨?_, .inr (.inr (.inr ⟨c', hl, hd, ?_, ?_⟩))⟩, r_f1_si (r_f1_si F _ (by omega) (by omega)) _ (by omega) (by omega)⟩
        · by_cases k : f e = nI 59
          · rw [if_pos k, if_pos k, r_si, r_uo _ _ (by omega), g7, b_add]
          · rw [if_neg k, if_neg k, r_si, r_uo _ _ (by omega), g7, b_add]
        · rw [r_si, r_uo _ _ (by omega), r_si, r_uo _ _ (by omega)]; exact g9
        · rw [r_si, r_uo _ _ (by omega), r_si, r_us]
        · rw [r_si, r_us]
end RT
