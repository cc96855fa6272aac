/-! QUESTIONS: paces, walks, loop. -/
section QH
variable {M : m_M} {s t : AS} {P : m_P}
theorem b_oo {x y : Option Nat} (hx : ∀ k, x = some k → k < 1000) (hy : ∀ k, y = some k → k < 1000) : (oI x = oI y) = (x = y) := by
  cases x with
  | none =>
    cases y with
    | none => simp
    | some j =>
      have := hy j rfl
      rw [oI_s, b_nn2 (by omega)]
      simp
  | some i =>
    have := hx i rfl
    cases y with
    | none => rw [oI_s, b_nn (by omega)]; simp
    | some j =>
      have := hy j rfl
      rw [oI_s, oI_s, b_eq (by omega) (by omega)]
      simp
theorem r_roadOf {D : w_D} {sh : Nat} (hD : w_V D) (hsh : sh < 1024) (hP : r_PL D t) (hs : t.1 215 24 = nI sh) {x y : Nat} (hx : x < 10) (hy : y < 10) : fX9_roadOf t (nI x) (nI y) = some (nI (y_bs 100000 D.2.1 sh x y (D.1 4))) := by
  obtain ⟨d0, d4, d5, dr, dp, -⟩ := id hD
  have e4 := hP.1 4 (by omega)
  unfold fX9_roadOf
  simp only [b_lq]
  refine sp_lq (fun f (z : Int32) i => fX9_roadOf_L6 (nI x) (nI y) t f z i) (D.1 4) (fun i z => z = nI (y_bs 100000 D.2.1 sh x y i)) (fun r => r = some (nI (y_bs 100000 D.2.1 sh x y (D.1 4)))) (fun f i z hi hz => ?_) (fun f z hz => ?_) (nI 100000) rfl am_fu (am_fu_gt (by omega))
  · left
    subst hz
    refine ⟨_, rfl, ?_⟩
    obtain ⟨r0, r1, r2, r3, r4⟩ := dr i hi
    have j0 := hP.2.1 i 0 hi (by omega)
    have j1 := hP.2.1 i 1 hi (by omega)
    have j2 := hP.2.1 i 2 hi (by omega)
    rw [Nat.add_zero] at j0
    have l := y_bs_le 100000 D.2.1 sh x y i
    have hb := c_isBit (x := sh) (p := i) hsh (by omega)
    rw [fX9_roadOf_L6, y_bs_s]
    have ye : y_e D.2.1 sh i x y = (!sh.testBit i && ((D.2.1 i 0 == x && D.2.1 i 1 == y) || (D.2.1 i 0 == y && D.2.1 i 1 == x))) := rfl
    have fin : ∀ (b : Bool), sh.testBit i = b → (if b = false then (if y_bs 100000 D.2.1 sh x y i ≤ D.2.1 i 2 then fX9_roadOf_L6 (nI x) (nI y) t f (nI (y_bs 100000 D.2.1 sh x y i)) (nI (i + 1)) else fX9_roadOf_L6 (nI x) (nI y) t f (nI (D.2.1 i 2)) (nI (i + 1))) else fX9_roadOf_L6 (nI x) (nI y) t f (nI (y_bs 100000 D.2.1 sh x y i)) (nI (i + 1))) = fX9_roadOf_L6 (nI x) (nI y) t f (nI (if (!b) = true then min (y_bs 100000 D.2.1 sh x y i) (D.2.1 i 2) else y_bs 100000 D.2.1 sh x y i)) (nI (i + 1)) := by
      intro b _
      cases b with
      | true => rfl
      | false =>
        rw [if_pos rfl, if_pos (show (!false) = true from rfl)]
        by_cases c : y_bs 100000 D.2.1 sh x y i ≤ D.2.1 i 2
        · rw [if_pos c, Nat.min_eq_left c]
        · rw [if_neg c, Nat.min_eq_right (by omega)]
    simp (disch := omega) only [↓am_lq, b_lq, e4, hs, b_le, b_lt, b_t, b_eq, b_mul, b_add, am_g_t, j0, j1, j2, hb, am_rq, b_b0, if_neg, if_false, if_true]
    by_cases c1 : D.2.1 i 0 = x
    · by_cases c2 : D.2.1 i 1 = y
      · rw [if_pos c1, if_pos c2, fin _ rfl, ye, c1, c2]
        simp
      · rw [if_pos c1, if_neg c2]
        by_cases c3 : D.2.1 i 0 = y
        · by_cases c4 : D.2.1 i 1 = x
          · exfalso; omega
          · rw [if_pos c3]; first | rw [if_neg c4, if_neg (by rw [ye]; simp [c2, c4])] | rw [if_neg (by rw [ye]; simp [c2, c4])]
        · rw [if_neg c3, if_neg (by rw [ye]; simp [c2, c3])]
    · rw [if_neg c1]
      by_cases c3 : D.2.1 i 0 = y
      · by_cases c4 : D.2.1 i 1 = x
        · rw [if_pos c3, if_pos c4, fin _ rfl, ye, c3, c4]
          simp
        · rw [if_pos c3]; first | rw [if_neg c4, if_neg (by rw [ye]; simp [c1, c4])] | rw [if_neg (by rw [ye]; simp [c1, c4])]
      · rw [if_neg c3, if_neg (by rw [ye]; simp [c1, c3])]
  · subst hz
    rw [fX9_roadOf_L6]
    simp (disch := omega) only [b_lq, e4, b_le, b_lt, b_t, am_g_t, if_pos, if_true]
/-- how long it goes from step n on -/
def m_gn (P : m_P) (n : Nat) : Nat := match w_at P.1 (m_C P) n, w_at P.1 (m_C P) (n + 1) with
  | some x, some y => y_bs 100000 P.1.2.1 (m_BA P) x y (P.1.1 4)
  | _, _ => 0
theorem c_gone (hV : m_PV P) (hl : 0 < P.1.1 6) (h : c_T P t) {a b : Nat} (ha : a < 61) (hb : b < 61) : fX8_goneBetween t (nI a) (nI b) = some (nI (m_sum (fun i => m_gn P (a + i)) (b - a))) := by
  unfold fX8_goneBetween
  simp only [↓am_lq, b_lq]
  refine sp_lk (fun f (x : Int32) i => fX8_goneBetween_L5 (nI b) t (fun x1 => some x1) f x i) (a + (b - a)) a (fun i x => x = nI (m_sum (fun i => m_gn P (a + i)) (i - a))) (fun r => r = some (nI (m_sum (fun i => m_gn P (a + i)) (b - a)))) (fun f i x hk hi hx => ?_) (fun f x hx => ?_) (by omega) (nI 0) (by rw [Nat.sub_self]; rfl) am_fu (am_fu_gt (by omega))
  · left
    subst hx
    refine ⟨_, rfl, ?_⟩
    have e1 := T_at h (show i < 61 by omega)
    have e2 := T_at h (show i + 1 < 61 by omega)
    rw [fX8_goneBetween_L5, show i + 1 - a = (i - a) + 1 by omega]
    show _ = fX8_goneBetween_L5 (nI b) t (fun x1 => some x1) f (nI (m_sum (fun i => m_gn P (a + i)) (i - a) + m_gn P (a + (i - a)))) (nI (i + 1))
    rw [show a + (i - a) = i by omega]
    unfold m_gn
    cases hx : w_at P.1 (m_C P) i with
    | none =>
      rw [hx] at e1
      simp (disch := omega) only [↓am_lq, b_lq, oI_q, b_le, b_lt, b_t, b_add, am_g_t, e1, if_neg, if_false, if_true, Nat.add_zero]
    | some x =>
      have hx10 := w_at_10 hV hl hx
      rw [hx, oI_s] at e1
      have b1 : (nI x = oI none) = False := b_nn (by omega)
      cases hy : w_at P.1 (m_C P) (i + 1) with
      | none =>
        rw [hy] at e2
        simp (disch := omega) only [↓am_lq, b_lq, oI_q, b_le, b_lt, b_t, b_add, am_g_t, e1, e2, b1, if_neg, if_false, if_true, Nat.add_zero]
      | some y =>
        have hy10 := w_at_10 hV hl hy
        rw [hy, oI_s] at e2
        have b2 : (nI y = oI none) = False := b_nn (by omega)
        have hadj := w_adj hx hy
        have hb := c_besideBy hV.1 t h.1 hx10.1 hy10.1
        have hf := y_bs_ff (F := 100000) (F' := 1000000) (sh := m_BA P) (nr := P.1.1 4) (ro := P.1.2.1) (by omega) (by omega) (fun r hr => (hV.1.2.2.2.1 r hr).2.2.2.2) x y (P.1.1 4) (Nat.le_refl _)
        rw [if_pos (by omega), show y_bs 1000000 P.1.2.1 (m_BA P) x y (P.1.1 4) = y_bs 100000 P.1.2.1 (m_BA P) x y (P.1.1 4) by omega] at hb
        simp (disch := omega) only [↓am_lq, b_lq, oI_q, b_le, b_lt, b_t, b_add, am_g_t, e1, e2, b1, b2, hb, am_rq, if_neg, if_false, if_true]
  · subst hx
    rw [fX8_goneBetween_L5]
    simp (disch := omega) only [b_lq, b_le, if_pos, if_true]
    rw [show a + (b - a) - a = b - a by omega]
theorem R_gn (hV : m_PV P) (hl : 0 < P.1.1 6) (h : r_T P t) {k : Nat} (hk : k + 1 < 61) : (if t.1 229 (k + 1) = oI none then some (nI 0) else fX9_roadOf t (t.1 229 k) (t.1 229 (k + 1))) = some (nI (m_gn P k)) := by
  have e1 := R_at h (show k < 61 by omega)
  have e2 := R_at h hk
  unfold m_gn
  cases hy : w_at P.1 (m_C P) (k + 1) with
  | none =>
    rw [hy] at e2
    rw [e2, if_pos rfl]
    cases w_at P.1 (m_C P) k <;> rfl
  | some y =>
    have hy10 := w_at_10 hV hl hy
    rw [hy, oI_s] at e2
    cases hx : w_at P.1 (m_C P) k with
    | none =>
      have := (w_at_n hx (k + 1) (by omega)).1
      rw [hy] at this
      cases this
    | some x =>
      have hx10 := w_at_10 hV hl hx
      rw [hx, oI_s] at e1
      rw [e1, e2, if_neg (by rw [b_nn (by omega)]; exact fun z => z), r_roadOf hV.1 (m_BA_lt hV) h.2.1 (R_sh h).1 hx10.2 hy10.2]
theorem Q_paces (a : Int32) : m_OK (fun s => fX8_paces s a) (fun s => fX9_paces s a) := m_ok_q (fun M => m_st M a 61) (fun M => nI (m_sum (fun i => m_gn M.2.2.1 (0 + i)) (a.toNatClampNeg - 0)))
  (fun M s hV hI => by
    unfold fX8_paces
    exact c_q hV hI (g8_step hI.1 hV) m_st_l (fun hb t h1 h2 => by
      have hl := m_st_l hb
      obtain ⟨k, hk, rfl⟩ := m_st_k (by omega) hb
      refine ⟨t, ?_, c_mw_refl t⟩
      simp only [b_lq]
      rw [c_gone (m_MV_P hV) hl h2 (by omega) hk, am_rq, b_t (by omega)]))
  (fun M s hV hI => by
    unfold fX9_paces
    exact r_q hV hI (fun t h => g9_step h hV) m_st_l (fun hb t h1 h2 => by
      have hl := m_st_l hb
      obtain ⟨k, hk, rfl⟩ := m_st_k (by omega) hb
      have hP := m_MV_P hV
      refine ⟨t, ?_, r_mv_refl t⟩
      rw [b_t (by omega)]
      simp only [b_lq]
      refine sp_lk (fun f (x : Int32) i => fX9_paces_L24 (nI k) t f x i) (k + 1) 1 (fun i x => x = nI (m_sum (fun i => m_gn M.2.2.1 (0 + i)) (i - 1))) (fun r => r = some (t, nI (m_sum (fun i => m_gn M.2.2.1 (0 + i)) (k - 0)))) (fun f i x hk1 hi hx => ?_) (fun f x hx => ?_) (by omega) (nI 0) rfl am_fu (am_fu_gt (by omega))
      · left
        subst hx
        refine ⟨_, rfl, ?_⟩
        have g := R_gn hP hl h2 (k := i - 1) (by omega)
        rw [show i - 1 + 1 = i by omega] at g
        rw [fX9_paces_L24, show i + 1 - 1 = (i - 1) + 1 by omega]
        show _ = fX9_paces_L24 (nI k) t f (nI (m_sum (fun i => m_gn M.2.2.1 (0 + i)) (i - 1) + m_gn M.2.2.1 (0 + (i - 1)))) (nI (i + 1))
        rw [show 0 + (i - 1) = i - 1 by omega]
        simp (disch := omega) only [↓am_lq, b_lq, oI_q, b_lt, b_t, b_sub, b_add, am_g_t, if_neg, if_false]
        by_cases c : t.1 229 i = oI none
        · rw [if_pos c] at g ⊢
          have : nI 0 = nI (m_gn M.2.2.1 (i - 1)) := by injection g
          rw [← b_add (m_sum (fun i => m_gn M.2.2.1 (0 + i)) (i - 1)) (m_gn M.2.2.1 (i - 1)), ← this, b_add]
        · rw [if_neg c] at g ⊢
          rw [g, am_rq, b_add]
      · subst hx
        rw [fX9_paces_L24]
        simp (disch := omega) only [b_lq, b_lt, if_pos, if_true]
        rfl))
theorem Q_walks (a : Int32) : m_OK (fun s => fX8_walks s a) (fun s => fX9_walks s a) := m_ok_q (fun M => m_in a (M.2.2.1.1.1 5)) (fun M => match w_fe M.2.2.1.1 (m_C M.2.2.1) a.toNatClampNeg with
    | none => oI none
    | some k => nI (m_sum (fun i => m_gn M.2.2.1 (k + i)) ((w_le M.2.2.1.1 (m_C M.2.2.1) a.toNatClampNeg).getD 60 - k)))
  (fun M s hV hI => by
    unfold fX8_walks
    exact c_q hV hI (g8_person hI.1) (hl_person hV) (fun hb t h1 h2 => by
      have hl := hl_person hV hb
      obtain ⟨p, hp, hp2, rfl⟩ := k_person hV hb
      have e1 := T_fe h2 hp2
      have e2 := T_le h2 hp2
      refine ⟨t, ?_, c_mw_refl t⟩
      rw [b_t (by omega)]
      cases hf : w_fe M.2.2.1.1 (m_C M.2.2.1) p with
      | none =>
        rw [hf] at e1
        simp (disch := omega) only [↓am_lq, b_lq, oI_q, b_lt, b_t, am_g_t, e1, if_true]
      | some k =>
        have hk := w_fe_lt hf
        rw [hf, oI_s] at e1
        have b1 : (nI k = oI none) = False := b_nn (by omega)
        cases he : w_le M.2.2.1.1 (m_C M.2.2.1) p with
        | none =>
          rw [he] at e2
          simp (disch := omega) only [↓am_lq, b_lq, oI_q, b_lt, b_t, am_g_t, e1, e2, b1, if_false, if_true, c_gone (m_MV_P hV) hl h2 hk (show 60 < 61 by omega), am_rq, Option.getD_none]
        | some j =>
          have hj := w_le_lt he
          rw [he, oI_s] at e2
          have b2 : (nI j = oI none) = False := b_nn (by omega)
          simp (disch := omega) only [↓am_lq, b_lq, oI_q, b_lt, b_t, am_g_t, e1, e2, b1, b2, if_false, c_gone (m_MV_P hV) hl h2 hk hj, am_rq, Option.getD_some]))
  (fun M s hV hI => by
    unfold fX9_walks
    exact r_q hV hI (fun t h => g9_person h hV) (hl_person hV) (fun hb t h1 h2 => by
      have hl := hl_person hV hb
      obtain ⟨p, hp, hp2, rfl⟩ := k_person hV hb
      have hP := m_MV_P hV
      have e1 := R_fe h2 hp2
      have e2 := R_le h2 hp2
      refine ⟨t, ?_, r_mv_refl t⟩
      rw [b_t (by omega)]
      cases hf : w_fe M.2.2.1.1 (m_C M.2.2.1) p with
      | none =>
        rw [hf] at e1
        simp (disch := omega) only [↓am_lq, b_lq, oI_q, b_lt, b_t, am_g_t, e1, if_true]
      | some k =>
        have hk := w_fe_lt hf
        rw [hf, oI_s] at e1
        have b1 : (nI k = oI none) = False := b_nn (by omega)
        simp (disch := omega) only [↓am_lq, b_lq, oI_q, b_lt, b_t, am_g_t, e1, b1, if_false, b_add]
        have hj : (w_le M.2.2.1.1 (m_C M.2.2.1) p).getD 60 < 61 := by
          cases he : w_le M.2.2.1.1 (m_C M.2.2.1) p with
          | none => exact (by decide : (60 : Nat) < 61)
          | some j => exact w_le_lt he
        have end_ : ∀ J : Int32 → Option (AS × Int32), (if t.1 234 p = oI none then J (nI 60) else J (t.1 234 p)) = J (nI ((w_le M.2.2.1.1 (m_C M.2.2.1) p).getD 60)) := fun J => by
          cases he : w_le M.2.2.1.1 (m_C M.2.2.1) p with
          | none => rw [e2, he, if_pos rfl]; rfl
          | some j =>
            have := w_le_lt he
            rw [e2, he, oI_s, if_neg (by rw [b_nn (by omega)]; exact fun z => z)]; rfl
        refine sp_lk (fun f (x : Int32) i => fX9_walks_L44 (nI p) t f x i) (k + 1 + ((w_le M.2.2.1.1 (m_C M.2.2.1) p).getD 60 - k)) (k + 1) (fun i x => x = nI (m_sum (fun i => m_gn M.2.2.1 (k + i)) (i - (k + 1)))) (fun r => r = some (t, nI (m_sum (fun i => m_gn M.2.2.1 (k + i)) ((w_le M.2.2.1.1 (m_C M.2.2.1) p).getD 60 - k)))) (fun f i x hk1 hi hx => ?_) (fun f x hx => ?_) (by omega) (nI 0) (by rw [Nat.sub_self]; rfl) am_fu (am_fu_gt (by omega))
        · left
          subst hx
          refine ⟨_, rfl, ?_⟩
          have g := R_gn hP hl h2 (k := i - 1) (by omega)
          rw [show i - 1 + 1 = i by omega] at g
          rw [fX9_walks_L44, show i + 1 - (k + 1) = (i - (k + 1)) + 1 by omega]
          show _ = fX9_walks_L44 (nI p) t f (nI (m_sum (fun i => m_gn M.2.2.1 (k + i)) (i - (k + 1)) + m_gn M.2.2.1 (k + (i - (k + 1))))) (nI (i + 1))
          rw [show k + (i - (k + 1)) = i - 1 by omega]
          have tail : (if t.1 229 i = oI none then fX9_walks_L44 (nI p) t f (nI (m_sum (fun i => m_gn M.2.2.1 (k + i)) (i - (k + 1)))) (nI (i + 1)) else am_r (fX9_roadOf t (t.1 229 (i - 1)) (t.1 229 i)) (fun v => fX9_walks_L44 (nI p) t f (nI (m_sum (fun i => m_gn M.2.2.1 (k + i)) (i - (k + 1))) + v) (nI (i + 1)))) = fX9_walks_L44 (nI p) t f (nI (m_sum (fun i => m_gn M.2.2.1 (k + i)) (i - (k + 1)) + m_gn M.2.2.1 (i - 1))) (nI (i + 1)) := by
            by_cases c : t.1 229 i = oI none
            · rw [if_pos c] at g ⊢
              have : nI 0 = nI (m_gn M.2.2.1 (i - 1)) := by injection g
              rw [← b_add (m_sum (fun i => m_gn M.2.2.1 (k + i)) (i - (k + 1))) (m_gn M.2.2.1 (i - 1)), ← this, b_add]
              rfl
            · rw [if_neg c] at g ⊢
              rw [g, am_rq, b_add]
          cases he : w_le M.2.2.1.1 (m_C M.2.2.1) p with
          | none =>
            rw [he] at e2 hi
            rw [Option.getD_none] at hi
            simp (disch := omega) only [↓am_lq, b_lq, oI_q, b_lt, b_t, b_sub, b_add, am_g_t, e2, if_neg, if_false, if_true]
            exact tail
          | some j =>
            have hj' := w_le_lt he
            rw [he, oI_s] at e2
            rw [he, Option.getD_some] at hi
            have b2 : (nI j = oI none) = False := b_nn (by omega)
            simp (disch := omega) only [↓am_lq, b_lq, oI_q, b_lt, b_t, b_sub, b_add, am_g_t, e2, b2, if_neg, if_false, if_true]
            exact tail
        · subst hx
          rw [fX9_walks_L44]
          have fin' : some (t, nI (m_sum (fun i => m_gn M.2.2.1 (k + i)) (k + 1 + ((w_le M.2.2.1.1 (m_C M.2.2.1) p).getD 60 - k) - (k + 1)))) = some (t, nI (m_sum (fun i => m_gn M.2.2.1 (k + i)) ((w_le M.2.2.1.1 (m_C M.2.2.1) p).getD 60 - k))) := by
            rw [show k + 1 + ((w_le M.2.2.1.1 (m_C M.2.2.1) p).getD 60 - k) - (k + 1) = (w_le M.2.2.1.1 (m_C M.2.2.1) p).getD 60 - k by omega]
          rw [← fin']
          cases he : w_le M.2.2.1.1 (m_C M.2.2.1) p with
          | none =>
            rw [he] at e2
            simp (disch := omega) only [↓am_lq, b_lq, oI_q, b_lt, b_t, am_g_t, e2, if_pos, if_true, Option.getD_none]
          | some j =>
            have hj' := w_le_lt he
            rw [he, oI_s] at e2
            have b2 : (nI j = oI none) = False := b_nn (by omega)
            simp (disch := omega) only [↓am_lq, b_lq, oI_q, b_lt, b_t, am_g_t, e2, b2, if_pos, if_false, Option.getD_some]))
end QH
