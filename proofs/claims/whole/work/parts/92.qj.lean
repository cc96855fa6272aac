/-! QUESTIONS: splits. -/
section QJ
variable {M : m_M} {s t : AS} {P : m_P}
def m_V (f : Nat → Nat) : Nat → Nat
  | 0 => 0
  | q + 1 => m_V f q + f q
def m_S (f : Nat → Nat) : Nat → Nat
  | 0 => 0
  | q + 1 => m_S f q + f q * m_V f q
theorem m_V_s (f : Nat → Nat) (q : Nat) : m_V f (q + 1) = m_V f q + f q := Eq.trans rfl rfl
theorem m_S_s (f : Nat → Nat) (q : Nat) : m_S f (q + 1) = m_S f q + f q * m_V f q := Eq.trans rfl rfl
theorem m_sum_s (f : Nat → Nat) (q : Nat) : m_sum f (q + 1) = m_sum f q + f q := Eq.trans rfl rfl
theorem m_SV_c {f g : Nat → Nat} : ∀ k, (∀ q, q < k → g q = f q) → m_V g k = m_V f k ∧ m_S g k = m_S f k
  | 0, _ => ⟨rfl, rfl⟩
  | k + 1, h => by
    obtain ⟨a, b⟩ := m_SV_c k (fun q hq => h q (by omega))
    rw [m_V_s, m_V_s, m_S_s, m_S_s, a, b, h k (by omega)]
    exact ⟨rfl, rfl⟩
/-- one vote more, for z -/
theorem m_SV_a {f g : Nat → Nat} {z : Nat} (hz : g z = f z + 1) (h : ∀ q, q ≠ z → g q = f q) : ∀ k, z < k → m_V g k = m_V f k + 1 ∧ m_S g k + f z = m_S f k + m_V f k ∧ f z ≤ m_V f k
  | 0, hk => by omega
  | k + 1, hk => by
    by_cases c : k = z
    · subst c
      obtain ⟨a, b⟩ := m_SV_c k (fun q hq => h q (by omega))
      rw [m_V_s, m_V_s, m_S_s, m_S_s, a, b, hz, Nat.add_mul, Nat.one_mul]
      omega
    · obtain ⟨a, b, d⟩ := m_SV_a hz h k (by omega)
      rw [m_V_s, m_V_s, m_S_s, m_S_s, a, h k c, Nat.mul_add, Nat.mul_one]
      omega
theorem m_sum_a (f g : Nat → Nat) : ∀ n, m_sum (fun i => f i + g i) n = m_sum f n + m_sum g n
  | 0 => rfl
  | n + 1 => by
    rw [m_sum_s, m_sum_s, m_sum_s, m_sum_a f g n]
    omega
theorem m_sum_c2 {f g : Nat → Nat} : ∀ n, (∀ i, i < n → f i = g i) → m_sum f n = m_sum g n
  | 0, _ => rfl
  | n + 1, h => by rw [m_sum_s, m_sum_s, m_sum_c2 n (fun i hi => h i (by omega)), h n (by omega)]
/-- two ways to go through all pairs -/
theorem m_tri (u : Nat → Nat → Nat) : ∀ n, m_sum (fun p => m_sum (fun i => u p (p + 1 + i)) (n - (p + 1))) n = m_sum (fun j => m_sum (fun p => u p j) j) n
  | 0 => rfl
  | n + 1 => by
    have ih := m_tri u n
    rw [m_sum_s, m_sum_s, ← ih, show n + 1 - (n + 1) = 0 by omega]
    rw [m_sum_c2 (g := fun p => m_sum (fun i => u p (p + 1 + i)) (n - (p + 1)) + u p n) n (fun p hp => by
      show m_sum (fun i => u p (p + 1 + i)) (n + 1 - (p + 1)) = _
      rw [show n + 1 - (p + 1) = (n - (p + 1)) + 1 by omega, m_sum_s, show p + 1 + (n - (p + 1)) = n by omega]), m_sum_a]
    rfl
/-- both vote, and not for the same -/
def m_un (vt : Nat → Option Nat) (p j : Nat) : Nat := if vt p = none then 0 else if vt j = none then 0 else if vt p = vt j then 0 else 1
theorem m_sp (D : w_D) (vt : Nat → Option Nat) (np : Nat) : ∀ n, (∀ p q, p < n → vt p = some q → q < np) → m_S (fun q => w_sm D vt q false n) np = m_sum (fun j => m_sum (fun p => m_un vt p j) j) n ∧ (∀ z, z < np → m_sum (fun p => m_un (fun i => if i < n then vt i else some z) p n) n + w_sm D vt z false n = m_V (fun q => w_sm D vt q false n) np)
  | 0, _ => by
    have e : ∀ k, m_V (fun q => w_sm D vt q false 0) k = 0 ∧ m_S (fun q => w_sm D vt q false 0) k = 0 := fun k => by
      induction k with
      | zero => exact ⟨rfl, rfl⟩
      | succ k ih =>
        rw [m_V_s, m_S_s, ih.1, ih.2]
        exact ⟨rfl, by rw [Nat.mul_zero]⟩
    exact ⟨(e np).2, fun z _ => (e np).1.symm⟩
  | n + 1, h => by
    obtain ⟨ih1, ih2⟩ := m_sp D vt np n (fun p q hp => h p q (by omega))
    have un : ∀ (z : Nat) (vt' : Nat → Option Nat) (j : Nat), (∀ p, p < n → vt' p = vt p) → vt' j = some z → m_sum (fun p => m_un vt' p j) n = m_sum (fun p => m_un (fun i => if i < n then vt i else some z) p n) n := fun z vt' j h1 h2 => m_sum_c2 n (fun p hp => by
      show m_un vt' p j = m_un _ p n
      simp only [m_un, h1 p hp, h2, if_pos hp, if_neg (Nat.lt_irrefl n)])
    cases hv : vt n with
    | none =>
      have e : (fun q => w_sm D vt q false (n + 1)) = fun q => w_sm D vt q false n := funext fun q => by
        rw [w_sm_s, hv, if_neg (by simp)]; rfl
      rw [e, ih1, m_sum_s]
      refine ⟨?_, fun z hz => ?_⟩
      · rw [m_sum_c2 (f := fun p => m_un vt p n) (g := fun _ => 0) n (fun p _ => by unfold m_un; rw [hv]; simp)]
        have : ∀ k, m_sum (fun _ => 0) k = 0 := fun k => by
          induction k with
          | zero => rfl
          | succ k ih => rw [m_sum_s, ih]
        rw [this]; rfl
      · rw [m_sum_s, un z _ (n + 1) (fun p hp => if_pos (by omega)) (if_neg (by omega)), ← ih2 z hz]
        have : m_un (fun i => if i < n + 1 then vt i else some z) n (n + 1) = 0 := by
          simp only [m_un, if_pos (show n < n + 1 by omega), hv, if_true]
        rw [this, w_sm_s, hv, if_neg (by simp)]
        omega
    | some y =>
      have hy := h n y (by omega) hv
      have ez : w_sm D vt y false (n + 1) = w_sm D vt y false n + 1 := by rw [w_sm_s, hv, if_pos rfl]; rfl
      have eo : ∀ q, q ≠ y → w_sm D vt q false (n + 1) = w_sm D vt q false n := fun q hq => by
        rw [w_sm_s, hv, if_neg (by rw [Option.some.injEq]; exact fun e => hq e.symm)]; rfl
      obtain ⟨a, b, d⟩ := m_SV_a (f := fun q => w_sm D vt q false n) (g := fun q => w_sm D vt q false (n + 1)) (z := y) ez eo np hy
      have i2 := ih2 y hy
      have uy := un y vt n (fun _ _ => rfl) hv
      refine ⟨?_, fun z hz => ?_⟩
      · rw [m_sum_s, ← ih1, uy]
        show m_S (fun q => w_sm D vt q false (n + 1)) np = _
        have b' : m_S (fun q => w_sm D vt q false (n + 1)) np + w_sm D vt y false n = m_S (fun q => w_sm D vt q false n) np + m_V (fun q => w_sm D vt q false n) np := b
        omega
      · rw [a, ← ih2 z hz, m_sum_s, un z _ (n + 1) (fun p hp => if_pos (by omega)) (if_neg (by omega))]
        have ev : (if n < n + 1 then vt n else some z) = some y := by rw [if_pos (by omega), hv]
        have ew : (if n + 1 < n + 1 then vt (n + 1) else some z) = some z := if_neg (by omega)
        by_cases c : y = z
        · have : m_un (fun i => if i < n + 1 then vt i else some z) n (n + 1) = 0 := by
            simp only [m_un, ev, ew, c, if_true, reduceCtorEq, if_false]
          subst c
          rw [this, ez]
          omega
        · have : m_un (fun i => if i < n + 1 then vt i else some z) n (n + 1) = 1 := by
            simp only [m_un, ev, ew, reduceCtorEq, Option.some.injEq, c, if_false]
          rw [this, eo z (fun e => c e.symm)]
          omega
theorem Q_splits (a : Int32) : m_OK (fun s => fX8_splits s a) (fun s => fX9_splits s a) := m_ok_q (fun M => m_st M a 61) (fun M => nI (m_S (fun q => w_sm M.2.2.1.1 (w_vo M.2.2.1.1 (m_C M.2.2.1) a.toNatClampNeg) q false (M.2.2.1.1.1 5)) (M.2.2.1.1.1 0)))
  (fun M s hV hI => by
    unfold fX8_splits
    exact c_q hV hI (g8_step hI.1 hV) m_st_l (fun hb t h1 h2 => by
      have hl := m_st_l hb
      obtain ⟨k, hk, rfl⟩ := m_st_k (by omega) hb
      have hP := m_MV_P hV
      have v0 := hP.1.1
      have e1 : t.1 25 1 = nI (M.2.2.1.1.1 0) := T_np h1.1.2.2.1.1 (j := 0) (by omega)
      refine ⟨t, ?_, c_mw_refl t⟩
      rw [b_t (by omega)]
      simp only [b_lq]
      refine sp_lq (fun f (x : Int32 × Int32) i => fX8_splits_L22 (nI k) t f x.1 x.2 i) (M.2.2.1.1.1 0) (fun i x => x = (nI (m_S (fun q => w_sm M.2.2.1.1 (w_vo M.2.2.1.1 (m_C M.2.2.1) k) q false (M.2.2.1.1.1 5)) i), nI (m_V (fun q => w_sm M.2.2.1.1 (w_vo M.2.2.1.1 (m_C M.2.2.1) k) q false (M.2.2.1.1.1 5)) i))) (fun r => r = some (t, nI (m_S (fun q => w_sm M.2.2.1.1 (w_vo M.2.2.1.1 (m_C M.2.2.1) k) q false (M.2.2.1.1.1 5)) (M.2.2.1.1.1 0)))) (fun f i x hi hx => ?_) (fun f x hx => ?_) (nI 0, nI 0) rfl am_fu (am_fu_gt (by omega))
      · left
        subst hx
        refine ⟨_, rfl, ?_⟩
        have hi10 : i < 10 := by omega
        have ev := c_votesFor hP hl h1.1.2.2.1.1 h2 hk hi10
        rw [fX8_splits_L22, m_S_s, m_V_s]
        simp (disch := omega) only [↓am_lq, b_lq, e1, b_le, ev, am_rq, b_mul, b_add, if_neg]
      · subst hx
        rw [fX8_splits_L22]
        simp (disch := omega) only [b_lq, e1, b_le, if_pos, if_true]))
  (fun M s hV hI => by
    unfold fX9_splits
    exact r_q hV hI (fun t h => g9_step h hV) m_st_l (fun hb t h1 h2 => by
      have hl := m_st_l hb
      obtain ⟨k, hk, rfl⟩ := m_st_k (by omega) hb
      have hP := m_MV_P hV
      have v5 := hP.1.2.2.1
      have e6 := r_people h2.2.1
      refine ⟨t, ?_, r_mv_refl t⟩
      rw [b_t (by omega)]
      rw [(m_sp M.2.2.1.1 (w_vo M.2.2.1.1 (m_C M.2.2.1) k) (M.2.2.1.1.1 0) (M.2.2.1.1.1 5) (fun p q _ h => (m_vo_lt hP h).1)).1, ← m_tri]
      generalize hvt : w_vo M.2.2.1.1 (m_C M.2.2.1) k = vt
      have V : ∀ p, p < 8 → t.1 232 (8 * k + p) = oI (vt p) := hvt ▸ R_vo h2 hk
      have hvl : ∀ p q, vt p = some q → q < 10 := fun p q h => (m_vo_lt hP (hvt ▸ h)).2
      simp only [b_lq]
      refine sp_lq (fun f (x : Int32) i => fX9_splits_L24 (nI k) t f x i) (M.2.2.1.1.1 5) (fun i x => x = nI (m_sum (fun p => m_sum (fun i => m_un vt p (p + 1 + i)) (M.2.2.1.1.1 5 - (p + 1))) i)) (fun r => r = some (t, nI (m_sum (fun p => m_sum (fun i => m_un vt p (p + 1 + i)) (M.2.2.1.1.1 5 - (p + 1))) (M.2.2.1.1.1 5)))) (fun f i x hi hx => ?_) (fun f x hx => ?_) (nI 0) rfl am_fu (am_fu_gt (by omega))
      · left
        subst hx
        refine ⟨_, rfl, ?_⟩
        have hi8 : i < 8 := by omega
        rw [fX9_splits_L24, m_sum_s]
        generalize m_sum (fun p => m_sum (fun i => m_un vt p (p + 1 + i)) (M.2.2.1.1.1 5 - (p + 1))) i = Z
        simp (disch := omega) only [↓am_lq, b_lq, e6, am_rq, b_le, b_add, if_neg]
        refine sp_lk (fun f (x : Int32) j => fX9_splits_L37 (nI k) t (nI i) _ f x j) (i + 1 + (M.2.2.1.1.1 5 - (i + 1))) (i + 1) (fun j x => x = nI (Z + m_sum (fun j => m_un vt i (i + 1 + j)) (j - (i + 1)))) (fun r => r = fX9_splits_L24 (nI k) t f (nI (Z + m_sum (fun j => m_un vt i (i + 1 + j)) (M.2.2.1.1.1 5 - (i + 1)))) (nI (i + 1))) (fun f2 j x hj1 hj hx => ?_) (fun f2 x hx => ?_) (by omega) (nI Z) (by rw [Nat.sub_self]; rfl) am_fu (am_fu_gt (by omega))
        · left
          subst hx
          refine ⟨_, rfl, ?_⟩
          have hj8 : j < 8 := by omega
          rw [fX9_splits_L37, show j + 1 - (i + 1) = (j - (i + 1)) + 1 by omega, m_sum_s, show i + 1 + (j - (i + 1)) = j by omega, ← Nat.add_assoc]
          generalize Z + m_sum (fun j => m_un vt i (i + 1 + j)) (j - (i + 1)) = Y
          have g1 : 8 * k + i < 488 := by omega
          have g2 : 8 * k + j < 488 := by omega
          have a1 := V i hi8
          have a2 := V j hj8
          unfold m_un
          cases h1 : vt i with
          | none =>
            rw [h1] at a1
            simp (disch := omega) only [↓am_lq, b_lq, oI_q, e6, am_rq, b_le, b_lt, b_t, b_mul, b_add, am_g_t, a1, if_neg, if_true]
          | some y =>
            have hy := hvl i y h1
            rw [h1, oI_s] at a1
            have b1 : (nI y = oI none) = False := b_nn (by omega)
            cases h2 : vt j with
            | none =>
              rw [h2] at a2
              simp (disch := omega) only [↓am_lq, b_lq, oI_q, e6, am_rq, b_le, b_lt, b_t, b_mul, b_add, am_g_t, a1, a2, b1, if_neg, if_true, if_false, reduceCtorEq]
            | some z =>
              have hz := hvl j z h2
              rw [h2, oI_s] at a2
              have b2 : (nI z = oI none) = False := b_nn (by omega)
              by_cases c : y = z
              · simp (disch := omega) only [↓am_lq, b_lq, oI_q, e6, am_rq, b_le, b_lt, b_eq, b_t, b_mul, b_add, am_g_t, a1, a2, b1, b2, c, if_neg, if_true, if_false, reduceCtorEq]
              · simp (disch := omega) only [↓am_lq, b_lq, oI_q, e6, am_rq, b_le, b_lt, b_eq, b_t, b_mul, b_add, am_g_t, a1, a2, b1, b2, c, if_neg, if_true, if_false, reduceCtorEq, Option.some.injEq]
        · subst hx
          rw [fX9_splits_L37]
          simp (disch := omega) only [b_lq, e6, am_rq, b_le, if_pos, if_true]
          rw [show i + 1 + (M.2.2.1.1.1 5 - (i + 1)) - (i + 1) = M.2.2.1.1.1 5 - (i + 1) by omega]
      · subst hx
        rw [fX9_splits_L24]
        simp (disch := omega) only [b_lq, e6, am_rq, b_le, if_pos, if_true]))
end QJ
