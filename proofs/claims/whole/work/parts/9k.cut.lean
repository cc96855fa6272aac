/-! CUT. -/
theorem b_and (a b : Nat) : nI a &&& nI b = nI (a &&& b) := by
  apply Int32.toBitVec_inj.mp
  show (BitVec.ofNat 32 a &&& BitVec.ofNat 32 b) = BitVec.ofNat 32 (a &&& b)
  exact BitVec.ofNat_and.symm
theorem b_or (a b : Nat) : nI a ||| nI b = nI (a ||| b) := by
  apply Int32.toBitVec_inj.mp
  show (BitVec.ofNat 32 a ||| BitVec.ofNat 32 b) = BitVec.ofNat 32 (a ||| b)
  exact BitVec.ofNat_or.symm
theorem b_bb (b c : Bool) : (nI b.toNat = nI c.toNat) = (b = c) := by cases b <;> cases c <;> simp <;> decide
theorem w_pc_sub {x y : Nat} (h : ∀ i, x.testBit i = true → y.testBit i = true) : w_pc x ≤ w_pc y := by
  have k : ∀ i, (x.testBit i).toNat ≤ (y.testBit i).toNat := by
    intro i
    cases e : x.testBit i with
    | false => exact Nat.zero_le _
    | true => rw [h i e]; exact Nat.le_refl _
  unfold w_pc
  have := k 0
  have := k 1
  have := k 2
  have := k 3
  have := k 4
  have := k 5
  have := k 6
  have := k 7
  have := k 8
  have := k 9
  omega
section CT
variable {M : m_M} {s t : AS} {P : m_P} {a b : Nat}
/-- r leads across a side -/
def m_xs (P : m_P) (side r : Nat) : Bool := !(m_BA P).testBit r && (side.testBit (P.1.2.1 r 0) != side.testBit (P.1.2.1 r 1))
abbrev m_X8 (P : m_P) (side : Nat) : Nat := m_bs (m_xs P side) (P.1.1 4)
def m_cm (P : m_P) (a b : Nat) : Nat → Nat
  | 0 => 10
  | k + 1 => if k.testBit a && !k.testBit b then min (m_cm P a b k) (w_pc (m_X8 P k)) else m_cm P a b k
theorem m_cm_s (P : m_P) (a b k : Nat) : m_cm P a b (k + 1) = if k.testBit a && !k.testBit b then min (m_cm P a b k) (w_pc (m_X8 P k)) else m_cm P a b k := Eq.trans rfl rfl
def m_cv (P : m_P) (a b k : Nat) : Bool := decide (k &&& m_BA P = 0) && decide (100000 ≤ y_ln 100000 (P.1.1 0) (P.1.1 4) P.1.2.1 (m_BA P ||| k) a b)
def m_c0 (P : m_P) (a b : Nat) : Nat → Option Nat
  | 0 => none
  | k + 1 => if m_cv P a b k then (match m_c0 P a b k with
    | none => some (w_pc k)
    | some v => if w_pc k < v then some (w_pc k) else some v) else m_c0 P a b k
theorem m_c0_s (P : m_P) (a b k : Nat) : m_c0 P a b (k + 1) = if m_cv P a b k then (match m_c0 P a b k with
    | none => some (w_pc k)
    | some v => if w_pc k < v then some (w_pc k) else some v) else m_c0 P a b k := Eq.trans rfl rfl
theorem m_cm_p (P : m_P) (a b : Nat) : ∀ k, m_cm P a b k ≤ 10 ∧ (∀ j, j < k → (j.testBit a && !j.testBit b) = true → m_cm P a b k ≤ w_pc (m_X8 P j)) ∧ (m_cm P a b k = 10 ∨ ∃ j, j < k ∧ (j.testBit a && !j.testBit b) = true ∧ m_cm P a b k = w_pc (m_X8 P j))
  | 0 => ⟨Nat.le_refl _, fun j hj => by omega, .inl rfl⟩
  | k + 1 => by
    obtain ⟨h1, h2, h3⟩ := m_cm_p P a b k
    rw [m_cm_s]
    cases c : (k.testBit a && !k.testBit b) with
    | false =>
      rw [if_neg (by simp)]
      refine ⟨h1, fun j hj hv => ?_, ?_⟩
      · by_cases e : j = k
        · rw [e, c] at hv; cases hv
        · exact h2 j (by omega) hv
      · rcases h3 with h3 | ⟨j, h4, h5⟩
        · exact .inl h3
        · exact .inr ⟨j, by omega, h5⟩
    | true =>
      rw [if_pos rfl]
      refine ⟨by omega, fun j hj hv => ?_, ?_⟩
      · by_cases e : j = k
        · rw [e]; exact Nat.min_le_right _ _
        · exact Nat.le_trans (Nat.min_le_left _ _) (h2 j (by omega) hv)
      · by_cases d : m_cm P a b k ≤ w_pc (m_X8 P k)
        · rw [Nat.min_eq_left d]
          rcases h3 with h3 | ⟨j, h4, h5⟩
          · exact .inl h3
          · exact .inr ⟨j, by omega, h5⟩
        · rw [Nat.min_eq_right (by omega)]
          exact .inr ⟨k, by omega, c, rfl⟩
theorem m_c0_p (P : m_P) (a b : Nat) : ∀ k, (∀ j, j < k → m_cv P a b j = true → ∃ v, m_c0 P a b k = some v ∧ v ≤ w_pc j) ∧ ∀ v, m_c0 P a b k = some v → ∃ j, j < k ∧ m_cv P a b j = true ∧ v = w_pc j
  | 0 => ⟨fun j hj => by omega, fun v hv => by cases hv⟩
  | k + 1 => by
    obtain ⟨h1, h2⟩ := m_c0_p P a b k
    rw [m_c0_s]
    cases c : m_cv P a b k with
    | false =>
      rw [if_neg (by simp)]
      refine ⟨fun j hj hv => ?_, fun v hv => ?_⟩
      · by_cases e : j = k
        · rw [e, c] at hv; cases hv
        · exact h1 j (by omega) hv
      · obtain ⟨j, h3, h4⟩ := h2 v hv
        exact ⟨j, by omega, h4⟩
    | true =>
      rw [if_pos rfl]
      cases hc : m_c0 P a b k with
      | none =>
        refine ⟨fun j hj hv => ?_, fun v hv => ?_⟩
        · by_cases e : j = k
          · exact ⟨_, rfl, by rw [e]; exact Nat.le_refl _⟩
          · obtain ⟨v, hv2, -⟩ := h1 j (by omega) hv
            rw [hc] at hv2
            cases hv2
        · injection hv with hv
          exact ⟨k, by omega, c, hv.symm⟩
      | some w =>
        by_cases d : w_pc k < w
        · have e1 : (match (some w : Option Nat) with
            | none => some (w_pc k)
            | some v => if w_pc k < v then some (w_pc k) else some v) = some (w_pc k) := if_pos d
          rw [e1]
          refine ⟨fun j hj hv => ⟨_, rfl, ?_⟩, fun v hv => ?_⟩
          · by_cases e : j = k
            · rw [e]; exact Nat.le_refl _
            · obtain ⟨v, hv2, hv3⟩ := h1 j (by omega) hv
              rw [hc] at hv2
              injection hv2 with hv2
              omega
          · injection hv with hv
            exact ⟨k, by omega, c, hv.symm⟩
        · have e1 : (match (some w : Option Nat) with
            | none => some (w_pc k)
            | some v => if w_pc k < v then some (w_pc k) else some v) = some w := if_neg d
          rw [e1]
          refine ⟨fun j hj hv => ⟨_, rfl, ?_⟩, fun v hv => ?_⟩
          · by_cases e : j = k
            · rw [e]; omega
            · obtain ⟨v, hv2, hv3⟩ := h1 j (by omega) hv
              rw [hc] at hv2
              injection hv2 with hv2
              omega
          · injection hv with hv
            subst hv
            obtain ⟨j, h3, h4⟩ := h2 w hc
            exact ⟨j, by omega, h4⟩
theorem m_X8_t (P : m_P) (side i : Nat) : (m_X8 P side).testBit i = (decide (i < P.1.1 4) && m_xs P side i) := m_bs_t _ _ _
/-- the two are the same -/
theorem m_cut2 (hV : m_PV P) (ha : a < P.1.1 0) (hb : b < P.1.1 0) (hab : a ≠ b) : m_c0 P a b (2 ^ P.1.1 4) = some (m_cm P a b (2 ^ P.1.1 0)) := by
  obtain ⟨v0, v4, v5, vr, vp, vg, vs, vr2, vo, vl, vz⟩ := id hV.1
  have hro : ∀ r, r < P.1.1 4 → P.1.2.1 r 2 ≤ 99 := fun r hr => (vr r hr).2.2.2.2
  obtain ⟨c1, c2, c3⟩ := m_cm_p P a b (2 ^ P.1.1 0)
  obtain ⟨d1, d2⟩ := m_c0_p P a b (2 ^ P.1.1 4)
  have val : ∀ S : Nat, (S.testBit a && !S.testBit b) = true → m_cv P a b (m_X8 P S) = true := by
    intro S hS
    rw [Bool.and_eq_true, Bool.not_eq_true'] at hS
    unfold m_cv
    rw [Bool.and_eq_true]
    refine ⟨decide_eq_true ?_, decide_eq_true ?_⟩
    · apply Nat.eq_of_testBit_eq
      intro i
      rw [Nat.testBit_and, m_X8_t, Nat.zero_testBit]
      unfold m_xs
      cases (m_BA P).testBit i <;> simp
    · refine y_ln_sep (S := fun x => S.testBit x) hro (by omega) hS.1 hS.2 (fun x y hx hy => ?_)
      apply Nat.le_of_not_lt
      intro z
      obtain ⟨r, r1, r2, -⟩ := y_bs_x _ _ _ _ _ z
      unfold y_e at r2
      rw [Nat.testBit_or, m_X8_t, decide_eq_true r1, Bool.true_and] at r2
      unfold m_xs at r2
      simp only [Bool.and_eq_true, Bool.or_eq_true, beq_iff_eq, Bool.not_eq_true'] at r2
      obtain ⟨e1, e2⟩ := r2
      rw [Bool.or_eq_false_iff] at e1
      rw [e1.1] at e1
      rcases e2 with ⟨e3, e4⟩ | ⟨e3, e4⟩
      · rw [e3, e4, hx, hy] at e1; simp at e1
      · rw [e3, e4, hx, hy] at e1; simp at e1
  have hlt : ∀ S, m_X8 P S < 2 ^ P.1.1 4 := fun S => m_bs_lt _ _ (Nat.le_refl _)
  have at0 : ∃ S, S < 2 ^ P.1.1 0 ∧ (S.testBit a && !S.testBit b) = true ∧ m_cm P a b (2 ^ P.1.1 0) = w_pc (m_X8 P S) := by
    rcases c3 with c3 | c3
    · have hv : ((2 ^ a : Nat).testBit a && !(2 ^ a : Nat).testBit b) = true := by
        rw [Nat.testBit_two_pow_self, Nat.testBit_two_pow, decide_eq_false hab]; rfl
      have h2 : 2 ^ a < 2 ^ P.1.1 0 := Nat.pow_lt_pow_right (by omega) ha
      have := c2 (2 ^ a) h2 hv
      have := w_pc_10 (m_X8 P (2 ^ a))
      exact ⟨2 ^ a, h2, hv, by omega⟩
    · exact c3
  obtain ⟨S0, s1, s2, s3⟩ := at0
  obtain ⟨v, v1, v2⟩ := d1 (m_X8 P S0) (hlt S0) (val S0 s2)
  obtain ⟨j, j1, j2, j3⟩ := d2 v v1
  rw [v1]
  congr 1
  apply Nat.le_antisymm
  · omega
  · unfold m_cv at j2
    rw [Bool.and_eq_true] at j2
    have j4 := of_decide_eq_true j2.2
    obtain ⟨S, t1, t2, t3⟩ := y_ln_cut (F := 100000) (by omega) v0 hro ha j4
    have hside : (m_bs S (P.1.1 0)).testBit a = true ∧ (m_bs S (P.1.1 0)).testBit b = false := by
      rw [m_bs_t, m_bs_t, t1, t2, decide_eq_true ha]
      simp
    have := c2 (m_bs S (P.1.1 0)) (m_bs_lt _ _ (Nat.le_refl _)) (by rw [hside.1, hside.2]; rfl)
    have sub := w_pc_sub (x := m_X8 P (m_bs S (P.1.1 0))) (y := j) (fun i hi => by
      rw [m_X8_t, Bool.and_eq_true] at hi
      obtain ⟨i1, i2⟩ := hi
      have i1 := of_decide_eq_true i1
      have r := vr i i1
      unfold m_xs at i2
      rw [Bool.and_eq_true, Bool.not_eq_true', m_bs_t, m_bs_t, decide_eq_true r.1, decide_eq_true r.2.1, Bool.true_and, Bool.true_and] at i2
      obtain ⟨i2, i3⟩ := i2
      cases hj : j.testBit i with
      | true => rfl
      | false =>
        exfalso
        have open_ : (m_BA P ||| j).testBit i = false := by rw [Nat.testBit_or, i2, hj]; rfl
        cases h0 : S (P.1.2.1 i 0) with
        | true =>
          cases h1 : S (P.1.2.1 i 1) with
          | true => rw [h0, h1] at i3; cases i3
          | false =>
            have f := t3 _ _ r.1 h0 h1
            have g := y_bs_r 100000 P.1.2.1 (m_BA P ||| j) (P.1.2.1 i 0) (P.1.2.1 i 1) i1 (by unfold y_e; rw [open_]; simp)
            omega
        | false =>
          cases h1 : S (P.1.2.1 i 1) with
          | false => rw [h0, h1] at i3; cases i3
          | true =>
            have f := t3 _ _ r.2.1 h1 h0
            have g := y_bs_r 100000 P.1.2.1 (m_BA P ||| j) (P.1.2.1 i 1) (P.1.2.1 i 0) i1 (by unfold y_e; rw [open_]; simp)
            omega)
    omega
theorem c_across (hV : m_PV P) (hP : c_PA 25 47 P s) {side : Nat} (hs : side < 1024) : fX8_roadsAcross s (nI side) = some (nI (w_pc (m_X8 P side))) := by
  obtain ⟨v0, v4, v5, vr, vp, vg, vs, vr2, vo, vl, vz⟩ := id hV.1
  have e5 : s.1 25 5 = nI (P.1.1 4) := T_np hP.1 (j := 4) (by omega)
  have e47 : s.1 47 2 = nI (m_BA P) := hP.2.2.2.1
  have hba := m_BA_lt hV
  unfold fX8_roadsAcross
  simp only [b_lq]
  refine sp_lq (fun f (x : Int32) i => fX8_roadsAcross_L4 (nI side) s f x i) (P.1.1 4) (fun i x => x = nI (w_pc (m_bs (m_xs P side) i))) (fun r => r = some (nI (w_pc (m_X8 P side)))) (fun f i x hi hx => ?_) (fun f x hx => ?_) (nI 0) (by rw [show m_bs (m_xs P side) 0 = 0 from rfl, show w_pc 0 = 0 from by decide]) am_fu (am_fu_gt (by omega))
  · left
    refine ⟨_, rfl, ?_⟩
    try dsimp only
    subst hx
    have r := vr i hi
    have r0 : s.1 (27 + i) 0 = nI (P.1.2.1 i 0) := T_ro hP.1 hi (by omega)
    have r1 : s.1 (27 + i) 1 = nI (P.1.2.1 i 1) := T_ro hP.1 hi (by omega)
    have h0 := c_holds hs (show P.1.2.1 i 0 < 10 by omega)
    have h1 := c_holds hs (show P.1.2.1 i 1 < 10 by omega)
    have hm : m_bs (m_xs P side) i < 1024 := m_bs_lt (n := 10) _ i (by omega)
    have hbit : (m_bs (m_xs P side) i).testBit i = false := by rw [m_bs_t]; simp
    have hins := w_pc_ins _ hm i (by omega) hbit
    have hx : m_xs P side i = (!(m_BA P).testBit i && (side.testBit (P.1.2.1 i 0) != side.testBit (P.1.2.1 i 1))) := rfl
    rw [fX8_roadsAcross_L4, m_bs_s, hx]
    simp (disch := omega) only [↓am_lq, b_lq, e5, e47, b_le, b_lt, b_t, am_g_t, c_holds hba, am_rq, m_if0, r0, r1, h0, h1, b_bb, b_add, if_neg]
    cases (m_BA P).testBit i
    · cases side.testBit (P.1.2.1 i 0) <;> cases side.testBit (P.1.2.1 i 1) <;> simp [hins]
    · simp
  · try dsimp only
    rw [fX8_roadsAcross_L4, hx]
    simp (disch := omega) only [e5, b_le, if_pos]
theorem c_cut (hV : m_PV P) (hP : c_PA 25 47 P s) (ha : a < P.1.1 0) (hb : b < P.1.1 0) : fX8_cut_L32 (nI a) (nI b) s am_fu (nI 10) (nI 0) = some (nI (m_cm P a b (2 ^ P.1.1 0))) := by
  obtain ⟨v0, v4, v5, vr, vp, vg, vs, vr2, vo, vl, vz⟩ := id hV.1
  have e1 : s.1 25 1 = nI (P.1.1 0) := T_np hP.1 (j := 0) (by omega)
  have h7 : 2 ^ P.1.1 0 ≤ 2 ^ 7 := Nat.pow_le_pow_right (by omega) v0
  refine sp_lq (fun f (x : Int32) i => fX8_cut_L32 (nI a) (nI b) s f x i) (2 ^ P.1.1 0) (fun i x => x = nI (m_cm P a b i)) (fun r => r = some (nI (m_cm P a b (2 ^ P.1.1 0)))) (fun f i x hi hx => ?_) (fun f x hx => ?_) (nI 10) rfl am_fu (am_fu_gt (by omega))
  · left
    refine ⟨_, rfl, ?_⟩
    try dsimp only
    subst hx
    have m1 := (m_cm_p P a b i).1
    have m2 := w_pc_10 (m_X8 P i)
    have ac := c_across hV hP (show i < 1024 by omega)
    rw [fX8_cut_L32, m_cm_s]
    simp (disch := omega) only [↓am_lq, b_lq, e1, b_sh, b_le, b_lt, c_holds, am_rq, m_if0, ac, b_add, if_neg]
    cases i.testBit a
    · rfl
    · cases i.testBit b
      · simp only [if_true, Bool.false_eq_true, if_false, Bool.true_and, Bool.not_false]
        by_cases c : w_pc (m_X8 P i) < m_cm P a b i
        · rw [if_pos c, Nat.min_eq_right (by omega)]
        · rw [if_neg c, Nat.min_eq_left (by omega)]
      · rfl
  · try dsimp only
    rw [fX8_cut_L32, hx]
    simp (disch := omega) only [b_lq, e1, b_sh, b_le, if_pos]
theorem m_c0_le (P : m_P) (a b : Nat) {k v : Nat} (h : m_c0 P a b k = some v) : v ≤ 10 := by
  obtain ⟨j, -, -, rfl⟩ := (m_c0_p P a b k).2 v h
  exact w_pc_10 j
theorem r_cut (hV : m_PV P) (ha : a < P.1.1 0) (hb : b < P.1.1 0) (t : AS) (hP : r_PL P.1 t) (h24 : t.1 215 24 = nI (m_BA P)) : ∃ u, fX9_cut__L28 (nI a) (nI b) (nI (m_BA P)) am_fu t (oI none) (nI 0) = some (u, oI (m_c0 P a b (2 ^ P.1.1 4))) ∧ r_mv t u := by
  obtain ⟨v0, v4, v5, vr, vp, vg, vs, vr2, vo, vl, vz⟩ := id hV.1
  have h10 : 2 ^ P.1.1 4 ≤ 2 ^ 10 := Nat.pow_le_pow_right (by omega) v4
  have hba := m_BA_lt hV
  refine sp_lq (fun f (x : AS × Int32) i => fX9_cut__L28 (nI a) (nI b) (nI (m_BA P)) f x.1 x.2 i) (2 ^ P.1.1 4) (fun i x => (r_mv t x.1 ∧ r_PL P.1 x.1) ∧ x.2 = oI (m_c0 P a b i)) (fun r => ∃ u, r = some (u, oI (m_c0 P a b (2 ^ P.1.1 4))) ∧ r_mv t u) (fun f i x hi hx => ?_) (fun f x hx => ?_) (t, oI none) ⟨⟨r_mv_refl t, hP⟩, rfl⟩ am_fu (am_fu_gt (by omega))
  · left
    obtain ⟨u, x⟩ := x
    obtain ⟨⟨k1, k3⟩, k2⟩ := hx
    dsimp only at k1 k2 k3 ⊢
    subst k2
    have e4 : u.1 222 4 = nI (P.1.1 4) := k3.1 4 (by omega)
    have i10 : i < 1024 := by omega
    have hor : m_BA P ||| i < 1024 := Nat.or_lt_two_pow (n := 10) hba i10
    have hand : i &&& m_BA P < 2147483648 := Nat.lt_of_le_of_lt Nat.and_le_left (by omega)
    have k5 : r_mv u (am_si u 215 24 (nI (m_BA P ||| i))) := r_mv_si (r_mv_refl u) _ (by omega)
    have P5 := r_PL_fr (R := fun c => c = 215) k3 (fr_si (fr_refl _ u) 24 (nI (m_BA P ||| i)) rfl) (fun c _ _ => by omega)
    obtain ⟨w, w1, w2, w3⟩ := r_laysWays (sh := m_BA P ||| i) hV.1 hor (am_si u 215 24 (nI (m_BA P ||| i))) P5 (by rw [r_si, r_us])
    have m6 : r_mv u w := r_mv_runs k5 (fr_mono w2 (fun c (hc : c = 228) => (by omega : r_RG c))) (fun k _ _ => by rw [w2.2 _ (by omega)])
    have P6 := r_PL_fr P5 w2 (fun c _ _ => by omega)
    have el := w3 a b (by omega) (by omega)
    have ll := y_ln_le (F := 100000) (np := P.1.1 0) (nr := P.1.1 4) (ro := P.1.2.1) (sh := m_BA P ||| i) a b
    have pc := w_pc_10 i
    have es := r_size i10
    have ea : (nI i &&& nI (m_BA P) = nI 0) = (i &&& m_BA P = 0) := by rw [b_and, b_eq hand (by omega)]
    have eo := b_or (m_BA P) i
    have ev : m_cv P a b i = (decide (i &&& m_BA P = 0) && decide (100000 ≤ y_ln 100000 (P.1.1 0) (P.1.1 4) P.1.2.1 (m_BA P ||| i) a b)) := rfl
    rw [fX9_cut__L28]
    by_cases c1 : i &&& m_BA P = 0
    · rw [decide_eq_true c1, Bool.true_and] at ev
      cases h : m_c0 P a b i with
      | none =>
        refine ⟨(w, oI (m_c0 P a b (i + 1))), ⟨⟨r_mv_tr k1 m6, P6⟩, rfl⟩, ?_⟩
        rw [m_c0_s, ev, h]
        simp (disch := omega) only [↓am_lq, b_lq, oI_q, e4, b_sh, b_le, b_lt, b_t, ea, eo, b_mul, b_add, am_g_t, if_neg, if_pos c1, w1, am_cq, el, es, am_rq, if_true]
        by_cases c2 : y_ln 100000 (P.1.1 0) (P.1.1 4) P.1.2.1 (m_BA P ||| i) a b < 100000
        · rw [if_pos c2, if_neg (by rw [decide_eq_true_eq]; omega)]
        · rw [if_neg c2, if_pos (by rw [decide_eq_true_eq]; omega)]; rfl
      | some v =>
        have hv := m_c0_le P a b h
        have b1 : (nI v = oI none) = False := b_nn (by omega)
        by_cases c3 : w_pc i < v
        · refine ⟨(w, oI (m_c0 P a b (i + 1))), ⟨⟨r_mv_tr k1 m6, P6⟩, rfl⟩, ?_⟩
          rw [m_c0_s, ev, h]
          simp (disch := omega) only [↓am_lq, b_lq, oI_q, oI_t, b1, e4, b_sh, b_le, b_lt, b_t, ea, eo, b_mul, b_add, am_g_t, if_neg, if_pos c1, w1, am_cq, el, es, am_rq, if_false, if_pos c3]
          by_cases c2 : y_ln 100000 (P.1.1 0) (P.1.1 4) P.1.2.1 (m_BA P ||| i) a b < 100000
          · rw [if_pos c2, if_neg (by rw [decide_eq_true_eq]; omega)]; rfl
          · rw [if_neg c2, if_pos (by rw [decide_eq_true_eq]; omega)]; rfl
        · refine ⟨(u, oI (m_c0 P a b (i + 1))), ⟨⟨k1, k3⟩, rfl⟩, ?_⟩
          rw [m_c0_s, ev, h]
          simp (disch := omega) only [↓am_lq, b_lq, oI_q, oI_t, b1, e4, b_sh, b_le, b_lt, b_t, ea, eo, b_mul, b_add, am_g_t, if_neg, if_pos c1, es, am_rq, if_false, if_neg c3]
          split <;> rfl
    · rw [decide_eq_false c1, Bool.false_and] at ev
      refine ⟨(u, oI (m_c0 P a b (i + 1))), ⟨⟨k1, k3⟩, rfl⟩, ?_⟩
      rw [m_c0_s, ev]
      simp (disch := omega) only [↓am_lq, b_lq, oI_q, e4, b_sh, b_le, b_lt, b_t, ea, b_add, am_g_t, if_neg, if_neg c1, Bool.false_eq_true, if_false]
  · obtain ⟨u, x⟩ := x
    obtain ⟨⟨k1, k3⟩, k2⟩ := hx
    dsimp only at k1 k2 k3 ⊢
    subst k2
    have e4 : u.1 222 4 = nI (P.1.1 4) := k3.1 4 (by omega)
    refine ⟨u, ?_, k1⟩
    rw [fX9_cut__L28]
    simp (disch := omega) only [b_lq, e4, b_sh, b_le, b_lt, b_t, am_g_t, if_pos]
theorem m_c0_same (hV : m_PV P) (ha : a < P.1.1 0) : m_c0 P a a (2 ^ P.1.1 4) = none := by
  cases h : m_c0 P a a (2 ^ P.1.1 4) with
  | none => rfl
  | some v =>
    obtain ⟨j, -, hj, -⟩ := (m_c0_p P a a (2 ^ P.1.1 4)).2 v h
    unfold m_cv at hj
    rw [y_ln_d] at hj
    simp at hj
theorem Q_cut (a b : Int32) : m_OKr (fun s => fX8_cut s a b) (fun s => fX9_cut_ s a b) := m_okr_v (fun M => if m_in a (M.2.2.1.1.1 0) && m_in b (M.2.2.1.1.1 0) then oI (m_c0 M.2.2.1 a.toNatClampNeg b.toNatClampNeg (2 ^ M.2.2.1.1.1 4)) else -nI 2)
  (fun M s hV hI => by
    unfold fX8_cut
    rw [g8_place hI.1, am_rq]
    simp only [↓am_lq, b_lq, oI_q, m_if0]
    cases h1 : m_in a (M.2.2.1.1.1 0) with
    | false => rfl
    | true =>
      rw [g8_place hI.1, am_rq, m_if0]
      cases h2 : m_in b (M.2.2.1.1.1 0) with
      | false => rfl
      | true =>
        obtain ⟨k, hk, hk2, rfl⟩ := k_place hV h1
        obtain ⟨j, hj, hj2, rfl⟩ := k_place hV h2
        have hP := m_MV_P hV
        rw [if_pos rfl, if_pos rfl, if_pos (show (true && true) = true from rfl), b_t (by omega), b_t (by omega)]
        by_cases c : k = j
        · subst c
          rw [if_pos rfl, m_c0_same hP hk]
        · rw [if_neg (by rw [b_eq (by omega) (by omega)]; exact c), c_cut hP hI.1.2.2.1 hk hj, m_cut2 hP hk hj c]
          rfl)
  (fun M s hV hI => by
    obtain ⟨I1, m1⟩ := r_0 hI
    unfold fX9_cut_
    simp only [↓am_lq, b_lq, oI_q]
    obtain ⟨t, a1, a2, a3, a4⟩ := r_arePlaces hV I1 a b
    rw [a1, am_cq, m_if0]
    cases hb : (m_in a (M.2.2.1.1.1 0) && m_in b (M.2.2.1.1.1 0)) with
    | false => exact ⟨t, rfl, a2, r_F_tr m1.1 a3.1⟩
    | true =>
      have hA := a4 hb
      rw [Bool.and_eq_true] at hb
      obtain ⟨k, hk, hk2, rfl⟩ := k_place hV hb.1
      obtain ⟨j, hj, hj2, rfl⟩ := k_place hV hb.2
      have e24 : t.1 215 24 = nI (m_BA M.2.2.1) := hA.2.1.2.1
      obtain ⟨u, u1, u2⟩ := r_cut (m_MV_P hV) hk hj t hA.1 e24
      refine ⟨u, ?_, r_I_mv a2 u2, r_F_tr (r_F_tr m1.1 a3.1) u2.1⟩
      rw [if_pos rfl, if_pos rfl, e24, u1, b_t (by omega), b_t (by omega)])
end CT
