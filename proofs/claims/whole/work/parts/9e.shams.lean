/-! WOULD: shams, shammers. -/
section SM
variable {M : m_M} {s t : AS} {P : m_P} {n p q : Nat}
theorem w_l1_in {D : w_D} (h5 : D.1 5 ≤ 8) {n pl : Nat} {w : w_S} {p : Nat} : ∀ k, k ≤ D.1 5 → p < k → (sp_it (w_l1 D n pl) k w).1.testBit p = true → D.2.2.1 p 1 ≠ pl
  | 0, _, hp, _ => by omega
  | k + 1, hk, hp, h => by
    have h' : (w_l1 D n pl k (sp_it (w_l1 D n pl) k w)).1.testBit p = true := h
    unfold w_l1 at h'
    by_cases e : p = k
    · subst e
      split at h'
      · dsimp only at h'
        rw [w_del_t _ _ _ (by omega)] at h'
        simp at h'
      · rename_i c
        intro z
        apply c
        rw [h', z]
        simp
    · split at h'
      · dsimp only at h'
        rw [w_del_t _ _ _ (by omega), Bool.and_eq_true] at h'
        exact w_l1_in h5 k (by omega) (by omega) h'.1
      · exact w_l1_in h5 k (by omega) (by omega) h'
/-- p votes for q at step n -/
def m_sf (n p q : Nat) (m a : Nat) : Option (Option Nat) := if m = n ∧ a = p then some (some q) else none
abbrev m_sm (P : m_P) (n p q : Nat) : w_C := (P.1.1 1, P.1.1 2, m_AN P, fun _ => false, fun _ => false, m_sf n p q, fun _ => y_N P.1 (m_BA P))
theorem m_sf_t {m a : Nat} : (m_sf n p q m a).isSome = true ↔ m = n ∧ a = p := by
  unfold m_sf
  split
  · rename_i c; exact ⟨fun _ => c, fun _ => rfl⟩
  · rename_i c; exact ⟨fun z => (by cases z), fun z => absurd z c⟩
theorem m_sf_x {m a : Nat} {x : Option Nat} (h : m_sf n p q m a = some x) : x = some q := by
  unfold m_sf at h
  split at h
  · injection h with h; exact h.symm
  · cases h
theorem m_smK (hV : m_PV P) (hl : 0 < P.1.1 6) (hq : q < P.1.1 0) : w_CK P.1 (m_sm P n p q) := by
  have hV' := hV.1
  obtain ⟨v0, v4, v5, vr, vp, vg, vs, vr2, vo, vl, vz⟩ := hV'
  exact ⟨vs hl, vr2, m_AN_lt hV, fun m a x hx => (by have := m_sf_x hx; injection this with this; omega), fun n a b q hq => (y_nx_lt hq).1⟩
theorem m_sm_W {i : Nat} (hi : i ≤ n) : w_W P.1 (m_sm P n p q) i = w_W P.1 (m_C P) i := w_W_c (m := n) (fun _ _ => rfl) (fun j hj => funext fun a => by unfold m_sf; rw [if_neg (by omega)]) (fun _ _ => rfl) i hi
theorem m_sm_at {i : Nat} (hi : i ≤ n) : w_at P.1 (m_sm P n p q) i = w_at P.1 (m_C P) i := by
  unfold w_at
  rw [m_sm_W hi]
theorem m_sm_af {pl : Nat} {w : w_S} : w_af P.1 (m_sm P n p q) n pl w = w_af P.1 (m_C P) n pl w := w_af_c rfl pl w
theorem m_sm_in (h : (w_cr P.1 (m_C P) n).testBit p = true) : (w_W P.1 (m_sm P n p q) (n + 1)).2.1.testBit p = true := by
  unfold w_cr at h
  cases hat : w_at P.1 (m_C P) n with
  | none => rw [hat] at h; simp at h
  | some pl =>
    rw [hat] at h
    dsimp only at h
    rw [w_W_s hat] at h
    rw [w_W_s ((m_sm_at (Nat.le_refl n)).trans hat), m_sm_af, m_sm_W (Nat.le_refl n)]
    exact h
/-- where it helps -/
def m_hp (P : m_P) (n p q : Nat) : Bool := match m_fi P (m_sm P n p q) (n + 1) (P.1.2.2.1 p 1) with
  | none => false
  | some a => match m_fi P (m_C P) (n + 1) (P.1.2.2.1 p 1) with
    | none => true
    | some b => decide (a < b)
abbrev m_bd (P : m_P) (a b : Nat) : Bool := decide (y_bs 1000000 P.1.2.1 (m_BA P) a b (P.1.1 4) < 1000000)
def m_sq (P : m_P) (n p h q : Nat) : Bool := !decide (m_vv P n p = some q) && m_bd P h q && m_hp P n p q
def m_sb (P : m_P) (n p : Nat) : Nat := match w_at P.1 (m_C P) n with
  | none => 0
  | some h => if (w_cr P.1 (m_C P) n).testBit p then m_bs (m_sq P n p h) (P.1.1 0) else 0
theorem m_bs_0 {ok : Nat → Bool} : ∀ {k : Nat}, (∀ q, q < k → ok q = false) → m_bs ok k = 0
  | 0, _ => rfl
  | k + 1, h => by
    rw [m_bs_s, h k (by omega), if_neg (by simp)]
    exact m_bs_0 (fun q hq => h q (by omega))
/-- over there: no false vote helps -/
theorem m_sb_over (hV : m_PV P) (hl : 0 < P.1.1 6) {h : Nat} (hat : w_at P.1 (m_C P) n = some h) (hin : (w_cr P.1 (m_C P) n).testBit p = true) (hov : w_at P.1 (m_C P) (n + 1) = none) : m_bs (m_sq P n p h) (P.1.1 0) = 0 := by
  have hp := w_cr_p hV hin
  have hV' := hV.1
  obtain ⟨v0, v4, v5, vr, vp, vg, vs, vr2, vo, vl, vz⟩ := hV'
  have hh := w_at_lt (m_CK hV hl) hat
  have hro : ∀ r, r < P.1.1 4 → P.1.2.1 r 2 ≤ 99 := fun r hr => (vr r hr).2.2.2.2
  unfold w_cr at hin
  rw [hat] at hin
  dsimp only at hin
  have hin0 := hin
  unfold w_at at hov
  rw [w_W_s hat] at hov hin
  dsimp only at hov hin
  have hv := w_tn_n hV.1 (fun a x hx => w_vt_lt (m_CK hV hl) hx) hov hp
  have hne : P.1.2.2.1 p 1 ≠ h := by
    unfold w_af w_lv at hin
    exact w_l1_in v5 (P.1.1 5) (Nat.le_refl _) hp hin
  have hN : y_N P.1 (m_BA P) h (P.1.2.2.1 p 1) = none := by
    unfold w_vt at hv
    rw [if_pos hin] at hv
    exact hv
  have far := y_nx_n (vp p hp).2.1 (fun e => hne e.symm) hN
  obtain ⟨S, s1, s2, s3⟩ := y_ln_cut (F := 100000) (by omega) v0 hro hh far
  refine m_bs_0 fun q hq => ?_
  unfold m_sq
  cases hb : m_bd P h q with
  | false => rw [Bool.and_false, Bool.false_and]
  | true =>
    have hb := of_decide_eq_true hb
    have hb2 : y_bs 100000 P.1.2.1 (m_BA P) h q (P.1.1 4) < 100000 := by
      rcases y_bs_ff (F := 1000000) (F' := 100000) (by omega) (by omega) hro h q (P.1.1 4) (Nat.le_refl _) (sh := m_BA P) with z | z
      · have k := z.2
        obtain ⟨r, r1, r2, r3⟩ := y_bs_x 1000000 P.1.2.1 (m_BA P) h q z.1
        have := hro r r1
        omega
      · omega
    have key := w_at_S (D := P.1) (C := m_sm P n p q) (S := S) (n := n) (fun x hx => by
      rw [m_sm_at (Nat.le_refl n), hat] at hx
      injection hx with hx
      rw [← hx]; exact s1) (fun k pl x a hk hpl hS hx => by
      have hpl2 := w_at_lt (m_smK hV hl hq) hpl
      have fin : ∀ {x}, y_bs 100000 P.1.2.1 (m_BA P) pl x (P.1.1 4) < 100000 → S x = true := by
        intro x hx
        cases hs : S x with
        | true => rfl
        | false =>
          have := s3 pl x hpl2 hS hs
          omega
      unfold w_vt at hx
      split at hx
      · cases hm : m_sf n p q k a with
        | some v =>
          have e1 := m_sf_x hm
          have e2 := m_sf_t.mp (by rw [hm]; rfl)
          have hm' : (m_sm P n p q).2.2.2.2.2.1 k a = some v := hm
          rw [hm'] at hx
          dsimp only at hx
          rw [e1] at hx
          injection hx with hx
          subst hx
          obtain ⟨rfl, rfl⟩ := e2
          rw [m_sm_at (Nat.le_refl k), hat] at hpl
          injection hpl with hpl
          rw [hpl] at hb2
          exact fin hb2
        | none =>
          have hm' : (m_sm P n p q).2.2.2.2.2.1 k a = none := hm
          rw [hm'] at hx
          exact fin (y_nx_lt hx).2
      · cases hx)
    have hf : m_fi P (m_sm P n p q) (n + 1) (P.1.2.2.1 p 1) = none := by
      unfold m_fi
      refine y_fd_n.mpr fun k hk => ?_
      cases hd : decide (n + 1 ≤ k) with
      | false => rfl
      | true =>
        have hd := of_decide_eq_true hd
        rw [Bool.true_and]
        cases hz : w_at P.1 (m_sm P n p q) k == some (P.1.2.2.1 p 1) with
        | false => rfl
        | true =>
          have := key k _ (by omega) (eq_of_beq hz)
          rw [s2] at this
          cases this
    have : m_hp P n p q = false := by unfold m_hp; rw [hf]
    rw [this, Bool.and_false]
theorem c_shamHelps (hV : m_PV P) (hl : 0 < P.1.1 6) (hn : n < 61) (hp : p < P.1.1 5) (hq : q < P.1.1 0) (hin : (w_cr P.1 (m_C P) n).testBit p = true) (s : AS) (hP : c_PA 25 47 P s) (hT : c_T P s) : ∃ t, fX8_shamHelps s (nI p) (nI n) (nI q) = some (t, nI (m_hp P n p q).toNat) ∧ c_mw s t := by
  have hV' := hV.1
  obtain ⟨v0, v4, v5, vr, vp, vg, vs, vr2, vo, vl, vz⟩ := hV'
  have hw := (vp p hp).2.1
  have ew : s.1 (38 + p) 1 = nI (P.1.2.2.1 p 1) := T_pe hP.1 hp (by omega)
  obtain ⟨t1, a1, a2, ⟨b0, b1, b2, b3, b4, b5, b7, b8, b9, b10, b11, b12, b6⟩, a4⟩ := c_asItIs s hP
  have m2 : c_mw s (am_si (am_si (am_si t1 172 10 (nI p)) 172 11 (nI n)) 172 12 (nI q)) := c_mw_tr a2 ⟨fun c hc => by rw [r_so _ _ _ (by omega), r_so _ _ _ (by omega), r_so _ _ _ (by omega)], fun _ _ => rfl⟩
  have P2 := c_PA_eq hP hV (fun c _ _ => m2.1 c (by omega)) (fun c _ _ => m2.1 c (by omega))
  have hwv : ∀ m, m < 61 → c_wv ((am_si (am_si (am_si t1 172 10 (nI p)) 172 11 (nI n)) 172 12 (nI q)).1 172) m = 138 := by
    intro m hm
    unfold c_wv
    simp (disch := omega) only [r_si, r_uo, b7, b8, b_t]
    split <;> rfl
  obtain ⟨t2, h1, h2, h3⟩ := c_go (o := 198) (op := 25) (oc := 172) (D := P.1) (C := m_sm P n p q) (g := none) (last := 60) hV.1 (m_smK hV hl hq) (by omega) (by omega) (fun q h => (by cases h)) (by omega) (am_si (am_si (am_si t1 172 10 (nI p)) 172 11 (nI n)) 172 12 (nI q)) P2.1 ⟨by simp (disch := omega) only [r_si, r_uo, b1], ⟨by simp (disch := omega) only [r_si, r_uo, b2], 0, by omega, by simp (disch := omega) only [r_si, r_uo, b3], fun p hp => by simp⟩, (fun m a hm ha => ⟨by
      rw [m_sf_t]
      simp (disch := omega) only [r_si, r_us, r_uo, b_eq]
      exact ⟨fun z => ⟨z.2, z.1⟩, fun z => ⟨z.2, z.1⟩⟩, fun x hx => by
      rw [m_sf_x hx, r_si, r_us]; rfl⟩), fun n hn => c_rn_0 b6 hn⟩ (fun n hn => by rw [hwv n hn]; exact ⟨by omega, by omega, c_WY_NX hV.1 (c_WY_eq hV.1 hT.1 (fun c _ _ => m2.1 c (by omega)))⟩) (by simp (disch := omega) only [r_si, r_uo, b0]) (by simp (disch := omega) only [r_si, r_uo, b4]) (by simp (disch := omega) only [r_si, r_uo, b5]) (fun m a hm ha h => by
      obtain ⟨rfl, rfl⟩ := m_sf_t.mp h
      exact m_sm_in hin)
  have G := h3.1 (fun k hk q hq h => by cases h)
  have m3 := c_mw_tr m2 (c_mw_fr h2 (fun c hc => by have : 198 ≤ c ∧ c < 198 + 9 := hc; omega))
  have T3 := c_T_mw hV hT m3
  have f1 := c_firstAt (o := 198) t2 (wa := w_at P.1 (m_sm P n p q)) (fun k hk => by rw [G.2.1 k hk, if_pos (by omega)]) (fun k x hx => by have := w_at_lt (m_smK hV hl hq) hx; omega) (pl := P.1.2.2.1 p 1) (from_ := n + 1) (by omega) (by omega)
  have f2 := c_firstAt (o := 163) t2 (wa := w_at P.1 (m_C P)) (fun k hk => T_at T3 hk) (fun k x hx => by have := w_at_lt (m_CK hV hl) hx; omega) (pl := P.1.2.2.1 p 1) (from_ := n + 1) (by omega) (by omega)
  refine ⟨t2, ?_, m3⟩
  unfold fX8_shamHelps fX1_votesFalsely
  simp (disch := omega) only [↓am_lq, b_lq, oI_q, b_lt, b_t, b_add, am_g_t, ew, a1, am_cq, h1, f1, f2, am_rq]
  unfold m_hp m_fi
  cases e1 : y_fd (fun k => decide (n + 1 ≤ k) && (w_at P.1 (m_sm P n p q) k == some (P.1.2.2.1 p 1))) 61 with
  | none =>
    rw [if_pos rfl]
    first | exact am_g_t (.inl rfl) | exact am_g_t (.inl trivial)
  | some a =>
    have ha := (y_fd_s.mp e1).1
    have c1 : (nI a = oI none) = False := b_nn (by omega)
    cases e2 : y_fd (fun k => decide (n + 1 ≤ k) && (w_at P.1 (m_C P) k == some (P.1.2.2.1 p 1))) 61 with
    | none =>
      simp only [oI_t, c1, if_false, if_true]
      first | exact am_g_t (.inr rfl) | exact am_g_t (.inr trivial)
    | some b =>
      have hb := (y_fd_s.mp e2).1
      have c2 : (nI b = oI none) = False := b_nn (by omega)
      simp (disch := omega) only [oI_t, c1, c2, if_false, b_le]
      by_cases c : b ≤ a
      · rw [if_pos c, decide_eq_false (by omega)]
        first | exact am_g_t (.inl rfl) | exact am_g_t (.inl trivial)
      · rw [if_neg c, decide_eq_true (by omega)]
        first | exact am_g_t (.inr rfl) | exact am_g_t (.inr trivial)
theorem c_shamsOf (hV : m_PV P) (hl : 0 < P.1.1 6) (hn : n < 61) (hp : p < P.1.1 5) (s : AS) (hP : c_PA 25 47 P s) (hT : c_T P s) : ∃ t, fX8_shamsOf s (nI p) (nI n) = some (t, nI (m_sb P n p)) ∧ c_mw s t := by
  have hV' := hV.1
  obtain ⟨v0, v4, v5, vr, vp, vg, vs, vr2, vo, vl, vz⟩ := hV'
  unfold fX8_shamsOf m_sb
  have e := T_at hT hn
  cases hat : w_at P.1 (m_C P) n with
  | none =>
    rw [hat] at e
    refine ⟨s, ?_, c_mw_refl s⟩
    simp (disch := omega) only [↓am_lq, b_lq, oI_q, b_lt, b_t, am_g_t, e, if_true]
  | some h =>
    have hh := w_at_lt (m_CK hV hl) hat
    rw [hat, oI_s] at e
    have c0 : (nI h = oI none) = False := b_nn (by omega)
    simp (disch := omega) only [↓am_lq, b_lq, oI_q, b_lt, b_t, am_g_t, e, c0, if_false, c_isIn hV hT (show p < 8 by omega) hn, am_rq, m_if0]
    cases hin : (w_cr P.1 (m_C P) n).testBit p with
    | false => exact ⟨s, rfl, c_mw_refl s⟩
    | true =>
      rw [if_pos rfl, if_pos rfl, c_voteOf hV hl hP.1 hT hp hn, am_rq]
      refine sp_lq (fun f (x : AS × Int32) i => fX8_shamsOf_L40 (nI p) (nI n) (nI h) (oI (m_vv P n p)) f x.1 x.2 i) (P.1.1 0) (fun i x => c_mw s x.1 ∧ x.2 = nI (m_bs (m_sq P n p h) i)) (fun r => ∃ u, r = some (u, nI (m_bs (m_sq P n p h) (P.1.1 0))) ∧ c_mw s u) (fun f i x hi hx => ?_) (fun f x hx => ?_) (s, nI 0) ⟨c_mw_refl s, rfl⟩ am_fu (am_fu_gt (by omega))
      · left
        obtain ⟨u, x⟩ := x
        obtain ⟨k1, k2⟩ := hx
        dsimp only at k1 k2 ⊢
        subst k2
        have P1 := c_PA_eq hP hV (fun c _ _ => k1.1 c (by omega)) (fun c _ _ => k1.1 c (by omega))
        have T1 := c_T_mw hV hT k1
        have e1 : u.1 25 1 = nI (P.1.1 0) := T_np P1.1 (j := 0) (by omega)
        have hm : m_bs (m_sq P n p h) i < 1024 := m_bs_lt (n := 10) _ i (by omega)
        have hbd : fX7_areBeside u 138 (nI h) (nI i) = some (nI (m_bd P h i).toNat) := c_areBeside hV.1 u T1.1 hh hi
        have hvv : (nI i = oI (m_vv P n p)) = (m_vv P n p = some i) := by
          cases hv : m_vv P n p with
          | none => rw [b_nn (by omega)]; exact propext ⟨fun z => z.elim, fun z => (by cases z)⟩
          | some x =>
            have : x < P.1.1 0 := by
              unfold m_vv at hv
              rw [hat] at hv
              exact (y_nx_lt hv).1
            rw [oI_s, b_eq (by omega) (by omega)]
            exact propext ⟨fun z => by rw [z], fun z => by injection z with z; exact z.symm⟩
        obtain ⟨w, w1, w2⟩ := c_shamHelps hV hl hn hp hi hin u P1 T1
        rw [fX8_shamsOf_L40]
        by_cases c1 : m_vv P n p = some i
        · refine ⟨(u, nI (m_bs (m_sq P n p h) (i + 1))), ⟨k1, rfl⟩, ?_⟩
          rw [m_bs_s, show m_sq P n p h i = (!decide (m_vv P n p = some i) && m_bd P h i && m_hp P n p i) from rfl]
          simp (disch := omega) only [↓am_lq, b_lq, e1, b_le, hvv, b_add, if_neg, if_pos c1, decide_eq_true c1, Bool.not_true, Bool.false_and, Bool.false_eq_true, if_false]
        · cases c2 : m_bd P h i with
          | false =>
            rw [c2] at hbd
            refine ⟨(u, nI (m_bs (m_sq P n p h) (i + 1))), ⟨k1, rfl⟩, ?_⟩
            rw [m_bs_s, show m_sq P n p h i = (!decide (m_vv P n p = some i) && m_bd P h i && m_hp P n p i) from rfl]
            simp (disch := omega) only [↓am_lq, b_lq, e1, b_le, hvv, b_add, if_neg, if_neg c1, hbd, am_rq, m_if0, c2, decide_eq_false c1, Bool.not_false, Bool.and_false, Bool.false_and, Bool.false_eq_true, if_false]
          | true =>
            rw [c2] at hbd
            refine ⟨(w, nI (m_bs (m_sq P n p h) (i + 1))), ⟨c_mw_tr k1 w2, rfl⟩, ?_⟩
            rw [m_bs_s, show m_sq P n p h i = (!decide (m_vv P n p = some i) && m_bd P h i && m_hp P n p i) from rfl]
            simp (disch := omega) only [↓am_lq, b_lq, e1, b_le, hvv, b_add, if_neg, if_neg c1, hbd, am_rq, m_if0, c2, w1, am_cq, decide_eq_false c1, Bool.not_false, Bool.true_and, if_true, b_sh, b_ins]
            cases m_hp P n p i <;> rfl
      · obtain ⟨u, x⟩ := x
        obtain ⟨k1, k2⟩ := hx
        dsimp only at k1 k2 ⊢
        subst k2
        have P1 := c_PA_eq hP hV (fun c _ _ => k1.1 c (by omega)) (fun c _ _ => k1.1 c (by omega))
        have e1 : u.1 25 1 = nI (P.1.1 0) := T_np P1.1 (j := 0) (by omega)
        refine ⟨u, ?_, k1⟩
        rw [fX8_shamsOf_L40]
        simp (disch := omega) only [e1, b_le, if_pos, if_true]
end SM
