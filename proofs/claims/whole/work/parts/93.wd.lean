/-! WOULD: another case, told beside the march as it is; needed. -/
section WD
variable {M : m_M} {s t : AS} {P : m_P}
/-- a case: start, rule, answered, kept away, roads shut -/
abbrev m_X (P : m_P) (x y A : Nat) (K : Nat → Bool) (sh : Nat) : w_C := (x, y, A, K, fun _ => false, fun _ _ => none, fun _ => y_N P.1 sh)
theorem m_XK (hV : m_PV P) {x y A sh : Nat} {K : Nat → Bool} (hx : x < P.1.1 0) (hy : y ≤ 3) (hA : A < 1024) : w_CK P.1 (m_X P x y A K sh) := ⟨hx, hy, hA, fun n p q hq => (by cases hq), fun n a b q hq => (y_nx_lt hq).1⟩
theorem c_wd (hV : m_PV P) {x y A v sh last : Nat} {K : Nat → Bool} {g : Option Nat} (hx : x < P.1.1 0) (hy : y ≤ 3) (hA : A < 1024) (hg : ∀ q, g = some q → q < 10) (hl : last ≤ 60) (hv : v = 138 ∨ v = 173) (s : AS) (hP : c_PL 25 P.1 s) (b0 : s.1 172 0 = nI x) (b1 : s.1 172 1 = nI y) (b2 : s.1 172 2 = nI A) (b3 : ∃ k, k < 1024 ∧ s.1 172 3 = nI k ∧ ∀ p, p < 8 → k.testBit p = K p) (b4 : s.1 172 4 = oI g) (b5 : s.1 172 5 = nI last) (b7 : s.1 172 7 = nI v) (b8 : s.1 172 8 = nI v) (b10 : s.1 172 10 = oI none) (b6 : s.2 172 6 = 0) (hY : c_WY v P.1 sh s) : ∃ t, fX6_go s 198 25 172 = some (t, ()) ∧ c_mw s t ∧ (∀ c, c < 198 → t.1 c = s.1 c) ∧ c_GP 198 P.1 (m_X P x y A K sh) g last t := by
  have hwv : ∀ n, n < 61 → c_wv (s.1 172) n = v := by
    intro n hn
    unfold c_wv
    rw [b7, b8, b_t (by omega)]
    split <;> rfl
  obtain ⟨t, h1, h2, h3⟩ := c_go (o := 198) (op := 25) (oc := 172) (D := P.1) (C := m_X P x y A K sh) (g := g) (last := last) hV.1 (m_XK hV hx hy hA) (by omega) (by omega) hg hl s hP ⟨b1, ⟨b2, b3⟩, c_SH_0 (fun _ _ => rfl) b10, fun n hn => c_rn_0 b6 hn⟩ (fun n hn => by rw [hwv n hn]; exact ⟨by omega, by omega, c_WY_NX hV.1 hY⟩) b0 b4 b5 (fun n p hn hp h => by cases h)
  exact ⟨t, h1, c_mw_fr h2 (fun c hc => by have : 198 ≤ c ∧ c < 198 + 9 := hc; omega), fun c hc => h2.2 c (by omega), h3⟩
/-- the reference's case -/
def r_W (x y A sh : Nat) (ab : Option Nat) (s : AS) : Prop := s.1 215 23 = nI A ∧ s.1 215 24 = nI sh ∧ s.1 215 25 = nI x ∧ s.1 215 26 = nI y ∧ s.1 215 27 = oI none ∧ s.1 215 30 = oI ab ∧ s.1 215 31 = oI none ∧ s.2 215 33 = 0
theorem r_wd (hV : m_PV P) {x y A sh : Nat} {K : Nat → Bool} {ab : Option Nat} (hx : x < P.1.1 0) (hy : y ≤ 3) (hA : A < 1024) (hsh : sh < 1024) (hK : ∀ p, p < 8 → (nI p = oI ab ↔ K p = true)) (s : AS) (hP : r_PL P.1 s) (hW : r_W x y A sh ab s) : ∃ t, fX9_runs s = some (t, ()) ∧ r_mv s t ∧ r_W x y A sh ab t ∧ r_PL P.1 t ∧ r_GI P.1 (m_X P x y A K sh) none sh 61 t ∧ r_fx s t := by
  obtain ⟨b1, b2, b3, b4, b5, b6, b7, b8⟩ := hW
  obtain ⟨t, h1, h2, h3, h4⟩ := r_runs (D := P.1) (C := m_X P x y A K sh) (tr := none) (sh := sh) hV.1 (m_XK hV hx hy hA) hsh (fun n _ => rfl) s hP ⟨b4, ⟨b1, fun p hp => by rw [b6]; exact hK p hp⟩, fun n p hn hp => ⟨⟨fun z => (by cases z), fun z => by
    have := z.1
    rw [b5, b_nn (by omega)] at this
    exact this.elim⟩, fun x hx => (by cases hx)⟩, ⟨b7, fun m k h => (by cases h)⟩, fun n hn => r_rn_0 b8 hn⟩ b2 b3
  refine ⟨t, h1, r_mv_runs (r_mv_refl s) h2 h3, ⟨?_, ?_, ?_, ?_, ?_, ?_, ?_, ?_⟩, r_PL_fr hP h2 (fun c _ _ => by omega), h4, h3⟩
  · rw [h3 23 (by omega) (by omega)]; exact b1
  · obtain ⟨-, -, -, -, -, -, -, z, z1, z2, z3, z4, z5⟩ := h4
    rw [z2, z5 rfl]
  · rw [h3 25 (by omega) (by omega)]; exact b3
  · rw [h3 26 (by omega) (by omega)]; exact b4
  · rw [h3 27 (by omega) (by omega)]; exact b5
  · rw [h3 30 (by omega) (by omega)]; exact b6
  · rw [h3 31 (by omega) (by omega)]; exact b7
  · rw [h2.1]; exact b8
theorem r_laysNow2 (hV : m_PV P) (hl : 0 < P.1.1 6) (s : AS) (hP : r_PA 0 P s) : ∃ t, fX9_laysNow s = some (t, ()) ∧ r_mv s t ∧ r_T P t ∧ r_W (P.1.1 1) (P.1.1 2) (m_AN P) (m_BA P) none t := by
  have hV' := hV.1
  obtain ⟨v0, v4, v5, vr, vp, vg, vs, vr2, vo, vl, vz⟩ := hV'
  obtain ⟨t1, a1, a2, a3, a4⟩ := r_lays hV s hP
  have P1 := r_PA_PL (r_PA_eq hP (fun c _ _ => a4 c (by omega)))
  obtain ⟨t2, b1, b2, b3, b4, b5, b6⟩ := r_wd (K := fun _ => false) (ab := none) hV (vs hl) vr2 (m_AN_lt hV) (m_BA_lt hV) (fun p hp => by rw [b_nn (by omega)]; exact ⟨fun z => z.elim, fun z => (by cases z)⟩) t1 P1 a3
  refine ⟨t2, ?_, r_mv_tr a2 b2, ⟨b5, b4, b3.2.2.1⟩, b3⟩
  unfold fX9_laysNow
  rw [a1, am_cq, b1, am_cq]
theorem r_qw (hV : m_MV M) (hI : r_I M s) {g : AS → Option Int32} {b : Bool} (hg : ∀ t, r_I M t → g t = some (nI b.toNat)) (hl : b = true → 0 < M.2.2.1.1.1 6) {body : AS → Unit → Option (AS × Int32)} {r : Int32} (hb : b = true → ∀ t, r_I M t → r_T M.2.2.1 t → r_W (M.2.2.1.1.1 1) (M.2.2.1.1.1 2) (m_AN M.2.2.1) (m_BA M.2.2.1) none t → ∃ u, body t () = some (u, r) ∧ r_mv t u) : ∃ t, am_let (am_si s 215 0 (0 : Int32)) (fun s1 => am_r (g s1) (fun v1 => if v1 = 0 then some (s1, (-2 : Int32)) else am_c (fX9_laysNow s1) body)) = some (t, if b then r else -2) ∧ r_I M t ∧ r_F s t := by
  have m0 : r_mv s (am_si s 215 0 (0 : Int32)) := r_mv_si (r_mv_refl s) _ (by omega)
  have I0 := r_I_mv hI m0
  rw [am_lq, hg _ I0, am_rq]
  cases b with
  | false =>
    refine ⟨_, ?_, I0, m0.1⟩
    rw [if_pos (show nI false.toNat = 0 from rfl), if_neg (by simp)]
  | true =>
    obtain ⟨t, h1, h2, h3, h4⟩ := r_laysNow2 (m_MV_P hV) (hl rfl) _ I0.2.2.1
    have I1 := r_I_mv I0 h2
    obtain ⟨u, h5, h6⟩ := hb rfl t I1 h3 h4
    refine ⟨u, ?_, r_I_mv I1 h6, r_F_tr (r_F_tr m0.1 h2.1) h6.1⟩
    rw [if_neg (by decide), h1, am_cq, h5, if_pos rfl]
/-- without p -/
abbrev m_wo (P : m_P) (b : Nat) : w_C := m_X P (P.1.1 1) (P.1.1 2) (m_AN P) (fun p => decide (b = p)) (m_BA P)
theorem c_without (hV : m_PV P) (hl : 0 < P.1.1 6) {a b : Nat} (ha : a < 8) (hb : b < 8) (s : AS) (hP : c_PA 25 47 P s) (hY : c_WY 138 P.1 (m_BA P) s) : ∃ t, fX8_fallsInWithout s (nI a) (nI b) = some (t, nI (w_fe P.1 (m_wo P b) a).isSome.toNat) ∧ c_mw s t := by
  have hV' := hV.1
  obtain ⟨v0, v4, v5, vr, vp, vg, vs, vr2, vo, vl, vz⟩ := hV'
  obtain ⟨t1, a1, a2, a3, a4⟩ := c_asItIs s hP
  obtain ⟨b0, b1, b2, b3, b4, b5, b7, b8, b9, b10, b11, b12, b6⟩ := a3
  have hp : (2 : Nat) ^ b < 1024 := Nat.pow_lt_pow_right (m := b) (n := 10) (by omega) (by omega)
  have m2 : c_mw s (am_si t1 172 3 (nI (2 ^ b))) := c_mw_tr a2 ⟨fun c hc => by rw [r_so _ _ _ (by omega)], fun _ _ => rfl⟩
  obtain ⟨t2, d1, d2, d3, d4⟩ := c_wd (K := fun p => decide (b = p)) (g := none) (last := 60) (v := 138) (sh := m_BA P) (x := P.1.1 1) (y := P.1.1 2) (A := m_AN P) hV (vs hl) vr2 (m_AN_lt hV) (fun q h => (by cases h)) (by omega) (.inl rfl) (am_si t1 172 3 (nI (2 ^ b))) (c_PA_eq hP hV (fun c _ _ => m2.1 c (by omega)) (fun c _ _ => m2.1 c (by omega))).1 (by simp (disch := omega) only [r_si, r_uo, b0]) (by simp (disch := omega) only [r_si, r_uo, b1]) (by simp (disch := omega) only [r_si, r_uo, b2]) ⟨2 ^ b, hp, by rw [r_si, r_us], fun p hp => Nat.testBit_two_pow⟩ (by simp (disch := omega) only [r_si, r_uo, b4]) (by simp (disch := omega) only [r_si, r_uo, b5]) (by simp (disch := omega) only [r_si, r_uo, b7]) (by simp (disch := omega) only [r_si, r_uo, b8]) (by simp (disch := omega) only [r_si, r_uo, b10]) b6 (c_WY_eq hV.1 hY (fun c _ _ => m2.1 c (by omega)))
  have G := d4.1 (fun k hk q hq h => by cases h)
  have e : t2.1 202 a = oI (w_fe P.1 (m_wo P b) a) := G.1.2.2.2.1 a ha
  refine ⟨t2, ?_, c_mw_tr m2 d2⟩
  unfold fX8_fallsInWithout
  rw [a1, am_cq]
  simp (disch := omega) only [↓am_lq, b_lq, b_sh, d1, am_cq, oI_q, b_lt, b_t, am_g_t]
  cases hf : w_fe P.1 (m_wo P b) a with
  | none =>
    rw [hf] at e
    rw [e, if_pos rfl]
    exact am_g_t (.inl trivial)
  | some k =>
    have hk := w_fe_lt hf
    rw [hf, oI_s] at e
    rw [e, if_neg (by rw [b_nn (by omega)]; exact fun z => z)]
    exact am_g_t (.inr trivial)
/-- who is needed, of the first n -/
def m_nee (P : m_P) (a : Nat) : Nat → Nat
  | 0 => 0
  | n + 1 => if n = a then m_nee P a n else if (w_fe P.1 (m_wo P n) a).isSome then m_nee P a n else w_ins (m_nee P a n) n
theorem m_nee_s (P : m_P) (a n : Nat) : m_nee P a (n + 1) = if n = a then m_nee P a n else if (w_fe P.1 (m_wo P n) a).isSome then m_nee P a n else w_ins (m_nee P a n) n := Eq.trans rfl rfl
theorem m_nee_lt (P : m_P) (a : Nat) : ∀ n, n ≤ 8 → m_nee P a n < 256
  | 0, _ => by show 0 < 256; omega
  | n + 1, h => by
    have ih := m_nee_lt P a n (by omega)
    rw [m_nee_s]
    split
    · exact ih
    · split
      · exact ih
      · exact w_ins_lt (k := 8) ih (by omega)
theorem Q_needed (a : Int32) : m_OK (fun s => fX8_needed s a) (fun s => fX9_needed s a) := m_ok_q (fun M => m_in a (M.2.2.1.1.1 5)) (fun M => match w_fe M.2.2.1.1 (m_C M.2.2.1) a.toNatClampNeg with
    | none => nI 0
    | some _ => nI (m_nee M.2.2.1 a.toNatClampNeg (M.2.2.1.1.1 5)))
  (fun M s hV hI => by
    unfold fX8_needed
    exact c_q hV hI (g8_person hI.1) (hl_person hV) (fun hb t h1 h2 => by
      have hl := hl_person hV hb
      obtain ⟨p, hp, hp2, rfl⟩ := k_person hV hb
      have hP := m_MV_P hV
      have v5 := hP.1.2.2.1
      have e1 := T_fe h2 hp2
      rw [b_t (by omega)]
      cases hf : w_fe M.2.2.1.1 (m_C M.2.2.1) p with
      | none =>
        rw [hf] at e1
        refine ⟨t, ?_, c_mw_refl t⟩
        simp (disch := omega) only [↓am_lq, b_lq, oI_q, b_lt, b_t, am_g_t, e1, if_true]
      | some k =>
        have hk := w_fe_lt hf
        rw [hf, oI_s] at e1
        have b1 : (nI k = oI none) = False := b_nn (by omega)
        simp (disch := omega) only [↓am_lq, b_lq, oI_q, b_lt, b_t, am_g_t, e1, b1, if_false]
        refine sp_lq (fun f (x : AS × Int32) i => fX8_needed_L34 (nI p) f x.1 x.2 i) (M.2.2.1.1.1 5) (fun i x => c_mw t x.1 ∧ x.2 = nI (m_nee M.2.2.1 p i)) (fun r => ∃ u, r = some (u, nI (m_nee M.2.2.1 p (M.2.2.1.1.1 5))) ∧ c_mw t u) (fun f i x hi hx => ?_) (fun f x hx => ?_) (t, nI 0) ⟨c_mw_refl t, rfl⟩ am_fu (am_fu_gt (by omega))
        · left
          obtain ⟨u, x⟩ := x
          obtain ⟨k1, k2⟩ := hx
          dsimp only at k1 k2 ⊢
          subst k2
          have i8 : i < 8 := by omega
          have I1 := c_I_mw hV h1 k1
          have T1 := c_T_mw hP h2 k1
          have e6 : u.1 25 6 = nI (M.2.2.1.1.1 5) := T_np I1.1.2.2.1.1 (j := 5) (by omega)
          have hm := m_nee_lt M.2.2.1 p i (by omega)
          obtain ⟨w, w1, w2⟩ := c_without (a := p) (b := i) hP hl hp2 i8 u I1.1.2.2.1 T1.1
          rw [fX8_needed_L34]
          by_cases c : i = p
          · refine ⟨(u, nI (m_nee M.2.2.1 p (i + 1))), ⟨k1, rfl⟩, ?_⟩
            rw [m_nee_s]
            simp (disch := omega) only [↓am_lq, b_lq, e6, b_le, b_eq, b_add, c, if_neg, if_true]
          · refine ⟨(w, nI (m_nee M.2.2.1 p (i + 1))), ⟨c_mw_tr k1 w2, rfl⟩, ?_⟩
            rw [m_nee_s]
            cases hw : (w_fe M.2.2.1.1 (m_wo M.2.2.1 i) p).isSome with
            | true =>
              rw [hw] at w1
              simp (disch := omega) only [↓am_lq, b_lq, e6, b_le, b_eq, b_add, c, w1, am_cq, b_tt, if_neg, if_true, if_false]
            | false =>
              rw [hw] at w1
              simp (disch := omega) only [↓am_lq, b_lq, e6, b_le, b_eq, b_add, c, w1, am_cq, b_tf, b_sh, b_ins, if_neg, if_true, if_false, Bool.false_eq_true]
        · obtain ⟨u, x⟩ := x
          obtain ⟨k1, k2⟩ := hx
          dsimp only at k1 k2 ⊢
          subst k2
          have I1 := c_I_mw hV h1 k1
          have e6 : u.1 25 6 = nI (M.2.2.1.1.1 5) := T_np I1.1.2.2.1.1 (j := 5) (by omega)
          refine ⟨u, ?_, k1⟩
          rw [fX8_needed_L34]
          simp (disch := omega) only [b_lq, e6, b_le, if_pos, if_true]))
  (fun M s hV hI => by
    unfold fX9_needed
    exact r_qw hV hI (fun t h => g9_person h hV) (hl_person hV) (fun hb t h1 h2 h3 => by
      have hl := hl_person hV hb
      obtain ⟨p, hp, hp2, rfl⟩ := k_person hV hb
      have hP := m_MV_P hV
      have hV' := hP.1
      obtain ⟨v0, v4, v5, vr, vp, vg, vs, vr2, vo, vl, vz⟩ := hV'
      have e1 := R_fe h2 hp2
      rw [b_t (by omega)]
      cases hf : w_fe M.2.2.1.1 (m_C M.2.2.1) p with
      | none =>
        rw [hf] at e1
        refine ⟨t, ?_, r_mv_refl t⟩
        simp (disch := omega) only [↓am_lq, b_lq, oI_q, b_lt, b_t, am_g_t, e1, if_true]
      | some k =>
        have hk := w_fe_lt hf
        rw [hf, oI_s] at e1
        have b1 : (nI k = oI none) = False := b_nn (by omega)
        simp (disch := omega) only [↓am_lq, b_lq, oI_q, b_lt, b_t, am_g_t, e1, b1, if_false]
        refine sp_lq (fun f (x : AS × Int32) i => fX9_needed_L37 (nI p) f x.1 x.2 i) (M.2.2.1.1.1 5) (fun i x => (r_mv t x.1 ∧ r_PL M.2.2.1.1 x.1 ∧ ∃ ab, r_W (M.2.2.1.1.1 1) (M.2.2.1.1.1 2) (m_AN M.2.2.1) (m_BA M.2.2.1) ab x.1) ∧ x.2 = nI (m_nee M.2.2.1 p i)) (fun r => ∃ u, r = some (u, nI (m_nee M.2.2.1 p (M.2.2.1.1.1 5))) ∧ r_mv t u) (fun f i x hi hx => ?_) (fun f x hx => ?_) (t, nI 0) ⟨⟨r_mv_refl t, h2.2.1, none, h3⟩, rfl⟩ am_fu (am_fu_gt (by omega))
        · left
          obtain ⟨u, x⟩ := x
          obtain ⟨⟨k1, k3, ab, k4⟩, k2⟩ := hx
          dsimp only at k1 k2 k3 k4 ⊢
          subst k2
          have i8 : i < 8 := by omega
          have e6 := r_people k3
          have hm := m_nee_lt M.2.2.1 p i (by omega)
          rw [fX9_needed_L37]
          by_cases c : i = p
          · refine ⟨(u, nI (m_nee M.2.2.1 p (i + 1))), ⟨⟨k1, k3, ab, k4⟩, rfl⟩, ?_⟩
            rw [m_nee_s]
            simp (disch := omega) only [↓am_lq, b_lq, e6, am_rq, b_le, b_eq, b_add, c, if_neg, if_true]
          · have k5 : r_mv u (am_si u 215 30 (nI i)) := r_mv_si (r_mv_refl u) _ (by omega)
            obtain ⟨c1, c2, c3, c4, c5, c6, c7, c8⟩ := k4
            obtain ⟨w, w1, w2, w3, w4, w5, w6⟩ := r_wd (K := fun p => decide (i = p)) (ab := some i) (x := M.2.2.1.1.1 1) (y := M.2.2.1.1.1 2) (A := m_AN M.2.2.1) (sh := m_BA M.2.2.1) hP (vs hl) vr2 (m_AN_lt hP) (m_BA_lt hP) (fun q hq => by
              rw [oI_s, b_eq (by omega) (by omega)]
              exact ⟨fun e => decide_eq_true e.symm, fun e => (of_decide_eq_true e).symm⟩) (am_si u 215 30 (nI i)) (r_PL_fr (R := fun c => c = 215) k3 (fr_si (fr_refl _ u) _ _ rfl) (fun c _ _ => by omega)) ⟨by simp (disch := omega) only [r_si, r_uo, c1], by simp (disch := omega) only [r_si, r_uo, c2], by simp (disch := omega) only [r_si, r_uo, c3], by simp (disch := omega) only [r_si, r_uo, c4], by simp (disch := omega) only [r_si, r_uo, c5], by rw [r_si, r_us]; rfl, by simp (disch := omega) only [r_si, r_uo, c7], c8⟩
            have e2 : w.1 233 p = oI (w_fe M.2.2.1.1 (m_wo M.2.2.1 i) p) := w5.1.2.2.2.1 p hp2
            refine ⟨(w, nI (m_nee M.2.2.1 p (i + 1))), ⟨⟨r_mv_tr (r_mv_tr k1 k5) w2, w4, some i, w3⟩, rfl⟩, ?_⟩
            rw [m_nee_s]
            cases hw : w_fe M.2.2.1.1 (m_wo M.2.2.1 i) p with
            | some j =>
              have hj := w_fe_lt hw
              rw [hw, oI_s] at e2
              have b2 : (nI j = oI none) = False := b_nn (by omega)
              simp (disch := omega) only [↓am_lq, b_lq, oI_q, e6, am_rq, b_le, b_lt, b_t, am_g_t, b_eq, b_add, c, w1, am_cq, e2, b2, b_or0, if_neg, if_true, if_false, Option.isSome_some]
            | none =>
              rw [hw] at e2
              simp (disch := omega) only [↓am_lq, b_lq, oI_q, e6, am_rq, b_le, b_lt, b_t, am_g_t, b_eq, b_add, c, w1, am_cq, e2, b_sh, b_ins, if_neg, if_true, if_false, Option.isSome_none, Bool.false_eq_true]
        · obtain ⟨u, x⟩ := x
          obtain ⟨⟨k1, k3, ab, k4⟩, k2⟩ := hx
          dsimp only at k1 k2 k3 k4 ⊢
          subst k2
          have e6 := r_people k3
          refine ⟨u, ?_, k1⟩
          rw [fX9_needed_L37]
          simp (disch := omega) only [b_lq, e6, am_rq, b_le, if_pos, if_true]))
end WD
