/-! THE REFERENCE'S WALK, WHOLE. -/
/-- a counting loop, whatever comes behind it -/
theorem sp_lj {S R : Type} (F : (S → R) → Nat → S → Int32 → R) (N : Nat) (I : Nat → S → Prop)
    (hs : ∀ n i s, i < N → I i s → ∃ s', I (i + 1) s' ∧ ∀ J, F J (n + 1) s (nI i) = F J n s' (nI (i + 1)))
    (h0 : ∀ n s, I N s → ∀ J, F J (n + 1) s (nI N) = J s) (s : S) (h : I 0 s) (fuel : Nat) (hf : N < fuel) : ∃ s', I N s' ∧ ∀ J, F J fuel s (nI 0) = J s' := by
  have key : ∀ (j i : Nat) (s : S), i + j = N → I i s → ∀ fuel, j < fuel → ∃ s', I N s' ∧ ∀ J, F J fuel s (nI i) = J s' := by
    intro j
    induction j with
    | zero =>
      intro i s hi h fuel hf
      obtain ⟨f, rfl⟩ : ∃ f, fuel = f + 1 := ⟨fuel - 1, by omega⟩
      have : i = N := by omega
      subst this
      exact ⟨s, h, h0 f s h⟩
    | succ j ih =>
      intro i s hi h fuel hf
      obtain ⟨f, rfl⟩ : ∃ f, fuel = f + 1 := ⟨fuel - 1, by omega⟩
      obtain ⟨s', h1, h2⟩ := hs f i s (by omega) h
      obtain ⟨s2, h3, h4⟩ := ih (i + 1) s' (by omega) h1 f (by omega)
      exact ⟨s2, h3, fun J => (h2 J).trans (h4 J)⟩
  exact key N 0 s (by omega) h fuel hf
/-- the roads shut ahead of step n, where one is shut at a step -/
def r_sh (tr : Option (Nat × Nat)) (sh n : Nat) : Nat := match tr with
  | none => sh
  | some (m, k) => if m < n then w_ins sh k else sh
theorem r_sh_lt {tr : Option (Nat × Nat)} {sh n : Nat} (h : sh < 1024) (ht : ∀ m k, tr = some (m, k) → k < 10) : r_sh tr sh n < 1024 := by
  unfold r_sh
  cases tr with
  | none => exact h
  | some x =>
    obtain ⟨m, k⟩ := x
    dsimp only
    split
    · exact w_ins_lt (k := 10) h (ht m k rfl)
    · exact h
theorem w_on_x {D : w_D} {C : w_C} : ∀ {n : Nat}, w_at D C n = none → ∃ j, w_on D C n = some j ∧ j < n
  | 0, h => by cases h
  | n + 1, h => by
    cases hn : w_at D C n with
    | none =>
      obtain ⟨j, h1, h2⟩ := w_on_x hn
      exact ⟨j, by rw [w_on_s, h1], by omega⟩
    | some pl => exact ⟨n, by rw [w_on_s, w_on_n hn, hn, h]; rfl, by omega⟩
def r_rn (j : Nat → Int64) (n : Nat) : Bool := decide (¬ lg_cmp (((j 33) >>> ((nI n).toInt64 &&& 63)) &&& 1) 0 = 0)
/-- the reference's case is C, with a road shut at a step -/
def r_CS (C : w_C) (tr : Option (Nat × Nat)) (s : AS) : Prop := s.1 215 26 = nI C.2.1 ∧ r_C1 C s ∧ (∀ n p, n < 61 → p < 8 → ((C.2.2.2.2.2.1 n p).isSome = true ↔ (nI n = s.1 215 27 ∧ nI p = s.1 215 28)) ∧ ∀ x, C.2.2.2.2.2.1 n p = some x → s.1 215 29 = oI x) ∧ (s.1 215 31 = oI (tr.map fun x => x.1) ∧ ∀ m k, tr = some (m, k) → m < 61 ∧ k < 10 ∧ s.1 215 32 = nI k) ∧ ∀ n, n < 61 → r_rn (s.2 215) n = C.2.2.2.2.1 n
theorem r_CS_fr {C : w_C} {tr : Option (Nat × Nat)} {s t : AS} (h : r_CS C tr s) (h1 : ∀ k, 23 ≤ k → k < 34 → k ≠ 24 → t.1 215 k = s.1 215 k) (h2 : t.2 = s.2) : r_CS C tr t := by
  unfold r_CS r_C1 at h ⊢
  rw [h2, h1 26 (by omega) (by omega) (by omega), h1 23 (by omega) (by omega) (by omega), h1 30 (by omega) (by omega) (by omega), h1 27 (by omega) (by omega) (by omega), h1 28 (by omega) (by omega) (by omega), h1 29 (by omega) (by omega) (by omega), h1 31 (by omega) (by omega) (by omega), h1 32 (by omega) (by omega) (by omega)]
  exact h
def r_GI (D : w_D) (C : w_C) (tr : Option (Nat × Nat)) (sh n : Nat) (t : AS) : Prop := r_WS (w_W D C n).2 t ∧ (∀ k, k < n → t.1 229 k = oI (w_at D C k)) ∧ (∀ k, k < n → t.1 230 k = nI (w_cr D C k)) ∧ (∀ k, k < n → t.1 231 k = oI (w_go D C k)) ∧ (∀ k p, k < n → p < 8 → t.1 232 (8 * k + p) = oI (w_vo D C k p)) ∧ t.1 215 45 = oI (w_on D C n) ∧ t.1 215 46 = oI (w_wn D C n) ∧ ∃ z, z < 1024 ∧ t.1 215 24 = nI z ∧ r_WY D z t ∧ (w_at D C n ≠ none → z = r_sh tr sh n) ∧ (tr = none → z = sh)
abbrev r_RG : Nat → Prop := fun c => c = 215 ∨ (228 ≤ c ∧ c < 236)
/-- the fields of the reference's row that a walk keeps -/
def r_fx (s t : AS) : Prop := ∀ k, k ≠ 24 → (k < 42 ∨ 46 < k) → t.1 215 k = s.1 215 k
theorem r_fx_tr {s t u : AS} (h : r_fx s t) (k : r_fx t u) : r_fx s u := fun j a b => (k j a b).trans (h j a b)
section RR
variable {D : w_D} {C : w_C} {tr : Option (Nat × Nat)} {sh : Nat}
theorem r_v105 {n : Nat} (hn : n < 61) (s : AS) : ∃ t, ((∀ p, p < 8 → t.1 232 (8 * n + p) = oI none) ∧ (∀ j, j < 8 * n → t.1 232 j = s.1 232 j) ∧ fr (fun c => c = 232) s t) ∧ ∀ J, fX9_runs_L105 (nI n) J am_fu s (nI 0) = J t := by
  refine sp_lj (fun J f t i => fX9_runs_L105 (nI n) J f t i) 8 (fun i t => (∀ p, p < i → t.1 232 (8 * n + p) = oI none) ∧ (∀ j, j < 8 * n → t.1 232 j = s.1 232 j) ∧ fr (fun c => c = 232) s t) (fun f i t hi h => ?_) (fun f t h J => ?_) s ⟨fun p hp => by omega, fun _ _ => rfl, fr_refl _ _⟩ am_fu (am_fu_gt (by omega))
  · refine ⟨am_si t 232 (8 * n + i) (oI none), ⟨fun p hp => ?_, fun j hj => ?_, fr_si h.2.2 _ _ rfl⟩, fun J => ?_⟩
    · rw [r_si]
      by_cases e : p = i
      · rw [e, r_us]
      · rw [r_uo _ _ (by omega)]
        exact h.1 p (by omega)
    · rw [r_si, r_uo _ _ (by omega)]
      exact h.2.1 j hj
    · rw [fX9_runs_L105]
      simp (disch := omega) only [am_lq, b_lq, oI_q, b_le, b_lt, b_t, b_mul, b_add, am_g_t, if_neg, if_false]
  · rw [fX9_runs_L105]
    simp (disch := omega) only [b_lq, b_le, if_pos, if_true]
theorem r_v204 (hD : w_V D) {n pl z : Nat} (hn : n < 61) (hpl : pl < D.1 0) (hz : z < 1024) {w : w_S} (hok : w_ok D w) (hnx : C.2.2.2.2.2.2 n = y_N D z) (s : AS) (hw : r_WS w s) (hP : r_PL D s) (hS : r_CS C tr s) (h24 : s.1 215 24 = nI z) (hY : r_WY D z s) (hv : ∀ p, p < 8 → s.1 232 (8 * n + p) = oI none) : ∃ t, (r_VT n (w_vt D C n pl w) t ∧ (∀ j, j < 8 * n → t.1 232 j = s.1 232 j) ∧ fr (fun c => c = 232) s t) ∧ ∀ J, fX9_runs_L204 (nI pl) (nI n) J am_fu s (nI 0) = J t := by
  obtain ⟨d0, d4, d5, dr, dp, -⟩ := id hD
  have hl8 := w_pow8 d5
  have hin := hok.1
  have vn : ∀ p, D.1 5 ≤ p → w_vt D C n pl w p = none := by
    intro p hp
    unfold w_vt
    rw [Nat.testBit_lt_two_pow (Nat.lt_of_lt_of_le hin (Nat.pow_le_pow_right (by omega) hp))]
    rfl
  obtain ⟨t, ⟨h1, h2, h3⟩, h4⟩ := sp_lj (fun J f t i => fX9_runs_L204 (nI pl) (nI n) J f t i) (D.1 5) (fun i t => (∀ p, p < 8 → t.1 232 (8 * n + p) = oI (if p < i then w_vt D C n pl w p else none)) ∧ (∀ j, j < 8 * n → t.1 232 j = s.1 232 j) ∧ fr (fun c => c = 232) s t) (fun f i t hi h => by
    obtain ⟨h1, h2, h3⟩ := h
    have hP' := r_PL_fr hP h3 (fun c _ _ => by omega)
    have e5 := r_people hP'
    have e6 := r_wants hD hP' hi
    have r215 : t.1 215 = s.1 215 := h3.2 _ (by omega)
    have e24 : t.1 215 24 = nI z := by rw [r215, h24]
    have e42 : t.1 215 42 = nI w.1 := by rw [r215, hw.1]
    have eY : r_WY D z t := fun x y hx hy => by rw [h3.2 _ (by omega)]; exact hY x y hx hy
    have q0 := dp i hi
    have en := r_nextOf hD hz t hP' e24 eY hpl q0.2.1
    have hs0 := (hS.2.2.1 n i hn (by omega)).1
    have hs1 := (hS.2.2.1 n i hn (by omega)).2
    rw [← r215] at hs0 hs1
    have key : ∀ x, w_vt D C n pl w i = x → (∀ p, p < 8 → (am_si t 232 (8 * n + i) (oI x)).1 232 (8 * n + p) = oI (if p < i + 1 then w_vt D C n pl w p else none)) ∧ (∀ j, j < 8 * n → (am_si t 232 (8 * n + i) (oI x)).1 232 j = s.1 232 j) ∧ fr (fun c => c = 232) s (am_si t 232 (8 * n + i) (oI x)) := by
      intro x hx
      refine ⟨fun p hp => ?_, fun j hj => ?_, fr_si h3 _ _ rfl⟩
      · rw [r_si]
        by_cases e : p = i
        · rw [e, r_us, if_pos (by omega), hx]
        · rw [r_uo _ _ (by omega), h1 p hp]
          by_cases c : p < i
          · rw [if_pos c, if_pos (by omega)]
          · rw [if_neg c, if_neg (by omega)]
      · rw [r_si, r_uo _ _ (by omega)]
        exact h2 j hj
    cases hb : w.1.testBit i with
    | false =>
      refine ⟨am_si t 232 (8 * n + i) (oI none), key none (by unfold w_vt; rw [hb]; rfl), fun J => ?_⟩
      rw [fX9_runs_L204]
      simp (disch := omega) only [am_lq, b_lq, oI_q, e5, am_rq, b_le, b_lt, b_t, b_mul, b_add, am_g_t, e42, c_isBit, hb, b_tf, if_neg, if_false, if_true]
    | true =>
      cases hs : C.2.2.2.2.2.1 n i with
      | some x =>
        rw [hs] at hs0 hs1
        have k := hs0.mp rfl
        have k29 := hs1 x rfl
        refine ⟨am_si t 232 (8 * n + i) (oI x), key x (by unfold w_vt; rw [hb, hs]; rfl), fun J => ?_⟩
        rw [fX9_runs_L204]
        simp (disch := omega) only [am_lq, b_lq, oI_q, e5, am_rq, b_le, b_lt, b_t, b_eq, b_mul, b_add, am_g_t, e42, c_isBit, hb, b_tt, if_neg, if_false, if_true, ← k.1, ← k.2, k29]
      | none =>
        rw [hs] at hs0
        refine ⟨am_si t 232 (8 * n + i) (oI (y_N D z pl (D.2.2.1 i 1))), key _ (by unfold w_vt; rw [hb, hs, hnx]; rfl), fun J => ?_⟩
        rw [fX9_runs_L204]
        simp (disch := omega) only [am_lq, b_lq, oI_q, e5, am_rq, b_le, b_lt, b_t, b_eq, b_mul, b_add, am_g_t, e42, c_isBit, hb, b_tt, if_neg, if_false, e6, en]
        by_cases c1 : nI n = t.1 215 27
        · by_cases c2 : nI i = t.1 215 28
          · have := hs0.mpr ⟨c1, c2⟩
            cases this
          · rw [if_pos c1, if_neg c2]
        · rw [if_neg c1]) (fun f t h J => by
    have hP' := r_PL_fr hP h.2.2 (fun c _ _ => by omega)
    have e5 := r_people hP'
    rw [fX9_runs_L204]
    simp (disch := omega) only [b_lq, e5, am_rq, b_le, if_pos, if_true]) s ⟨fun p hp => by rw [if_neg (by omega)]; exact hv p hp, fun _ _ => rfl, fr_refl _ _⟩ am_fu (am_fu_gt (by omega))
  refine ⟨t, ⟨fun p hp => ?_, h2, h3⟩, h4⟩
  rw [h1 p hp]
  by_cases c : p < D.1 5
  · rw [if_pos c]
  · rw [if_neg c, vn p (by omega)]
/-- a step behind its end -/
theorem r_go0 {n : Nat} (hn : n < 61) (hat : w_at D C n = none) (t : AS) (hI : r_GI D C tr sh n t) : ∃ t', r_GI D C tr sh (n + 1) t' ∧ fr r_RG t t' ∧ r_fx t t' ∧ ∀ f, fX9_runs_L64 (f + 1) t (oI none) (nI n) = fX9_runs_L64 f t' (oI (w_at D C (n + 1))) (nI (n + 1)) := by
  obtain ⟨i1, i2, i3, i4, i5, i6, i7, z, z1, z2, z3, z4, z5⟩ := hI
  have hat1 : w_at D C (n + 1) = none := (w_at_n hat (n + 1) (by omega)).1
  obtain ⟨j, hj1, hj2⟩ := w_on_x hat
  have hon : w_on D C (n + 1) = w_on D C n := by rw [w_on_s, hj1]
  obtain ⟨t2, ⟨a1, a2, a3⟩, a4⟩ := r_v105 hn (am_si (am_si (am_si t 229 n (oI none)) 230 n (nI 0)) 231 n (oI none))
  have f1 : fr r_RG t (am_si (am_si (am_si t 229 n (oI none)) 230 n (nI 0)) 231 n (oI none)) := fr_si (fr_si (fr_si (fr_refl _ _) _ _ (by omega)) _ _ (by omega)) _ _ (by omega)
  have f2 := fr_tr f1 (fr_mono a3 (fun c (hc : c = 232) => (by omega : r_RG c)))
  have e215 : t2.1 215 = t.1 215 := by rw [a3.2 _ (by omega)]; simp (disch := omega) only [r_so]
  have er : ∀ c, c < 229 ∨ 232 < c → t2.1 c = t.1 c := fun c hc => by rw [a3.2 _ (by omega)]; simp (disch := omega) only [r_so]
  have e229 : t2.1 229 = upd (t.1 229) n (oI none) := by rw [a3.2 _ (by omega)]; simp (disch := omega) only [r_so, r_si]
  have e230 : t2.1 230 = upd (t.1 230) n (nI 0) := by rw [a3.2 _ (by omega)]; simp (disch := omega) only [r_so, r_si]
  have e231 : t2.1 231 = upd (t.1 231) n (oI none) := by rw [a3.2 _ (by omega)]; simp (disch := omega) only [r_so, r_si]
  have e232 : ∀ j, j < 8 * n → t2.1 232 j = t.1 232 j := fun j hj => by rw [a2 j hj]; simp (disch := omega) only [r_so]
  refine ⟨t2, ⟨?_, fun k hk => ?_, fun k hk => ?_, fun k hk => ?_, fun k p hk hp => ?_, ?_, ?_, z, z1, ?_, ?_, fun h => absurd hat1 h, z5⟩, f2, fun k _ _ => by rw [e215], fun f => ?_⟩
  · rw [w_W_n hat]
    exact r_WS_fr i1 (fun k _ _ => by rw [e215]) (er _ (by omega)) (er _ (by omega)) (er _ (by omega))
  · rw [e229]
    by_cases e : k = n
    · rw [e, r_us, hat]
    · rw [r_uo _ _ e]; exact i2 k (by omega)
  · rw [e230]
    by_cases e : k = n
    · rw [e, r_us]; unfold w_cr; rw [hat]
    · rw [r_uo _ _ e]; exact i3 k (by omega)
  · rw [e231]
    by_cases e : k = n
    · rw [e, r_us]; unfold w_go; rw [hat1]
    · rw [r_uo _ _ e]; exact i4 k (by omega)
  · by_cases e : k = n
    · rw [e, a1 p hp]; unfold w_vo; rw [hat]
    · rw [e232 _ (by omega)]; exact i5 k p (by omega) hp
  · rw [e215, hon]; exact i6
  · rw [e215]
    unfold w_wn at i7 ⊢
    rw [hon]
    exact i7
  · rw [e215]; exact z2
  · intro x y hx hy
    rw [er _ (by omega)]
    exact z3 x y hx hy
  · have c45 : t.1 215 45 = nI j := by rw [i6, hj1]; rfl
    have c45' : t2.1 215 45 = nI j := by rw [e215, c45]
    have b1 : (nI j = oI none) = False := b_nn (by omega)
    rw [fX9_runs_L64]
    have h60 : (60 < n) = False := eq_false (by omega)
    simp (maxSteps := 2000000) (disch := omega) only [↓am_lq, ↓reduceIte, b_lq, oI_q, b_le, b_lt, b_t, am_g_t, c45, b1, h60, a4, c45', b_add, hat1]
end RR
