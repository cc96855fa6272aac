/-! THE CLASS'S WALK, WHOLE. -/
def w_on (D : w_D) (C : w_C) (m : Nat) : Option Nat := y_fd (fun n => (w_at D C n).isSome && (w_at D C (n + 1)).isNone) m
def w_wn (D : w_D) (C : w_C) (m : Nat) : Option Nat := (w_on D C m).map fun n => if (w_W D C (n + 1)).2.1 = 0 then 0 else 1
def w_se (D : w_D) (C : w_C) : Nat → Nat
  | 0 => 0
  | n + 1 => match w_at D C n with
    | none => w_se D C n
    | some q => w_ins (w_se D C n) q
theorem w_se_s (D : w_D) (C : w_C) (n : Nat) : w_se D C (n + 1) = match w_at D C n with
    | none => w_se D C n
    | some q => w_ins (w_se D C n) q := rfl
theorem w_se_lt {D : w_D} {C : w_C} (hD : w_V D) (hC : w_CK D C) : ∀ n, w_se D C n < 2 ^ 7
  | 0 => (by decide : 0 < 2 ^ 7)
  | n + 1 => by
    rw [w_se_s]
    have ih := w_se_lt hD hC n
    cases h : w_at D C n with
    | none => exact ih
    | some q =>
      have := w_at_lt hC h
      have := hD.1
      exact w_ins_lt ih (by omega)
theorem w_se_t (D : w_D) (C : w_C) (q : Nat) : ∀ n, (w_se D C n).testBit q = true ↔ ∃ k, k < n ∧ w_at D C k = some q
  | 0 => ⟨fun h => (by simp [w_se] at h), fun ⟨k, h, _⟩ => (by omega)⟩
  | n + 1 => by
    rw [w_se_s]
    have ih := w_se_t D C q n
    cases h : w_at D C n with
    | none =>
      dsimp only
      rw [ih]
      refine ⟨fun ⟨k, h1, h2⟩ => ⟨k, by omega, h2⟩, fun ⟨k, h1, h2⟩ => ?_⟩
      by_cases e : k = n
      · rw [e, h] at h2; cases h2
      · exact ⟨k, by omega, h2⟩
    | some x =>
      dsimp only
      rw [w_ins_t, Bool.or_eq_true, ih, decide_eq_true_iff]
      constructor
      · rintro (⟨k, h1, h2⟩ | h1)
        · exact ⟨k, by omega, h2⟩
        · exact ⟨n, by omega, by rw [h, h1]⟩
      · rintro ⟨k, h1, h2⟩
        by_cases e : k = n
        · rw [e, h] at h2; cases h2; exact .inr rfl
        · exact .inl ⟨k, by omega, h2⟩
theorem w_on_n {D : w_D} {C : w_C} {n pl : Nat} (h : w_at D C n = some pl) : w_on D C n = none := by
  unfold w_on
  apply y_fd_n.mpr
  intro i hi
  cases h2 : w_at D C (i + 1) with
  | some x => simp
  | none =>
    have := (w_at_n h2 n (by omega)).1
    rw [h] at this
    cases this
theorem w_on_s (D : w_D) (C : w_C) (n : Nat) : w_on D C (n + 1) = match w_on D C n with
    | some i => some i
    | none => if (w_at D C n).isSome && (w_at D C (n + 1)).isNone then some n else none := rfl
theorem w_fl_no {D : w_D} {C : w_C} {n pl : Nat} {w : w_S} (h5 : D.1 5 ≤ 8) (h : w_ok D w) : w_ok D (if C.2.2.2.2.1 n then w else w_fl D C n pl 9 w) := by
  split
  · exact h
  · exact w_fl_ok h5 9 h
def c_wv (r : Nat → Int32) (n : Nat) : Nat := if nI n < r 9 then (r 7).toNatClampNeg else (r 8).toNatClampNeg
def c_rn (j : Nat → Int64) (n : Nat) : Bool := decide (lg_cmp (((j 6) >>> ((nI n).toInt64 &&& 63)) &&& 1) 1 = 0)
/-- the case at oc is C, but for goal, last and ways -/
def c_CS (oc : Nat) (C : w_C) (s : AS) : Prop := s.1 oc 1 = nI C.2.1 ∧ c_C1 oc C s ∧ c_SH (s.1 oc) C ∧ ∀ n, n < 61 → c_rn (s.2 oc) n = C.2.2.2.2.1 n
theorem c_CS_fr {oc : Nat} {C : w_C} {s t : AS} (h : c_CS oc C s) (h1 : t.1 oc = s.1 oc) (h2 : t.2 = s.2) : c_CS oc C t := by
  unfold c_CS c_C1 at h ⊢
  rw [h1, h2]
  exact h
def c_WA (oc o : Nat) (D : w_D) (C : w_C) (s : AS) : Prop := ∀ n, n < 61 → ¬ c_wv (s.1 oc) n = 0 ∧ (c_wv (s.1 oc) n + 25 ≤ o ∨ o + 9 ≤ c_wv (s.1 oc) n) ∧ c_NX (c_wv (s.1 oc) n) D (C.2.2.2.2.2.2 n) s
abbrev c_RG (o : Nat) : Nat → Prop := fun c => o ≤ c ∧ c < o + 9
theorem c_WA_fr {oc o : Nat} {D : w_D} {C : w_C} {s t : AS} (hD : w_V D) (h : c_WA oc o D C s) (h1 : t.1 oc = s.1 oc) (h2 : fr (c_RG o) s t) : c_WA oc o D C t := by
  have d0 := hD.1
  intro n hn
  obtain ⟨a1, a2, a3, a4⟩ := h n hn
  rw [h1]
  refine ⟨a1, a2, ?_, fun a b ha hb => ?_⟩
  · rw [h2.2 _ (by omega)]; exact a3
  · rw [h2.2 _ (by omega)]; exact a4 a b ha hb
/-- how far the walk is told: all ahead of n -/
def c_GI (o : Nat) (D : w_D) (C : w_C) (n : Nat) (t : AS) : Prop := c_WS o (w_W D C n).2 t ∧ (∀ k, k < 61 → t.1 (o + 1) k = oI (if k < n then w_at D C k else none)) ∧ (∀ k, k < 61 → t.1 (o + 2) k = nI (if k < n then w_cr D C k else 0)) ∧ (∀ k, k < 61 → t.1 (o + 3) k = oI (if k < n then w_go D C k else none)) ∧ t.1 o 6 = oI (w_on D C n) ∧ t.1 o 7 = oI (w_wn D C n) ∧ t.1 o 8 = nI (w_se D C n)
section CG
variable {o op oc : Nat} {D : w_D} {C : w_C}
theorem c_waysAt (s : AS) (n : Nat) : fX1_waysAt s oc (nI n) = some (c_wv (s.1 oc) n) := by
  unfold fX1_waysAt c_wv
  simp only [am_lq]
  split <;> rfl
theorem c_rainsAt (s : AS) (n : Nat) : fX1_rainsAt s oc (nI n) = some (nI (c_rn (s.2 oc) n).toNat) := by
  unfold fX1_rainsAt c_rn
  simp (disch := omega) only [am_lq, b_lq, b_eq, or_true, true_or, am_gT]
  by_cases c : lg_cmp (((s.2 oc 6) >>> ((nI n).toInt64 &&& 63)) &&& 1) 1 = nI 0
  · rw [if_pos c, decide_eq_true c]; rfl
  · rw [if_neg c, decide_eq_false c]; rfl
theorem c_chosen (hD : w_V D) (ho : op + 22 ≤ o) (hC : w_CK D C) {vt : Nat → Option Nat} {w : w_S} (hok : w_ok D w) (hvl : ∀ p q, vt p = some q → q < D.1 0) (hvt : ∀ p q, vt p = some q → w.1.testBit p = true) (s : AS) (hP : c_PL op D s) (hV : ∀ p, p < D.1 5 → s.1 (o + 7) p = oI (vt p)) (hR : ∀ p, p < 8 → w.2.1.testBit p = true → s.1 (o + 6) p = nI (w.2.2.2.2.2 p)) : ∃ t, fX6_chosen s o op (nI C.2.1) = some (t, oI (w_tn D C w vt)) ∧ fr (fun c => c = o + 8) s t := by
  have h3 := hC.2.1
  unfold fX6_chosen w_tn
  rcases (by omega : C.2.1 = 0 ∨ C.2.1 = 1 ∨ C.2.1 = 2 ∨ C.2.1 = 3) with e | e | e | e
  · obtain ⟨t, k1, k2⟩ := c_heavy hD ho hvl false s hP hV
    refine ⟨t, ?_, k2⟩
    rw [b_tf] at k1
    simp (disch := omega) only [e, b_lq, if_true, k1, am_cq, if_pos]
    rfl
  · obtain ⟨t, k1, k2⟩ := c_heavy hD ho hvl true s hP hV
    refine ⟨t, ?_, k2⟩
    rw [b_tt] at k1
    simp (disch := omega) only [e, b_lq, b_eq, if_true, k1, am_cq, if_pos, if_neg]
    rfl
  · have k1 := c_byRank hD hok hvl hvt true s hP hV hR
    refine ⟨s, ?_, fr_refl _ _⟩
    rw [b_tt] at k1
    simp (disch := omega) only [e, b_lq, b_eq, if_true, k1, am_rq, if_pos, if_neg]
    rfl
  · have k1 := c_byRank hD hok hvl hvt false s hP hV hR
    refine ⟨s, ?_, fr_refl _ _⟩
    rw [b_tf] at k1
    simp (disch := omega) only [e, b_lq, b_eq, if_true, k1, am_rq, if_pos, if_neg]
    rfl
theorem c_go1 (hD : w_V D) (hC : w_CK D C) (ho : op + 22 ≤ o) (hoc : oc < o ∨ o + 9 ≤ oc) {n pl : Nat} (hn : n < 61) (hat : w_at D C n = some pl) (t : AS) (hP : c_PL op D t) (hS : c_CS oc C t) (hW : c_WA oc o D C t) (hI : c_GI o D C n t) (hsh : ∀ p, p < 8 → (C.2.2.2.2.2.1 n p).isSome = true → (w_W D C (n + 1)).2.1.testBit p = true) : ∃ t', c_GI o D C (n + 1) t' ∧ fr (c_RG o) t t' ∧ (¬ nI pl = t.1 oc 4 → ¬ (t.1 oc 5 < nI n) → ∀ J f, fX6_go_L12 o op oc J (f + 1) t (nI pl) (nI n) = fX6_go_L12 o op oc J f t' (oI (w_at D C (n + 1))) (nI (n + 1))) := by
  obtain ⟨d0, d4, d5, dr, dp, -⟩ := id hD
  obtain ⟨i1, i2, i3, i4, i5, i6, i7⟩ := hI
  have hpl := w_at_lt hC hat
  have hok := w_W_ok (C := C) d5 n
  have hse := w_se_lt hD hC n
  have hws := w_W_s hat
  have haf := w_af_ok (C := C) (n := n) (pl := pl) hok d5
  have hl8 := w_pow8 d5
  -- where it is, and what was seen
  have f1 : fr (c_RG o) t (am_si (am_si t (o + 1) n (nI pl)) o 8 (nI (w_ins (w_se D C n) pl))) := fr_si (fr_si (fr_refl _ _) _ _ (by omega)) _ _ (by omega)
  generalize ht1 : am_si (am_si t (o + 1) n (nI pl)) o 8 (nI (w_ins (w_se D C n) pl)) = t1 at f1
  have a0 : ∀ k, k ≠ 8 → t1.1 o k = t.1 o k := fun k hk => by rw [← ht1]; simp (disch := omega) only [r_si, r_so, r_uo]
  have a1 : t1.1 (o + 1) = upd (t.1 (o + 1)) n (nI pl) := by rw [← ht1]; simp (disch := omega) only [r_si, r_so]
  have a8 : t1.1 o 8 = nI (w_ins (w_se D C n) pl) := by rw [← ht1]; simp (disch := omega) only [r_si, r_us]
  have ar : ∀ c, c ≠ o → c ≠ o + 1 → t1.1 c = t.1 c := fun c h1 h2 => by rw [← ht1]; simp (disch := omega) only [r_so]
  have w1 : c_WS o (w_W D C n).2 t1 := c_WS_fr i1 (fun k _ _ => a0 k (by omega)) (ar _ (by omega) (by omega)) (ar _ (by omega) (by omega)) (ar _ (by omega) (by omega))
  have S1 := c_CS_fr hS (ar oc (by omega) (by omega)) f1.1
  -- who falls in
  have q2 : ∃ t2, (if C.2.2.2.2.1 n then t1 = t2 else fX6_fallIn t1 o op oc (nI n) (nI pl) = some (t2, ())) ∧ c_WS o (if C.2.2.2.2.1 n then (w_W D C n).2 else w_fl D C n pl 9 (w_W D C n).2) t2 ∧ fr (c_R1 o) t1 t2 ∧ ∀ k, k < 9 → t2.1 o k = t1.1 o k := by
    cases hr : C.2.2.2.2.1 n with
    | true => exact ⟨t1, rfl, w1, fr_refl _ _, fun _ _ => rfl⟩
    | false =>
      obtain ⟨t2, k1, k2, k3, k4⟩ := c_fallIn (n := n) (pl := pl) hD ho hoc hn (by omega) hC.2.2.1 hok (c_PL_fr hP f1 (fun c _ _ => by omega) d4 d5) S1.2.1 w1
      exact ⟨t2, k1, k2, k3, k4⟩
  obtain ⟨t2, k1, w2, f2, b0⟩ := q2
  have f2' := fr_tr f1 (fr_mono f2 (fun c (hc : c = o ∨ c = o + 4 ∨ c = o + 6) => (by omega : c_RG o c)))
  -- who leaves
  obtain ⟨t3, l1, w3, f3, c0⟩ := c_leaveAt (n := n) (pl := pl) hD ho hn (by omega) (w_fl_no (n := n) (pl := pl) (C := C) d5 hok) (c_PL_fr hP f2' (fun c _ _ => by omega) d4 d5) w2
  have f3' := fr_tr f2' (fr_mono f3 (fun c (hc : c = o ∨ c = o + 5) => (by omega : c_RG o c)))
  have w3 : c_WS o (w_af D C n pl (w_W D C n).2) t3 := w3
  -- the crowd
  have f4 : fr (c_RG o) t (am_si t3 (o + 2) n (nI (w_af D C n pl (w_W D C n).2).1)) := fr_si f3' _ _ (by omega)
  generalize ht4 : am_si t3 (o + 2) n (nI (w_af D C n pl (w_W D C n).2).1) = t4 at f4
  have d1 : t4.1 (o + 2) = upd (t3.1 (o + 2)) n (nI (w_af D C n pl (w_W D C n).2).1) := by rw [← ht4]; simp (disch := omega) only [r_si]
  have dr4 : ∀ c, c ≠ o + 2 → t4.1 c = t3.1 c := fun c h1 => by rw [← ht4]; simp (disch := omega) only [r_so]
  have w4 : c_WS o (w_af D C n pl (w_W D C n).2) t4 := c_WS_fr w3 (fun k _ _ => by rw [dr4 o (by omega)]) (dr4 _ (by omega)) (dr4 _ (by omega)) (dr4 _ (by omega))
  have S4 := c_CS_fr hS (f4.2 oc (by omega)) f4.1
  have W4 := c_WA_fr hD hW (f4.2 oc (by omega)) f4
  obtain ⟨v1, v2, v3⟩ := W4 n hn
  -- the votes
  obtain ⟨t5, g1, g2, g3⟩ := c_gather (C := C) (n := n) (pl := pl) (w := w_af D C n pl (w_W D C n).2) hD ho hoc hn hpl t4 w4.1 (by have := haf.1; omega) (c_PL_fr hP f4 (fun c _ _ => by omega) d4 d5) S4.2.2.1 (c_waysAt t4 n) v1 v2 v3 (fun p hp h => by have := hsh p hp h; rw [hws] at this; exact this)
  have f5 := fr_tr f4 (fr_mono g3 (fun c (hc : c = o + 7) => (by omega : c_RG o c)))
  have w5 : c_WS o (w_af D C n pl (w_W D C n).2) t5 := c_WS_fr w4 (fun k _ _ => by rw [g3.2 o (by omega)]) (g3.2 _ (by omega)) (g3.2 _ (by omega)) (g3.2 _ (by omega))
  -- where it turns
  obtain ⟨t6, p1, p2⟩ := c_chosen (C := C) (w := w_af D C n pl (w_W D C n).2) (vt := w_vt D C n pl (w_af D C n pl (w_W D C n).2)) hD ho hC haf (fun p q h => w_vt_lt hC h) (fun p q h => by unfold w_vt at h; split at h; assumption; cases h) t5 (c_PL_fr hP f5 (fun c _ _ => by omega) d4 d5) g2 w5.2.2.2.2.2
  have f6 := fr_tr f5 (fr_mono p2 (fun c (hc : c = o + 8) => (by omega : c_RG o c)))
  have w6 : c_WS o (w_af D C n pl (w_W D C n).2) t6 := c_WS_fr w5 (fun k _ _ => by rw [p2.2 o (by omega)]) (p2.2 _ (by omega)) (p2.2 _ (by omega)) (p2.2 _ (by omega))
  have hgo : w_tn D C (w_af D C n pl (w_W D C n).2) (w_vt D C n pl (w_af D C n pl (w_W D C n).2)) = w_at D C (n + 1) := by
    show _ = (w_W D C (n + 1)).1
    rw [hws]
  rw [hgo] at p1
  have f7 : fr (c_RG o) t (am_si t6 (o + 3) n (oI (w_at D C (n + 1)))) := fr_si f6 _ _ (by omega)
  have w7 : c_WS o (w_W D C (n + 1)).2 (am_si t6 (o + 3) n (oI (w_at D C (n + 1)))) := by
    rw [hws]
    refine c_WS_fr w6 (fun k _ _ => ?_) ?_ ?_ ?_ <;> simp (disch := omega) only [r_so]
  have e0 : ∀ k, k < 9 → t6.1 o k = t1.1 o k := fun k hk => by rw [p2.2 o (by omega), g3.2 o (by omega), dr4 o (by omega), c0 k hk, b0 k hk]
  have e1 : t6.1 (o + 1) = upd (t.1 (o + 1)) n (nI pl) := by rw [p2.2 _ (by omega), g3.2 _ (by omega), dr4 _ (by omega), f3.2 _ (by omega), f2.2 _ (by omega), a1]
  have e2 : t6.1 (o + 2) = upd (t.1 (o + 2)) n (nI (w_af D C n pl (w_W D C n).2).1) := by rw [p2.2 _ (by omega), g3.2 _ (by omega), d1, f3.2 _ (by omega), f2.2 _ (by omega), ar _ (by omega) (by omega)]
  have e3 : t6.1 (o + 3) = t.1 (o + 3) := by rw [p2.2 _ (by omega), g3.2 _ (by omega), dr4 _ (by omega), f3.2 _ (by omega), f2.2 _ (by omega), ar _ (by omega) (by omega)]
  have r1 : ∀ k, k < 61 → t6.1 (o + 1) k = oI (if k < n + 1 then w_at D C k else none) := fun k hk => by
    rw [e1]
    by_cases e : k = n
    · rw [e, r_us, if_pos (by omega), hat]; rfl
    · rw [r_uo _ _ e, i2 k hk]
      by_cases c : k < n
      · rw [if_pos c, if_pos (by omega)]
      · rw [if_neg c, if_neg (by omega)]
  have r2 : ∀ k, k < 61 → t6.1 (o + 2) k = nI (if k < n + 1 then w_cr D C k else 0) := fun k hk => by
    rw [e2]
    by_cases e : k = n
    · rw [e, r_us, if_pos (by omega)]
      unfold w_cr
      rw [hat, hws]
    · rw [r_uo _ _ e, i3 k hk]
      by_cases c : k < n
      · rw [if_pos c, if_pos (by omega)]
      · rw [if_neg c, if_neg (by omega)]
  have r3 : ∀ k, k < 61 → upd (t6.1 (o + 3)) n (oI (w_at D C (n + 1))) k = oI (if k < n + 1 then w_go D C k else none) := fun k hk => by
    rw [e3]
    by_cases e : k = n
    · rw [e, r_us, if_pos (by omega)]; rfl
    · rw [r_uo _ _ e, i4 k hk]
      by_cases c : k < n
      · rw [if_pos c, if_pos (by omega)]
      · rw [if_neg c, if_neg (by omega)]
  have s8 : w_se D C (n + 1) = w_ins (w_se D C n) pl := by rw [w_se_s, hat]
  have hon := w_on_n hat
  -- the run up to the turn
  have run : ¬ nI pl = t.1 oc 4 → ¬ (t.1 oc 5 < nI n) → ∀ J f, fX6_go_L12 o op oc J (f + 1) t (nI pl) (nI n) = (am_let (fun (s24 : AS) => fX6_go_L12 o op oc J f s24 (s24.1 (o + 3) n) (nI (n + 1))) (fun J157 => if oI (w_at D C (n + 1)) = oI none then (am_let (fun (x29 : Int32) => J157 (am_si (am_si (am_si t6 (o + 3) n (oI (w_at D C (n + 1)))) o 6 (nI n)) o 7 x29)) (fun J154 => if nI (w_af D C n pl (w_W D C n).2).1 = nI 0 then (J154 (nI 0)) else (J154 (nI 1)))) else J157 (am_si t6 (o + 3) n (oI (w_at D C (n + 1)))))) := by
    intro hg hlast J f
    have hg4 : t1.1 oc 4 = t.1 oc 4 := by rw [ar oc (by omega) (by omega)]
    have b1 : (nI pl = oI none) = False := b_nn (by omega)
    have hl := S1.2.2.2 n hn
    have hru : fX1_rainsAt t1 oc (nI n) = some (nI (C.2.2.2.2.1 n).toNat) := by rw [c_rainsAt, hl]
    have e8 : t.1 o 8 = nI (w_se D C n) := i7
    have g10 : t3.1 o 10 = nI (w_af D C n pl (w_W D C n).2).1 := w3.1
    have p10 : t6.1 o 10 = nI (w_af D C n pl (w_W D C n).2).1 := w6.1
    have r5 : t5.1 oc 1 = nI C.2.1 := by rw [f5.2 oc (by omega)]; exact hS.1
    rw [fX6_go_L12]
    cases hr : C.2.2.2.2.1 n with
    | true =>
      rw [hr] at k1 hru
      have k1 : t1 = t2 := k1
      subst k1
      simp (disch := omega) only [am_lq, b_lq, oI_q, b_le, b_t, b_lt, am_g_t, b1, if_neg, if_false, hlast, b_sh, e8, b_ins, r_so, ht1, hg4, hg, hru, am_rq, b_tt, b_eq, l1, am_cq, g10, ht4, g1, r5, p1, r_si, r_us, r_uo, b_add, p10]
    | false =>
      rw [hr] at k1 hru
      have k1 : fX6_fallIn t1 o op oc (nI n) (nI pl) = some (t2, ()) := k1
      simp (disch := omega) only [am_lq, b_lq, oI_q, b_le, b_t, b_lt, am_g_t, b1, if_neg, if_pos, if_true, if_false, hlast, b_sh, e8, b_ins, r_so, ht1, hg4, hg, hru, am_rq, b_tf, b_eq, k1, l1, am_cq, g10, ht4, g1, r5, p1, r_si, r_us, r_uo, b_add, p10]
  cases hnx : w_at D C (n + 1) with
  | some q =>
    rw [hnx] at run w7 r3 f7
    refine ⟨am_si t6 (o + 3) n (oI (some q)), ⟨w7, fun k hk => ?_, fun k hk => ?_, fun k hk => ?_, ?_, ?_, ?_⟩, f7, fun hg hl J f => ?_⟩
    · rw [r_so _ _ _ (by omega)]; exact r1 k hk
    · rw [r_so _ _ _ (by omega)]; exact r2 k hk
    · rw [r_si]; exact r3 k hk
    · rw [r_so _ _ _ (by omega), e0 _ (by omega), a0 _ (by omega), i5, w_on_s, hon, hnx]
      simp
    · have : w_on D C (n + 1) = none := by rw [w_on_s, hon, hnx]; simp
      rw [r_so _ _ _ (by omega), e0 _ (by omega), a0 _ (by omega), i6]
      unfold w_wn
      rw [hon, this]
    · rw [r_so _ _ _ (by omega), e0 _ (by omega), a8, s8]
    · rw [run hg hl J f]
      have hq := w_at_lt hC hnx
      have b1 : (nI q = oI none) = False := b_nn (by omega)
      simp (disch := omega) only [am_lq, oI_t, b1, if_false, r_si, r_us]
  | none =>
    rw [hnx] at run w7 r3 f7
    have hon1 : w_on D C (n + 1) = some n := by rw [w_on_s, hon, hnx, hat]; rfl
    have key : ∀ x, c_GI o D C (n + 1) (am_si (am_si (am_si t6 (o + 3) n (oI none)) o 6 (nI n)) o 7 (nI x)) ∨ ¬ x = (if (w_W D C (n + 1)).2.1 = 0 then 0 else 1) := by
      intro x
      by_cases hx : x = (if (w_W D C (n + 1)).2.1 = 0 then 0 else 1)
      · left
        refine ⟨c_WS_fr w7 (fun k _ _ => ?_) ?_ ?_ ?_, fun k hk => ?_, fun k hk => ?_, fun k hk => ?_, ?_, ?_, ?_⟩
        · simp (disch := omega) only [r_si, r_uo]
        · simp (disch := omega) only [r_so]
        · simp (disch := omega) only [r_so]
        · simp (disch := omega) only [r_so]
        · simp (disch := omega) only [r_so]; exact r1 k hk
        · simp (disch := omega) only [r_so]; exact r2 k hk
        · simp (disch := omega) only [r_so, r_si]; exact r3 k hk
        · simp (disch := omega) only [r_so, r_si, r_us, r_uo, hon1, oI_t]
        · unfold w_wn
          rw [hon1]
          simp (disch := omega) only [r_so, r_si, r_us, r_uo, Option.map_some, oI_t, hx]
        · simp (disch := omega) only [r_so, r_si, r_us, r_uo]
          rw [e0 _ (by omega), a8, s8]
      · exact .inr hx
    have fx : ∀ x, fr (c_RG o) t (am_si (am_si (am_si t6 (o + 3) n (oI none)) o 6 (nI n)) o 7 (nI x)) := fun x => fr_si (fr_si f7 _ _ (by omega)) _ _ (by omega)
    refine ⟨am_si (am_si (am_si t6 (o + 3) n (oI none)) o 6 (nI n)) o 7 (nI (if (w_W D C (n + 1)).2.1 = 0 then 0 else 1)), ?_, fx _, fun hg hl J f => ?_⟩
    · rcases key (if (w_W D C (n + 1)).2.1 = 0 then 0 else 1) with k | k
      · exact k
      · exact absurd rfl k
    · rw [run hg hl J f]
      have hin : (w_W D C (n + 1)).2.1 = (w_af D C n pl (w_W D C n).2).1 := by rw [hws]
      have hlt := haf.1
      rw [hin]
      simp (disch := omega) only [am_lq, if_true, b_eq, r_so, r_si, r_us]
      by_cases c : (w_af D C n pl (w_W D C n).2).1 = 0
      · rw [if_pos c, if_pos c]
      · rw [if_neg c, if_neg c]
end CG
