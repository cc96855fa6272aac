/-! THE CLASS'S VOTES. -/
theorem w_sm_le {D : w_D} (hD : w_V D) {vt : Nat → Option Nat} {q : Nat} {byB : Bool} : ∀ p, p ≤ D.1 5 → w_sm D vt q byB p ≤ 99 * p
  | 0, _ => Nat.le_refl _
  | p + 1, hp => by
    have ih := w_sm_le hD (vt := vt) (q := q) (byB := byB) p (by omega)
    have := hD.2.2.2.2.1 p (by omega)
    show w_sm D vt q byB p + _ ≤ _
    split
    · split <;> omega
    · omega
theorem w_sm_0 {D : w_D} {vt : Nat → Option Nat} {q : Nat} {byB : Bool} (h : ∀ p, vt p ≠ some q) : ∀ p, w_sm D vt q byB p = 0
  | 0 => rfl
  | p + 1 => by
    show w_sm D vt q byB p + _ = _
    rw [w_sm_0 h p, if_neg (h p)]
theorem w_sm_s (D : w_D) (vt : Nat → Option Nat) (q : Nat) (byB : Bool) (p : Nat) : w_sm D vt q byB (p + 1) = w_sm D vt q byB p + (if vt p = some q then (if byB then D.2.2.1 p 4 else 1) else 0) := rfl
theorem w_bp_s (D : w_D) (vt : Nat → Option Nat) (byB : Bool) (q : Nat) : w_bp D vt byB (q + 1) = if (w_bp D vt byB q).2 < w_sm D vt q byB (D.1 5) then (some q, w_sm D vt q byB (D.1 5)) else w_bp D vt byB q := rfl
theorem w_bp_7 {D : w_D} {vt : Nat → Option Nat} {byB : Bool} (h : ∀ p q, vt p = some q → q < D.1 0) : ∀ j, w_bp D vt byB (D.1 0 + j) = w_bp D vt byB (D.1 0)
  | 0 => rfl
  | j + 1 => by
    rw [show D.1 0 + (j + 1) = (D.1 0 + j) + 1 by omega, w_bp_s, w_bp_7 h j, if_neg]
    rw [w_sm_0 (fun p e => by have := h p _ e; omega)]
    omega
theorem w_bp_le {D : w_D} (hD : w_V D) {vt : Nat → Option Nat} {byB : Bool} : ∀ q, (w_bp D vt byB q).2 ≤ 800
  | 0 => Nat.zero_le _
  | q + 1 => by
    rw [w_bp_s]
    have := w_sm_le hD (vt := vt) (q := q) (byB := byB) (D.1 5) (Nat.le_refl _)
    have := hD.2.2.1
    split
    · dsimp only; omega
    · exact w_bp_le hD q
theorem w_wh_s (vt : Nat → Option Nat) (od : Nat → Nat) (first : Bool) (p : Nat) : w_wh vt od first (p + 1) = match vt p with
    | none => w_wh vt od first p
    | some _ => match w_wh vt od first p with
      | none => some p
      | some k => if (if first then od p < od k else od k < od p) then some p else some k := rfl
theorem w_wh_lt {vt : Nat → Option Nat} {od : Nat → Nat} {first : Bool} : ∀ {p k : Nat}, w_wh vt od first p = some k → k < p ∧ ∃ q, vt k = some q
  | 0, k, h => by cases h
  | p + 1, k, h => by
    rw [w_wh_s] at h
    cases hv : vt p with
    | none =>
      rw [hv] at h
      have := w_wh_lt h
      exact ⟨by omega, this.2⟩
    | some x =>
      rw [hv] at h
      cases hw : w_wh vt od first p with
      | none =>
        rw [hw] at h
        cases h
        exact ⟨by omega, x, hv⟩
      | some j =>
        rw [hw] at h
        dsimp only at h
        have := w_wh_lt hw
        by_cases c : (if first = true then od p < od j else od j < od p)
        · rw [if_pos c] at h
          cases h
          exact ⟨by omega, x, hv⟩
        · rw [if_neg c] at h
          cases h
          exact ⟨by omega, this.2⟩
theorem b_n0 : (oI none < nI 0) = True := b_nlt (by omega)
def c_SH (r : Nat → Int32) (C : w_C) : Prop := ∀ n p, n < 61 → p < 8 → ((C.2.2.2.2.2.1 n p).isSome = true ↔ (nI p = r 10 ∧ nI n = r 11)) ∧ ∀ x, C.2.2.2.2.2.1 n p = some x → r 12 = oI x
def c_NX (v : Nat) (D : w_D) (f : Nat → Nat → Option Nat) (s : AS) : Prop := s.1 v 0 = nI (D.1 0) ∧ ∀ a b, a < D.1 0 → b < D.1 0 → s.1 (v + 17 + 1 + a) b = oI (f a b)
section CV
variable {o op oc : Nat} {D : w_D} {C : w_C}
theorem c_nextO (s : AS) {v np a b : Nat} {x : Int32} (h0 : s.1 v 0 = nI np) (hnp : np ≤ 7) (ha : a < np) (hb : b < np) (hx : s.1 (v + 17 + 1 + a) b = x) : fX7_nextOf s v (nI a) (nI b) = some x := by
  unfold fX7_nextOf
  rw [c_has s h0 hnp ha hb]
  simp (disch := omega) only [am_lq, am_rq, b_lq, b_lt, b_eq, b_t, am_g_t, if_neg, if_false, hx]
theorem c_isSham (s : AS) (hS : c_SH (s.1 oc) C) {n p : Nat} (hn : n < 61) (hp : p < 8) : fX1_isSham s oc (nI p) (nI n) = some (nI (C.2.2.2.2.2.1 n p).isSome.toNat) := by
  have h := (hS n p hn hp).1
  unfold fX1_isSham
  simp (disch := omega) only [am_lq, b_lq, b_eq, or_true, true_or, am_gT]
  cases hb : (C.2.2.2.2.2.1 n p).isSome with
  | true =>
    have k := h.mp hb
    rw [if_pos k.1, if_pos k.2]
    rfl
  | false =>
    by_cases c1 : nI p = s.1 oc 10
    · by_cases c2 : nI n = s.1 oc 11
      · have := h.mpr ⟨c1, c2⟩
        rw [hb] at this
        cases this
      · rw [if_pos c1, if_neg c2]
        rfl
    · rw [if_neg c1]
      rfl
theorem c_gather (hD : w_V D) (ho : op + 22 ≤ o) (hoc : oc < o ∨ o + 9 ≤ oc) {n pl v : Nat} (hn : n < 61) (hpl : pl < D.1 0) {w : w_S} (s : AS) (hw : s.1 o 10 = nI w.1) (hlt : w.1 < 1024) (hP : c_PL op D s) (hS : c_SH (s.1 oc) C) (hv : fX1_waysAt s oc (nI n) = some v) (hv0 : ¬ v = 0) (hvo : v + 25 ≤ o ∨ o + 9 ≤ v) (hN : c_NX v D (C.2.2.2.2.2.2 n) s) (hin : ∀ p, p < 8 → (C.2.2.2.2.2.1 n p).isSome = true → w.1.testBit p = true) : ∃ t, fX6_gatherVotes s o op oc (nI n) (nI pl) = some (t, ()) ∧ (∀ p, p < D.1 5 → t.1 (o + 7) p = oI (w_vt D C n pl w p)) ∧ fr (fun c => c = o + 7) s t := by
  obtain ⟨d0, d4, d5, dr, dp, -⟩ := id hD
  obtain ⟨t, ⟨h1, h2⟩, h3⟩ := sp_lp (fun f t i => fX6_gatherVotes_L10 o op oc (nI n) (nI pl) v f t i) (D.1 5) (fun i t => (∀ p, p < i → t.1 (o + 7) p = oI (w_vt D C n pl w p)) ∧ fr (fun c => c = o + 7) s t) (fun t => some (t, ())) (fun f i t hi h => by
    have hP' := c_PL_fr hP h.2 (fun c _ _ => by omega) d4 d5
    have e5 : t.1 op 6 = nI (D.1 5) := hP'.1 5 (by omega)
    have e6 : (am_si t (o + 7) i (oI none)).1 (op + 12 + 1 + i) 1 = nI (D.2.2.1 i 1) := by rw [r_so _ _ _ (by omega)]; exact hP'.2.2.1 i 1 hi (by omega)
    have q0 := dp i hi
    have eS : c_SH ((am_si t (o + 7) i (oI none)).1 oc) C := by rw [r_so _ _ _ (by omega), h.2.2 _ (by omega)]; exact hS
    have es := c_isSham _ eS hn (show i < 8 by omega)
    have eo : (am_si t (o + 7) i (oI none)).1 o 10 = nI w.1 := by rw [r_so _ _ _ (by omega), h.2.2 _ (by omega), hw]
    have en := c_nextO (am_si t (o + 7) i (oI none)) (v := v) (np := D.1 0) (a := pl) (b := D.2.2.1 i 1) (x := oI (C.2.2.2.2.2.2 n pl (D.2.2.1 i 1))) (by rw [r_so _ _ _ (by omega), h.2.2 _ (by omega)]; exact hN.1) d0 hpl q0.2.1 (by rw [r_so _ _ _ (by omega), h.2.2 _ (by omega)]; exact hN.2 _ _ hpl q0.2.1)
    have key : ∀ (t' : AS) (x : Option Nat), t' = am_si (am_si t (o + 7) i (oI none)) (o + 7) i (oI x) ∨ (t' = am_si t (o + 7) i (oI none) ∧ x = none) → w_vt D C n pl w i = x → (∀ p, p < i + 1 → t'.1 (o + 7) p = oI (w_vt D C n pl w p)) ∧ fr (fun c => c = o + 7) s t' := by
      intro t' x ht hx
      rcases ht with ht | ⟨ht, hx0⟩
      · subst ht
        refine ⟨fun p hp => ?_, fr_si (fr_si h.2 _ _ rfl) _ _ rfl⟩
        simp only [r_si]
        by_cases e : p = i
        · rw [e, r_us, hx]
        · rw [r_uo _ _ e, r_uo _ _ e]
          exact h.1 p (by omega)
      · subst ht
        refine ⟨fun p hp => ?_, fr_si h.2 _ _ rfl⟩
        simp only [r_si]
        by_cases e : p = i
        · rw [e, r_us, hx, hx0]
        · rw [r_uo _ _ e]
          exact h.1 p (by omega)
    cases hs : C.2.2.2.2.2.1 n i with
    | some x =>
      have hb := hin i (by omega) (by rw [hs]; rfl)
      have e12 : (am_si t (o + 7) i (oI none)).1 oc 12 = oI x := (eS n i hn (by omega)).2 x hs
      rw [hs] at es
      refine ⟨am_si (am_si t (o + 7) i (oI none)) (o + 7) i (oI x), key _ x (.inl rfl) (by unfold w_vt; rw [if_pos hb, hs]), ?_⟩
      rw [fX6_gatherVotes_L10]
      simp (disch := omega) only [am_lq, b_lq, oI_q, e5, b_le, b_lt, b_t, b_eq, am_g_t, es, am_rq, Option.isSome_some, b_tt, if_neg, if_false, b_add, e12]
    | none =>
      rw [hs] at es
      cases hb : w.1.testBit i with
      | false =>
        refine ⟨am_si t (o + 7) i (oI none), key _ none (.inr ⟨rfl, rfl⟩) (by unfold w_vt; rw [hb]; rfl), ?_⟩
        rw [fX6_gatherVotes_L10]
        simp (disch := omega) only [am_lq, b_lq, oI_q, e5, b_le, b_lt, b_t, b_eq, am_g_t, es, am_rq, Option.isSome_none, b_tf, if_neg, if_pos, if_true, if_false, b_add, eo, c_holds, hb]
      | true =>
        refine ⟨am_si (am_si t (o + 7) i (oI none)) (o + 7) i (oI (C.2.2.2.2.2.2 n pl (D.2.2.1 i 1))), key _ _ (.inl rfl) (by unfold w_vt; rw [hb, hs]; rfl), ?_⟩
        rw [fX6_gatherVotes_L10]
        simp (disch := omega) only [am_lq, b_lq, oI_q, e5, e6, b_le, b_lt, b_t, b_eq, am_g_t, es, am_rq, Option.isSome_none, b_tf, b_tt, if_neg, if_pos, if_true, if_false, b_add, eo, c_holds, hb, en]) (fun f t h => by
    have hP' := c_PL_fr hP h.2 (fun c _ _ => by omega) d4 d5
    have e5 : t.1 op 6 = nI (D.1 5) := hP'.1 5 (by omega)
    rw [fX6_gatherVotes_L10]
    simp (disch := omega) only [b_lq, e5, b_le, if_pos, if_true]) s ⟨fun p hp => by omega, fr_refl _ _⟩ am_fu (am_fu_gt (by omega))
  refine ⟨t, ?_, h1, h2⟩
  unfold fX6_gatherVotes
  rw [hv, am_rq]
  simp (disch := omega) only [am_g_t, b_lq]
  exact h3
theorem c_heavy (hD : w_V D) (ho : op + 22 ≤ o) {vt : Nat → Option Nat} (hvt : ∀ p q, vt p = some q → q < D.1 0) (byB : Bool) (s : AS) (hP : c_PL op D s) (hV : ∀ p, p < D.1 5 → s.1 (o + 7) p = oI (vt p)) : ∃ t, fX6_heaviest s o op (nI byB.toNat) = some (t, oI (w_bp D vt byB (D.1 0)).1) ∧ fr (fun c => c = o + 8) s t := by
  obtain ⟨d0, d4, d5, dr, dp, -⟩ := id hD
  obtain ⟨s2, f1, f2, f3⟩ := c_fill s (o + 8) 7 (nI 0) (by omega)
  obtain ⟨t, ⟨h1, h2⟩, h3⟩ := sp_lp (fun f t i => fX6_heaviest_L10 o op (nI byB.toNat) (fun s3 => fX6_heaviest_L82 o s3 am_fu (oI none) (nI 0) (nI 0)) f t i) (D.1 5) (fun i t => (∀ q, q < 7 → t.1 (o + 8) q = nI (w_sm D vt q byB i)) ∧ fr (fun c => c = o + 8) s t) (fun s3 => fX6_heaviest_L82 o s3 am_fu (oI none) (nI 0) (nI 0)) (fun f i t hi h => by
    have hP' := c_PL_fr hP h.2 (fun c _ _ => by omega) d4 d5
    have e5 : t.1 op 6 = nI (D.1 5) := hP'.1 5 (by omega)
    have e6 : t.1 (op + 12 + 1 + i) 4 = nI (D.2.2.1 i 4) := hP'.2.2.1 i 4 hi (by omega)
    have e7 : t.1 (o + 7) i = oI (vt i) := by rw [h.2.2 _ (by omega)]; exact hV i hi
    cases hv : vt i with
    | none =>
      rw [hv] at e7
      refine ⟨t, ⟨fun q hq => ?_, h.2⟩, ?_⟩
      · rw [h.1 q hq, w_sm_s, hv, if_neg (by simp)]
        rfl
      · rw [fX6_heaviest_L10]
        simp (disch := omega) only [am_lq, b_lq, e5, e7, b_n0, b_le, b_lt, b_t, am_g_t, if_neg, if_pos, if_true, if_false, b_add]
    | some q =>
      rw [hv, oI_s] at e7
      have hq7 := hvt i q hv
      have e8 := h.1 q (by omega)
      refine ⟨am_si t (o + 8) q (nI (w_sm D vt q byB (i + 1))), ⟨fun x hx => ?_, fr_si h.2 _ _ rfl⟩, ?_⟩
      · rw [r_si]
        by_cases e : x = q
        · rw [e, r_us]
        · rw [r_uo _ _ e, h.1 x hx, w_sm_s, hv, if_neg (by simp; omega)]
          rfl
      · rw [fX6_heaviest_L10]
        rw [w_sm_s, hv, if_pos rfl]
        simp (disch := omega) only [am_lq, b_lq, e5, e6, e7, e8, b_le, b_lt, b_t, am_g_t, if_neg, if_pos, if_true, if_false, b_add]
        cases byB
        · simp (disch := omega) only [b_tf, b_eq, if_true, if_pos, b_add]
          rfl
        · simp (disch := omega) only [b_tt, b_eq, if_false, if_neg, if_pos, if_true, b_add]) (fun f t h => by
    have hP' := c_PL_fr hP h.2 (fun c _ _ => by omega) d4 d5
    have e5 : t.1 op 6 = nI (D.1 5) := hP'.1 5 (by omega)
    rw [fX6_heaviest_L10]
    simp (disch := omega) only [am_lq, b_lq, e5, b_le, if_pos, if_true]) s2 ⟨fun q hq => by rw [f2, if_pos hq]; rfl, fr_mono f3 (fun c hc => hc)⟩ am_fu (am_fu_gt (by omega))
  refine ⟨t, ?_, h2⟩
  unfold fX6_heaviest
  simp only [b_lq, f1, am_cq, am_lq, oI_q]
  rw [h3]
  refine sp_lq (fun f (x : Int32 × Int32) i => fX6_heaviest_L82 o t f x.1 x.2 i) 7 (fun i x => x = (oI (w_bp D vt byB i).1, nI (w_bp D vt byB i).2)) (fun r => r = some (t, oI (w_bp D vt byB (D.1 0)).1)) (fun f i x hi h => ?_) (fun f x h => ?_) (oI none, nI 0) rfl am_fu (am_fu_gt (by omega))
  · left
    subst h
    refine ⟨_, rfl, ?_⟩
    have e1 := h1 i hi
    have l1 := w_sm_le hD (vt := vt) (q := i) (byB := byB) (D.1 5) (Nat.le_refl _)
    have l2 := w_bp_le hD (vt := vt) (byB := byB) i
    dsimp only
    rw [fX6_heaviest_L82, w_bp_s]
    simp (disch := omega) only [am_lq, b_lq, e1, b_le, b_lt, b_t, am_g_t, if_neg, if_false, b_add]
    by_cases c : w_sm D vt i byB (D.1 5) ≤ (w_bp D vt byB i).2
    · rw [if_pos c, if_neg (by omega)]
    · rw [if_neg c, if_pos (by omega)]
      rfl
  · subst h
    dsimp only
    rw [fX6_heaviest_L82]
    simp (disch := omega) only [am_lq, b_lq, b_le, if_pos, if_true]
    have := w_bp_7 (byB := byB) hvt (7 - D.1 0)
    rw [show D.1 0 + (7 - D.1 0) = 7 by omega] at this
    rw [this]
theorem c_byRank (hD : w_V D) {vt : Nat → Option Nat} {w : w_S} (hok : w_ok D w) (hvl : ∀ p q, vt p = some q → q < D.1 0) (hvt : ∀ p q, vt p = some q → w.1.testBit p = true) (first : Bool) (s : AS) (hP : c_PL op D s) (hV : ∀ p, p < D.1 5 → s.1 (o + 7) p = oI (vt p)) (hR : ∀ p, p < 8 → w.2.1.testBit p = true → s.1 (o + 6) p = nI (w.2.2.2.2.2 p)) : fX6_voteByRank s o op (nI first.toNat) = some (oI ((w_wh vt w.2.2.2.2.2 first (D.1 5)).bind vt)) := by
  obtain ⟨d0, d4, d5, dr, dp, -⟩ := id hD
  obtain ⟨k0, k1, k2, k3, k4, k5, k6⟩ := hok
  have hcnt : w.2.2.1 ≤ 8 := by
    rw [k6]
    exact w_pc_8 _ (Nat.lt_of_lt_of_le k1 (w_pow8 d5))
  have e5 : s.1 op 6 = nI (D.1 5) := hP.1 5 (by omega)
  unfold fX6_voteByRank
  simp only [am_lq, b_lq, oI_q]
  refine sp_lq (fun f (x : Int32) i => fX6_voteByRank_L5 o op (nI first.toNat) s _ f x i) (D.1 5) (fun i x => x = oI (w_wh vt w.2.2.2.2.2 first i)) (fun r => r = some (oI ((w_wh vt w.2.2.2.2.2 first (D.1 5)).bind vt))) (fun f i x hi h => ?_) (fun f x h => ?_) (oI none) rfl am_fu (am_fu_gt (by omega))
  · left
    subst h
    refine ⟨_, rfl, ?_⟩
    have e7 := hV i hi
    rw [fX6_voteByRank_L5, w_wh_s]
    cases hv : vt i with
    | none =>
      rw [hv] at e7
      simp (disch := omega) only [am_lq, b_lq, oI_q, e5, e7, b_le, b_lt, b_t, am_g_t, if_neg, if_pos, if_true, if_false, b_add]
    | some q =>
      rw [hv, oI_s] at e7
      have hq := hvt i q hv
      have hq2 := k2 i hq
      have e6 := hR i (by omega) hq2
      have o1 := k3 i hq2
      cases hw : w_wh vt w.2.2.2.2.2 first i with
      | none =>
        have b1 : (nI q = oI none) = False := b_nn (by have := hvl i q hv; omega)
        simp (disch := omega) only [am_lq, b_lq, oI_q, e5, e7, b1, b_le, b_lt, b_t, am_g_t, if_neg, if_pos, if_true, if_false, b_add, oI_t]
      | some k =>
        obtain ⟨hk1, q2, hk2⟩ := w_wh_lt hw
        have hk3 := k2 k (hvt k q2 hk2)
        have e8 := hR k (by omega) hk3
        have o2 := k3 k hk3
        have b1 : (nI q = oI none) = False := b_nn (by have := hvl i q hv; omega)
        have b2 : (nI k = oI none) = False := b_nn (by omega)
        have ne : w.2.2.2.2.2 k ≠ w.2.2.2.2.2 i := fun z => by have := k4 k i hk3 hq2 z; omega
        simp (disch := omega) only [am_lq, b_lq, oI_q, oI_t, e5, e6, e7, e8, b1, b2, b_le, b_lt, b_t, am_g_t, if_neg, if_pos, if_true, if_false, b_add]
        cases first <;> by_cases c : w.2.2.2.2.2 k ≤ w.2.2.2.2.2 i <;> simp (disch := omega) only [c, if_true, if_false, b_tt, b_tf, b_eq, if_pos, if_neg, oI_t, Bool.false_eq_true]
  · subst h
    rw [fX6_voteByRank_L5]
    simp (disch := omega) only [am_lq, b_lq, oI_q, e5, b_le, if_pos, if_true]
    cases hw : w_wh vt w.2.2.2.2.2 first (D.1 5) with
    | none =>
      simp (disch := omega) only [if_true, Option.bind_none]
    | some k =>
      obtain ⟨hk1, q2, hk2⟩ := w_wh_lt hw
      have e7 := hV k hk1
      have b2 : (nI k = oI none) = False := b_nn (by omega)
      simp (disch := omega) only [oI_t, b2, if_false, b_lq, b_lt, b_t, am_g_t, e7, Option.bind_some]
end CV
