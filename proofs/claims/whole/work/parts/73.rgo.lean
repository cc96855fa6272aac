/-! THE REFERENCE'S WALK: one step. -/
section RS
variable {D : w_D} {C : w_C} {tr : Option (Nat × Nat)} {sh : Nat}
theorem r_go1 (hD : w_V D) (hC : w_CK D C) (hsh : sh < 1024) (hnx : ∀ n, n < 61 → C.2.2.2.2.2.2 n = y_N D (r_sh tr sh (n + 1))) {n pl : Nat} (hn : n < 61) (hat : w_at D C n = some pl) (t : AS) (hP : r_PL D t) (hS : r_CS C tr t) (hI : r_GI D C tr sh n t) : ∃ t', r_GI D C tr sh (n + 1) t' ∧ fr r_RG t t' ∧ r_fx t t' ∧ ∀ f, fX9_runs_L64 (f + 1) t (nI pl) (nI n) = fX9_runs_L64 f t' (oI (w_at D C (n + 1))) (nI (n + 1)) := by
  obtain ⟨d0, d4, d5, dr, dp, -⟩ := id hD
  obtain ⟨i1, i2, i3, i4, i5, i6, i7, z, z1, z2, z3, z4, z5⟩ := hI
  have hz : z = r_sh tr sh n := z4 (by rw [hat]; simp)
  have hpl := w_at_lt hC hat
  have hok := w_W_ok (C := C) d5 n
  have hws := w_W_s hat
  have haf := w_af_ok (C := C) (n := n) (pl := pl) hok d5
  have hl8 := w_pow8 d5
  have htr : ∀ m k, tr = some (m, k) → k < 10 := fun m k h => (hS.2.2.2.1.2 m k h).2.1
  -- at, crowd, goes, votes begin
  obtain ⟨t2, ⟨a1, a2, a3⟩, a4⟩ := r_v105 hn (am_si (am_si (am_si t 229 n (nI pl)) 230 n (nI 0)) 231 n (oI none))
  have f1 : fr r_RG t (am_si (am_si (am_si t 229 n (nI pl)) 230 n (nI 0)) 231 n (oI none)) := fr_si (fr_si (fr_si (fr_refl _ _) _ _ (by omega)) _ _ (by omega)) _ _ (by omega)
  have f2 := fr_tr f1 (fr_mono a3 (fun c (hc : c = 232) => (by omega : r_RG c)))
  have er : ∀ c, c < 229 ∨ 232 < c → t2.1 c = t.1 c := fun c hc => by rw [a3.2 _ (by omega)]; simp (disch := omega) only [r_so]
  have e215 : t2.1 215 = t.1 215 := er _ (by omega)
  have e229 : t2.1 229 = upd (t.1 229) n (nI pl) := by rw [a3.2 _ (by omega)]; simp (disch := omega) only [r_so, r_si]
  have e230 : t2.1 230 = upd (t.1 230) n (nI 0) := by rw [a3.2 _ (by omega)]; simp (disch := omega) only [r_so, r_si]
  have e231 : t2.1 231 = upd (t.1 231) n (oI none) := by rw [a3.2 _ (by omega)]; simp (disch := omega) only [r_so, r_si]
  have e232 : ∀ j, j < 8 * n → t2.1 232 j = t.1 232 j := fun j hj => by rw [a2 j hj]; simp (disch := omega) only [r_so]
  have w2 : r_WS (w_W D C n).2 t2 := r_WS_fr i1 (fun k _ _ => by rw [e215]) (er _ (by omega)) (er _ (by omega)) (er _ (by omega))
  have S2 := r_CS_fr hS (fun k _ _ _ => by rw [e215]) f2.1
  have P2 := r_PL_fr hP f2 (fun c _ _ => by omega)
  -- who falls in
  have q3 : ∃ t3, (if C.2.2.2.2.1 n then t2 = t3 else fX9_falls t2 (nI n) (nI pl) = some (t3, ())) ∧ r_WS (if C.2.2.2.2.1 n then (w_W D C n).2 else w_fl D C n pl 9 (w_W D C n).2) t3 ∧ fr r_R1 t2 t3 ∧ ∀ k, k < 42 ∨ 44 < k → t3.1 215 k = t2.1 215 k := by
    cases hr : C.2.2.2.2.1 n with
    | true => exact ⟨t2, rfl, w2, fr_refl _ _, fun _ _ => rfl⟩
    | false =>
      obtain ⟨t3, k1, k2, k3, k4⟩ := r_falls (n := n) (pl := pl) hD hn (by omega) hC.2.2.1 hok P2 S2.2.1 w2
      exact ⟨t3, k1, k2, k3, k4⟩
  obtain ⟨t3, k1, w3, f3, b0⟩ := q3
  have f3' := fr_tr f2 (fr_mono f3 (fun c (hc : c = 215 ∨ c = 233 ∨ c = 235) => (by omega : r_RG c)))
  -- who leaves
  obtain ⟨t4, l1, w4, f4, c0⟩ := r_leave (n := n) (pl := pl) hD hn (by omega) (w_fl_no (n := n) (pl := pl) (C := C) d5 hok) (r_PL_fr hP f3' (fun c _ _ => by omega)) w3
  have f4' := fr_tr f3' (fr_mono f4 (fun c (hc : c = 215 ∨ c = 234) => (by omega : r_RG c)))
  have w4 : r_WS (w_af D C n pl (w_W D C n).2) t4 := w4
  have g0 : ∀ k, k < 42 ∨ 44 < k → t4.1 215 k = t.1 215 k := fun k hk => by rw [c0 k hk, b0 k hk, e215]
  have gr : ∀ c, c < 215 ∨ (215 < c ∧ c < 233) → t4.1 c = t2.1 c := fun c hc => by rw [f4.2 _ (by omega), f3.2 _ (by omega)]
  -- the crowd
  have f5 : fr r_RG t (am_si t4 230 n (nI (w_af D C n pl (w_W D C n).2).1)) := fr_si f4' _ _ (by omega)
  generalize ht5 : am_si t4 230 n (nI (w_af D C n pl (w_W D C n).2).1) = t5 at f5
  have d1 : t5.1 230 = upd (t4.1 230) n (nI (w_af D C n pl (w_W D C n).2).1) := by rw [← ht5]; simp (disch := omega) only [r_si]
  have dr5 : ∀ c, c ≠ 230 → t5.1 c = t4.1 c := fun c h1 => by rw [← ht5]; simp (disch := omega) only [r_so]
  have w5 : r_WS (w_af D C n pl (w_W D C n).2) t5 := r_WS_fr w4 (fun k _ _ => by rw [dr5 _ (by omega)]) (dr5 _ (by omega)) (dr5 _ (by omega)) (dr5 _ (by omega))
  have g5 : ∀ k, k < 42 ∨ 44 < k → t5.1 215 k = t.1 215 k := fun k hk => by rw [dr5 _ (by omega), g0 k hk]
  have S5 := r_CS_fr hS (fun k _ _ _ => g5 k (by omega)) f5.1
  have P5 := r_PL_fr hP f5 (fun c _ _ => by omega)
  -- a road may be shut
  have hz' := r_sh_lt (n := n + 1) hsh htr
  have q6 : ∃ t6, (if nI n = t5.1 215 31 then fX9_laysWays (am_si t5 215 24 (t5.1 215 24 ||| (nI 1 <<< (t5.1 215 32 &&& nI 31)))) = some (t6, ()) else t5 = t6) ∧ t6.1 215 24 = nI (r_sh tr sh (n + 1)) ∧ r_WY D (r_sh tr sh (n + 1)) t6 ∧ fr (fun c => c = 215 ∨ c = 228) t5 t6 ∧ (∀ k, k ≠ 24 → t6.1 215 k = t5.1 215 k) := by
    have c24 : t5.1 215 24 = nI z := by rw [g5 24 (by omega), z2]
    have cY : r_WY D z t5 := fun x y hx hy => by rw [dr5 _ (by omega), gr _ (by omega), er _ (by omega)]; exact z3 x y hx hy
    by_cases c : nI n = t5.1 215 31
    · have h31 := S5.2.2.2.1
      rw [h31.1] at c
      cases htt : tr with
      | none =>
        rw [htt] at c
        rw [show oI ((none : Option (Nat × Nat)).map fun x => x.1) = oI none from rfl, b_nn (by omega)] at c
        exact c.elim
      | some mk =>
        obtain ⟨m, k⟩ := mk
        rw [htt] at c
        rw [show oI ((some (m, k)).map fun x => x.1) = nI m from rfl] at c
        have h32 := h31.2 m k htt
        rw [b_eq (by omega) (by omega)] at c
        have hzz : z = sh := by rw [hz, htt]; unfold r_sh; dsimp only; rw [if_neg (by omega)]
        have hn1 : r_sh tr sh (n + 1) = w_ins sh k := by rw [htt]; unfold r_sh; dsimp only; rw [if_pos (by omega)]
        rw [htt] at hn1 hz'
        have e : am_si t5 215 24 (t5.1 215 24 ||| (nI 1 <<< (t5.1 215 32 &&& nI 31))) = am_si t5 215 24 (nI (w_ins sh k)) := by
          rw [c24, h32.2.2, b_sh k (by omega), hzz, b_ins sh hsh k h32.2.1]
        obtain ⟨t6, m1, m2, m3⟩ := r_laysWays (sh := w_ins sh k) hD (by omega) (am_si t5 215 24 (nI (w_ins sh k))) (r_PL_fr P5 (fr_si (R := fun c => c = 215) (fr_refl _ _) _ _ rfl) (fun c _ _ => by omega)) (by rw [r_si, r_us])
        refine ⟨t6, ?_, ?_, ?_, ?_, ?_⟩
        · rw [if_pos (by rw [h31.1, htt, c]; rfl), e, m1]
        · rw [m2.2 _ (by omega), r_si, r_us, hn1]
        · rw [hn1]; exact m3
        · exact fr_tr (fr_si (fr_refl _ _) _ _ (by omega)) (fr_mono m2 (fun c hc => .inr hc))
        · intro j hj
          rw [m2.2 _ (by omega), r_si, r_uo _ _ hj]
    · have hzz : z = r_sh tr sh (n + 1) := by
        rw [hz]
        cases htt : tr with
        | none => rfl
        | some mk =>
          obtain ⟨m, k⟩ := mk
          have h31 := S5.2.2.2.1
          rw [h31.1, htt] at c
          rw [show oI ((some (m, k)).map fun x => x.1) = nI m from rfl] at c
          have h32 := h31.2 m k htt
          rw [b_eq (by omega) (by omega)] at c
          unfold r_sh
          dsimp only
          by_cases c2 : m < n
          · rw [if_pos c2, if_pos (by omega)]
          · rw [if_neg c2, if_neg (by omega)]
      refine ⟨t5, ?_, ?_, ?_, fr_refl _ _, fun _ _ => rfl⟩
      · rw [if_neg c]
      · rw [c24, hzz]
      · rw [← hzz]; exact cY
  obtain ⟨t6, m1, m2, m3, m4, m5⟩ := q6
  have f6 := fr_tr f5 (fr_mono m4 (fun c (hc : c = 215 ∨ c = 228) => (by omega : r_RG c)))
  have w6 : r_WS (w_af D C n pl (w_W D C n).2) t6 := r_WS_fr w5 (fun k _ _ => m5 k (by omega)) (m4.2 _ (by omega)) (m4.2 _ (by omega)) (m4.2 _ (by omega))
  have S6 := r_CS_fr S5 (fun k _ _ hk => m5 k hk) m4.1
  have P6 := r_PL_fr hP f6 (fun c _ _ => by omega)
  -- the votes
  obtain ⟨t7, ⟨n1, n2, n3⟩, n4⟩ := r_v204 (C := C) (n := n) (pl := pl) hD hn hpl hz' haf (hnx n hn) t6 w6 P6 S6 m2 m3 (fun p hp => by rw [m4.2 _ (by omega), dr5 _ (by omega), gr _ (by omega)]; exact a1 p hp)
  have f7 := fr_tr f6 (fr_mono n3 (fun c (hc : c = 232) => (by omega : r_RG c)))
  have w7 : r_WS (w_af D C n pl (w_W D C n).2) t7 := r_WS_fr w6 (fun k _ _ => by rw [n3.2 _ (by omega)]) (n3.2 _ (by omega)) (n3.2 _ (by omega)) (n3.2 _ (by omega))
  have S7 := r_CS_fr S6 (fun k _ _ _ => by rw [n3.2 _ (by omega)]) n3.1
  have P7 := r_PL_fr hP f7 (fun c _ _ => by omega)
  -- where it turns
  have p1 := r_turns (C := C) (w := w_af D C n pl (w_W D C n).2) (vt := w_vt D C n pl (w_af D C n pl (w_W D C n).2)) hD hC hn haf (fun p q h => w_vt_lt hC h) (fun p q h => by unfold w_vt at h; split at h; assumption; cases h) P7 S7.1 n1 w7.2.2.2.2.2
  have hgo : w_tn D C (w_af D C n pl (w_W D C n).2) (w_vt D C n pl (w_af D C n pl (w_W D C n).2)) = w_at D C (n + 1) := by
    show _ = (w_W D C (n + 1)).1
    rw [hws]
  rw [hgo] at p1
  have f8 : fr r_RG t (am_si t7 231 n (oI (w_at D C (n + 1)))) := fr_si f7 _ _ (by omega)
  have w8 : r_WS (w_W D C (n + 1)).2 (am_si t7 231 n (oI (w_at D C (n + 1)))) := by
    rw [hws]
    refine r_WS_fr w7 (fun k _ _ => ?_) ?_ ?_ ?_ <;> simp (disch := omega) only [r_so]
  have x7 : ∀ k, k ≠ 24 → (k < 42 ∨ 44 < k) → t7.1 215 k = t.1 215 k := fun k hk hk2 => by rw [n3.2 _ (by omega), m5 k hk, g5 k hk2]
  have x24 : t7.1 215 24 = nI (r_sh tr sh (n + 1)) := by rw [n3.2 _ (by omega), m2]
  have xY : r_WY D (r_sh tr sh (n + 1)) t7 := fun x y hx hy => by rw [n3.2 _ (by omega)]; exact m3 x y hx hy
  have y229 : t7.1 229 = upd (t.1 229) n (nI pl) := by rw [n3.2 _ (by omega), m4.2 _ (by omega), dr5 _ (by omega), gr _ (by omega), e229]
  have y230 : t7.1 230 = upd (upd (t.1 230) n (nI 0)) n (nI (w_af D C n pl (w_W D C n).2).1) := by rw [n3.2 _ (by omega), m4.2 _ (by omega), d1, gr _ (by omega), e230]
  have y231 : t7.1 231 = upd (t.1 231) n (oI none) := by rw [n3.2 _ (by omega), m4.2 _ (by omega), dr5 _ (by omega), gr _ (by omega), e231]
  have y232 : ∀ j, j < 8 * n → t7.1 232 j = t.1 232 j := fun j hj => by rw [n2 j hj, m4.2 _ (by omega), dr5 _ (by omega), gr _ (by omega), e232 j hj]
  have r1 : ∀ k, k < n + 1 → t7.1 229 k = oI (w_at D C k) := fun k hk => by
    rw [y229]
    by_cases e : k = n
    · rw [e, r_us, hat]; rfl
    · rw [r_uo _ _ e]; exact i2 k (by omega)
  have r2 : ∀ k, k < n + 1 → t7.1 230 k = nI (w_cr D C k) := fun k hk => by
    rw [y230]
    by_cases e : k = n
    · rw [e, r_us]; unfold w_cr; rw [hat, hws]
    · rw [r_uo _ _ e, r_uo _ _ e]; exact i3 k (by omega)
  have r3 : ∀ k, k < n + 1 → upd (t7.1 231) n (oI (w_at D C (n + 1))) k = oI (w_go D C k) := fun k hk => by
    rw [y231]
    by_cases e : k = n
    · rw [e, r_us]; rfl
    · rw [r_uo _ _ e, r_uo _ _ e]; exact i4 k (by omega)
  have r4 : ∀ k p, k < n + 1 → p < 8 → t7.1 232 (8 * k + p) = oI (w_vo D C k p) := fun k p hk hp => by
    by_cases e : k = n
    · rw [e, n1 p hp]
      unfold w_vo
      rw [hat, hws]
    · rw [y232 _ (by omega)]; exact i5 k p (by omega) hp
  have hon := w_on_n hat
  -- the run up to the turn
  have run : ∀ f, fX9_runs_L64 (f + 1) t (nI pl) (nI n) = (if oI (w_at D C (n + 1)) = oI none then (if nI (w_af D C n pl (w_W D C n).2).1 = nI 0 then fX9_runs_L64 f (am_si (am_si (am_si t7 231 n (oI (w_at D C (n + 1)))) 215 45 (nI n)) 215 46 (nI 0)) (oI (w_at D C (n + 1))) (nI (n + 1)) else fX9_runs_L64 f (am_si (am_si (am_si t7 231 n (oI (w_at D C (n + 1)))) 215 45 (nI n)) 215 46 (nI 1)) (oI (w_at D C (n + 1))) (nI (n + 1))) else fX9_runs_L64 f (am_si t7 231 n (oI (w_at D C (n + 1)))) (oI (w_at D C (n + 1))) (nI (n + 1))) := by
    intro f
    have c45 : t.1 215 45 = oI none := by rw [i6, hon]
    have c45' : t2.1 215 45 = oI none := by rw [e215, c45]
    have c42 : t4.1 215 42 = nI (w_af D C n pl (w_W D C n).2).1 := w4.1
    have c42' : t7.1 215 42 = nI (w_af D C n pl (w_W D C n).2).1 := w7.1
    have h60 : (60 < n) = False := eq_false (by omega)
    have hra := hS.2.2.2.2 n hn
    unfold r_rn at hra
    have h2 : t2.2 = t.2 := f2.1
    rw [← h2] at hra
    rw [fX9_runs_L64]
    have fin : ∀ r : Bool, C.2.2.2.2.1 n = r → ((lg_cmp (((t2.2 215 33) >>> ((nI n).toInt64 &&& 63)) &&& 1) 0 = nI 0) = (r = false)) := by
      intro r hr
      rw [hr] at hra
      apply propext
      show lg_cmp _ 0 = 0 ↔ _
      cases r
      · exact ⟨fun _ => rfl, fun _ => Classical.not_not.mp (of_decide_eq_false hra)⟩
      · exact ⟨fun h => absurd h (of_decide_eq_true hra), fun h => by cases h⟩
    cases hr : C.2.2.2.2.1 n with
    | true =>
      have hc := fin true hr
      simp only [reduceCtorEq] at hc
      rw [hr] at k1
      have k1 : t2 = t3 := k1
      subst k1
      by_cases c : nI n = t5.1 215 31
      · have hcd := eq_true c
        rw [if_pos c] at m1
        rw [dr5 215 (by omega)] at m1 hcd
        simp (maxSteps := 4000000) (disch := omega) only [↓am_lq, ↓reduceIte, b_lq, oI_q, b_le, b_lt, b_t, am_g_t, c45, h60, a4, c45', b_add, hc, l1, am_cq, am_rq, c42, ht5, hcd, m1, n4, p1, r_si, r_us, r_so, r_uo, c42']
      · have hcd := eq_false c
        rw [if_neg c] at m1
        subst m1
        rw [dr5 215 (by omega)] at hcd
        simp (maxSteps := 4000000) (disch := omega) only [↓am_lq, ↓reduceIte, b_lq, oI_q, b_le, b_lt, b_t, am_g_t, c45, h60, a4, c45', b_add, hc, l1, am_cq, am_rq, c42, ht5, hcd, n4, p1, r_si, r_us, r_so, r_uo, c42']
    | false =>
      have hc := fin false hr
      simp only [] at hc
      rw [hr] at k1
      have k1 : fX9_falls t2 (nI n) (nI pl) = some (t3, ()) := k1
      by_cases c : nI n = t5.1 215 31
      · have hcd := eq_true c
        rw [if_pos c] at m1
        rw [dr5 215 (by omega)] at m1 hcd
        simp (maxSteps := 4000000) (disch := omega) only [↓am_lq, ↓reduceIte, b_lq, oI_q, b_le, b_lt, b_t, am_g_t, c45, h60, a4, c45', b_add, hc, k1, l1, am_cq, am_rq, c42, ht5, hcd, m1, n4, p1, r_si, r_us, r_so, r_uo, c42']
      · have hcd := eq_false c
        rw [if_neg c] at m1
        subst m1
        rw [dr5 215 (by omega)] at hcd
        simp (maxSteps := 4000000) (disch := omega) only [↓am_lq, ↓reduceIte, b_lq, oI_q, b_le, b_lt, b_t, am_g_t, c45, h60, a4, c45', b_add, hc, k1, l1, am_cq, am_rq, c42, ht5, hcd, n4, p1, r_si, r_us, r_so, r_uo, c42']
  cases hnx1 : w_at D C (n + 1) with
  | some q =>
    rw [hnx1] at run w8 r3 f8
    have hq := w_at_lt hC hnx1
    have b1 : (nI q = oI none) = False := b_nn (by omega)
    refine ⟨am_si t7 231 n (oI (some q)), ⟨w8, fun k hk => ?_, fun k hk => ?_, fun k hk => ?_, fun k p hk hp => ?_, ?_, ?_, r_sh tr sh (n + 1), hz', ?_, ?_, fun _ => rfl, fun h => ?_⟩, f8, fun k h1 h2 => ?_, fun f => ?_⟩
    · rw [r_so _ _ _ (by omega)]; exact r1 k hk
    · rw [r_so _ _ _ (by omega)]; exact r2 k hk
    · rw [r_si]; exact r3 k hk
    · rw [r_so _ _ _ (by omega)]; exact r4 k p hk hp
    · rw [r_so _ _ _ (by omega), x7 _ (by omega) (by omega), i6, w_on_s, hon, hnx1]
      simp
    · have : w_on D C (n + 1) = none := by rw [w_on_s, hon, hnx1]; simp
      rw [r_so _ _ _ (by omega), x7 _ (by omega) (by omega), i7]
      unfold w_wn
      rw [hon, this]
    · rw [r_so _ _ _ (by omega)]; exact x24
    · intro x y hx hy
      rw [r_so _ _ _ (by omega)]; exact xY x y hx hy
    · rw [h]; rfl
    · rw [r_so _ _ _ (by omega)]; exact x7 k h1 (by omega)
    · rw [run f, if_neg (by rw [oI_s, b1]; exact fun z => z)]
  | none =>
    rw [hnx1] at run w8 r3 f8
    have hon1 : w_on D C (n + 1) = some n := by rw [w_on_s, hon, hnx1, hat]; rfl
    have hin : (w_W D C (n + 1)).2.1 = (w_af D C n pl (w_W D C n).2).1 := by rw [hws]
    have hlt := haf.1
    have key : ∀ x, x = (if (w_W D C (n + 1)).2.1 = 0 then 0 else 1) → ∀ u, u = am_si (am_si (am_si t7 231 n (oI none)) 215 45 (nI n)) 215 46 (nI x) → r_GI D C tr sh (n + 1) u ∧ fr r_RG t u ∧ r_fx t u := by
      intro x hx u hu
      subst hu
      refine ⟨⟨r_WS_fr w8 (fun k _ _ => ?_) ?_ ?_ ?_, fun k hk => ?_, fun k hk => ?_, fun k hk => ?_, fun k p hk hp => ?_, ?_, ?_, r_sh tr sh (n + 1), hz', ?_, ?_, fun _ => rfl, fun h => ?_⟩, fr_si (fr_si f8 _ _ (by omega)) _ _ (by omega), fun k h1 h2 => ?_⟩
      · simp (disch := omega) only [r_si, r_uo]
      · simp (disch := omega) only [r_so]
      · simp (disch := omega) only [r_so]
      · simp (disch := omega) only [r_so]
      · simp (disch := omega) only [r_so]; exact r1 k hk
      · simp (disch := omega) only [r_so]; exact r2 k hk
      · simp (disch := omega) only [r_so, r_si]; exact r3 k hk
      · simp (disch := omega) only [r_so]; exact r4 k p hk hp
      · simp (disch := omega) only [r_so, r_si, r_us, r_uo, hon1, oI_t]
      · unfold w_wn
        rw [hon1]
        simp (disch := omega) only [r_so, r_si, r_us, r_uo, Option.map_some, oI_t, hx]
      · simp (disch := omega) only [r_so, r_si, r_us, r_uo]; exact x24
      · intro a b ha hb
        simp (disch := omega) only [r_so]
        exact xY a b ha hb
      · rw [h]; rfl
      · simp (disch := omega) only [r_so, r_si, r_us, r_uo]
        exact x7 k h1 (by omega)
    obtain ⟨u1, u2, u3⟩ := key _ rfl _ rfl
    refine ⟨_, u1, u2, u3, fun f => ?_⟩
    rw [run f, if_pos rfl, hin]
    by_cases c : (w_af D C n pl (w_W D C n).2).1 = 0
    · rw [if_pos (by rw [c]), if_pos c]
    · rw [if_neg (by rw [b_eq (by omega) (by omega)]; exact c), if_neg c]
end RS
