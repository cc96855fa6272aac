/-! THE REFERENCE'S WALK: sizes, next places, falling in, leaving. -/
theorem r_sz12 : ∀ x, x < 1024 → fX9_sizeOf_L4 12 (nI 0) (nI x) = some (nI (w_pc x)) := by decide +kernel
theorem r_szm : ∀ (f g : Nat) (a x r : Int32), fX9_sizeOf_L4 f a x = some r → f ≤ g → fX9_sizeOf_L4 g a x = some r
  | 0, g, a, x, r, h, _ => by rw [fX9_sizeOf_L4] at h; cases h
  | f + 1, g, a, x, r, h, hg => by
    obtain ⟨g, rfl⟩ : ∃ k, g = k + 1 := ⟨g - 1, by omega⟩
    rw [fX9_sizeOf_L4] at h ⊢
    simp only [am_lq] at h ⊢
    by_cases c : x = 0
    · rw [if_pos c] at h ⊢; exact h
    · rw [if_neg c] at h ⊢
      exact r_szm f g _ _ r h (by omega)
theorem r_size {x : Nat} (h : x < 1024) : fX9_sizeOf (nI x) = some (nI (w_pc x)) := by
  unfold fX9_sizeOf
  simp only [b_lq]
  exact r_szm 12 am_fu _ _ _ (r_sz12 x h) (by unfold am_fu; omega)
theorem r_people {D : w_D} {s : AS} (hP : r_PL D s) : fX9_people s = some (nI (D.1 5)) := by
  rw [p_people, hP.1 5 (by omega)]
/-- the next place, as the reference looks for it: the least at the other end of a road on a shortest way -/
theorem y_rn {F np nr : Nat} {ro : Nat → Nat → Nat} {sh a b : Nat} (hF : 20000 ≤ F) (hnp : np ≤ 7) (hro : ∀ r, r < nr → ro r 0 < np ∧ ro r 1 < np ∧ ro r 0 ≠ ro r 1 ∧ 1 ≤ ro r 2 ∧ ro r 2 ≤ 99) (hab : ¬ a = b) (hl : y_ln F np nr ro sh a b < F) {bo : Option Nat} (h1 : ∀ q, bo = some q → ∃ r, r < nr ∧ y_e ro sh r a q = true ∧ ro r 2 + y_ln F np nr ro sh q b = y_ln F np nr ro sh a b) (h2 : ∀ q r, r < nr → y_e ro sh r a q = true → ro r 2 + y_ln F np nr ro sh q b = y_ln F np nr ro sh a b → ∃ q0, bo = some q0 ∧ q0 ≤ q) : bo = y_nx F np nr ro sh a b := by
  unfold y_nx
  rw [if_neg (by omega)]
  have key : ∀ q, (∃ r, r < nr ∧ y_e ro sh r a q = true ∧ ro r 2 + y_ln F np nr ro sh q b = y_ln F np nr ro sh a b) ↔ (q < np ∧ y_bs F ro sh a q nr < F ∧ y_bs F ro sh a q nr + y_ln F np nr ro sh q b = y_ln F np nr ro sh a b) := by
    intro q
    constructor
    · rintro ⟨r, r1, r2, r3⟩
      have hr := hro r r1
      have hle := y_bs_r F ro sh a q r1 r2
      have hq : q < np ∧ a ≠ q := by
        unfold y_e at r2
        simp only [Bool.and_eq_true, Bool.or_eq_true, beq_iff_eq] at r2
        omega
      have t1 := y_ln_tri (F := F) (nr := nr) (ro := ro) (sh := sh) a q b hq.1
      have t2 := y_ln_bs (F := F) (np := np) (nr := nr) (ro := ro) (sh := sh) hq.2
      exact ⟨hq.1, by omega, by omega⟩
    · rintro ⟨q1, q2, q3⟩
      obtain ⟨r, r1, r2, r3⟩ := y_bs_x F ro sh a q q2
      exact ⟨r, r1, r2, by omega⟩
  cases bo with
  | none =>
    symm
    apply y_fd_n.mpr
    intro i hi
    apply decide_eq_false
    intro hh
    obtain ⟨r, r1, r2, r3⟩ := (key i).mpr ⟨hi, hh⟩
    obtain ⟨q0, e, _⟩ := h2 i r r1 r2 r3
    cases e
  | some q =>
    symm
    have kq := (key q).mp (h1 q rfl)
    refine y_fd_s.mpr ⟨kq.1, decide_eq_true kq.2, fun j hj => decide_eq_false (fun hh => ?_)⟩
    obtain ⟨r, r1, r2, r3⟩ := (key j).mpr ⟨by omega, hh⟩
    obtain ⟨q0, e, e2⟩ := h2 j r r1 r2 r3
    cases e
    omega
/-- the next places by the roads that are open -/
abbrev y_N (D : w_D) (sh : Nat) : Nat → Nat → Option Nat := y_nx 100000 (D.1 0) (D.1 4) D.2.1 sh
section RK
variable {D : w_D} {C : w_C} {sh : Nat}
theorem r_nextOf (hD : w_V D) (hsh : sh < 1024) (s : AS) (hP : r_PL D s) (hs : s.1 215 24 = nI sh) (hW : r_WY D sh s) {a b : Nat} (ha : a < D.1 0) (hb : b < D.1 0) : fX9_nextOf s (nI a) (nI b) = some (oI (y_N D sh a b)) := by
  obtain ⟨d0, d4, d5, dr, dp, -⟩ := id hD
  have e3 := hW a b (by omega) (by omega)
  have l3 := y_ln_le (F := 100000) (np := D.1 0) (nr := D.1 4) (ro := D.2.1) (sh := sh) a b
  have e4 : s.1 222 4 = nI (D.1 4) := hP.1 4 (by omega)
  unfold fX9_nextOf
  simp (disch := omega) only [am_lq, b_lq, oI_q, b_mul, b_add, b_t, b_lt, b_eq, am_g_t, e3]
  by_cases c : a = b
  · rw [if_pos c]
    unfold y_N y_nx
    rw [if_pos (.inl c)]
  · rw [if_neg c]
    by_cases c2 : y_ln 100000 (D.1 0) (D.1 4) D.2.1 sh a b < 100000
    · rw [if_pos c2]
      refine sp_lq (fun f (x : Int32) i => fX9_nextOf_L28 (nI a) (nI b) s f x i) (D.1 4) (fun i x => ∃ bo : Option Nat, x = oI bo ∧ (∀ q, bo = some q → ∃ r, r < i ∧ y_e D.2.1 sh r a q = true ∧ D.2.1 r 2 + y_ln 100000 (D.1 0) (D.1 4) D.2.1 sh q b = y_ln 100000 (D.1 0) (D.1 4) D.2.1 sh a b) ∧ (∀ q r, r < i → y_e D.2.1 sh r a q = true → D.2.1 r 2 + y_ln 100000 (D.1 0) (D.1 4) D.2.1 sh q b = y_ln 100000 (D.1 0) (D.1 4) D.2.1 sh a b → ∃ q0, bo = some q0 ∧ q0 ≤ q)) (fun r => r = some (oI (y_N D sh a b))) (fun f i x hi h => ?_) (fun f x h => ?_) (oI none) ⟨none, rfl, fun q h => (by cases h), fun q r hr => (by omega)⟩ am_fu (am_fu_gt (by omega))
      · left
        obtain ⟨bo, rfl, h1, h2⟩ := h
        obtain ⟨r0, r1, r2, r3, r4⟩ := dr i hi
        have j0 := hP.2.1 i 0 hi (by omega)
        have j1 := hP.2.1 i 1 hi (by omega)
        have j2 := hP.2.1 i 2 hi (by omega)
        rw [Nat.add_zero] at j0
        -- nothing new
        have stay : ∀ P : Prop, (∀ q, ¬ (y_e D.2.1 sh i a q = true ∧ D.2.1 i 2 + y_ln 100000 (D.1 0) (D.1 4) D.2.1 sh q b = y_ln 100000 (D.1 0) (D.1 4) D.2.1 sh a b) ∨ ∃ q0, bo = some q0 ∧ q0 ≤ q) → fX9_nextOf_L28 (nI a) (nI b) s (f + 1) (oI bo) (nI i) = fX9_nextOf_L28 (nI a) (nI b) s f (oI bo) (nI (i + 1)) → ∃ s', (∃ bo : Option Nat, s' = oI bo ∧ (∀ q, bo = some q → ∃ r, r < i + 1 ∧ y_e D.2.1 sh r a q = true ∧ D.2.1 r 2 + y_ln 100000 (D.1 0) (D.1 4) D.2.1 sh q b = y_ln 100000 (D.1 0) (D.1 4) D.2.1 sh a b) ∧ (∀ q r, r < i + 1 → y_e D.2.1 sh r a q = true → D.2.1 r 2 + y_ln 100000 (D.1 0) (D.1 4) D.2.1 sh q b = y_ln 100000 (D.1 0) (D.1 4) D.2.1 sh a b → ∃ q0, bo = some q0 ∧ q0 ≤ q)) ∧ fX9_nextOf_L28 (nI a) (nI b) s (f + 1) (oI bo) (nI i) = fX9_nextOf_L28 (nI a) (nI b) s f s' (nI (i + 1)) := by
          intro _ hq hF
          refine ⟨oI bo, ⟨bo, rfl, fun q hb => ?_, fun q r hr he hs => ?_⟩, hF⟩
          · obtain ⟨r, z1, z2, z3⟩ := h1 q hb
            exact ⟨r, by omega, z2, z3⟩
          · by_cases e : r = i
            · rw [e] at he hs
              rcases hq q with z | z
              · exact absurd ⟨he, hs⟩ z
              · exact z
            · exact h2 q r (by omega) he hs
        cases hbit : sh.testBit i with
        | true =>
          refine stay True (fun q => .inl (fun z => ?_)) ?_
          · have := z.1
            unfold y_e at this
            rw [hbit] at this
            cases this
          · rw [fX9_nextOf_L28]
            simp (disch := omega) only [am_lq, b_lq, oI_q, e4, hs, b_le, b_lt, b_t, b_eq, am_g_t, c_isBit, hbit, am_rq, b_tt, if_neg, if_false, b_add]
        | false =>
          have ye : ∀ q, y_e D.2.1 sh i a q = true ↔ ((D.2.1 i 0 = a ∧ D.2.1 i 1 = q) ∨ (D.2.1 i 0 = q ∧ D.2.1 i 1 = a)) := by
            intro q
            unfold y_e
            rw [hbit]
            simp only [Bool.not_false, Bool.true_and, Bool.or_eq_true, Bool.and_eq_true, beq_iff_eq]
          by_cases n1 : D.2.1 i 0 = a ∨ D.2.1 i 1 = a
          · -- the other end
            have ho : ∃ q, y_e D.2.1 sh i a q = true ∧ q < D.1 0 ∧ q = (if D.2.1 i 0 = a then D.2.1 i 1 else D.2.1 i 0) ∧ ∀ q', y_e D.2.1 sh i a q' = true → q' = q := by
              by_cases c0 : D.2.1 i 0 = a
              · refine ⟨D.2.1 i 1, (ye _).mpr (.inl ⟨c0, rfl⟩), r1, by rw [if_pos c0], fun q' hq' => ?_⟩
                have := (ye q').mp hq'
                omega
              · refine ⟨D.2.1 i 0, (ye _).mpr (.inr ⟨rfl, by omega⟩), r0, by rw [if_neg c0], fun q' hq' => ?_⟩
                have := (ye q').mp hq'
                omega
            obtain ⟨q, q1, q2, q3, q4⟩ := ho
            have e5 := hW q b (by omega) (by omega)
            have l5 := y_ln_le (F := 100000) (np := D.1 0) (nr := D.1 4) (ro := D.2.1) (sh := sh) q b
            have hbo : ∀ z, bo = some z → z < D.1 0 := by
              intro z hz
              obtain ⟨r, z1, z2, z3⟩ := h1 z hz
              have := dr r (by omega)
              unfold y_e at z2
              simp only [Bool.and_eq_true, Bool.or_eq_true, beq_iff_eq] at z2
              omega
            have run : fX9_nextOf_L28 (nI a) (nI b) s (f + 1) (oI bo) (nI i) = if D.2.1 i 2 + y_ln 100000 (D.1 0) (D.1 4) D.2.1 sh q b = y_ln 100000 (D.1 0) (D.1 4) D.2.1 sh a b then (if oI bo = oI none then fX9_nextOf_L28 (nI a) (nI b) s f (nI q) (nI (i + 1)) else if oI bo ≤ nI q then fX9_nextOf_L28 (nI a) (nI b) s f (oI bo) (nI (i + 1)) else fX9_nextOf_L28 (nI a) (nI b) s f (nI q) (nI (i + 1))) else fX9_nextOf_L28 (nI a) (nI b) s f (oI bo) (nI (i + 1)) := by
              rw [fX9_nextOf_L28]
              by_cases c0 : D.2.1 i 0 = a
              · rw [if_pos c0] at q3
                simp (disch := omega) only [am_lq, b_lq, oI_q, e4, hs, b_le, b_lt, b_t, b_eq, b_mul, am_g_t, c_isBit, hbit, am_rq, b_tf, if_neg, if_pos, if_true, if_false, b_add, j0, j1, j2, e3, ← q3, e5]
              · rw [if_neg c0] at q3
                have c1 : D.2.1 i 1 = a := by omega
                simp (disch := omega) only [am_lq, b_lq, oI_q, e4, hs, b_le, b_lt, b_t, b_eq, b_mul, am_g_t, c_isBit, hbit, am_rq, b_tf, if_neg, if_pos, if_true, if_false, b_add, j0, j1, j2, e3, ← q3, e5]
            by_cases c1 : D.2.1 i 2 + y_ln 100000 (D.1 0) (D.1 4) D.2.1 sh q b = y_ln 100000 (D.1 0) (D.1 4) D.2.1 sh a b
            · rw [if_pos c1] at run
              have take : (∀ z, bo = some z → q < z) → fX9_nextOf_L28 (nI a) (nI b) s (f + 1) (oI bo) (nI i) = fX9_nextOf_L28 (nI a) (nI b) s f (nI q) (nI (i + 1)) → ∃ s', (∃ bo : Option Nat, s' = oI bo ∧ (∀ q, bo = some q → ∃ r, r < i + 1 ∧ y_e D.2.1 sh r a q = true ∧ D.2.1 r 2 + y_ln 100000 (D.1 0) (D.1 4) D.2.1 sh q b = y_ln 100000 (D.1 0) (D.1 4) D.2.1 sh a b) ∧ (∀ q r, r < i + 1 → y_e D.2.1 sh r a q = true → D.2.1 r 2 + y_ln 100000 (D.1 0) (D.1 4) D.2.1 sh q b = y_ln 100000 (D.1 0) (D.1 4) D.2.1 sh a b → ∃ q0, bo = some q0 ∧ q0 ≤ q)) ∧ fX9_nextOf_L28 (nI a) (nI b) s (f + 1) (oI bo) (nI i) = fX9_nextOf_L28 (nI a) (nI b) s f s' (nI (i + 1)) := by
                intro hz hF
                refine ⟨oI (some q), ⟨some q, rfl, fun x hx => ?_, fun x r hr he hs => ?_⟩, hF⟩
                · cases hx
                  exact ⟨i, by omega, q1, c1⟩
                · by_cases e : r = i
                  · rw [e] at he
                    exact ⟨q, rfl, Nat.le_of_eq (q4 x he).symm⟩
                  · obtain ⟨q0, k1, k2⟩ := h2 x r (by omega) he hs
                    have := hz q0 k1
                    exact ⟨q, rfl, by omega⟩
              cases hbb : bo with
              | none =>
                subst hbb
                rw [if_pos rfl] at run
                exact take (fun z hz => by cases hz) run
              | some z =>
                have hz := hbo z hbb
                subst hbb
                simp (disch := omega) only [oI_t, b_nn, if_false, b_le] at run
                rw [← oI_s] at run
                by_cases c2 : z ≤ q
                · rw [if_pos c2] at run
                  exact stay True (fun q' => by
                    by_cases e : y_e D.2.1 sh i a q' = true
                    · exact .inr ⟨z, rfl, by rw [q4 q' e]; exact c2⟩
                    · exact .inl (fun w => e w.1)) run
                · rw [if_neg c2] at run
                  exact take (fun z' hz' => by cases hz'; omega) run
            · rw [if_neg c1] at run
              exact stay True (fun q' => .inl (fun w => by
                have := q4 q' w.1
                rw [this] at w
                exact c1 w.2)) run
          · refine stay True (fun q => .inl (fun z => ?_)) ?_
            · have := (ye q).mp z.1
              omega
            · rw [fX9_nextOf_L28]
              simp (disch := omega) only [am_lq, b_lq, oI_q, e4, hs, b_le, b_lt, b_t, b_eq, b_mul, am_g_t, c_isBit, hbit, am_rq, b_tf, if_neg, if_pos, if_true, if_false, b_add, j0, j1, j2]
      · obtain ⟨bo, rfl, h1, h2⟩ := h
        rw [fX9_nextOf_L28]
        simp (disch := omega) only [am_lq, b_lq, e4, b_le, b_lt, b_t, am_g_t, if_pos, if_true]
        rw [y_rn (by omega) d0 dr c c2 h1 h2]
    · rw [if_neg c2]
      unfold y_N y_nx
      rw [if_pos (.inr (by omega))]
end RK
