/-! WHAT BOTH SIDES HOLD: the march, acts, images, rows, tape, fault; and what keeps it. -/
abbrev m_A := Nat × (Nat → Nat × Nat × Bool)
abbrev m_P := w_D × m_A
def m_an (a : Nat → Nat × Nat × Bool) : Nat → Nat
  | 0 => 0
  | k + 1 => if (a k).1 = 0 then (if (a k).2.2 then w_ins (m_an a k) (a k).2.1 else w_del (m_an a k) (a k).2.1) else m_an a k
def m_ba (a : Nat → Nat × Nat × Bool) : Nat → Nat
  | 0 => 0
  | k + 1 => if (a k).1 = 0 then m_ba a k else (if (a k).2.2 then w_ins (m_ba a k) (a k).2.1 else w_del (m_ba a k) (a k).2.1)
/-- answered, shut now -/
abbrev m_AN (P : m_P) : Nat := m_an P.2.2 P.2.1
abbrev m_BA (P : m_P) : Nat := m_ba P.2.2 P.2.1
def m_PV (P : m_P) : Prop := w_V P.1 ∧ P.2.1 ≤ 40 ∧ ∀ k, k < P.2.1 → (P.2.2 k).2.1 < 10 ∧ ((P.2.2 k).1 = 0 ∨ (P.2.2 k).1 = 1)
theorem m_an_lt {a : Nat → Nat × Nat × Bool} : ∀ {k : Nat}, (∀ j, j < k → (a j).2.1 < 10) → m_an a k < 2 ^ 10
  | 0, _ => (by decide : 0 < 2 ^ 10)
  | k + 1, h => by
    have ih := m_an_lt (a := a) (k := k) (fun j hj => h j (by omega))
    have := h k (by omega)
    unfold m_an
    split
    · split
      · exact w_ins_lt ih this
      · exact Nat.lt_of_le_of_lt (w_del_le _ _) ih
    · exact ih
theorem m_ba_lt {a : Nat → Nat × Nat × Bool} : ∀ {k : Nat}, (∀ j, j < k → (a j).2.1 < 10) → m_ba a k < 2 ^ 10
  | 0, _ => (by decide : 0 < 2 ^ 10)
  | k + 1, h => by
    have ih := m_ba_lt (a := a) (k := k) (fun j hj => h j (by omega))
    have := h k (by omega)
    unfold m_ba
    split
    · exact ih
    · split
      · exact w_ins_lt ih this
      · exact Nat.lt_of_le_of_lt (w_del_le _ _) ih
/-- the march as it is, as a case -/
def m_C (P : m_P) : w_C := (P.1.1 1, P.1.1 2, m_AN P, fun _ => false, fun _ => false, fun _ _ => none, fun _ => y_N P.1 (m_BA P))
theorem m_CK {P : m_P} (h : m_PV P) (hl : 0 < P.1.1 6) : w_CK P.1 (m_C P) := by
  obtain ⟨hV, h40, hk⟩ := h
  have hV' := hV
  obtain ⟨v0, v4, v5, vr, vp, vg, vs, vr2, vo, vl, vz⟩ := hV'
  refine ⟨vs hl, vr2, m_an_lt (fun j hj => (hk j hj).1), fun n p q hq => ?_, fun n a b q hq => ?_⟩
  · cases hq
  · exact (y_nx_lt hq).1
/-- tape: how many, bytes; fault, place; march; images; rows -/
abbrev m_M := (Nat × (Nat → Int32)) × (Nat × Option Nat) × m_P × (Nat → Bool × m_P) × (Nat → Option Nat × Nat × (Nat → Int64))
def m_MV (M : m_M) : Prop := M.1.1 ≤ 800 ∧ M.2.1.1 ≤ 3 ∧ (∀ k, M.2.1.2 = some k → k ≤ 800) ∧ m_PV M.2.2.1 ∧ (∀ k, k < 3 → m_PV (M.2.2.2.1 k).2) ∧ ∀ j, j < 4 → ((M.2.2.2.2 j).2.1 ≤ 60 ∧ ∀ w, (M.2.2.2.2 j).1 = some w → w < 4)
/-- plan at op, acts at oa -/
def c_PA (op oa : Nat) (P : m_P) (s : AS) : Prop := c_PL op P.1 s ∧ s.1 oa 0 = nI P.2.1 ∧ s.1 oa 1 = nI (m_AN P) ∧ s.1 oa 2 = nI (m_BA P) ∧ ∀ k, k < P.2.1 → s.1 (oa + 1) k = nI (m_an P.2.2 k) ∧ s.1 (oa + 2) k = nI (m_ba P.2.2 k)
/-- the class holds M (but for what it has told) -/
def c_I0 (M : m_M) (s : AS) : Prop := p_CT M.1.1 M.1.2 s ∧ (s.1 1 0 = nI M.2.1.1 ∧ s.1 1 1 = oI M.2.1.2) ∧ c_PA 25 47 M.2.2.1 s ∧ (∀ k, k < 3 → s.1 (51 + 26 * k) 0 = nI (M.2.2.2.1 k).1.toNat ∧ c_PA (52 + 26 * k) (74 + 26 * k) (M.2.2.2.1 k).2 s) ∧ ∀ j, j < 4 → (s.1 (130 + 2 * j) 0 = nI (M.2.2.2.2 j).1.isSome.toNat ∧ (∀ w, (M.2.2.2.2 j).1 = some w → s.1 (130 + 2 * j) 1 = nI w ∧ s.1 (130 + 2 * j) 2 = nI (M.2.2.2.2 j).2.1 ∧ ∀ i, i < (M.2.2.2.2 j).2.1 → s.2 (131 + 2 * j) i = (M.2.2.2.2 j).2.2 i))
/-- what is told is so -/
def c_T (P : m_P) (s : AS) : Prop := c_WY 138 P.1 (m_BA P) s ∧ c_GI 163 P.1 (m_C P) 61 s
def c_I (M : m_M) (s : AS) : Prop := c_I0 M s ∧ (s.1 0 8 = nI 0 ∨ (s.1 0 8 = nI 1 ∧ c_T M.2.2.1 s ∧ 0 < M.2.2.1.1.1 6))
/-- the reference's march in block b is P -/
def r_PA (b : Nat) (P : m_P) (s : AS) : Prop := (∀ j, j < 6 → s.1 222 (7 * b + j) = nI (P.1.1 j)) ∧ (∀ r j, r < P.1.1 4 → j < 3 → s.1 223 (30 * b + (3 * r + j)) = nI (P.1.2.1 r j)) ∧ (∀ p j, p < P.1.1 5 → j < 5 → s.1 224 (40 * b + (5 * p + j)) = nI (P.1.2.2.1 p j)) ∧ (∀ k, k < 6 → s.1 225 (6 * b + k) = nI (P.1.2.2.2 k)) ∧ s.1 221 b = nI (P.1.1 6) ∧ s.1 222 (7 * b + 6) = nI P.2.1 ∧ ∀ k, k < P.2.1 → s.1 226 (120 * b + 3 * k) = nI (P.2.2 k).1 ∧ s.1 226 (120 * b + (3 * k + 1)) = nI (P.2.2 k).2.1 ∧ s.1 226 (120 * b + (3 * k + 2)) = nI (P.2.2 k).2.2.toNat
def r_I (M : m_M) (s : AS) : Prop := p_RT M.1.1 M.1.2 s ∧ (s.1 215 14 = nI M.2.1.1 ∧ s.1 215 15 = oI M.2.1.2) ∧ r_PA 0 M.2.2.1 s ∧ (∀ k, k < 3 → s.1 227 k = nI (M.2.2.2.1 k).1.toNat ∧ r_PA (1 + k) (M.2.2.2.1 k).2 s) ∧ ∀ j, j < 4 → (s.1 216 j = oI (M.2.2.2.2 j).1 ∧ (∀ w, (M.2.2.2.2 j).1 = some w → s.1 217 j = nI (M.2.2.2.2 j).2.1 ∧ ∀ i, i < (M.2.2.2.2 j).2.1 → s.2 218 (60 * j + i) = (M.2.2.2.2 j).2.2 i))
/-- the class writes nothing of the reference's, and the other way about -/
def c_F (s t : AS) : Prop := ∀ c, 215 ≤ c → t.1 c = s.1 c ∧ t.2 c = s.2 c
def r_F (s t : AS) : Prop := ∀ c, c < 215 → t.1 c = s.1 c ∧ t.2 c = s.2 c
theorem c_F_tr {s t u : AS} (h : c_F s t) (k : c_F t u) : c_F s u := fun c hc => ⟨(k c hc).1.trans (h c hc).1, (k c hc).2.trans (h c hc).2⟩
theorem r_F_tr {s t u : AS} (h : r_F s t) (k : r_F t u) : r_F s u := fun c hc => ⟨(k c hc).1.trans (h c hc).1, (k c hc).2.trans (h c hc).2⟩
/-- only working rows of the class are written -/
def c_mv (s t : AS) : Prop := (∀ c, (0 < c ∧ c < 138) ∨ 215 ≤ c → t.1 c = s.1 c) ∧ (∀ k, k ≠ 8 → t.1 0 k = s.1 0 k) ∧ ∀ c, c ≠ 172 → t.2 c = s.2 c
/-- only what serves what would be is written -/
def c_mw (s t : AS) : Prop := (∀ c, c < 172 ∨ 215 ≤ c → t.1 c = s.1 c) ∧ ∀ c, c ≠ 172 → t.2 c = s.2 c
theorem c_mw_tr {s t u : AS} (h : c_mw s t) (k : c_mw t u) : c_mw s u := ⟨fun c hc => (k.1 c hc).trans (h.1 c hc), fun c hc => (k.2 c hc).trans (h.2 c hc)⟩
theorem c_mw_refl (s : AS) : c_mw s s := ⟨fun _ _ => rfl, fun _ _ => rfl⟩
theorem c_mw_fr {R : Nat → Prop} {s t : AS} (h : fr R s t) (k : ∀ c, R c → 172 ≤ c ∧ c < 215) : c_mw s t := ⟨fun c hc => h.2 c (fun z => by have := k c z; omega), fun c _ => by rw [h.1]⟩
theorem c_mw_mv {s t : AS} (h : c_mw s t) : c_mv s t := ⟨fun c hc => h.1 c (by omega), fun k _ => by rw [h.1 0 (by omega)], h.2⟩
theorem c_mv_tr {s t u : AS} (h : c_mv s t) (k : c_mv t u) : c_mv s u := ⟨fun c hc => (k.1 c hc).trans (h.1 c hc), fun c hc => (k.2.1 c hc).trans (h.2.1 c hc), fun c hc => (k.2.2 c hc).trans (h.2.2 c hc)⟩
theorem c_mv_fr {R : Nat → Prop} {s t : AS} (h : fr R s t) (k : ∀ c, R c → 138 ≤ c ∧ c < 215) : c_mv s t := ⟨fun c hc => h.2 c (fun z => by have := k c z; omega), fun j _ => by rw [h.2 0 (fun z => by have := k 0 z; omega)], fun c _ => by rw [h.1]⟩
theorem c_mv_F {s t : AS} (h : c_mv s t) : c_F s t := fun c hc => ⟨h.1 c (by omega), h.2.2 c (by omega)⟩
theorem c_mw_F {s t : AS} (h : c_mw s t) : c_F s t := c_mv_F (c_mw_mv h)
theorem c_PA_eq {op oa : Nat} {P : m_P} {s t : AS} (h : c_PA op oa P s) (hV : m_PV P) (h1 : ∀ c, op ≤ c → c < op + 22 → t.1 c = s.1 c) (h2 : ∀ c, oa ≤ c → c < oa + 3 → t.1 c = s.1 c) : c_PA op oa P t := by
  obtain ⟨a1, a2, a3, a4, a5⟩ := h
  refine ⟨?_, by rw [h2 _ (by omega) (by omega)]; exact a2, by rw [h2 _ (by omega) (by omega)]; exact a3, by rw [h2 _ (by omega) (by omega)]; exact a4, fun k hk => ?_⟩
  · have v4 := hV.1.2.1
    have v5 := hV.1.2.2.1
    obtain ⟨b1, b2, b3, b4, b5⟩ := a1
    refine ⟨fun j hj => ?_, fun r j hr hj => ?_, fun p j hp hj => ?_, fun j hj => ?_, ?_⟩
    · rw [h1 op (by omega) (by omega)]; exact b1 j hj
    · rw [h1 _ (by omega) (by omega)]; exact b2 r j hr hj
    · rw [h1 _ (by omega) (by omega)]; exact b3 p j hp hj
    · rw [h1 _ (by omega) (by omega)]; exact b4 j hj
    · rw [h1 op (by omega) (by omega)]; exact b5
  · rw [h2 _ (by omega) (by omega), h2 _ (by omega) (by omega)]
    exact a5 k hk
theorem c_I0_mv {M : m_M} {s t : AS} (hV : m_MV M) (h : c_I0 M s) (k : c_mv s t) : c_I0 M t := by
  obtain ⟨h1, h2, h3, h4, h5⟩ := h
  obtain ⟨v1, v2, v3, v4, v5, v6⟩ := hV
  refine ⟨⟨?_, fun i => ?_⟩, ⟨?_, ?_⟩, ?_, fun j hj => ⟨?_, ?_⟩, fun j hj => ⟨?_, fun w hw => ⟨?_, ?_, fun i hi => ?_⟩⟩⟩
  · rw [k.2.1 _ (by omega)]; exact h1.1
  · rw [k.1 _ (by omega)]; exact h1.2 i
  · rw [k.1 _ (by omega)]; exact h2.1
  · rw [k.1 _ (by omega)]; exact h2.2
  · exact c_PA_eq h3 v4 (fun c _ _ => k.1 c (by omega)) (fun c _ _ => k.1 c (by omega))
  · rw [k.1 _ (by omega)]; exact (h4 j hj).1
  · exact c_PA_eq (h4 j hj).2 (v5 j hj) (fun c _ _ => k.1 c (by omega)) (fun c _ _ => k.1 c (by omega))
  · rw [k.1 _ (by omega)]; exact (h5 j hj).1
  · rw [k.1 _ (by omega)]; exact ((h5 j hj).2 w hw).1
  · rw [k.1 _ (by omega)]; exact ((h5 j hj).2 w hw).2.1
  · rw [k.2.2 _ (by omega)]; exact ((h5 j hj).2 w hw).2.2 i hi
theorem c_WY_eq {v sh : Nat} {D : w_D} {s t : AS} (hD : w_V D) (h : c_WY v D sh s) (k : ∀ c, v ≤ c → c < v + 25 → t.1 c = s.1 c) : c_WY v D sh t := by
  have d0 := hD.1
  obtain ⟨a1, a2, a3, a4⟩ := h
  refine ⟨?_, fun a b ha hb => ?_, fun a b ha hb => ?_, fun a b ha hb => ?_⟩
  · rw [k _ (by omega) (by omega)]; exact a1
  · rw [k _ (by omega) (by omega)]; exact a2 a b ha hb
  · rw [k _ (by omega) (by omega)]; exact a3 a b ha hb
  · rw [k _ (by omega) (by omega)]; exact a4 a b ha hb
theorem c_GI_eq {o n : Nat} {D : w_D} {C : w_C} {s t : AS} (h : c_GI o D C n s) (k : ∀ c, o ≤ c → c < o + 9 → t.1 c = s.1 c) : c_GI o D C n t := by
  obtain ⟨a1, a2, a3, a4, a5, a6, a7⟩ := h
  refine ⟨c_WS_fr a1 (fun j _ _ => by rw [k o (by omega) (by omega)]) (k _ (by omega) (by omega)) (k _ (by omega) (by omega)) (k _ (by omega) (by omega)), fun j hj => ?_, fun j hj => ?_, fun j hj => ?_, ?_, ?_, ?_⟩
  · rw [k _ (by omega) (by omega)]; exact a2 j hj
  · rw [k _ (by omega) (by omega)]; exact a3 j hj
  · rw [k _ (by omega) (by omega)]; exact a4 j hj
  · rw [k _ (by omega) (by omega)]; exact a5
  · rw [k _ (by omega) (by omega)]; exact a6
  · rw [k _ (by omega) (by omega)]; exact a7
theorem c_T_mw {P : m_P} {s t : AS} (hV : m_PV P) (h : c_T P s) (k : c_mw s t) : c_T P t := ⟨c_WY_eq hV.1 h.1 (fun c _ _ => k.1 c (by omega)), c_GI_eq h.2 (fun c _ _ => k.1 c (by omega))⟩
theorem c_I_mw {M : m_M} {s t : AS} (hV : m_MV M) (h : c_I M s) (k : c_mw s t) : c_I M t := by
  refine ⟨c_I0_mv hV h.1 (c_mw_mv k), ?_⟩
  rw [k.1 0 (by omega)]
  rcases h.2 with q | q
  · exact .inl q
  · exact .inr ⟨q.1, c_T_mw hV.2.2.2.1 q.2.1 k, q.2.2⟩
/-- only working cells of the reference are written -/
def r_mv (s t : AS) : Prop := r_F s t ∧ (∀ c, 216 ≤ c → c < 228 → t.1 c = s.1 c) ∧ (∀ k, 0 < k → k < 23 → t.1 215 k = s.1 215 k) ∧ ∀ c, c ≠ 215 → t.2 c = s.2 c
theorem r_mv_refl (s : AS) : r_mv s s := ⟨fun _ _ => ⟨rfl, rfl⟩, fun _ _ _ => rfl, fun _ _ _ => rfl, fun _ _ => rfl⟩
theorem r_mv_tr {s t u : AS} (h : r_mv s t) (k : r_mv t u) : r_mv s u := ⟨r_F_tr h.1 k.1, fun c h1 h2 => (k.2.1 c h1 h2).trans (h.2.1 c h1 h2), fun c h1 h2 => (k.2.2.1 c h1 h2).trans (h.2.2.1 c h1 h2), fun c h1 => (k.2.2.2 c h1).trans (h.2.2.2 c h1)⟩
theorem r_mv_si {s t : AS} (h : r_mv s t) {k : Nat} (x : Int32) (hk : k = 0 ∨ 23 ≤ k) : r_mv s (am_si t 215 k x) := ⟨fun c hc => ⟨by rw [r_so _ _ _ (by omega)]; exact (h.1 c hc).1, (h.1 c hc).2⟩, fun c h1 h2 => by rw [r_so _ _ _ (by omega)]; exact h.2.1 c h1 h2, fun j h1 h2 => by rw [r_si, r_uo _ _ (by omega)]; exact h.2.2.1 j h1 h2, h.2.2.2⟩
theorem r_mv_sr {s t : AS} (h : r_mv s t) {c k : Nat} (x : Int32) (hc : 228 ≤ c) : r_mv s (am_si t c k x) := ⟨fun c hc => ⟨by rw [r_so _ _ _ (by omega)]; exact (h.1 c hc).1, (h.1 c hc).2⟩, fun c h1 h2 => by rw [r_so _ _ _ (by omega)]; exact h.2.1 c h1 h2, fun j h1 h2 => by rw [r_so _ _ _ (by omega)]; exact h.2.2.1 j h1 h2, h.2.2.2⟩
theorem r_mv_sj {s t : AS} (h : r_mv s t) {k : Nat} (x : Int64) : r_mv s (am_sj t 215 k x) := ⟨fun c hc => ⟨(h.1 c hc).1, by rw [r_jo _ _ _ (by omega)]; exact (h.1 c hc).2⟩, h.2.1, h.2.2.1, fun c hc => by rw [r_jo _ _ _ hc]; exact h.2.2.2 c hc⟩
theorem r_mv_runs {s t u : AS} (h : r_mv s t) (k1 : fr r_RG t u) (k2 : r_fx t u) : r_mv s u := r_mv_tr h ⟨fun c hc => ⟨k1.2 c (by omega), by rw [k1.1]⟩, fun c h1 h2 => k1.2 c (by omega), fun k h1 h2 => k2 k (by omega) (by omega), fun c hc => by rw [k1.1]⟩
theorem r_PA_eq {b : Nat} {P : m_P} {s t : AS} (h : r_PA b P s) (k : ∀ c, 221 ≤ c → c < 227 → t.1 c = s.1 c) : r_PA b P t := by
  obtain ⟨a1, a2, a3, a4, a5, a6, a7⟩ := h
  unfold r_PA
  rw [k 221 (by omega) (by omega), k 222 (by omega) (by omega), k 223 (by omega) (by omega), k 224 (by omega) (by omega), k 225 (by omega) (by omega), k 226 (by omega) (by omega)]
  exact ⟨a1, a2, a3, a4, a5, a6, a7⟩
theorem r_PA_PL {P : m_P} {s : AS} (h : r_PA 0 P s) : r_PL P.1 s := by
  obtain ⟨a1, a2, a3, a4, a5, a6, a7⟩ := h
  simp only [Nat.mul_zero, Nat.zero_add] at a1 a2 a3 a4
  exact ⟨a1, a2, a3, a4, a5⟩
theorem r_I_mv {M : m_M} {s t : AS} (h : r_I M s) (k : r_mv s t) : r_I M t := by
  obtain ⟨h1, h2, h3, h4, h5⟩ := h
  refine ⟨⟨?_, fun i => ?_⟩, ⟨?_, ?_⟩, ?_, fun j hj => ⟨?_, ?_⟩, fun j hj => ⟨?_, fun w hw => ⟨?_, fun i hi => ?_⟩⟩⟩
  · rw [k.2.2.1 _ (by omega) (by omega)]; exact h1.1
  · rw [k.2.1 _ (by omega) (by omega)]; exact h1.2 i
  · rw [k.2.2.1 _ (by omega) (by omega)]; exact h2.1
  · rw [k.2.2.1 _ (by omega) (by omega)]; exact h2.2
  · exact r_PA_eq h3 (fun c h1 h2 => k.2.1 c (by omega) (by omega))
  · rw [k.2.1 _ (by omega) (by omega)]; exact (h4 j hj).1
  · exact r_PA_eq (h4 j hj).2 (fun c h1 h2 => k.2.1 c (by omega) (by omega))
  · rw [k.2.1 _ (by omega) (by omega)]; exact (h5 j hj).1
  · rw [k.2.1 _ (by omega) (by omega)]; exact ((h5 j hj).2 w hw).1
  · rw [k.2.2.2 _ (by omega)]; exact ((h5 j hj).2 w hw).2 i hi
/-- either side keeps what it holds while the other one works -/
theorem c_I_F {M : m_M} {s t : AS} (hV : m_MV M) (h : c_I M s) (k : r_F s t) : c_I M t := by
  have e1 : ∀ c, c < 215 → t.1 c = s.1 c := fun c hc => (k c hc).1
  have e2 : ∀ c, c < 215 → t.2 c = s.2 c := fun c hc => (k c hc).2
  obtain ⟨⟨h1, h2, h3, h4, h5⟩, h6⟩ := h
  obtain ⟨v1, v2, v3, v4, v5, v6⟩ := hV
  refine ⟨⟨⟨?_, fun i => ?_⟩, ⟨?_, ?_⟩, ?_, fun j hj => ⟨?_, ?_⟩, fun j hj => ⟨?_, fun w hw => ⟨?_, ?_, fun i hi => ?_⟩⟩⟩, ?_⟩
  · rw [e1 _ (by omega)]; exact h1.1
  · rw [e1 _ (by omega)]; exact h1.2 i
  · rw [e1 _ (by omega)]; exact h2.1
  · rw [e1 _ (by omega)]; exact h2.2
  · exact c_PA_eq h3 v4 (fun c _ _ => e1 c (by omega)) (fun c _ _ => e1 c (by omega))
  · rw [e1 _ (by omega)]; exact (h4 j hj).1
  · exact c_PA_eq (h4 j hj).2 (v5 j hj) (fun c _ _ => e1 c (by omega)) (fun c _ _ => e1 c (by omega))
  · rw [e1 _ (by omega)]; exact (h5 j hj).1
  · rw [e1 _ (by omega)]; exact ((h5 j hj).2 w hw).1
  · rw [e1 _ (by omega)]; exact ((h5 j hj).2 w hw).2.1
  · rw [e2 _ (by omega)]; exact ((h5 j hj).2 w hw).2.2 i hi
  · rw [e1 0 (by omega)]
    rcases h6 with q | q
    · exact .inl q
    · exact .inr ⟨q.1, ⟨c_WY_eq v4.1 q.2.1.1 (fun c _ _ => e1 c (by omega)), c_GI_eq q.2.1.2 (fun c _ _ => e1 c (by omega))⟩, q.2.2⟩
theorem r_I_F {M : m_M} {s t : AS} (h : r_I M s) (k : c_F s t) : r_I M t := by
  have e1 : ∀ c, 215 ≤ c → t.1 c = s.1 c := fun c hc => (k c hc).1
  have e2 : ∀ c, 215 ≤ c → t.2 c = s.2 c := fun c hc => (k c hc).2
  refine r_I_mv (t := t) (s := (fun c => if c < 215 then t.1 c else s.1 c, fun c => if c < 215 then t.2 c else s.2 c)) ?_ ⟨fun c hc => ⟨by dsimp only; rw [if_pos hc], by dsimp only; rw [if_pos hc]⟩, fun c h1 h2 => by dsimp only; rw [if_neg (by omega), e1 c (by omega)], fun j h1 h2 => by dsimp only; rw [if_neg (by omega), e1 _ (by omega)], fun c hc => by
    dsimp only
    by_cases c2 : c < 215
    · rw [if_pos c2]
    · rw [if_neg c2, e2 c (by omega)]⟩
  exact h
