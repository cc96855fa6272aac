/-! ROWS READ: what was seen, and whether it is so. -/
def m_al (ok : Nat → Bool) : Nat → Bool
  | 0 => true
  | k + 1 => m_al ok k && ok k
theorem m_al_s (ok : Nat → Bool) (k : Nat) : m_al ok (k + 1) = (m_al ok k && ok k) := Eq.trans rfl rfl
theorem m_al_t {ok : Nat → Bool} : ∀ {k : Nat}, m_al ok k = true ↔ ∀ i, i < k → ok i = true
  | 0 => ⟨fun _ i hi => by omega, fun _ => rfl⟩
  | k + 1 => by
    rw [m_al_s, Bool.and_eq_true, m_al_t]
    refine ⟨fun h i hi => ?_, fun h => ⟨fun i hi => h i (by omega), h k (by omega)⟩⟩
    by_cases e : i = k
    · rw [e]; exact h.2
    · exact h.1 i (by omega)
theorem m_al_f {ok : Nat → Bool} {i k : Nat} (h : i < k) (h2 : ok i = false) : m_al ok k = false := by
  cases e : m_al ok k with
  | false => rfl
  | true => rw [m_al_t.mp e i h] at h2; cases h2
def m_bs (ok : Nat → Bool) : Nat → Nat
  | 0 => 0
  | k + 1 => if ok k then w_ins (m_bs ok k) k else m_bs ok k
theorem m_bs_s (ok : Nat → Bool) (k : Nat) : m_bs ok (k + 1) = if ok k then w_ins (m_bs ok k) k else m_bs ok k := Eq.trans rfl rfl
theorem m_bs_lt (ok : Nat → Bool) {n : Nat} : ∀ k, k ≤ n → m_bs ok k < 2 ^ n
  | 0, _ => Nat.two_pow_pos n
  | k + 1, h => by
    have ih := m_bs_lt ok (n := n) k (by omega)
    rw [m_bs_s]
    split
    · exact w_ins_lt ih (by omega)
    · exact ih
theorem m_bs_t (ok : Nat → Bool) (i : Nat) : ∀ k, (m_bs ok k).testBit i = (decide (i < k) && ok i)
  | 0 => by simp [m_bs]
  | k + 1 => by
    have ih := m_bs_t ok i k
    rw [m_bs_s]
    by_cases e : i = k
    · subst e
      cases h : ok i with
      | true => rw [if_pos rfl, w_ins_t, ih]; simp
      | false => rw [if_neg (by simp), ih, h]; simp
    · have e1 : decide (i < k + 1) = decide (i < k) := decide_eq_decide.mpr (by omega)
      have e2 : decide (k = i) = false := decide_eq_false (fun z => e z.symm)
      rw [e1]
      split
      · rw [w_ins_t, ih, e2, Bool.or_false]
      · exact ih
theorem j_lt (x y : Int64) : (lg_cmp x y < nI 0) = (x < y) := propext (lg_cmp_lt x y)
theorem j_le (x y : Int64) : (lg_cmp x y ≤ nI 0) = (x ≤ y) := propext (lg_cmp_le x y)
theorem j_ge (x y : Int64) : (nI 0 ≤ lg_cmp x y) = (y ≤ x) := propext (lg_cmp_ge x y)
theorem j_gt (x y : Int64) : (nI 0 < lg_cmp x y) = (y < x) := propext (lg_cmp_gt x y)
theorem j_eq (x y : Int64) : (lg_cmp x y = nI 0) = (x = y) := propext (lg_cmp_eq x y)
theorem j_toI {k : Nat} (hk : k < 2147483648) : (nI k).toInt64.toInt = k := by rw [Int32.toInt_toInt64, b_toI hk]
theorem j_0 : (0 : Int64).toInt = 0 := by decide
theorem j_in {x : Int64} {n : Nat} (hn : n ≤ 2000000001) (h0 : ¬ x < 0) (h1 : ¬ (nI n).toInt64 ≤ x) : ∃ k, k < n ∧ x.toInt32 = nI k := by
  have h2 := Int64.le_iff_toInt_le.mp (Int64.not_lt.mp h0)
  have h3 := Int64.lt_iff_toInt_lt.mp (Int64.not_le.mp h1)
  rw [j_0] at h2
  rw [j_toI (by omega)] at h3
  refine ⟨x.toInt.toNat, by omega, ?_⟩
  apply Int32.toInt_inj.mp
  rw [b_toI (by omega), Int64.toInt_toInt32, Int.bmod_eq_of_le (by simp; omega) (by simp; omega)]
  omega
theorem j_sub {x : Int64} {n : Nat} (hn : n ≤ 2000000001) : (x ≤ (nI n).toInt64 - 1) = ¬ (nI n).toInt64 ≤ x := by
  have e : ((nI n).toInt64 - 1 : Int64).toInt = (n : Int) - 1 := by
    rw [Int64.toInt_sub, j_toI (by omega)]
    exact Int.bmod_eq_of_le (by simp; omega) (by simp; omega)
  rw [Int64.not_le, Int64.le_iff_toInt_le, Int64.lt_iff_toInt_lt, e, j_toI (by omega)]
  apply propext
  omega
theorem b_m2 : ∀ n, n < 61 → nI n - nI n / nI 2 * nI 2 = nI (n % 2) := by decide +kernel
theorem b_and1 (b c : Bool) : nI b.toNat &&& nI c.toNat = nI (b && c).toNat := by cases b <;> cases c <;> decide
theorem m_if4 {α : Type} {p q r u : Prop} [Decidable p] [Decidable q] [Decidable r] [Decidable u] {x y : α} : (if p then y else if q then y else if r then y else if u then x else y) = if decide (¬ p ∧ ¬ q ∧ ¬ r ∧ u) then x else y := by
  by_cases a : p <;> by_cases b : q <;> by_cases c : r <;> by_cases d : u <;> simp [a, b, c, d]
/-- a row of persons and steps; of steps and places -/
def m_of (D : w_D) (f : Nat → Int64) (i : Nat) : Bool := decide (¬ f (i + i) < 0 ∧ ¬ (nI (D.1 5)).toInt64 ≤ f (i + i) ∧ ¬ f (i + i + 1) < -1 ∧ f (i + i + 1) ≤ 60)
def m_op (D : w_D) (f : Nat → Int64) (i : Nat) : Bool := decide (¬ f (i + i) < 0 ∧ ¬ (60 : Int64) < f (i + i) ∧ ¬ f (i + i + 1) < -1 ∧ f (i + i + 1) < (nI (D.1 0)).toInt64)
abbrev m_tf (D : w_D) (x : Option Nat × Nat × (Nat → Int64)) : Bool := decide (x.2.1 % 2 = 0) && m_al (m_of D x.2.2) (x.2.1 / 2)
abbrev m_tpp (D : w_D) (x : Option Nat × Nat × (Nat → Int64)) : Bool := decide (x.2.1 % 2 = 0) && m_al (m_op D x.2.2) (x.2.1 / 2)
/-- what is seen is so -/
def m_ae (g : Nat → Option Nat) (f : Nat → Int64) (i : Nat) : Bool := decide ((oI (g (f (i + i)).toInt32.toNatClampNeg)).toInt64 = f (i + i + 1))
section RQ
variable {D : w_D} {n : Nat} {f : Nat → Int64} {s : AS} {o j : Nat} {g : Nat → Option Nat}
theorem c_tellsFalls (hn : n ≤ 60) (x2 : s.1 o 2 = nI n) (x3 : ∀ i, i < n → s.2 (o + 1) i = f i) (e6 : s.1 25 6 = nI (D.1 5)) : fX8_tellsFalls s o = some (nI (decide (n % 2 = 0) && m_al (m_of D f) (n / 2)).toNat) := by
  unfold fX8_tellsFalls
  simp (disch := omega) only [↓am_lq, b_lq, b_eq, am_g_t, x2, b_m2]
  by_cases c : n % 2 = 0
  · have key : fX8_tellsFalls_L13 o s (some (nI 0)) am_fu (nI 0 + nI 0) = some (nI (m_al (m_of D f) (n / 2)).toNat) := by
      refine sp_lq (fun g (_ : Unit) i => fX8_tellsFalls_L13 o s (some (nI 0)) g (i + i)) (n / 2) (fun i _ => m_al (m_of D f) i = true) (fun r => r = some (nI (m_al (m_of D f) (n / 2)).toNat)) (fun g i x hi hx => ?_) (fun g x hx => ?_) () rfl am_fu (am_fu_gt (by omega))
      · have y1 := x3 (i + i) (by omega)
        have y2 := x3 (i + i + 1) (by omega)
        have e : i + 1 + (i + 1) = i + i + 2 := by omega
        have q : (fX8_tellsFalls_L13 o s (some (nI 0)) (g + 1) (nI i + nI i)) = if m_of D f i then fX8_tellsFalls_L13 o s (some (nI 0)) g (nI (i + 1) + nI (i + 1)) else some (nI 0) := by
          rw [fX8_tellsFalls_L13]
          simp (disch := omega) only [↓am_lq, b_lq, b_add, b_le, b_lt, b_t, am_g_t, x2, y1, y2, e6, e, j_lt, j_ge, j_le, m_if4, if_neg]
          rfl
        try dsimp only
        rw [q]
        cases h : m_of D f i with
        | true => exact .inl ⟨(), by rw [m_al_s, hx, h]; rfl, rfl⟩
        | false => exact .inr (by rw [m_al_f hi h]; rfl)
      · try dsimp only
        rw [fX8_tellsFalls_L13, hx]
        simp (disch := omega) only [b_lq, b_add, b_le, x2, if_pos]
        rfl
    rw [if_pos c, decide_eq_true c, Bool.true_and]
    rw [b_add] at key
    exact key
  · rw [if_neg c, decide_eq_false c]; rfl
theorem c_tellsPlaces (hn : n ≤ 60) (x2 : s.1 o 2 = nI n) (x3 : ∀ i, i < n → s.2 (o + 1) i = f i) (e6 : s.1 25 1 = nI (D.1 0)) : fX8_tellsPlaces s o = some (nI (decide (n % 2 = 0) && m_al (m_op D f) (n / 2)).toNat) := by
  unfold fX8_tellsPlaces
  simp (disch := omega) only [↓am_lq, b_lq, b_eq, am_g_t, x2, b_m2]
  by_cases c : n % 2 = 0
  · have key : fX8_tellsPlaces_L13 o s (some (nI 0)) am_fu (nI 0 + nI 0) = some (nI (m_al (m_op D f) (n / 2)).toNat) := by
      refine sp_lq (fun g (_ : Unit) i => fX8_tellsPlaces_L13 o s (some (nI 0)) g (i + i)) (n / 2) (fun i _ => m_al (m_op D f) i = true) (fun r => r = some (nI (m_al (m_op D f) (n / 2)).toNat)) (fun g i x hi hx => ?_) (fun g x hx => ?_) () rfl am_fu (am_fu_gt (by omega))
      · have y1 := x3 (i + i) (by omega)
        have y2 := x3 (i + i + 1) (by omega)
        have e : i + 1 + (i + 1) = i + i + 2 := by omega
        have q : (fX8_tellsPlaces_L13 o s (some (nI 0)) (g + 1) (nI i + nI i)) = if m_op D f i then fX8_tellsPlaces_L13 o s (some (nI 0)) g (nI (i + 1) + nI (i + 1)) else some (nI 0) := by
          rw [fX8_tellsPlaces_L13]
          simp (disch := omega) only [↓am_lq, b_lq, b_add, b_le, b_lt, b_t, am_g_t, x2, y1, y2, e6, e, j_lt, j_gt, j_le, m_if4, if_neg]
          rfl
        try dsimp only
        rw [q]
        cases h : m_op D f i with
        | true => exact .inl ⟨(), by rw [m_al_s, hx, h]; rfl, rfl⟩
        | false => exact .inr (by rw [m_al_f hi h]; rfl)
      · try dsimp only
        rw [fX8_tellsPlaces_L13, hx]
        simp (disch := omega) only [b_lq, b_add, b_le, x2, if_pos]
        rfl
    rw [if_pos c, decide_eq_true c, Bool.true_and]
    rw [b_add] at key
    exact key
  · rw [if_neg c, decide_eq_false c]; rfl
theorem c_agreesF (hn : n ≤ 60) (hp : n % 2 = 0) (v5 : D.1 5 ≤ 8) (x2 : s.1 o 2 = nI n) (x3 : ∀ i, i < n → s.2 (o + 1) i = f i) (he : ∀ k, k < D.1 5 → fX8_isPerson s (nI k) = some (nI 1)) (hg : ∀ p, p < 8 → s.1 202 p = oI (g p)) (ht : m_al (m_of D f) (n / 2) = true) : fX8_agreesOnFalls s o = some (nI (m_al (m_ae g f) (n / 2)).toNat) := by
  unfold fX8_agreesOnFalls
  simp (disch := omega) only [↓am_lq, b_lq]
  have key : fX8_agreesOnFalls_L2 o s (some (nI 0)) am_fu (nI 0 + nI 0) = some (nI (m_al (m_ae g f) (n / 2)).toNat) := by
    refine sp_lq (fun h (_ : Unit) i => fX8_agreesOnFalls_L2 o s (some (nI 0)) h (i + i)) (n / 2) (fun i _ => m_al (m_ae g f) i = true) (fun r => r = some (nI (m_al (m_ae g f) (n / 2)).toNat)) (fun h i x hi hx => ?_) (fun h x hx => ?_) () rfl am_fu (am_fu_gt (by omega))
    · have y1 := x3 (i + i) (by omega)
      have y2 := x3 (i + i + 1) (by omega)
      have e : i + 1 + (i + 1) = i + i + 2 := by omega
      obtain ⟨h1, h2, h3, h4⟩ := of_decide_eq_true (m_al_t.mp ht i hi)
      obtain ⟨k, hk, hk2⟩ := j_in (by omega) h1 h2
      have y3 := hg k (by omega)
      have q : (fX8_agreesOnFalls_L2 o s (some (nI 0)) (h + 1) (nI i + nI i)) = if m_ae g f i then fX8_agreesOnFalls_L2 o s (some (nI 0)) h (nI (i + 1) + nI (i + 1)) else some (nI 0) := by
        rw [fX8_agreesOnFalls_L2]
        unfold m_ae
        simp (disch := omega) only [↓am_lq, b_lq, b_add, b_le, b_lt, b_t, b_eq, am_g_t, x2, y1, y2, y3, hk2, he k hk, am_rq, e, j_eq, if_neg, decide_eq_true_eq]
      try dsimp only
      rw [q]
      cases h : m_ae g f i with
      | true => exact .inl ⟨(), by rw [m_al_s, hx, h]; rfl, rfl⟩
      | false => exact .inr (by rw [m_al_f hi h]; rfl)
    · try dsimp only
      rw [fX8_agreesOnFalls_L2, hx]
      simp (disch := omega) only [b_lq, b_add, b_le, x2, if_pos]
      rfl
  rw [b_add] at key
  exact key
theorem c_agreesP (hn : n ≤ 60) (hp : n % 2 = 0) (x2 : s.1 o 2 = nI n) (x3 : ∀ i, i < n → s.2 (o + 1) i = f i) (he : ∀ k, k < 61 → fX8_isStep s (nI k) = some (nI 1)) (hg : ∀ p, p < 61 → s.1 199 p = oI (g p)) (ht : m_al (m_op D f) (n / 2) = true) : fX8_agreesOnPlaces s o = some (nI (m_al (m_ae g f) (n / 2)).toNat) := by
  unfold fX8_agreesOnPlaces
  simp (disch := omega) only [↓am_lq, b_lq]
  have key : fX8_agreesOnPlaces_L2 o s (some (nI 0)) am_fu (nI 0 + nI 0) = some (nI (m_al (m_ae g f) (n / 2)).toNat) := by
    refine sp_lq (fun h (_ : Unit) i => fX8_agreesOnPlaces_L2 o s (some (nI 0)) h (i + i)) (n / 2) (fun i _ => m_al (m_ae g f) i = true) (fun r => r = some (nI (m_al (m_ae g f) (n / 2)).toNat)) (fun h i x hi hx => ?_) (fun h x hx => ?_) () rfl am_fu (am_fu_gt (by omega))
    · have y1 := x3 (i + i) (by omega)
      have y2 := x3 (i + i + 1) (by omega)
      have e : i + 1 + (i + 1) = i + i + 2 := by omega
      obtain ⟨h1, h2, h3, h4⟩ := of_decide_eq_true (m_al_t.mp ht i hi)
      obtain ⟨k, hk, hk2⟩ := j_in (n := 61) (by omega) h1 (fun z => h2 (by
        have := Int64.le_iff_toInt_le.mp z
        rw [j_toI (by omega)] at this
        rw [Int64.lt_iff_toInt_lt, show (60 : Int64).toInt = 60 from by decide]
        omega))
      have y3 := hg k (by omega)
      have q : (fX8_agreesOnPlaces_L2 o s (some (nI 0)) (h + 1) (nI i + nI i)) = if m_ae g f i then fX8_agreesOnPlaces_L2 o s (some (nI 0)) h (nI (i + 1) + nI (i + 1)) else some (nI 0) := by
        rw [fX8_agreesOnPlaces_L2]
        unfold m_ae
        simp (disch := omega) only [↓am_lq, b_lq, b_add, b_le, b_lt, b_t, b_eq, am_g_t, x2, y1, y2, y3, hk2, he k hk, am_rq, e, j_eq, if_neg, decide_eq_true_eq]
      try dsimp only
      rw [q]
      cases h : m_ae g f i with
      | true => exact .inl ⟨(), by rw [m_al_s, hx, h]; rfl, rfl⟩
      | false => exact .inr (by rw [m_al_f hi h]; rfl)
    · try dsimp only
      rw [fX8_agreesOnPlaces_L2, hx]
      simp (disch := omega) only [b_lq, b_add, b_le, x2, if_pos]
      rfl
  rw [b_add] at key
  exact key
theorem r_per (e6 : s.1 222 5 = nI (D.1 5)) (v5 : D.1 5 ≤ 8) (x : Int64) : fX9_isPerson s x = some (nI (decide (¬ x < 0 ∧ ¬ (nI (D.1 5)).toInt64 ≤ x)).toNat) := by
  rw [p_isPerson9, e6]
  simp only [j_sub (show D.1 5 ≤ 2000000001 by omega), Int64.not_lt]
  by_cases c : 0 ≤ x ∧ ¬ (nI (D.1 5)).toInt64 ≤ x
  · rw [if_pos c, decide_eq_true c]; rfl
  · rw [if_neg c, decide_eq_false c]; rfl
theorem r_inB (v lo hi : Int64) : fX9_in v lo hi = some (nI (decide (¬ v < lo ∧ v ≤ hi)).toNat) := by
  rw [p_in]
  simp only [Int64.not_lt]
  by_cases c : lo ≤ v ∧ v ≤ hi
  · rw [if_pos c, decide_eq_true c]; rfl
  · rw [if_neg c, decide_eq_false c]; rfl
theorem m_ifab {α : Type} {p q r u : Prop} [Decidable p] [Decidable q] [Decidable r] [Decidable u] {x y : α} : (if (decide (p ∧ q)) = true then (if (decide (r ∧ u)) = true then x else y) else y) = if decide (p ∧ q ∧ r ∧ u) = true then x else y := by
  by_cases a : p <;> by_cases b : q <;> by_cases c : r <;> by_cases d : u <;> simp [a, b, c, d]
theorem r_whyF {J : Option Int32} (hj : j < 4) (hn : n ≤ 60) (hp : n % 2 = 0) (v5 : D.1 5 ≤ 8) (x2 : s.1 217 j = nI n) (x3 : ∀ i, i < n → s.2 218 (60 * j + i) = f i) (e6 : s.1 222 5 = nI (D.1 5)) : fX9_whyNotStarts_L46 (nI j) s J am_fu (nI 0) = if m_al (m_of D f) (n / 2) then some (nI 0) else J := by
  have key : fX9_whyNotStarts_L46 (nI j) s J am_fu (nI 0 + nI 0) = if m_al (m_of D f) (n / 2) then some (nI 0) else J := by
    refine sp_lq (fun g (_ : Unit) i => fX9_whyNotStarts_L46 (nI j) s J g (i + i)) (n / 2) (fun i _ => m_al (m_of D f) i = true) (fun r => r = if m_al (m_of D f) (n / 2) then some (nI 0) else J) (fun g i x hi hx => ?_) (fun g x hx => ?_) () rfl am_fu (am_fu_gt (by omega))
    · have y1 := x3 (i + i) (by omega)
      have y2 := x3 (i + i + 1) (by omega)
      rw [← Nat.add_assoc] at y2
      have e : i + 1 + (i + 1) = i + i + 2 := by omega
      have q : (fX9_whyNotStarts_L46 (nI j) s J (g + 1) (nI i + nI i)) = if m_of D f i then fX9_whyNotStarts_L46 (nI j) s J g (nI (i + 1) + nI (i + 1)) else J := by
        rw [fX9_whyNotStarts_L46]
        simp (disch := omega) only [↓am_lq, b_lq, b_mul, b_add, b_le, b_lt, b_t, am_g_t, x2, y1, y2, r_per e6 v5, r_inB, am_rq, m_if0, e, if_neg, m_ifab]
        rfl
      try dsimp only
      rw [q]
      cases h : m_of D f i with
      | true => exact .inl ⟨(), by rw [m_al_s, hx, h]; rfl, rfl⟩
      | false => exact .inr (by rw [m_al_f hi h]; rfl)
    · try dsimp only
      rw [fX9_whyNotStarts_L46, hx]
      simp (disch := omega) only [b_lq, b_mul, b_add, b_le, b_lt, b_t, am_g_t, x2, if_pos, if_true]
  rw [b_add] at key
  exact key
theorem r_whyP {J K : Option (AS × Int32)} (hj : j < 4) (hn : n ≤ 60) (hp : n % 2 = 0) (v0 : D.1 0 ≤ 7) (x2 : s.1 217 j = nI n) (x3 : ∀ i, i < n → s.2 218 (60 * j + i) = f i) (e6 : s.1 222 0 = nI (D.1 0)) : fX9_rules_L51 (nI j) s K J am_fu (nI 0) = if m_al (m_op D f) (n / 2) then K else J := by
  have key : fX9_rules_L51 (nI j) s K J am_fu (nI 0 + nI 0) = if m_al (m_op D f) (n / 2) then K else J := by
    refine sp_lq (fun g (_ : Unit) i => fX9_rules_L51 (nI j) s K J g (i + i)) (n / 2) (fun i _ => m_al (m_op D f) i = true) (fun r => r = if m_al (m_op D f) (n / 2) then K else J) (fun g i x hi hx => ?_) (fun g x hx => ?_) () rfl am_fu (am_fu_gt (by omega))
    · have y1 := x3 (i + i) (by omega)
      have y2 := x3 (i + i + 1) (by omega)
      rw [← Nat.add_assoc] at y2
      have e : i + 1 + (i + 1) = i + i + 2 := by omega
      have q : (fX9_rules_L51 (nI j) s K J (g + 1) (nI i + nI i)) = if m_op D f i then fX9_rules_L51 (nI j) s K J g (nI (i + 1) + nI (i + 1)) else J := by
        rw [fX9_rules_L51]
        simp (disch := omega) only [↓am_lq, b_lq, b_mul, b_add, b_le, b_lt, b_t, am_g_t, x2, y1, y2, e6, r_inB, am_rq, m_if0, e, if_neg, m_ifab, j_sub, Int64.not_le]
        unfold m_op
        simp only [Int64.not_lt]
      try dsimp only
      rw [q]
      cases h : m_op D f i with
      | true => exact .inl ⟨(), by rw [m_al_s, hx, h]; rfl, rfl⟩
      | false => exact .inr (by rw [m_al_f hi h]; rfl)
    · try dsimp only
      rw [fX9_rules_L51, hx]
      simp (disch := omega) only [b_lq, b_mul, b_add, b_le, b_lt, b_t, am_g_t, x2, if_pos, if_true]
  rw [b_add] at key
  exact key
theorem r_agreesF {J : Int32 → Option (AS × Int32)} (hj : j < 4) (hn : n ≤ 60) (hp : n % 2 = 0) (v5 : D.1 5 ≤ 8) (x2 : s.1 217 j = nI n) (x3 : ∀ i, i < n → s.2 218 (60 * j + i) = f i) (hg : ∀ p, p < 8 → s.1 233 p = oI (g p)) (ht : m_al (m_of D f) (n / 2) = true) : fX9_startsOf_L33 (nI j) s J am_fu (nI 1) (nI 0) = J (nI (m_al (m_ae g f) (n / 2)).toNat) := by
  have key : fX9_startsOf_L33 (nI j) s J am_fu (nI 1) (nI 0 + nI 0) = J (nI (m_al (m_ae g f) (n / 2)).toNat) := by
    refine sp_lq (fun h (x : Int32) i => fX9_startsOf_L33 (nI j) s J h x (i + i)) (n / 2) (fun i x => x = nI (m_al (m_ae g f) i).toNat) (fun r => r = J (nI (m_al (m_ae g f) (n / 2)).toNat)) (fun h i x hi hx => ?_) (fun h x hx => ?_) (nI 1) rfl am_fu (am_fu_gt (by omega))
    · have y1 := x3 (i + i) (by omega)
      have y2 := x3 (i + i + 1) (by omega)
      rw [← Nat.add_assoc] at y2
      have e : i + 1 + (i + 1) = i + i + 2 := by omega
      obtain ⟨h1, h2, h3, h4⟩ := of_decide_eq_true (m_al_t.mp ht i hi)
      obtain ⟨k, hk, hk2⟩ := j_in (by omega) h1 h2
      have y3 := hg k (by omega)
      left
      refine ⟨_, rfl, ?_⟩
      try dsimp only
      subst hx
      have c1 : m_ae g f i = decide ((oI (g k)).toInt64 = f (i + i + 1)) := by
        unfold m_ae
        rw [hk2, b_t (by omega)]
      rw [fX9_startsOf_L33, m_al_s]
      simp (disch := omega) only [↓am_lq, b_lq, b_mul, b_add, b_le, b_lt, b_t, am_g_t, x2, y1, y2, y3, hk2, e, j_eq, if_neg]
      by_cases c : (oI (g k)).toInt64 = f (i + i + 1)
      · rw [if_pos c, c1, decide_eq_true c, ← b_and1]; rfl
      · rw [if_neg c, c1, decide_eq_false c, ← b_and1]; rfl
    · try dsimp only
      rw [fX9_startsOf_L33, hx]
      simp (disch := omega) only [b_lq, b_mul, b_add, b_le, b_lt, b_t, am_g_t, x2, if_pos]
  rw [b_add] at key
  exact key
theorem r_agreesP {J : Int32 → Option (AS × Int32)} (hj : j < 4) (hn : n ≤ 60) (hp : n % 2 = 0) (x2 : s.1 217 j = nI n) (x3 : ∀ i, i < n → s.2 218 (60 * j + i) = f i) (hg : ∀ p, p < 61 → s.1 229 p = oI (g p)) (ht : m_al (m_op D f) (n / 2) = true) : fX9_rules_L150 (nI j) s J am_fu (nI 1) (nI 0) = J (nI (m_al (m_ae g f) (n / 2)).toNat) := by
  have key : fX9_rules_L150 (nI j) s J am_fu (nI 1) (nI 0 + nI 0) = J (nI (m_al (m_ae g f) (n / 2)).toNat) := by
    refine sp_lq (fun h (x : Int32) i => fX9_rules_L150 (nI j) s J h x (i + i)) (n / 2) (fun i x => x = nI (m_al (m_ae g f) i).toNat) (fun r => r = J (nI (m_al (m_ae g f) (n / 2)).toNat)) (fun h i x hi hx => ?_) (fun h x hx => ?_) (nI 1) rfl am_fu (am_fu_gt (by omega))
    · have y1 := x3 (i + i) (by omega)
      have y2 := x3 (i + i + 1) (by omega)
      rw [← Nat.add_assoc] at y2
      have e : i + 1 + (i + 1) = i + i + 2 := by omega
      obtain ⟨h1, h2, h3, h4⟩ := of_decide_eq_true (m_al_t.mp ht i hi)
      obtain ⟨k, hk, hk2⟩ := j_in (n := 61) (by omega) h1 (fun z => h2 (by
        have := Int64.le_iff_toInt_le.mp z
        rw [j_toI (by omega)] at this
        rw [Int64.lt_iff_toInt_lt, show (60 : Int64).toInt = 60 from by decide]
        omega))
      have y3 := hg k (by omega)
      left
      refine ⟨_, rfl, ?_⟩
      try dsimp only
      subst hx
      have c1 : m_ae g f i = decide ((oI (g k)).toInt64 = f (i + i + 1)) := by
        unfold m_ae
        rw [hk2, b_t (by omega)]
      rw [fX9_rules_L150, m_al_s]
      simp (disch := omega) only [↓am_lq, b_lq, b_mul, b_add, b_le, b_lt, b_t, am_g_t, x2, y1, y2, y3, hk2, e, j_eq, if_neg]
      by_cases c : (oI (g k)).toInt64 = f (i + i + 1)
      · rw [if_pos c, c1, decide_eq_true c, ← b_and1]; rfl
      · rw [if_neg c, c1, decide_eq_false c, ← b_and1]; rfl
    · try dsimp only
      rw [fX9_rules_L150, hx]
      simp (disch := omega) only [b_lq, b_mul, b_add, b_le, b_lt, b_t, am_g_t, x2, if_pos]
  rw [b_add] at key
  exact key
end RQ
