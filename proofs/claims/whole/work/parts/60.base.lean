/-! BASE of the pure part: small numbers, rows, loops. (Proofs by Eq.trans, so that simp keeps them as steps: the kernel must never compare loops with their fuel by unfolding.) -/
theorem am_lq {α β : Type} (e : α) (k : α → β) : am_let e k = k e := Eq.trans rfl rfl
theorem am_rq {α β : Type} (v : α) (k : α → Option β) : am_r (some v) k = k v := Eq.trans rfl rfl
theorem am_cq {α β : Type} (s : AS) (v : α) (k : AS → α → Option β) : am_c (some (s, v)) k = k s v := Eq.trans rfl rfl
theorem b_lq (n : Nat) : (OfNat.ofNat n : Int32) = nI n := Eq.trans rfl rfl
theorem b_oq (n : Nat) : Int32.ofNat n = nI n := Eq.trans rfl rfl
theorem b_tt : (true.toNat = 1) := Eq.trans rfl rfl
theorem b_tf : (false.toNat = 0) := Eq.trans rfl rfl
theorem b_toI {a : Nat} (h : a < 2147483648) : (nI a).toInt = a := by
  simp only [nI]
  exact Int32.toInt_ofNat_of_lt (by omega)
theorem b_lt {a b : Nat} (ha : a < 2147483648) (hb : b < 2147483648) : (nI a < nI b) = (a < b) := by
  rw [Int32.lt_iff_toInt_lt, b_toI ha, b_toI hb]
  exact propext Int.ofNat_lt
theorem b_le {a b : Nat} (ha : a < 2147483648) (hb : b < 2147483648) : (nI a ≤ nI b) = (a ≤ b) := by
  rw [Int32.le_iff_toInt_le, b_toI ha, b_toI hb]
  exact propext Int.ofNat_le
theorem b_eq {a b : Nat} (ha : a < 2147483648) (hb : b < 2147483648) : (nI a = nI b) = (a = b) := by
  rw [← Int32.toInt_inj, b_toI ha, b_toI hb]
  exact propext Int.ofNat_inj
theorem b_t {a : Nat} (ha : a < 2147483648) : (nI a).toNatClampNeg = a := by
  have e := b_toI ha
  show (nI a).toInt.toNat = a
  rw [e]
  rfl
theorem b_add (a b : Nat) : nI a + nI b = nI (a + b) := (Int32.ofNat_add a b).symm
theorem b_mul (a b : Nat) : nI a * nI b = nI (a * b) := (Int32.ofNat_mul a b).symm
theorem b_sub {a b : Nat} (h : b ≤ a) : nI a - nI b = nI (a - b) := by
  have e : a = (a - b) + b := by omega
  rw [e, ← b_add (a - b) b, Nat.add_sub_cancel, Int32.add_sub_cancel]
theorem b_lit (n : Nat) : (OfNat.ofNat n : Int32) = nI n := rfl
def oI : Option Nat → Int32
  | none => -1
  | some k => nI k
theorem oI_s (k : Nat) : oI (some k) = nI k := rfl
theorem oI_n : (-1 : Int32) = oI none := rfl
theorem oI_n1 : -nI 1 = oI none := rfl
theorem oI_q : -nI 1 = oI none := Eq.trans rfl rfl
theorem oI_t (k : Nat) : oI (some k) = nI k := Eq.trans rfl rfl
theorem b_m1 : (oI none).toInt = -1 := by decide
theorem b_nn {a : Nat} (ha : a < 2147483648) : (nI a = oI none) = False := by
  rw [← Int32.toInt_inj, b_toI ha, b_m1]
  exact propext ⟨fun h => by omega, False.elim⟩
theorem b_nn2 {a : Nat} (ha : a < 2147483648) : (oI none = nI a) = False := (propext eq_comm).trans (b_nn ha)
theorem b_nlt {a : Nat} (ha : a < 2147483648) : (oI none < nI a) = True := by
  rw [Int32.lt_iff_toInt_lt, b_toI ha, b_m1]
  exact propext ⟨fun _ => trivial, fun _ => by omega⟩
theorem b_nle {a : Nat} (ha : a < 2147483648) : (oI none ≤ nI a) = True := by
  rw [Int32.le_iff_toInt_le, b_toI ha, b_m1]
  exact propext ⟨fun _ => trivial, fun _ => by omega⟩
theorem b_ltn {a : Nat} (ha : a < 2147483648) : (nI a < oI none) = False := by
  rw [Int32.lt_iff_toInt_lt, b_toI ha, b_m1]
  exact propext ⟨fun h => by omega, False.elim⟩
theorem b_len {a : Nat} (ha : a < 2147483648) : (nI a ≤ oI none) = False := by
  rw [Int32.le_iff_toInt_le, b_toI ha, b_m1]
  exact propext ⟨fun h => by omega, False.elim⟩
theorem b_lt0 {a : Nat} (ha : a < 2147483648) : (nI a < nI 0) = False := by
  rw [b_lt ha (by omega)]
  exact propext ⟨fun h => by omega, False.elim⟩
theorem b_g {α : Type} {i m : Nat} {k : Option α} [inst : Decidable (¬ (nI i < nI 0 ∨ m ≤ (nI i).toNatClampNeg))] (h : i < m) (hm : i < 100000) : @am_g α (¬ (nI i < nI 0 ∨ m ≤ (nI i).toNatClampNeg)) inst k = k := by
  unfold am_g
  apply if_pos
  rw [b_lt0 (by omega), b_t (by omega)]
  intro q
  rcases q with q | q
  · exact q
  · omega
theorem b_01 {α : Type} {b : Bool} {k : Option α} [inst : Decidable (nI b.toNat = nI 0 ∨ nI b.toNat = nI 1)] : @am_g α (nI b.toNat = nI 0 ∨ nI b.toNat = nI 1) inst k = k := by
  unfold am_g
  apply if_pos
  cases b
  · exact .inl rfl
  · exact .inr rfl
theorem b_g1 {α : Type} {k : Option α} [inst : Decidable (nI 1 = nI 0 ∨ nI 1 = nI 1)] : @am_g α (nI 1 = nI 0 ∨ nI 1 = nI 1) inst k = k := if_pos (.inr rfl)
theorem b_g0 {α : Type} {k : Option α} [inst : Decidable (nI 0 = nI 0 ∨ nI 0 = nI 1)] : @am_g α (nI 0 = nI 0 ∨ nI 0 = nI 1) inst k = k := if_pos (.inl rfl)
theorem b_b0 (b : Bool) : (nI b.toNat = nI 0) = (b = false) := by
  cases b
  · exact propext ⟨fun _ => rfl, fun _ => rfl⟩
  · exact propext ⟨fun h => absurd h (by decide), fun h => absurd h (by decide)⟩
theorem b_b1 (b : Bool) : (nI b.toNat = nI 1) = (b = true) := by
  cases b
  · exact propext ⟨fun h => absurd h (by decide), fun h => absurd h (by decide)⟩
  · exact propext ⟨fun _ => rfl, fun _ => rfl⟩
theorem am_gT {α : Type} {k : Option α} [inst : Decidable True] : @am_g α True inst k = k := if_pos trivial
theorem b_ft (b : Bool) : (b = false ∨ b = true) = True := by cases b <;> simp
-- rows
theorem r_si (σ : AS) (i k : Nat) (x : Int32) : (am_si σ i k x).1 i = upd (σ.1 i) k x := by simp [am_si, am_u2]
theorem r_so (σ : AS) {i j : Nat} (k : Nat) (x : Int32) (h : j ≠ i) : (am_si σ i k x).1 j = σ.1 j := by simp [am_si, am_u2, h]
theorem r_s2 (σ : AS) (i k : Nat) (x : Int32) : (am_si σ i k x).2 = σ.2 := Eq.trans rfl rfl
theorem r_us (f : Nat → Int32) (k : Nat) (x : Int32) : upd f k x k = x := if_pos rfl
theorem r_uo (f : Nat → Int32) {k j : Nat} (x : Int32) (h : j ≠ k) : upd f k x j = f j := if_neg h
theorem r_ri (σ : AS) (i : Nat) (g : Nat → Int32) : (am_sr σ i g).1 i = g := by simp [am_sr, am_u2]
theorem r_ro (σ : AS) {i j : Nat} (g : Nat → Int32) (h : j ≠ i) : (am_sr σ i g).1 j = σ.1 j := by simp [am_sr, am_u2, h]
theorem r_r2 (σ : AS) (i : Nat) (g : Nat → Int32) : (am_sr σ i g).2 = σ.2 := rfl
theorem r_ji (σ : AS) (i k : Nat) (x : Int64) : (am_sj σ i k x).2 i = vp_updL (σ.2 i) k x := by simp [am_sj, am_u2]
theorem r_jo (σ : AS) {i j : Nat} (k : Nat) (x : Int64) (h : j ≠ i) : (am_sj σ i k x).2 j = σ.2 j := by simp [am_sj, am_u2, h]
theorem r_j1 (σ : AS) (i k : Nat) (x : Int64) : (am_sj σ i k x).1 = σ.1 := rfl
theorem r_ls (f : Nat → Int64) (k : Nat) (x : Int64) : vp_updL f k x k = x := if_pos rfl
theorem r_lo (f : Nat → Int64) {k j : Nat} (x : Int64) (h : j ≠ k) : vp_updL f k x j = f j := if_neg h
/-- s1 is s but for the rows of R -/
def fr (R : Nat → Prop) (s s1 : AS) : Prop := s1.2 = s.2 ∧ ∀ c, ¬ R c → s1.1 c = s.1 c
theorem fr_refl (R : Nat → Prop) (s : AS) : fr R s s := ⟨rfl, fun _ _ => rfl⟩
theorem fr_tr {R : Nat → Prop} {s s1 s2 : AS} (h : fr R s s1) (k : fr R s1 s2) : fr R s s2 := ⟨k.1.trans h.1, fun c q => (k.2 c q).trans (h.2 c q)⟩
theorem fr_mono {R R' : Nat → Prop} {s s1 : AS} (h : fr R s s1) (k : ∀ c, R c → R' c) : fr R' s s1 := ⟨h.1, fun c q => h.2 c (fun z => q (k c z))⟩
theorem fr_si {R : Nat → Prop} {s s1 : AS} (h : fr R s s1) {i : Nat} (k : Nat) (x : Int32) (hi : R i) : fr R s (am_si s1 i k x) := ⟨h.1, fun c q => (r_so s1 k x (fun e => q (by rw [e]; exact hi))).trans (h.2 c q)⟩
theorem fr_sr {R : Nat → Prop} {s s1 : AS} (h : fr R s s1) {i : Nat} (g : Nat → Int32) (hi : R i) : fr R s (am_sr s1 i g) := ⟨h.1, fun c q => (r_ro s1 g (fun e => q (by rw [e]; exact hi))).trans (h.2 c q)⟩
-- loops
/-- a counting loop with an invariant; Q is what is wanted of its end -/
theorem sp_lq {S R : Type} (F : Nat → S → Int32 → R) (N : Nat) (I : Nat → S → Prop) (Q : R → Prop)
    (hs : ∀ n i s, i < N → I i s → (∃ s', I (i + 1) s' ∧ F (n + 1) s (nI i) = F n s' (nI (i + 1))) ∨ Q (F (n + 1) s (nI i)))
    (h0 : ∀ n s, I N s → Q (F (n + 1) s (nI N))) (s : S) (h : I 0 s) (fuel : Nat) (hf : N < fuel) : Q (F fuel s (nI 0)) := by
  have key : ∀ (j i : Nat) (s : S), i + j = N → I i s → ∀ fuel, j < fuel → Q (F fuel s (nI i)) := by
    intro j
    induction j with
    | zero =>
      intro i s hi h fuel hf
      obtain ⟨f, rfl⟩ : ∃ f, fuel = f + 1 := ⟨fuel - 1, by omega⟩
      have : i = N := by omega
      subst this
      exact h0 f s h
    | succ j ih =>
      intro i s hi h fuel hf
      obtain ⟨f, rfl⟩ : ∃ f, fuel = f + 1 := ⟨fuel - 1, by omega⟩
      rcases hs f i s (by omega) h with ⟨s', h1, h2⟩ | h1
      · rw [h2]
        exact ih (i + 1) s' (by omega) h1 f (by omega)
      · exact h1
  exact key N 0 s (by omega) h fuel hf
/-- the same, without an early end -/
theorem sp_lp {S R : Type} (F : Nat → S → Int32 → R) (N : Nat) (I : Nat → S → Prop) (ex : S → R)
    (hs : ∀ n i s, i < N → I i s → ∃ s', I (i + 1) s' ∧ F (n + 1) s (nI i) = F n s' (nI (i + 1)))
    (h0 : ∀ n s, I N s → F (n + 1) s (nI N) = ex s) (s : S) (h : I 0 s) (fuel : Nat) (hf : N < fuel) : ∃ s', I N s' ∧ F fuel s (nI 0) = ex s' :=
  sp_lq F N I (fun r => ∃ s', I N s' ∧ r = ex s') (fun n i s hi h => .inl (hs n i s hi h)) (fun n s h => ⟨s, h, h0 n s h⟩) s h fuel hf
/-- the same, where the loop only counts together -/
theorem sp_lf {S R : Type} (F : Nat → S → Int32 → R) (N : Nat) (g : Nat → S → S) (ex : S → R)
    (hs : ∀ n i s, i < N → F (n + 1) s (nI i) = F n (g i s) (nI (i + 1)))
    (h0 : ∀ n s, F (n + 1) s (nI N) = ex s) (s : S) (fuel : Nat) (hf : N < fuel) : F fuel s (nI 0) = ex (sp_it g N s) := by
  obtain ⟨s', h1, h2⟩ := sp_lp F N (fun i t => t = sp_it g i s) ex (fun n i t hi h => ⟨g i t, by rw [h]; rfl, hs n i t hi⟩) (fun n t _ => h0 n t) s rfl fuel hf
  rw [h2, h1]
theorem sp_it_c {S : Type} {g g' : Nat → S → S} {N : Nat} {s : S} (h : ∀ i t, i < N → g i t = g' i t) : sp_it g N s = sp_it g' N s := by
  induction N with
  | zero => rfl
  | succ n ih =>
    show g n (sp_it g n s) = g' n (sp_it g' n s)
    rw [ih (fun i t hi => h i t (by omega)), h n _ (by omega)]
/-- the first number below n -/
def y_fd (p : Nat → Bool) : Nat → Option Nat
  | 0 => none
  | n + 1 => match y_fd p n with
    | some i => some i
    | none => if p n then some n else none
theorem y_fd_n {p : Nat → Bool} : ∀ {n : Nat}, y_fd p n = none ↔ ∀ i, i < n → p i = false
  | 0 => ⟨fun _ i h => by omega, fun _ => rfl⟩
  | n + 1 => by
    have ih := y_fd_n (p := p) (n := n)
    unfold y_fd
    cases h : y_fd p n with
    | some i =>
      refine ⟨fun q => (by cases q), fun q => ?_⟩
      have := ih.mpr (fun i hi => q i (by omega))
      rw [h] at this
      cases this
    | none =>
      have h2 := ih.mp h
      cases hp : p n with
      | true => exact ⟨fun q => (by simp at q), fun q => (by have := q n (by omega); rw [hp] at this; cases this)⟩
      | false =>
        refine ⟨fun _ i hi => ?_, fun _ => by simp⟩
        by_cases e : i = n
        · rw [e, hp]
        · exact h2 i (by omega)
theorem y_fd_s {p : Nat → Bool} : ∀ {n i : Nat}, y_fd p n = some i ↔ (i < n ∧ p i = true ∧ ∀ j, j < i → p j = false)
  | 0, i => ⟨fun h => (by cases h), fun h => (by omega)⟩
  | n + 1, i => by
    have ih := @y_fd_s p n
    unfold y_fd
    cases h : y_fd p n with
    | some k =>
      have hk := ih.mp h
      refine ⟨fun q => ?_, fun q => ?_⟩
      · cases q
        exact ⟨by omega, hk.2⟩
      · have : k = i := by
          rcases Nat.lt_trichotomy k i with c | c | c
          · have := q.2.2 k c; rw [hk.2.1] at this; cases this
          · exact c
          · have := hk.2.2 i c; rw [q.2.1] at this; cases this
        rw [this]
    | none =>
      have h2 := y_fd_n.mp h
      cases hp : p n with
      | true =>
        refine ⟨fun q => ?_, fun q => ?_⟩
        · simp at q
          subst q
          exact ⟨by omega, hp, h2⟩
        · have : i = n := by
            rcases Nat.lt_or_ge i n with c | c
            · have := h2 i c; rw [q.2.1] at this; cases this
            · omega
          simp [this]
      | false =>
        refine ⟨fun q => (by simp at q), fun q => ?_⟩
        exfalso
        have : i = n := by
          rcases Nat.lt_or_ge i n with c | c
          · have := h2 i c; rw [q.2.1] at this; cases this
          · omega
        rw [this, hp] at q
        cases q.2.1
-- sets of numbers below ten
def w_ins (x p : Nat) : Nat := x ||| 2 ^ p
def w_del (x p : Nat) : Nat := x &&& (1023 ^^^ 2 ^ p)
def w_pc (x : Nat) : Nat := (x.testBit 0).toNat + (x.testBit 1).toNat + (x.testBit 2).toNat + (x.testBit 3).toNat + (x.testBit 4).toNat + (x.testBit 5).toNat + (x.testBit 6).toNat + (x.testBit 7).toNat + (x.testBit 8).toNat + (x.testBit 9).toNat
theorem w_ins_t (x p q : Nat) : (w_ins x p).testBit q = (x.testBit q || decide (p = q)) := by
  unfold w_ins
  rw [Nat.testBit_or, Nat.testBit_two_pow]
theorem w_ins_lt {x p k : Nat} (hx : x < 2 ^ k) (hp : p < k) : w_ins x p < 2 ^ k := Nat.or_lt_two_pow hx (Nat.pow_lt_pow_right (by omega) hp)
theorem w_del_t (x p q : Nat) (hq : q < 10) : (w_del x p).testBit q = (x.testBit q && !decide (p = q)) := by
  unfold w_del
  rw [Nat.testBit_and, Nat.testBit_xor, Nat.testBit_two_pow, show (1023 : Nat) = 2 ^ 10 - 1 from rfl, Nat.testBit_two_pow_sub_one]
  simp [hq]
theorem w_del_le (x p : Nat) : w_del x p ≤ x := Nat.and_le_left
theorem b_sh : ∀ p, p < 31 → nI 1 <<< (nI p &&& nI 31) = nI (2 ^ p) := by decide +kernel
theorem b_bit : ∀ x, x < 1024 → ∀ p, p < 10 → (nI x >>> (nI p &&& nI 31)) &&& nI 1 = nI (x.testBit p).toNat := by decide +kernel
theorem b_ins : ∀ x, x < 1024 → ∀ p, p < 10 → nI x ||| nI (2 ^ p) = nI (w_ins x p) := by decide +kernel
theorem b_del : ∀ x, x < 1024 → ∀ p, p < 10 → nI x &&& (nI (2 ^ p) ^^^ oI none) = nI (w_del x p) := by decide +kernel
theorem b_bc : ∀ x, x < 1024 → fJ6_bitCount_0f7a4 (nI x) = some (nI (w_pc x)) := by decide +kernel
