/-! WAYS, as numbers. -/
def y_e (ro : Nat → Nat → Nat) (sh r a b : Nat) : Bool := !sh.testBit r && ((ro r 0 == a && ro r 1 == b) || (ro r 0 == b && ro r 1 == a))
def y_bs (F : Nat) (ro : Nat → Nat → Nat) (sh a b : Nat) : Nat → Nat
  | 0 => F
  | r + 1 => if y_e ro sh r a b then min (y_bs F ro sh a b r) (ro r 2) else y_bs F ro sh a b r
theorem y_bs_s (F : Nat) (ro : Nat → Nat → Nat) (sh a b r : Nat) : y_bs F ro sh a b (r + 1) = if y_e ro sh r a b then min (y_bs F ro sh a b r) (ro r 2) else y_bs F ro sh a b r := rfl
def y_fl (d0 : Nat → Nat → Nat) : Nat → Nat → Nat → Nat
  | 0, a, b => d0 a b
  | k + 1, a, b => min (y_fl d0 k a b) (y_fl d0 k a k + y_fl d0 k k b)
def y_d0 (F nr : Nat) (ro : Nat → Nat → Nat) (sh a b : Nat) : Nat := if a = b then 0 else y_bs F ro sh a b nr
def y_ln (F np nr : Nat) (ro : Nat → Nat → Nat) (sh a b : Nat) : Nat := y_fl (y_d0 F nr ro sh) np a b
/-- the place that comes next -/
def y_nx (F np nr : Nat) (ro : Nat → Nat → Nat) (sh a b : Nat) : Option Nat :=
  if a = b ∨ F ≤ y_ln F np nr ro sh a b then none else y_fd (fun m => decide (y_bs F ro sh a m nr < F ∧ y_bs F ro sh a m nr + y_ln F np nr ro sh m b = y_ln F np nr ro sh a b)) np
theorem y_e_c (ro : Nat → Nat → Nat) (sh r a b : Nat) : y_e ro sh r a b = y_e ro sh r b a := by
  unfold y_e
  rw [Bool.or_comm]
theorem y_bs_c (F : Nat) (ro : Nat → Nat → Nat) (sh a b : Nat) : ∀ r, y_bs F ro sh a b r = y_bs F ro sh b a r
  | 0 => rfl
  | r + 1 => by
    unfold y_bs
    rw [y_e_c, y_bs_c F ro sh a b r]
theorem y_bs_le (F : Nat) (ro : Nat → Nat → Nat) (sh a b : Nat) : ∀ r, y_bs F ro sh a b r ≤ F
  | 0 => Nat.le_refl _
  | r + 1 => by
    have ih := y_bs_le F ro sh a b r
    unfold y_bs
    split <;> omega
theorem y_bs_r (F : Nat) (ro : Nat → Nat → Nat) (sh a b : Nat) : ∀ {n r : Nat}, r < n → y_e ro sh r a b = true → y_bs F ro sh a b n ≤ ro r 2
  | 0, r, h, _ => by omega
  | n + 1, r, h, he => by
    unfold y_bs
    by_cases e : r = n
    · rw [e] at he
      rw [if_pos he, e]
      omega
    · have ih := y_bs_r F ro sh a b (n := n) (r := r) (by omega) he
      split <;> omega
theorem y_bs_x (F : Nat) (ro : Nat → Nat → Nat) (sh a b : Nat) : ∀ {n : Nat}, y_bs F ro sh a b n < F → ∃ r, r < n ∧ y_e ro sh r a b = true ∧ y_bs F ro sh a b n = ro r 2
  | 0, h => by unfold y_bs at h; omega
  | n + 1, h => by
    unfold y_bs at h ⊢
    by_cases e : y_e ro sh n a b = true
    · rw [if_pos e] at h ⊢
      by_cases c : y_bs F ro sh a b n ≤ ro n 2
      · obtain ⟨r, h1, h2, h3⟩ := y_bs_x F ro sh a b (n := n) (by omega)
        exact ⟨r, by omega, h2, by omega⟩
      · exact ⟨n, by omega, e, by omega⟩
    · rw [if_neg e] at h ⊢
      obtain ⟨r, h1, h2, h3⟩ := y_bs_x F ro sh a b h
      exact ⟨r, by omega, h2, h3⟩
theorem y_fl_s (d0 : Nat → Nat → Nat) (k a b : Nat) : y_fl d0 (k + 1) a b ≤ y_fl d0 k a b := by
  show min _ _ ≤ _
  exact Nat.min_le_left _ _
theorem y_fl_0 (d0 : Nat → Nat → Nat) (a b : Nat) : ∀ k, y_fl d0 k a b ≤ d0 a b
  | 0 => Nat.le_refl _
  | k + 1 => Nat.le_trans (y_fl_s d0 k a b) (y_fl_0 d0 a b k)
theorem y_fl_d {d0 : Nat → Nat → Nat} (h : ∀ a, d0 a a = 0) (k a : Nat) : y_fl d0 k a a = 0 := by
  have := y_fl_0 d0 a a k
  rw [h] at this
  omega
/-- row and column k stay in step k -/
theorem y_fl_r {d0 : Nat → Nat → Nat} (h : ∀ a, d0 a a = 0) (k b : Nat) : y_fl d0 (k + 1) k b = y_fl d0 k k b := by
  show min _ _ = _
  rw [y_fl_d h]
  omega
theorem y_fl_c {d0 : Nat → Nat → Nat} (h : ∀ a, d0 a a = 0) (k a : Nat) : y_fl d0 (k + 1) a k = y_fl d0 k a k := by
  show min _ _ = _
  rw [y_fl_d h]
  omega
theorem y_fl_t {d0 : Nat → Nat → Nat} (h : ∀ a, d0 a a = 0) : ∀ (k m a b : Nat), m < k → y_fl d0 k a b ≤ y_fl d0 k a m + y_fl d0 k m b
  | 0, _, _, _, hm => by omega
  | k + 1, m, a, b, hm => by
    by_cases e : m = k
    · subst e
      rw [y_fl_r h, y_fl_c h]
      exact Nat.min_le_right _ _
    · have i1 := y_fl_t h k m a b (by omega)
      have i2 := y_fl_t h k m k b (by omega)
      have i3 := y_fl_t h k m a k (by omega)
      have i4 := y_fl_t h k m k k (by omega)
      unfold y_fl
      omega
theorem y_fl_side {d0 : Nat → Nat → Nat} {F : Nat} {S : Nat → Prop} (h : ∀ a b, S a → ¬ S b → F ≤ d0 a b) : ∀ (k a b : Nat), S a → ¬ S b → F ≤ y_fl d0 k a b
  | 0, a, b, ha, hb => h a b ha hb
  | k + 1, a, b, ha, hb => by
    have i1 := y_fl_side h k a b ha hb
    unfold y_fl
    by_cases c : S k
    · have := y_fl_side h k k b c hb
      omega
    · have := y_fl_side h k a k ha c
      omega
theorem y_fl_b {d0 : Nat → Nat → Nat} {F : Nat} (h : ∀ a b, d0 a b < F → d0 a b ≤ 99) : ∀ (k a b : Nat), y_fl d0 k a b < F → y_fl d0 k a b ≤ 99 * 2 ^ k
  | 0, a, b, hl => by
    have := h a b hl
    show d0 a b ≤ _
    omega
  | k + 1, a, b, hl => by
    have i1 := y_fl_b h k a b
    have i2 := y_fl_b h k a k
    have i3 := y_fl_b h k k b
    unfold y_fl at hl ⊢
    rw [Nat.pow_succ]
    omega
/-- two numbers for far -/
theorem y_fl_ff {d d' : Nat → Nat → Nat} {F F' n : Nat} (hF : 99 * 2 ^ n < F) (hF' : 99 * 2 ^ n < F') (h : ∀ a b, d a b < F → d a b ≤ 99) (h' : ∀ a b, d' a b < F' → d' a b ≤ 99) (h0 : ∀ a b, (d a b < F ∧ d' a b = d a b) ∨ (F ≤ d a b ∧ F' ≤ d' a b)) : ∀ (k : Nat), k ≤ n → ∀ a b, (y_fl d k a b < F ∧ y_fl d' k a b = y_fl d k a b) ∨ (F ≤ y_fl d k a b ∧ F' ≤ y_fl d' k a b)
  | 0, _, a, b => h0 a b
  | k + 1, hk, a, b => by
    have i1 := y_fl_ff hF hF' h h' h0 k (by omega) a b
    have i2 := y_fl_ff hF hF' h h' h0 k (by omega) a k
    have i3 := y_fl_ff hF hF' h h' h0 k (by omega) k b
    have j1 := y_fl_b h k a b
    have j1' := y_fl_b h' k a b
    have j2 := y_fl_b h k a k
    have j3 := y_fl_b h k k b
    have j2' := y_fl_b h' k a k
    have j3' := y_fl_b h' k k b
    have hp : 2 ^ (k + 1) ≤ 2 ^ n := Nat.pow_le_pow_right (by omega) hk
    rw [Nat.pow_succ] at hp
    unfold y_fl
    generalize y_fl d k a b = x1 at *
    generalize y_fl d k a k = x2 at *
    generalize y_fl d k k b = x3 at *
    generalize y_fl d' k a b = z1 at *
    generalize y_fl d' k a k = z2 at *
    generalize y_fl d' k k b = z3 at *
    omega
/-- a place without a road changes nothing -/
theorem y_fl_iso {d0 : Nat → Nat → Nat} {F : Nat} (hd : ∀ a, d0 a a = 0) (hF : ∀ a b, d0 a b ≤ F) {k : Nat} (h : ∀ a, a ≠ k → F ≤ d0 a k) (a b : Nat) : y_fl d0 (k + 1) a b = y_fl d0 k a b := by
  by_cases e : a = k
  · subst e
    exact y_fl_r hd _ _
  · have h1 : F ≤ y_fl d0 k a k := y_fl_side (S := fun x => x ≠ k) (fun x y hx hy => by
      have : y = k := Classical.not_not.mp hy
      subst this
      exact h x hx) k a k e (fun q => q rfl)
    have h2 := y_fl_0 d0 a b k
    have h3 := hF a b
    show min _ _ = _
    omega
section WY
variable {F np nr : Nat} {ro : Nat → Nat → Nat} {sh : Nat}
theorem y_d0_d (a : Nat) : y_d0 F nr ro sh a a = 0 := if_pos rfl
theorem y_d0_le (a b : Nat) : y_d0 F nr ro sh a b ≤ F := by
  unfold y_d0
  split
  · omega
  · exact y_bs_le ..
theorem y_d0_b (hro : ∀ r, r < nr → ro r 2 ≤ 99) (a b : Nat) : y_d0 F nr ro sh a b < F → y_d0 F nr ro sh a b ≤ 99 := by
  unfold y_d0
  by_cases c : a = b
  · rw [if_pos c]
    intro h
    omega
  · rw [if_neg c]
    intro h
    obtain ⟨r, h1, h2, h3⟩ := y_bs_x F ro sh a b h
    have := hro r h1
    omega
theorem y_ln_tri (a m b : Nat) (hm : m < np) : y_ln F np nr ro sh a b ≤ y_ln F np nr ro sh a m + y_ln F np nr ro sh m b := y_fl_t y_d0_d np m a b hm
theorem y_ln_bs {a b : Nat} (h : a ≠ b) : y_ln F np nr ro sh a b ≤ y_bs F ro sh a b nr := by
  have := y_fl_0 (y_d0 F nr ro sh) a b np
  unfold y_d0 at this
  rw [if_neg h] at this
  exact this
theorem y_ln_d (a : Nat) : y_ln F np nr ro sh a a = 0 := y_fl_d y_d0_d np a
theorem y_ln_le (a b : Nat) : y_ln F np nr ro sh a b ≤ F := Nat.le_trans (y_fl_0 _ a b np) (y_d0_le a b)
theorem y_ln_b (hnp : np ≤ 7) (hro : ∀ r, r < nr → ro r 2 ≤ 99) (a b : Nat) (h : y_ln F np nr ro sh a b < F) : y_ln F np nr ro sh a b ≤ 12672 := by
  have h1 := y_fl_b (y_d0_b hro) np a b h
  have hp : 2 ^ np ≤ 2 ^ 7 := Nat.pow_le_pow_right (by omega) hnp
  unfold y_ln at *
  omega
/-- what is beside what can be reached can be reached -/
theorem y_ln_go (hF : 20000 ≤ F) (hnp : np ≤ 7) (hro : ∀ r, r < nr → ro r 2 ≤ 99) {a m b : Nat} (hm : m < np) (h1 : y_ln F np nr ro sh a m < F) (h2 : y_bs F ro sh m b nr < F) : y_ln F np nr ro sh a b < F := by
  by_cases e : m = b
  · exact e ▸ h1
  · have t := y_ln_tri (F := F) (nr := nr) (ro := ro) (sh := sh) a m b hm
    have b1 := y_ln_b hnp hro a m h1
    have b2 := y_ln_bs (F := F) (np := np) (nr := nr) (ro := ro) (sh := sh) e
    obtain ⟨r, r1, r2, r3⟩ := y_bs_x F ro sh m b h2
    have := hro r r1
    omega
/-- no way: a side without a road out of it -/
theorem y_ln_cut (hF : 20000 ≤ F) (hnp : np ≤ 7) (hro : ∀ r, r < nr → ro r 2 ≤ 99) {a b : Nat} (ha : a < np) (h : F ≤ y_ln F np nr ro sh a b) : ∃ S : Nat → Bool, S a = true ∧ S b = false ∧ ∀ x y, x < np → S x = true → S y = false → F ≤ y_bs F ro sh x y nr := by
  refine ⟨fun x => decide (y_ln F np nr ro sh a x < F), ?_, ?_, ?_⟩
  · exact decide_eq_true (by rw [y_ln_d]; omega)
  · exact decide_eq_false (by omega)
  · intro x y hx h1 h2
    have h1 := of_decide_eq_true h1
    have h2 := of_decide_eq_false h2
    apply Nat.le_of_not_lt
    intro c
    exact h2 (y_ln_go hF hnp hro hx h1 c)
theorem y_ln_sep {S : Nat → Bool} {a b : Nat} (hro : ∀ r, r < nr → ro r 2 ≤ 99) (hF : 20000 ≤ F) (ha : S a = true) (hb : S b = false) (h : ∀ x y, S x = true → S y = false → F ≤ y_bs F ro sh x y nr) : F ≤ y_ln F np nr ro sh a b := by
  refine y_fl_side (S := fun x => S x = true) (fun x y hx hy => ?_) np a b ha (by rw [hb]; decide)
  have hy' : S y = false := by simpa using hy
  unfold y_d0
  rw [if_neg (fun e => by rw [e, hy'] at hx; cases hx)]
  exact h x y hx hy'
/-- far is far -/
theorem y_ln_ff {F' : Nat} (hF : 20000 ≤ F) (hF' : 20000 ≤ F') (hnp : np ≤ 7) (hro : ∀ r, r < nr → ro r 2 ≤ 99) (a b : Nat) : (y_ln F np nr ro sh a b < F ∧ y_ln F' np nr ro sh a b = y_ln F np nr ro sh a b) ∨ (F ≤ y_ln F np nr ro sh a b ∧ F' ≤ y_ln F' np nr ro sh a b) := by
  refine y_fl_ff (n := 7) (by omega) (by omega) (y_d0_b hro) (y_d0_b hro) (fun x y => ?_) np hnp a b
  unfold y_d0
  by_cases c : x = y
  · rw [if_pos c, if_pos c]
    exact .inl ⟨by omega, rfl⟩
  · rw [if_neg c, if_neg c]
    have key : ∀ n, n ≤ nr → ((y_bs F ro sh x y n < F ∧ y_bs F' ro sh x y n = y_bs F ro sh x y n) ∨ (F ≤ y_bs F ro sh x y n ∧ F' ≤ y_bs F' ro sh x y n)) := by
      intro n
      induction n with
      | zero => exact fun _ => .inr ⟨Nat.le_refl _, Nat.le_refl _⟩
      | succ n ih =>
        intro hn
        have ih := ih (by omega)
        have := hro n (by omega)
        unfold y_bs
        split
        · omega
        · exact ih
    exact key nr (Nat.le_refl _)
theorem y_bs_ff {F' : Nat} (hF : 20000 ≤ F) (hF' : 20000 ≤ F') (hro : ∀ r, r < nr → ro r 2 ≤ 99) (x y : Nat) : ∀ n, n ≤ nr → ((y_bs F ro sh x y n < F ∧ y_bs F' ro sh x y n = y_bs F ro sh x y n) ∨ (F ≤ y_bs F ro sh x y n ∧ F' ≤ y_bs F' ro sh x y n)) := by
  intro n
  induction n with
  | zero => exact fun _ => .inr ⟨Nat.le_refl _, Nat.le_refl _⟩
  | succ n ih =>
    intro hn
    have ih := ih (by omega)
    have := hro n (by omega)
    unfold y_bs
    split
    · omega
    · exact ih
theorem y_nx_ff {F' : Nat} (hF : 20000 ≤ F) (hF' : 20000 ≤ F') (hnp : np ≤ 7) (hro : ∀ r, r < nr → ro r 2 ≤ 99) (a b : Nat) : y_nx F' np nr ro sh a b = y_nx F np nr ro sh a b := by
  unfold y_nx
  have l := fun x y => y_ln_ff (sh := sh) hF hF' hnp hro x y
  have e : ∀ m, decide (y_bs F' ro sh a m nr < F' ∧ y_bs F' ro sh a m nr + y_ln F' np nr ro sh m b = y_ln F' np nr ro sh a b) = decide (y_bs F ro sh a m nr < F ∧ y_bs F ro sh a m nr + y_ln F np nr ro sh m b = y_ln F np nr ro sh a b) ∨ (F ≤ y_ln F np nr ro sh a b) := by
    intro m
    have l1 := l a b
    have l2 := l m b
    have b1 := y_bs_ff (sh := sh) hF hF' hro a m nr (Nat.le_refl _)
    rcases l1 with l1 | l1
    · left
      apply decide_eq_decide.mpr
      have t := y_ln_b (F := F) (sh := sh) hnp hro a b l1.1
      have t2 := y_ln_b (F := F) (sh := sh) hnp hro m b
      omega
    · exact .inr l1.1
  have l1 := l a b
  by_cases c : F ≤ y_ln F np nr ro sh a b
  · rw [if_pos (.inr (by omega)), if_pos (.inr c)]
  · have t := y_ln_b (F := F) (nr := nr) (ro := ro) (sh := sh) hnp hro a b
    have e2 : (a = b ∨ F' ≤ y_ln F' np nr ro sh a b) = (a = b ∨ F ≤ y_ln F np nr ro sh a b) := by
      apply propext
      omega
    have e3 : (fun m => decide (y_bs F' ro sh a m nr < F' ∧ y_bs F' ro sh a m nr + y_ln F' np nr ro sh m b = y_ln F' np nr ro sh a b)) = (fun m => decide (y_bs F ro sh a m nr < F ∧ y_bs F ro sh a m nr + y_ln F np nr ro sh m b = y_ln F np nr ro sh a b)) := by
      funext m
      rcases e m with e | e
      · exact e
      · exact absurd e c
    rw [e3]
    by_cases c2 : a = b ∨ F ≤ y_ln F np nr ro sh a b
    · rw [if_pos c2, if_pos (by rw [e2]; exact c2)]
    · rw [if_neg c2, if_neg (by rw [e2]; exact c2)]
theorem y_nx_lt {a b q : Nat} (h : y_nx F np nr ro sh a b = some q) : q < np ∧ y_bs F ro sh a q nr < F := by
  unfold y_nx at h
  split at h
  · cases h
  · have := y_fd_s.mp h
    exact ⟨this.1, (of_decide_eq_true this.2.1).1⟩
end WY
