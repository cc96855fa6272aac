/-! PURE: words, and loops. -/
theorem am_let_eq {α β : Type} (e : α) (k : α → β) : am_let e k = k e := rfl
theorem am_g_t {α : Type} {p : Prop} [Decidable p] {k : Option α} (h : p) : am_g p k = k := if_pos h
theorem am_r_s {α β : Type} (v : α) (k : α → Option β) : am_r (some v) k = k v := rfl
theorem am_c_s {α β : Type} (s : AS) (v : α) (k : AS → α → Option β) : am_c (some (s, v)) k = k s v := rfl
theorem am_si_1 (σ : AS) (i k : Nat) (x : Int32) (a b : Nat) : (am_si σ i k x).1 a b = if a = i then (if b = k then x else σ.1 a b) else σ.1 a b := by
  by_cases h : a = i
  · subst h
    by_cases h2 : b = k
    · subst h2; simp [am_si, am_u2, upd]
    · simp [am_si, am_u2, upd, h2]
  · simp [am_si, am_u2, h]
theorem am_si_2 (σ : AS) (i k : Nat) (x : Int32) : (am_si σ i k x).2 = σ.2 := rfl
theorem am_sj_1 (σ : AS) (i k : Nat) (x : Int64) : (am_sj σ i k x).1 = σ.1 := rfl
theorem am_sj_2 (σ : AS) (i k : Nat) (x : Int64) (a b : Nat) : (am_sj σ i k x).2 a b = if a = i then (if b = k then x else σ.2 a b) else σ.2 a b := by
  by_cases h : a = i
  · subst h
    by_cases h2 : b = k
    · subst h2; simp [am_sj, am_u2, vp_updL]
    · simp [am_sj, am_u2, vp_updL, h2]
  · simp [am_sj, am_u2, h]
theorem am_sr_1 (σ : AS) (i : Nat) (g : Nat → Int32) (a b : Nat) : (am_sr σ i g).1 a b = if a = i then g b else σ.1 a b := by
  by_cases h : a = i
  · subst h; simp [am_sr, am_u2]
  · simp [am_sr, am_u2, h]
theorem am_sr_2 (σ : AS) (i : Nat) (g : Nat → Int32) : (am_sr σ i g).2 = σ.2 := rfl
/-- a fold upwards -/
def sp_it {S : Type} (g : Nat → S → S) : Nat → S → S
  | 0, s => s
  | n + 1, s => g n (sp_it g n s)
/-- a counting loop: `for (i = 0; i < N; i++)` -/
theorem sp_for {S R : Type} (F : Nat → S → Int32 → Option R) (N : Nat) (ex : S → Option R) (g : Nat → S → S) (I : Nat → S → Prop)
    (h0 : ∀ n s, I N s → F (n + 1) s (nI N) = ex s) (hs : ∀ n i s, i < N → I i s → F (n + 1) s (nI i) = F n (g i s) (nI (i + 1))) (hI : ∀ i s, i < N → I i s → I (i + 1) (g i s)) (s : S) (h : I 0 s) :
    ∀ fuel, N < fuel → F fuel s (nI 0) = ex (sp_it g N s) ∧ I N (sp_it g N s) := by
  have key : ∀ (j i : Nat) (s' : S), i + j = N → I i s' → ∀ fuel, j < fuel → F fuel s' (nI i) = ex (Nat.rec (motive := fun _ => S) s' (fun q t => g (i + q) t) j) ∧ I N (Nat.rec (motive := fun _ => S) s' (fun q t => g (i + q) t) j) := by
    intro j
    induction j with
    | zero =>
      intro i s' hi hI' fuel hf
      obtain ⟨f, rfl⟩ : ∃ f, fuel = f + 1 := ⟨fuel - 1, by omega⟩
      have : i = N := by omega
      subst this
      exact ⟨h0 f s' hI', hI'⟩
    | succ j ih =>
      intro i s' hi hI' fuel hf
      obtain ⟨f, rfl⟩ : ∃ f, fuel = f + 1 := ⟨fuel - 1, by omega⟩
      rw [hs f i s' (by omega) hI']
      have h1 := ih (i + 1) (g i s') (by omega) (hI i s' (by omega) hI') f (by omega)
      have e : ∀ j' : Nat, (Nat.rec (motive := fun _ => S) (g i s') (fun q t => g (i + 1 + q) t) j' : S) = Nat.rec (motive := fun _ => S) s' (fun q t => g (i + q) t) (j' + 1) := by
        intro j'
        induction j' with
        | zero => rfl
        | succ j' ih2 =>
          show g (i + 1 + j') _ = g (i + (j' + 1)) _
          rw [ih2, show i + 1 + j' = i + (j' + 1) by omega]
      rw [e j] at h1
      exact h1
  intro fuel hf
  have h1 := key N 0 s (by omega) h fuel hf
  have e : ∀ j : Nat, (Nat.rec (motive := fun _ => S) s (fun q t => g (0 + q) t) j : S) = sp_it g j s := by
    intro j
    induction j with
    | zero => rfl
    | succ j ih =>
      show g (0 + j) _ = g j _
      rw [ih, Nat.zero_add]
  rw [e N] at h1
  exact h1
-- small methods
theorem p_holds (a b : Int32) : fX8_holds a b = some (if (a >>> (b &&& 31)) &&& 1 = 1 then 1 else 0) := by
  unfold fX8_holds
  simp only [am_let_eq]
  split <;> exact am_g_t (by decide)
theorem p_isBit (a b : Int32) : fX9_isBit a b = some (if (a >>> (b &&& 31)) &&& 1 = 1 then 1 else 0) := by
  unfold fX9_isBit
  simp only [am_let_eq]
  split <;> exact am_g_t (by decide)
theorem p_people (s : AS) : fX9_people s = some (s.1 222 5) := by
  unfold fX9_people
  exact am_g_t (by decide)
theorem p_in (v lo hi : Int64) : fX9_in v lo hi = some (if lo ≤ v ∧ v ≤ hi then 1 else 0) := by
  unfold fX9_in
  simp only [am_let_eq]
  have h1 : (lg_cmp v lo < 0) ↔ ¬ lo ≤ v := by
    rw [← lg_cmp_ge, Int32.not_le]
  have h2 : (0 < lg_cmp v hi) ↔ ¬ v ≤ hi := by
    rw [lg_cmp_gt, Int64.not_le]
  simp only [h1, h2]
  by_cases a : lo ≤ v
  · by_cases b : v ≤ hi
    · rw [if_neg (fun h => h a), if_neg (fun h => h b), if_pos ⟨a, b⟩]
      exact am_g_t (by decide)
    · rw [if_neg (fun h => h a), if_pos b, if_neg (fun h => b h.2)]
      exact am_g_t (by decide)
  · rw [if_pos a, if_neg (fun h => a h.1)]
    exact am_g_t (by decide)
theorem p_01 (p : Prop) [Decidable p] : (if p then (1 : Int32) else 0) = 0 ∨ (if p then (1 : Int32) else 0) = 1 := by
  split
  · exact .inr rfl
  · exact .inl rfl
theorem p_isPlace9 (s : AS) (a : Int64) : fX9_isPlace s a = some (if 0 ≤ a ∧ a ≤ (s.1 222 0).toInt64 - 1 then 1 else 0) := by
  unfold fX9_isPlace
  rw [am_g_t (by decide), p_in, am_r_s, am_g_t (p_01 _)]
  rfl
theorem p_isPerson9 (s : AS) (a : Int64) : fX9_isPerson s a = some (if 0 ≤ a ∧ a ≤ (s.1 222 5).toInt64 - 1 then 1 else 0) := by
  unfold fX9_isPerson
  rw [p_people, am_r_s, p_in, am_r_s, am_g_t (p_01 _)]
theorem p_bool {a n : Int32} : (if a < 0 then am_g ((0 : Int32) = 0 ∨ (0 : Int32) = 1) (some (0 : Int32)) else if n ≤ a then am_g ((0 : Int32) = 0 ∨ (0 : Int32) = 1) (some 0) else am_g ((1 : Int32) = 0 ∨ (1 : Int32) = 1) (some 1)) = some (if 0 ≤ a ∧ a < n then 1 else 0) := by
  by_cases h : a < 0
  · rw [if_pos h, if_neg (fun q => absurd h (Int32.not_lt.mpr q.1))]
    exact am_g_t (by decide)
  · by_cases k : n ≤ a
    · rw [if_neg h, if_pos k, if_neg (fun q => absurd k (Int32.not_le.mpr q.2))]
      exact am_g_t (by decide)
    · rw [if_neg h, if_neg k, if_pos ⟨Int32.not_lt.mp h, Int32.not_le.mp k⟩]
      exact am_g_t (by decide)
theorem p_isPlace8 (s : AS) (a : Int32) : fX8_isPlace s a = some (if 0 ≤ a ∧ a < s.1 25 1 then 1 else 0) := p_bool
theorem p_isPerson8 (s : AS) (a : Int32) : fX8_isPerson s a = some (if 0 ≤ a ∧ a < s.1 25 6 then 1 else 0) := p_bool
theorem p_isRoad8 (s : AS) (a : Int32) : fX8_isRoad s a = some (if 0 ≤ a ∧ a < s.1 25 5 then 1 else 0) := p_bool
theorem p_isMarch9 (s : AS) : fX9_isMarch s = some (if 0 < s.1 221 0 then 1 else 0) := by
  unfold fX9_isMarch
  rw [am_g_t (by decide)]
  simp only [am_let_eq]
  by_cases h : s.1 221 0 ≤ 0
  · rw [if_neg (Int32.not_lt.mpr h)]
    exact (if_pos h).trans (am_g_t (by decide))
  · rw [if_pos (Int32.not_le.mp h)]
    exact (if_neg h).trans (am_g_t (by decide))
/-- the two ways to ask for a number below n -/
theorem p_two (a n : Int32) (h : 0 ≤ n) : (0 ≤ a.toInt64 ∧ a.toInt64 ≤ n.toInt64 - 1) ↔ (0 ≤ a ∧ a < n) := by
  have e : (n.toInt64 - 1 : Int64).toInt = n.toInt - 1 := by
    have h0 : 0 ≤ n.toInt := Int32.le_iff_toInt_le.mp h
    have h1 := n.toInt_lt
    rw [Int64.toInt_sub, Int32.toInt_toInt64]
    exact Int.bmod_eq_of_le (by simp; omega) (by simp; omega)
  rw [Int64.le_iff_toInt_le, Int64.le_iff_toInt_le, e, Int32.toInt_toInt64, Int32.le_iff_toInt_le, Int32.lt_iff_toInt_lt]
  simp
  omega
/-- fault, on both sides -/
theorem p_fault8 (s : AS) (a : Int32) : fX8_fault s a = some (if a = 0 then s.1 1 0 else if a = 1 then s.1 1 1 else -1) := by
  unfold fX8_fault
  split
  · rfl
  · split <;> rfl
theorem p_fault9 (s : AS) (a : Int32) : fX9_fault s a = some (am_si s 215 0 0, if a = 0 then (am_si s 215 0 0).1 215 14 else if a = 1 then (am_si s 215 0 0).1 215 15 else -1) := by
  unfold fX9_fault
  simp only [am_let_eq]
  split
  · rfl
  · split <;> rfl
