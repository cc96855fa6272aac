/-! THE ABSTRACT MACHINE: values with ids in place of addresses, a state of numbers, one step as a predicate transformer. -/
abbrev AS : Type := (Nat → Nat → Int32) × (Nat → Nat → Int64)
abbrev AL : Type := List (Nat × AV)
abbrev AP : Type := AM → List AV → AS → AS → Option AV → Prop
def am_cat : AV → Nat
  | .inr (.inl _) => 2
  | _ => 1
def ac_v (ad sd : Nat → Nat) : AV → Value
  | .inl x => .int x
  | .inr (.inl x) => .long x
  | .inr (.inr (k, i)) => if k.1 = 0 then .null else if k.1 = 11 then .ref (sd i) else if k.1 = 12 then (if i = 0 then .null else .ref (ad i)) else .ref (ad i)
theorem ac_cat (ad sd : Nat → Nat) (v : AV) : (ac_v ad sd v).category = am_cat v := by
  rcases v with x | x | ⟨k, i⟩
  · rfl
  · rfl
  · simp only [ac_v, am_cat]
    split
    · rfl
    · split
      · rfl
      · split
        · split <;> rfl
        · rfl
abbrev ac_l (ad sd : Nat → Nat) (lv : AL) : List (Nat × Value) := lv.map (fun q => (q.1, ac_v ad sd q.2))
def am_loc (lv : AL) (n : Nat) : Option AV := (lv.find? (fun q => q.1 == n)).map (fun q => q.2)
theorem am_loc_mem {lv : AL} {n : Nat} {v : AV} (h : am_loc lv n = some v) : (n, v) ∈ lv := by
  unfold am_loc at h
  cases hf : lv.find? (fun q => q.1 == n) with
  | none => rw [hf] at h; cases h
  | some q =>
    rw [hf] at h
    have h1 := List.mem_of_find?_eq_some hf
    have h2 := List.find?_some hf
    simp only [beq_iff_eq] at h2
    cases h
    rw [← h2]
    exact h1
def am_st1 (lv : AL) (n : Nat) (v : AV) : AL := (n, v) :: lv.filter (fun q => !(q.1 == n) && !(q.1 + 1 == n && am_cat q.2 == 2))
def am_st2 (lv : AL) (n : Nat) (v : AV) : AL := (n, v) :: lv.filter (fun q => !(q.1 == n) && (!(q.1 == n + 1) && !(q.1 + 1 == n && am_cat q.2 == 2)))
theorem ac_st1 (ad sd : Nat → Nat) (lv : AL) (n : Nat) (v : AV) : (n, ac_v ad sd v) :: (ac_l ad sd lv).filter (fun q => !(q.1 == n) && !(q.1 + 1 == n && q.2.category == 2)) = ac_l ad sd (am_st1 lv n v) := by
  simp only [ac_l, am_st1, List.map_cons, List.filter_map]
  congr 2
  apply List.filter_congr
  intro q _
  simp [Function.comp, ac_cat]
theorem ac_st2 (ad sd : Nat → Nat) (lv : AL) (n : Nat) (v : AV) : (n, ac_v ad sd v) :: (ac_l ad sd lv).filter (fun q => !(q.1 == n) && (!(q.1 == n + 1) && !(q.1 + 1 == n && q.2.category == 2))) = ac_l ad sd (am_st2 lv n v) := by
  simp only [ac_l, am_st2, List.map_cons, List.filter_map]
  congr 2
  apply List.filter_congr
  intro q _
  simp [Function.comp, ac_cat]
theorem am_st1_mem {lv : AL} {n : Nat} {v : AV} {q : Nat × AV} (h : q ∈ am_st1 lv n v) : q = (n, v) ∨ q ∈ lv := by
  rcases List.mem_cons.mp h with h | h
  · exact Or.inl h
  · exact Or.inr (List.mem_filter.mp h).1
theorem am_st2_mem {lv : AL} {n : Nat} {v : AV} {q : Nat × AV} (h : q ∈ am_st2 lv n v) : q = (n, v) ∨ q ∈ lv := by
  rcases List.mem_cons.mp h with h | h
  · exact Or.inl h
  · exact Or.inr (List.mem_filter.mp h).1
def am_ic : Int → Int32
  | .ofNat k => Int32.ofNat k
  | .negSucc k => -(Int32.ofNat (k + 1))
theorem am_ic_eq (n : Int) : Int32.ofInt n = am_ic n := by
  cases n with
  | ofNat k => rfl
  | negSucc k =>
    show Int32.ofInt (Int.negSucc k) = -(Int32.ofNat (k + 1))
    rw [Int.negSucc_eq, Int32.ofInt_neg]
    rfl
-- the stack
def am_gi (lv : AL) (n : Nat) (k : Int32 → Prop) : Prop := match am_loc lv n with
  | some (.inl x) => k x
  | _ => False
def am_gl (lv : AL) (n : Nat) (k : Int64 → Prop) : Prop := match am_loc lv n with
  | some (.inr (.inl x)) => k x
  | _ => False
def am_gr (lv : AL) (n : Nat) (k : AK → Nat → Prop) : Prop := match am_loc lv n with
  | some (.inr (.inr (t, i))) => k t i
  | _ => False
def am_i1 (st : List AV) (k : Int32 → List AV → Prop) : Prop := match st with
  | .inl x :: r => k x r
  | _ => False
def am_l1 (st : List AV) (k : Int64 → List AV → Prop) : Prop := match st with
  | .inr (.inl x) :: r => k x r
  | _ => False
def am_r1 (st : List AV) (k : AK → Nat → List AV → Prop) : Prop := match st with
  | .inr (.inr (t, i)) :: r => k t i r
  | _ => False
def am_i2 (st : List AV) (k : Int32 → Int32 → List AV → Prop) : Prop := am_i1 st fun y r => am_i1 r fun x r => k x y r
def am_l2 (st : List AV) (k : Int64 → Int64 → List AV → Prop) : Prop := am_l1 st fun y r => am_l1 r fun x r => k x y r
theorem am_gi_of {lv : AL} {n : Nat} {k : Int32 → Prop} (h : am_gi lv n k) : ∃ x, (n, (.inl x : AV)) ∈ lv ∧ k x := by
  unfold am_gi at h
  split at h
  · rename_i x hx; exact ⟨x, am_loc_mem hx, h⟩
  · exact h.elim
theorem am_gl_of {lv : AL} {n : Nat} {k : Int64 → Prop} (h : am_gl lv n k) : ∃ x, (n, (.inr (.inl x) : AV)) ∈ lv ∧ k x := by
  unfold am_gl at h
  split at h
  · rename_i x hx; exact ⟨x, am_loc_mem hx, h⟩
  · exact h.elim
theorem am_gr_of {lv : AL} {n : Nat} {k : AK → Nat → Prop} (h : am_gr lv n k) : ∃ t i, (n, (.inr (.inr (t, i)) : AV)) ∈ lv ∧ k t i := by
  unfold am_gr at h
  split at h
  · rename_i t i hx; exact ⟨t, i, am_loc_mem hx, h⟩
  · exact h.elim
theorem am_i1_of {st : List AV} {k : Int32 → List AV → Prop} (h : am_i1 st k) : ∃ x r, st = .inl x :: r ∧ k x r := by
  unfold am_i1 at h
  split at h
  · exact ⟨_, _, rfl, h⟩
  · exact h.elim
theorem am_l1_of {st : List AV} {k : Int64 → List AV → Prop} (h : am_l1 st k) : ∃ x r, st = .inr (.inl x) :: r ∧ k x r := by
  unfold am_l1 at h
  split at h
  · exact ⟨_, _, rfl, h⟩
  · exact h.elim
theorem am_r1_of {st : List AV} {k : AK → Nat → List AV → Prop} (h : am_r1 st k) : ∃ t i r, st = .inr (.inr (t, i)) :: r ∧ k t i r := by
  unfold am_r1 at h
  split at h
  · exact ⟨_, _, _, rfl, h⟩
  · exact h.elim
theorem am_i2_of {st : List AV} {k : Int32 → Int32 → List AV → Prop} (h : am_i2 st k) : ∃ x y r, st = .inl y :: .inl x :: r ∧ k x y r := by
  obtain ⟨y, r1, e1, h1⟩ := am_i1_of h
  obtain ⟨x, r2, e2, h2⟩ := am_i1_of h1
  exact ⟨x, y, r2, by rw [e1, e2], h2⟩
theorem am_l2_of {st : List AV} {k : Int64 → Int64 → List AV → Prop} (h : am_l2 st k) : ∃ x y r, st = .inr (.inl y) :: .inr (.inl x) :: r ∧ k x y r := by
  obtain ⟨y, r1, e1, h1⟩ := am_l1_of h
  obtain ⟨x, r2, e2, h2⟩ := am_l1_of h1
  exact ⟨x, y, r2, by rw [e1, e2], h2⟩
def am_tg (pc : Nat) (off : Int) : Nat := ((pc : Int) + off).toNat
def am_cz (c : ClassFile.Cond) (x : Int32) (A B : Prop) : Prop := match c with
  | .eq => (x = 0 → A) ∧ (¬ x = 0 → B)
  | .ne => (¬ x = 0 → A) ∧ (x = 0 → B)
  | .lt => (x < 0 → A) ∧ (¬ x < 0 → B)
  | .ge => (0 ≤ x → A) ∧ (¬ 0 ≤ x → B)
  | .gt => (0 < x → A) ∧ (¬ 0 < x → B)
  | .le => (x ≤ 0 → A) ∧ (¬ x ≤ 0 → B)
def am_cc (c : ClassFile.Cond) (x y : Int32) (A B : Prop) : Prop := match c with
  | .eq => (x = y → A) ∧ (¬ x = y → B)
  | .ne => (¬ x = y → A) ∧ (x = y → B)
  | .lt => (x < y → A) ∧ (¬ x < y → B)
  | .ge => (y ≤ x → A) ∧ (¬ y ≤ x → B)
  | .gt => (y < x → A) ∧ (¬ y < x → B)
  | .le => (x ≤ y → A) ∧ (¬ x ≤ y → B)
/-- a tableswitch, key by key -/
def am_tw (x : Int32) (Y : Int → Prop) (d : Int) : Int → List Int → Prop
  | _, [] => Y d
  | k, o :: os => (x = am_ic k → Y o) ∧ (¬ x = am_ic k → am_tw x Y d (k + 1) os)
def am_lw (x : Int32) (Y : Int → Prop) (d : Int) : List (Int × Int) → Prop
  | [] => Y d
  | (k, o) :: os => (x = am_ic k → Y o) ∧ (¬ x = am_ic k → am_lw x Y d os)
def am_pop : Nat → List AV → List AV → Option (List AV × List AV)
  | 0, as, st => some (as, st)
  | n + 1, as, v :: st => am_pop n (v :: as) st
  | _ + 1, _, [] => none
theorem am_pop_of : ∀ {n : Nat} {as st bs r : List AV}, am_pop n as st = some (bs, r) → ∃ cs, bs = cs ++ as ∧ st = cs.reverse ++ r ∧ cs.length = n
  | 0, as, st, bs, r, h => by cases h; exact ⟨[], rfl, rfl, rfl⟩
  | n + 1, as, [], bs, r, h => by cases h
  | n + 1, as, v :: st, bs, r, h => by
    obtain ⟨cs, h1, h2, h3⟩ := am_pop_of (n := n) (as := v :: as) (st := st) h
    exact ⟨cs ++ [v], by rw [h1]; simp, by rw [h2]; simp, by simp [h3]⟩
-- the state
def am_u2 {α : Type} (f : Nat → α) (i : Nat) (g : α) : Nat → α := fun a => if a = i then g else f a
def am_si (σ : AS) (i k : Nat) (x : Int32) : AS := (am_u2 σ.1 i (upd (σ.1 i) k x), σ.2)
def am_sj (σ : AS) (i k : Nat) (x : Int64) : AS := (σ.1, am_u2 σ.2 i (vp_updL (σ.2 i) k x))
def am_sr (σ : AS) (i : Nat) (g : Nat → Int32) : AS := (am_u2 σ.1 i g, σ.2)
def am_srj (σ : AS) (i : Nat) (g : Nat → Int64) : AS := (σ.1, am_u2 σ.2 i g)
def am_sh32 (x y : Int32) : Int32 := (x.toUInt32 >>> (y.toUInt32 &&& Int32.toUInt32 31)).toInt32
def am_bl (x : Int32) : Prop := x = 0 ∨ x = 1

/-- what a reference is good for -/
def am_nn (t : AK) (i : Nat) (A : Prop) : Prop := match t.1 with
  | 0 => False
  | 12 => ¬ i = 0 ∧ A
  | _ => A
def am_gf (e : Nat × Nat × AK) (o f : Nat) (σ : AS) (k : AV → Prop) : Prop := match e.1 with
  | 0 => k (.inl (σ.1 o f))
  | 4 => k (.inl (σ.1 o f))
  | 1 => k (.inr (.inl (σ.2 o f)))
  | 2 => k (.inr (.inr (e.2.2, o + e.2.1)))
  | _ => k (.inr (.inr ((12, 0, 0), (σ.1 o f).toNatClampNeg)))
def am_pf (e : Nat × Nat × AK) (v : AV) (o f : Nat) (σ : AS) (k : AS → Prop) : Prop := match e.1, v with
  | 0, .inl x => k (am_si σ o f x)
  | 4, .inl x => am_bl x ∧ k (am_si σ o f x)
  | 1, .inr (.inl x) => k (am_sj σ o f x)
  | 3, .inr (.inr (t, i)) => (match t.1 with
    | 8 => k (am_si σ o f (Int32.ofNat i))
    | 12 => k (am_si σ o f (Int32.ofNat i))
    | _ => False)
  | _, _ => False
def am_rn (rt : Option FieldType) (v : Int32) (A : Prop) : Prop := match rt with
  | some .int => A
  | some .boolean => am_bl v ∧ A
  | some .byte => vp_nar .byte v = v ∧ A
  | some .char => vp_nar .char v = v ∧ A
  | _ => False
def am_aa (t : AK) (a : Nat) (i : Int32) (k : AV → Prop) : Prop := match t.1 with
  | 24 => k (.inr (.inr ((21, t.2.2, 0), a + 1 + i.toNatClampNeg)))
  | 25 => k (.inr (.inr ((3, 0, 0), a + 1 + t.2.2 * i.toNatClampNeg)))
  | 26 => k (.inr (.inr ((6, 0, 0), a + 1 + t.2.2 * i.toNatClampNeg)))
  | _ => False
/-- arraycopy of ints or longs -/
def am_cp (t u : AK) (a b : Nat) (sp dp n : Int32) (σ : AS) (k : AS → Prop) : Prop := (¬ sp < 0 ∧ ¬ dp < 0 ∧ ¬ n < 0 ∧ sp.toNatClampNeg + n.toNatClampNeg ≤ t.2.1 ∧ dp.toNatClampNeg + n.toNatClampNeg ≤ u.2.1) ∧ match t.1, u.1 with
  | 21, 21 => k (am_sr σ b (va_cpy (σ.1 a) (σ.1 b) sp.toNatClampNeg dp.toNatClampNeg n.toNatClampNeg))
  | 22, 22 => k (am_srj σ b (va_cpy (σ.2 a) (σ.2 b) sp.toNatClampNeg dp.toNatClampNeg n.toNatClampNeg))
  | _, _ => False
def am_rcb (t : AK) (m : AM) : Bool := match t.1 with
  | 11 => m.1 == 10 && t.2.1 == 0
  | 12 => m.1 == 7
  | k => k == m.1 + 1 && decide (m.1 < 10)
def am_rk (t : AK) : AK := match t.1 with
  | 12 => (8, 0, 0)
  | _ => t
def am_cl1 (P : AP) (m : AM) (as : List AV) (σ : AS) (k : Option AV → AS → Prop) : Prop := ∃ (σ' : AS) (v : Option AV), P m as σ σ' v ∧ k v σ'
def am_ivs (M : AM) (P : AP) (X : Nat → AL → List AV → AS → Prop) (ix pc : Nat) (lv : AL) (st : List AV) (σ : AS) : Prop :=
  (match am_ml M.1 ix with
    | some (0, m) => (match am_pop m.2.2.2.2.2.1 [] st with
      | some (as, r) => Nat.ble (r.map am_cat).sum 8 = true ∧ am_cl1 P m as σ fun v σ' => X (pc + 3) lv (v.toList ++ r) σ'
      | none => False)
    | some (2, m) => (match am_pop m.2.2.2.2.2.1 [] st with
      | some (as, r) => Nat.ble (r.map am_cat).sum 8 = true ∧ am_cl1 P m as σ fun v σ' => X (pc + 3) lv (v.toList ++ r) σ'
      | none => False)
    | some _ => False
    | none => match am_mx M.1 ix with
      | some 0 => am_i2 st fun x y r => Nat.ble (r.map am_cat).sum 8 = true ∧ X (pc + 3) lv (.inl (if x < y then y else x) :: r) σ
      | some 1 => am_i2 st fun x y r => Nat.ble (r.map am_cat).sum 8 = true ∧ X (pc + 3) lv (.inl (if y < x then y else x) :: r) σ
      | some _ => False
      | none => am_ca M.1 ix = true ∧ am_i1 st fun n r => am_i1 r fun dp r => am_r1 r fun u b r => am_i1 r fun sp r => am_r1 r fun t a r => Nat.ble (r.map am_cat).sum 8 = true ∧ am_cp t u a b sp dp n σ fun σ' => X (pc + 3) lv r σ')
def am_ivv (M : AM) (P : AP) (X : Nat → AL → List AV → AS → Prop) (ix pc : Nat) (lv : AL) (st : List AV) (σ : AS) : Prop :=
  (match am_ml M.1 ix with
    | some (1, m) => (match am_pop m.2.2.2.2.2.1 [] st with
      | some (as, .inr (.inr (t, o)) :: r) => Nat.ble (r.map am_cat).sum 8 = true ∧ am_rcb t m = true ∧ am_nn t o (am_cl1 P m (.inr (.inr (am_rk t, o)) :: as) σ fun v σ' => X (pc + 3) lv (v.toList ++ r) σ')
      | _ => False)
    | _ => False)
def am_1 (M : AM) (P : AP) (fin : Option AV → AS → Prop) (X : Nat → AL → List AV → AS → Prop) (i : Instr) (pc : Nat) (lv : AL) (st : List AV) (σ : AS) : Prop :=
  match i with
  | .iconst n => X (pc + 1) lv (.inl (am_ic n) :: st) σ
  | .bipush n => X (pc + 2) lv (.inl (am_ic n) :: st) σ
  | .sipush n => X (pc + 3) lv (.inl (am_ic n) :: st) σ
  | .lconst n => X (pc + 1) lv (.inr (.inl (Int64.ofNat n)) :: st) σ
  | .ldc ix => (match am_kc M.1 ix with
    | some v => X (pc + 2) lv (.inl v :: st) σ
    | none => match am_ks M.1 ix with
      | some q => X (pc + 2) lv (.inr (.inr ((11, 0, 0), q)) :: st) σ
      | none => False)
  | .ldc_w ix => (match am_kc M.1 ix with
    | some v => X (pc + 3) lv (.inl v :: st) σ
    | none => False)
  | .ldc2_w ix => (match am_kl M.1 ix with
    | some v => X (pc + 3) lv (.inr (.inl v) :: st) σ
    | none => False)
  | .iload_n n => am_gi lv n fun x => X (pc + 1) lv (.inl x :: st) σ
  | .iload n => am_gi lv n fun x => X (pc + 2) lv (.inl x :: st) σ
  | .lload_n n => am_gl lv n fun x => X (pc + 1) lv (.inr (.inl x) :: st) σ
  | .lload n => am_gl lv n fun x => X (pc + 2) lv (.inr (.inl x) :: st) σ
  | .aload_n n => am_gr lv n fun t o => am_nn t o (X (pc + 1) lv (.inr (.inr (t, o)) :: st) σ)
  | .aload n => am_gr lv n fun t o => am_nn t o (X (pc + 2) lv (.inr (.inr (t, o)) :: st) σ)
  | .istore_n n => am_i1 st fun x r => X (pc + 1) (am_st1 lv n (.inl x)) r σ
  | .istore n => am_i1 st fun x r => X (pc + 2) (am_st1 lv n (.inl x)) r σ
  | .lstore_n n => am_l1 st fun x r => X (pc + 1) (am_st2 lv n (.inr (.inl x))) r σ
  | .lstore n => am_l1 st fun x r => X (pc + 2) (am_st2 lv n (.inr (.inl x))) r σ
  | .astore_n n => am_r1 st fun t o r => am_nn t o (X (pc + 1) (am_st1 lv n (.inr (.inr (t, o)))) r σ)
  | .astore n => am_r1 st fun t o r => am_nn t o (X (pc + 2) (am_st1 lv n (.inr (.inr (t, o)))) r σ)
  | .iinc n c => am_gi lv n fun x => X (pc + 3) (am_st1 lv n (.inl (x + am_ic c))) st σ
  | .dup => (match st with
    | .inl x :: r => X (pc + 1) lv (.inl x :: .inl x :: r) σ
    | .inr (.inr q) :: r => X (pc + 1) lv (.inr (.inr q) :: .inr (.inr q) :: r) σ
    | _ => False)
  | .dup2 => (match st with
    | .inl x :: .inr (.inr q) :: r => X (pc + 1) lv (.inl x :: .inr (.inr q) :: .inl x :: .inr (.inr q) :: r) σ
    | _ => False)
  | .pop => am_i1 st fun _ r => X (pc + 1) lv r σ
  | .iadd => am_i2 st fun x y r => X (pc + 1) lv (.inl (x + y) :: r) σ
  | .isub => am_i2 st fun x y r => X (pc + 1) lv (.inl (x - y) :: r) σ
  | .imul => am_i2 st fun x y r => X (pc + 1) lv (.inl (x * y) :: r) σ
  | .idiv => am_i2 st fun x y r => ¬ y = 0 ∧ X (pc + 1) lv (.inl (x / y) :: r) σ
  | .irem => am_i2 st fun x y r => ¬ y = 0 ∧ X (pc + 1) lv (.inl (x - x / y * y) :: r) σ
  | .ishl => am_i2 st fun x y r => X (pc + 1) lv (.inl (x <<< (y &&& 31)) :: r) σ
  | .ishr => am_i2 st fun x y r => X (pc + 1) lv (.inl (x >>> (y &&& 31)) :: r) σ
  | .iushr => am_i2 st fun x y r => X (pc + 1) lv (.inl (am_sh32 x y) :: r) σ
  | .iand => am_i2 st fun x y r => X (pc + 1) lv (.inl (x &&& y) :: r) σ
  | .ior => am_i2 st fun x y r => X (pc + 1) lv (.inl (x ||| y) :: r) σ
  | .ixor => am_i2 st fun x y r => X (pc + 1) lv (.inl (x ^^^ y) :: r) σ
  | .ladd => am_l2 st fun x y r => X (pc + 1) lv (.inr (.inl (x + y)) :: r) σ
  | .lsub => am_l2 st fun x y r => X (pc + 1) lv (.inr (.inl (x - y)) :: r) σ
  | .lmul => am_l2 st fun x y r => X (pc + 1) lv (.inr (.inl (x * y)) :: r) σ
  | .ldiv => am_l2 st fun x y r => ¬ y = 0 ∧ X (pc + 1) lv (.inr (.inl (x / y)) :: r) σ
  | .lrem => am_l2 st fun x y r => ¬ y = 0 ∧ X (pc + 1) lv (.inr (.inl (x - x / y * y)) :: r) σ
  | .land => am_l2 st fun x y r => X (pc + 1) lv (.inr (.inl (x &&& y)) :: r) σ
  | .lor => am_l2 st fun x y r => X (pc + 1) lv (.inr (.inl (x ||| y)) :: r) σ
  | .lshl => am_i1 st fun y r => am_l1 r fun x r => X (pc + 1) lv (.inr (.inl (x <<< (y.toInt64 &&& 63))) :: r) σ
  | .lshr => am_i1 st fun y r => am_l1 r fun x r => X (pc + 1) lv (.inr (.inl (x >>> (y.toInt64 &&& 63))) :: r) σ
  | .i2l => am_i1 st fun x r => X (pc + 1) lv (.inr (.inl x.toInt64) :: r) σ
  | .l2i => am_l1 st fun x r => X (pc + 1) lv (.inl x.toInt32 :: r) σ
  | .i2b => am_i1 st fun x r => X (pc + 1) lv (.inl x.toInt8.toInt32 :: r) σ
  | .i2s => am_i1 st fun x r => X (pc + 1) lv (.inl x.toInt16.toInt32 :: r) σ
  | .lcmp => am_l2 st fun x y r => X (pc + 1) lv (.inl (lg_cmp x y) :: r) σ
  | .ifCond c off => am_i1 st fun x r => am_cz c x (X (am_tg pc off) lv r σ) (X (pc + 3) lv r σ)
  | .if_icmp c off => am_i2 st fun x y r => am_cc c x y (X (am_tg pc off) lv r σ) (X (pc + 3) lv r σ)
  | .goto off => X (am_tg pc off) lv st σ
  | .tableswitch d lo _ offs => am_i1 st fun x r => am_tw x (fun o => X (am_tg pc o) lv r σ) d lo offs.toList
  | .lookupswitch d ps => am_i1 st fun x r => am_lw x (fun o => X (am_tg pc o) lv r σ) d ps.toList
  | .ifnull off => am_r1 st fun t i r => (match t.1 with
    | 12 => (i = 0 → X (am_tg pc off) lv r σ) ∧ (¬ i = 0 → X (pc + 3) lv r σ)
    | _ => False)
  | .getstatic ix => am_gs M.1 ix = true ∧ X (pc + 3) lv (.inl 1 :: st) σ
  | .i2c => am_i1 st fun x r => X (pc + 1) lv (.inl (x.toUInt32 % 65536).toInt32 :: r) σ
  | .getfield ix => am_r1 st fun t o r => (match am_fl M.1 ix with
    | some (ci, f) => t.1 = ci + 1 ∧ am_gf (am_ft ci f) o f σ (fun v => X (pc + 3) lv (v :: r) σ)
    | none => match am_fs M.1 ix with
      | some 0 => t = (11, 0, 0) ∧ X (pc + 3) lv (.inl 0 :: r) σ
      | some 1 => t = (11, 0, 0) ∧ X (pc + 3) lv (.inr (.inr ((11, 1, 0), o + 16)) :: r) σ
      | some _ => False
      | none => False)
  | .putfield ix => (match st with
    | v :: st' => am_r1 st' fun t o r => (match am_fl M.1 ix with
      | some (ci, f) => t.1 = ci + 1 ∧ am_pf (am_ft ci f) v o f σ (fun σ' => X (pc + 3) lv r σ')
      | none => False)
    | [] => False)
  | .iaload => am_i1 st fun i r => am_r1 r fun t a r => t.1 = 21 ∧ vp_in i t.2.1 ∧ X (pc + 1) lv (.inl (σ.1 a i.toNatClampNeg) :: r) σ
  | .baload => am_i1 st fun i r => am_r1 r fun t a r => (match t.1 with
    | 11 => t = (11, 1, 0) ∧ vp_in i (am_len.getD (a - 16) 0) ∧ X (pc + 1) lv (.inl ((am_byt.getD (a - 16) []).getD i.toNatClampNeg 0) :: r) σ
    | _ => (t.1 = 20 ∨ t.1 = 23) ∧ vp_in i t.2.1 ∧ X (pc + 1) lv (.inl (σ.1 a i.toNatClampNeg) :: r) σ)
  | .laload => am_i1 st fun i r => am_r1 r fun t a r => t.1 = 22 ∧ vp_in i t.2.1 ∧ X (pc + 1) lv (.inr (.inl (σ.2 a i.toNatClampNeg)) :: r) σ
  | .aaload => am_i1 st fun i r => am_r1 r fun t a r => vp_in i t.2.1 ∧ am_aa t a i (fun v => X (pc + 1) lv (v :: r) σ)
  | .iastore => am_i1 st fun x r => am_i1 r fun i r => am_r1 r fun t a r => t.1 = 21 ∧ vp_in i t.2.1 ∧ X (pc + 1) lv r (am_si σ a i.toNatClampNeg x)
  | .bastore => am_i1 st fun x r => am_i1 r fun i r => am_r1 r fun t a r => (t.1 = 20 ∧ vp_in i t.2.1 ∧ X (pc + 1) lv r (am_si σ a i.toNatClampNeg (vp_nar .byte x))) ∨ (t.1 = 23 ∧ vp_in i t.2.1 ∧ X (pc + 1) lv r (am_si σ a i.toNatClampNeg (vp_nar .boolean x)))
  | .lastore => am_l1 st fun x r => am_i1 r fun i r => am_r1 r fun t a r => t.1 = 22 ∧ vp_in i t.2.1 ∧ X (pc + 1) lv r (am_sj σ a i.toNatClampNeg x)
  | .arraylength => am_r1 st fun t a r => (match t.1 with
    | 11 => t = (11, 1, 0) ∧ X (pc + 1) lv (.inl (Int32.ofNat (am_len.getD (a - 16) 0)) :: r) σ
    | _ => (t.1 = 20 ∨ t.1 = 21 ∨ t.1 = 22) ∧ X (pc + 1) lv (.inl (Int32.ofNat t.2.1) :: r) σ)
  | .invokestatic ix => am_ivs M P X ix pc lv st σ
  | .invokevirtual ix => am_ivv M P X ix pc lv st σ
  | .ireturn => (match st with
    | [.inl v] => am_rn M.2.2.2.2.1 v (fin (some (.inl v)) σ)
    | _ => False)
  | .lreturn => (match st with
    | [.inr (.inl v)] => M.2.2.2.2.1 = some .long ∧ fin (some (.inr (.inl v))) σ
    | _ => False)
  | .areturn => (match st with
    | [.inr (.inr (t, o))] => (t.1 = 12 ∧ M.2.2.2.2.1 = some (.object "MarchFolk$Ways")) ∧ fin (some (.inr (.inr (t, o)))) σ
    | _ => False)
  | .return_ => (match st with
    | [] => M.2.2.2.2.1 = none ∧ fin none σ
    | _ => False)
  | _ => False
