/-! METHODS, printed by gen.py. -/
/-- the literal's length -/
def fJ0_length_8abf5 (o0 : Nat) : Option Int32 := some (Int32.ofNat (am_len.getD o0 0))
/-- the literal's char -/
def fJ0_charAt_5068e (o0 : Nat) (a1 : Int32) : Option Int32 := am_g (¬ (a1 < 0 ∨ am_len.getD o0 0 ≤ a1.toNatClampNeg)) (some ((am_byt.getD o0 []).getD a1.toNatClampNeg 0))
theorem tJ0_length_8abf5 (l : Launch) (d : Nat) {s0 : AS} {o0 : Nat} {r9 : Int32} (hf : fJ0_length_8abf5 o0 = some r9) : am_Ct l (d + 8) mJ0_length_8abf5 [.inr (.inr ((11, 0, 0), o0))] s0 s0 (some (.inl r9)) := by
  sorry
theorem tJ0_charAt_5068e (l : Launch) (d : Nat) {s0 : AS} {o0 : Nat} {a1 : Int32} {r9 : Int32} (hf : fJ0_charAt_5068e o0 a1 = some r9) : am_Ct l (d + 8) mJ0_charAt_5068e [.inr (.inr ((11, 0, 0), o0)), .inl a1] s0 s0 (some (.inl r9)) := by
  sorry
def fJ6_bitCount_0f7a4 (a0 : Int32) : Option Int32 :=
  am_let (a0 - ((am_sh32 a0 (1 : Int32)) &&& (1431655765 : Int32))) (fun (x1 : Int32) => am_let ((x1 &&& (858993459 : Int32)) + ((am_sh32 x1 (2 : Int32)) &&& (858993459 : Int32))) (fun (x2 : Int32) => am_let ((x2 + (am_sh32 x2 (4 : Int32))) &&& (252645135 : Int32)) (fun (x3 : Int32) => am_let (x3 + (am_sh32 x3 (8 : Int32))) (fun (x4 : Int32) => am_let (x4 + (am_sh32 x4 (16 : Int32))) (fun (x5 : Int32) => some (x5 &&& (63 : Int32)))))))
def kJ6_bitCount_0f7a4 : List (Nat × Instr × Nat) := [(0, .iload_n 0, 1), (1, .iload_n 0, 1), (2, .iconst 1, 1), (3, .iushr, 1), (4, .ldc_w 265, 3), (7, .iand, 1), (8, .isub, 1), (9, .istore_n 0, 1), (10, .iload_n 0, 1), (11, .ldc_w 266, 3), (14, .iand, 1), (15, .iload_n 0, 1), (16, .iconst 2, 1), (17, .iushr, 1), (18, .ldc_w 266, 3), (21, .iand, 1), (22, .iadd, 1), (23, .istore_n 0, 1), (24, .iload_n 0, 1), (25, .iload_n 0, 1), (26, .iconst 4, 1), (27, .iushr, 1), (28, .iadd, 1), (29, .ldc_w 267, 3), (32, .iand, 1), (33, .istore_n 0, 1), (34, .iload_n 0, 1), (35, .iload_n 0, 1), (36, .bipush 8, 2), (38, .iushr, 1), (39, .iadd, 1), (40, .istore_n 0, 1), (41, .iload_n 0, 1), (42, .iload_n 0, 1), (43, .bipush 16, 2), (45, .iushr, 1), (46, .iadd, 1), (47, .istore_n 0, 1), (48, .iload_n 0, 1), (49, .bipush 63, 2), (51, .iand, 1), (52, .ireturn, 1)]
theorem qJ6_bitCount_0f7a4 : ∀ q ∈ kJ6_bitCount_0f7a4, decode mJ6_bitCount_0f7a4.2.2.1 q.1 = .ok (q.2.1, q.2.2) ∧ am_iok mJ6_bitCount_0f7a4.2.2.2.1 q.1 q.2.1 q.2.2 = true := by decide +kernel
set_option maxRecDepth 100000 in
theorem wJ6_bitCount_0f7a4 : Cond.code mJ6_bitCount_0f7a4.2.1 mJ6_bitCount_0f7a4.2.2.1 mJ6_bitCount_0f7a4.2.2.2.1 mJ6_bitCount_0f7a4.2.2.2.2.1 ∈ am_T := List.mem_filter.mpr ⟨List.mem_of_getElem? (i := 771) rfl, rfl⟩
set_option maxHeartbeats 4000000 in
set_option maxRecDepth 100000 in
theorem tJ6_bitCount_0f7a4 (l : Launch) (d : Nat) {s0 : AS} {a0 : Int32} {r9 : Int32} (hf : fJ6_bitCount_0f7a4 a0 = some r9) : am_Ct l (d + 1) mJ6_bitCount_0f7a4 [.inl a0] s0 s0 (some (.inl r9)) := by
  refine am_sim l (d + 0) (code := kJ6_bitCount_0f7a4) (by decide +kernel) wJ6_bitCount_0f7a4 qJ6_bitCount_0f7a4 (Nat.le_of_ble_eq_true rfl) ?_
  intro X hX
  show X 0 [(0, .inl a0)] [] s0
  unfold fJ6_bitCount_0f7a4 at hf
  refine am_blk hX 0 8 (am_nl (Z := fun x1 => X 10 [(0, .inl x1)] [] s0) hf (fun x1 hf => ?_))
  refine am_blk hX 8 10 (am_nl (Z := fun x2 => X 24 [(0, .inl x2)] [] s0) hf (fun x2 hf => ?_))
  refine am_blk hX 18 8 (am_nl (Z := fun x3 => X 34 [(0, .inl x3)] [] s0) hf (fun x3 hf => ?_))
  refine am_blk hX 26 6 (am_nl (Z := fun x4 => X 41 [(0, .inl x4)] [] s0) hf (fun x4 hf => ?_))
  refine am_blk hX 32 6 (am_nl (Z := fun x5 => X 48 [(0, .inl x5)] [] s0) hf (fun x5 hf => ?_))
  refine am_blk hX 38 4 (am_rpi hf)
def fJ7_fill_53178_L5 (o0 : Nat) (n0 : Nat) (a1 : Int32) (x1 : Int32) : Nat → AS → Int32 → Option (AS × Unit)
  | 0, _, _ => none
  | n5 + 1, s2, x3 =>
    if x1 ≤ x3 then (some (s2, ())) else (am_g (¬ (x3 < 0 ∨ n0 ≤ x3.toNatClampNeg)) (am_let (am_si s2 o0 (x3.toNatClampNeg) a1) (fun (s5 : AS) => am_let (x3 + (1 : Int32)) (fun (x6 : Int32) => fJ7_fill_53178_L5 o0 n0 a1 x1 n5 s5 x6))))
def fJ7_fill_53178 (s0 : AS) (o0 : Nat) (n0 : Nat) (a1 : Int32) : Option (AS × Unit) :=
  am_let (Int32.ofNat n0) (fun (x1 : Int32) => fJ7_fill_53178_L5 o0 n0 a1 x1 am_fu s0 (0 : Int32))
def kJ7_fill_53178 : List (Nat × Instr × Nat) := [(0, .iconst 0, 1), (1, .istore_n 2, 1), (2, .aload_n 0, 1), (3, .arraylength, 1), (4, .istore_n 3, 1), (5, .iload_n 2, 1), (6, .iload_n 3, 1), (7, .if_icmp .ge 13, 3), (10, .aload_n 0, 1), (11, .iload_n 2, 1), (12, .iload_n 1, 1), (13, .iastore, 1), (14, .iinc 2 1, 3), (17, .goto (-12), 3), (20, .return_, 1)]
theorem qJ7_fill_53178 : ∀ q ∈ kJ7_fill_53178, decode mJ7_fill_53178.2.2.1 q.1 = .ok (q.2.1, q.2.2) ∧ am_iok mJ7_fill_53178.2.2.2.1 q.1 q.2.1 q.2.2 = true := by decide +kernel
set_option maxRecDepth 100000 in
theorem wJ7_fill_53178 : Cond.code mJ7_fill_53178.2.1 mJ7_fill_53178.2.2.1 mJ7_fill_53178.2.2.2.1 mJ7_fill_53178.2.2.2.2.1 ∈ am_T := List.mem_filter.mpr ⟨List.mem_of_getElem? (i := 533) rfl, rfl⟩
set_option maxHeartbeats 4000000 in
set_option maxRecDepth 100000 in
theorem tJ7_fill_53178 (l : Launch) (d : Nat) {s0 : AS} {o0 : Nat} {n0 : Nat} {a1 : Int32} {s9 : AS} {r9 : Unit} (hf : fJ7_fill_53178 s0 o0 n0 a1 = some (s9, r9)) : am_Ct l (d + 1) mJ7_fill_53178 [.inr (.inr ((21, n0, 0), o0)), .inl a1] s0 s9 none := by
  refine am_sim l (d + 0) (code := kJ7_fill_53178) (by decide +kernel) wJ7_fill_53178 qJ7_fill_53178 (Nat.le_of_ble_eq_true rfl) ?_
  intro X hX
  show X 0 [(0, .inr (.inr ((21, n0, 0), o0))), (1, .inl a1)] [] s0
  unfold fJ7_fill_53178 at hf
  refine am_blk hX 0 5 (And.intro (Or.inl rfl) (am_nl (Z := fun x1 => X 5 [(3, .inl x1), (2, .inl (0 : Int32)), (0, .inr (.inr ((21, n0, 0), o0))), (1, .inl a1)] [] s0) hf (fun x1 hf => ?_)))
  have hL5 : ∀ (n5 : Nat) (s2 : AS) (x3 : Int32), fJ7_fill_53178_L5 o0 n0 a1 x1 n5 s2 x3 = some (s9, r9) → X 5 [(0, .inr (.inr ((21, n0, 0), o0))), (1, .inl a1), (2, .inl x3), (3, .inl x1)] [] s2 := by
    intro n5
    induction n5 with
    | zero => intro s2 x3 hf; exact am_no (show none = some _ from hf)
    | succ n5 ih5 =>
      intro s2 x3 hf
      refine am_blk hX 5 3 (And.intro (fun hb => ?_) (fun hb => ?_))
      · have hf := am_it hf hb
        show X 20 [(0, .inr (.inr ((21, n0, 0), o0))), (1, .inl a1), (2, .inl x3), (3, .inl x1)] [] s2
        refine am_blk hX 14 1 (And.intro rfl (am_rv hf))
      · have hf := am_if hf hb
        show X 10 [(0, .inr (.inr ((21, n0, 0), o0))), (1, .inl a1), (2, .inl x3), (3, .inl x1)] [] s2
        obtain ⟨g4, hf⟩ := am_g_of hf
        refine am_blk hX 8 4 (And.intro rfl (And.intro g4 (am_nl (Z := fun s5 => X 14 [(0, .inr (.inr ((21, n0, 0), o0))), (1, .inl a1), (2, .inl x3), (3, .inl x1)] [] s5) hf (fun s5 hf => ?_))))
        refine am_blk hX 12 1 (am_nl (Z := fun x6 => X 17 [(2, .inl x6), (0, .inr (.inr ((21, n0, 0), o0))), (1, .inl a1), (3, .inl x1)] [] s5) hf (fun x6 hf => ?_))
        refine am_blk hX 13 1 (?_)
        show X 5 [(2, .inl x6), (0, .inr (.inr ((21, n0, 0), o0))), (1, .inl a1), (3, .inl x1)] [] s5
        exact am_wk hX [1, 2, 0, 3] (ih5 s5 x6 hf)
  exact am_wk hX [2, 3, 1, 0] (hL5 am_fu s0 (0 : Int32) hf)
def fJ7_fill_d0a16_L6 (o0 : Nat) (n0 : Nat) (a1 : Int64) (x1 : Int32) : Nat → AS → Int32 → Option (AS × Unit)
  | 0, _, _ => none
  | n6 + 1, s2, x3 =>
    if x1 ≤ x3 then (some (s2, ())) else (am_g (¬ (x3 < 0 ∨ n0 ≤ x3.toNatClampNeg)) (am_let (am_sj s2 o0 (x3.toNatClampNeg) a1) (fun (s5 : AS) => am_let (x3 + (1 : Int32)) (fun (x6 : Int32) => fJ7_fill_d0a16_L6 o0 n0 a1 x1 n6 s5 x6))))
def fJ7_fill_d0a16 (s0 : AS) (o0 : Nat) (n0 : Nat) (a1 : Int64) : Option (AS × Unit) :=
  am_let (Int32.ofNat n0) (fun (x1 : Int32) => fJ7_fill_d0a16_L6 o0 n0 a1 x1 am_fu s0 (0 : Int32))
def kJ7_fill_d0a16 : List (Nat × Instr × Nat) := [(0, .iconst 0, 1), (1, .istore_n 3, 1), (2, .aload_n 0, 1), (3, .arraylength, 1), (4, .istore 4, 2), (6, .iload_n 3, 1), (7, .iload 4, 2), (9, .if_icmp .ge 13, 3), (12, .aload_n 0, 1), (13, .iload_n 3, 1), (14, .lload_n 1, 1), (15, .lastore, 1), (16, .iinc 3 1, 3), (19, .goto (-13), 3), (22, .return_, 1)]
theorem qJ7_fill_d0a16 : ∀ q ∈ kJ7_fill_d0a16, decode mJ7_fill_d0a16.2.2.1 q.1 = .ok (q.2.1, q.2.2) ∧ am_iok mJ7_fill_d0a16.2.2.2.1 q.1 q.2.1 q.2.2 = true := by decide +kernel
set_option maxRecDepth 100000 in
theorem wJ7_fill_d0a16 : Cond.code mJ7_fill_d0a16.2.1 mJ7_fill_d0a16.2.2.1 mJ7_fill_d0a16.2.2.2.1 mJ7_fill_d0a16.2.2.2.2.1 ∈ am_T := List.mem_filter.mpr ⟨List.mem_of_getElem? (i := 1267) rfl, rfl⟩
set_option maxHeartbeats 4000000 in
set_option maxRecDepth 100000 in
theorem tJ7_fill_d0a16 (l : Launch) (d : Nat) {s0 : AS} {o0 : Nat} {n0 : Nat} {a1 : Int64} {s9 : AS} {r9 : Unit} (hf : fJ7_fill_d0a16 s0 o0 n0 a1 = some (s9, r9)) : am_Ct l (d + 1) mJ7_fill_d0a16 [.inr (.inr ((22, n0, 0), o0)), .inr (.inl a1)] s0 s9 none := by
  refine am_sim l (d + 0) (code := kJ7_fill_d0a16) (by decide +kernel) wJ7_fill_d0a16 qJ7_fill_d0a16 (Nat.le_of_ble_eq_true rfl) ?_
  intro X hX
  show X 0 [(0, .inr (.inr ((22, n0, 0), o0))), (1, .inr (.inl a1))] [] s0
  unfold fJ7_fill_d0a16 at hf
  refine am_blk hX 0 5 (And.intro (Or.inr rfl) (am_nl (Z := fun x1 => X 6 [(4, .inl x1), (3, .inl (0 : Int32)), (0, .inr (.inr ((22, n0, 0), o0))), (1, .inr (.inl a1))] [] s0) hf (fun x1 hf => ?_)))
  have hL6 : ∀ (n6 : Nat) (s2 : AS) (x3 : Int32), fJ7_fill_d0a16_L6 o0 n0 a1 x1 n6 s2 x3 = some (s9, r9) → X 6 [(0, .inr (.inr ((22, n0, 0), o0))), (1, .inr (.inl a1)), (3, .inl x3), (4, .inl x1)] [] s2 := by
    intro n6
    induction n6 with
    | zero => intro s2 x3 hf; exact am_no (show none = some _ from hf)
    | succ n6 ih6 =>
      intro s2 x3 hf
      refine am_blk hX 5 3 (And.intro (fun hb => ?_) (fun hb => ?_))
      · have hf := am_it hf hb
        show X 22 [(0, .inr (.inr ((22, n0, 0), o0))), (1, .inr (.inl a1)), (3, .inl x3), (4, .inl x1)] [] s2
        refine am_blk hX 14 1 (And.intro rfl (am_rv hf))
      · have hf := am_if hf hb
        show X 12 [(0, .inr (.inr ((22, n0, 0), o0))), (1, .inr (.inl a1)), (3, .inl x3), (4, .inl x1)] [] s2
        obtain ⟨g4, hf⟩ := am_g_of hf
        refine am_blk hX 8 4 (And.intro rfl (And.intro g4 (am_nl (Z := fun s5 => X 16 [(0, .inr (.inr ((22, n0, 0), o0))), (1, .inr (.inl a1)), (3, .inl x3), (4, .inl x1)] [] s5) hf (fun s5 hf => ?_))))
        refine am_blk hX 12 1 (am_nl (Z := fun x6 => X 19 [(3, .inl x6), (0, .inr (.inr ((22, n0, 0), o0))), (1, .inr (.inl a1)), (4, .inl x1)] [] s5) hf (fun x6 hf => ?_))
        refine am_blk hX 13 1 (?_)
        show X 6 [(3, .inl x6), (0, .inr (.inr ((22, n0, 0), o0))), (1, .inr (.inl a1)), (4, .inl x1)] [] s5
        exact am_wk hX [1, 2, 0, 3] (ih6 s5 x6 hf)
  exact am_wk hX [2, 3, 1, 0] (hL6 am_fu s0 (0 : Int32) hf)
def fX0_clear (s0 : AS) (o0 : Nat) : Option (AS × Unit) :=
  am_let (am_si s0 o0 0 (0 : Int32)) (fun (s1 : AS) => am_let (am_si s1 o0 1 (0 : Int32)) (fun (s2 : AS) => am_let (am_si s2 o0 2 (0 : Int32)) (fun (s3 : AS) => some (s3, ()))))
def kX0_clear : List (Nat × Instr × Nat) := [(0, .aload_n 0, 1), (1, .iconst 0, 1), (2, .putfield 18, 3), (5, .aload_n 0, 1), (6, .iconst 0, 1), (7, .putfield 22, 3), (10, .aload_n 0, 1), (11, .iconst 0, 1), (12, .putfield 25, 3), (15, .return_, 1)]
theorem qX0_clear : ∀ q ∈ kX0_clear, decode mX0_clear.2.2.1 q.1 = .ok (q.2.1, q.2.2) ∧ am_iok mX0_clear.2.2.2.1 q.1 q.2.1 q.2.2 = true := by decide +kernel
set_option maxRecDepth 100000 in
theorem wX0_clear : Cond.code mX0_clear.2.1 mX0_clear.2.2.1 mX0_clear.2.2.2.1 mX0_clear.2.2.2.2.1 ∈ am_T := List.mem_filter.mpr ⟨List.mem_of_getElem? (i := 667) rfl, rfl⟩
set_option maxHeartbeats 4000000 in
set_option maxRecDepth 100000 in
theorem tX0_clear (l : Launch) (d : Nat) {s0 : AS} {o0 : Nat} {s9 : AS} {r9 : Unit} (hf : fX0_clear s0 o0 = some (s9, r9)) : am_Ct l (d + 1) mX0_clear [.inr (.inr ((1, 0, 0), o0))] s0 s9 none := by
  refine am_sim l (d + 0) (code := kX0_clear) (by decide +kernel) wX0_clear qX0_clear (Nat.le_of_ble_eq_true rfl) ?_
  intro X hX
  show X 0 [(0, .inr (.inr ((1, 0, 0), o0)))] [] s0
  unfold fX0_clear at hf
  refine am_blk hX 0 3 (And.intro rfl (am_nl (Z := fun s1 => X 5 [(0, .inr (.inr ((1, 0, 0), o0)))] [] s1) hf (fun s1 hf => ?_)))
  refine am_blk hX 3 3 (And.intro rfl (am_nl (Z := fun s2 => X 10 [(0, .inr (.inr ((1, 0, 0), o0)))] [] s2) hf (fun s2 hf => ?_)))
  refine am_blk hX 6 3 (And.intro rfl (am_nl (Z := fun s3 => X 15 [(0, .inr (.inr ((1, 0, 0), o0)))] [] s3) hf (fun s3 hf => ?_)))
  refine am_blk hX 9 1 (And.intro rfl (am_rv hf))
def fX0_keep (s0 : AS) (o0 : Nat) : Option (AS × Unit) :=
  am_let (fun (s1 : AS) => some (s1, ())) (fun J45 => if (40 : Int32) ≤ (s0.1 o0 0) then (J45 s0) else (am_g (¬ ((s0.1 o0 0) < 0 ∨ 40 ≤ (s0.1 o0 0).toNatClampNeg)) (am_let (am_si s0 (o0 + 1) ((s0.1 o0 0).toNatClampNeg) (s0.1 o0 1)) (fun (s3 : AS) => am_g (¬ ((s3.1 o0 0) < 0 ∨ 40 ≤ (s3.1 o0 0).toNatClampNeg)) (am_let (am_si s3 (o0 + 2) ((s3.1 o0 0).toNatClampNeg) (s3.1 o0 2)) (fun (s5 : AS) => am_let (am_si s5 o0 0 ((s5.1 o0 0) + (1 : Int32))) (fun (s6 : AS) => J45 s6)))))))
def kX0_keep : List (Nat × Instr × Nat) := [(0, .aload_n 0, 1), (1, .getfield 18, 3), (4, .bipush 40, 2), (6, .if_icmp .ge 39, 3), (9, .aload_n 0, 1), (10, .getfield 9, 3), (13, .aload_n 0, 1), (14, .getfield 18, 3), (17, .aload_n 0, 1), (18, .getfield 22, 3), (21, .iastore, 1), (22, .aload_n 0, 1), (23, .getfield 15, 3), (26, .aload_n 0, 1), (27, .getfield 18, 3), (30, .aload_n 0, 1), (31, .getfield 25, 3), (34, .iastore, 1), (35, .aload_n 0, 1), (36, .dup, 1), (37, .getfield 18, 3), (40, .iconst 1, 1), (41, .iadd, 1), (42, .putfield 18, 3), (45, .return_, 1)]
theorem qX0_keep : ∀ q ∈ kX0_keep, decode mX0_keep.2.2.1 q.1 = .ok (q.2.1, q.2.2) ∧ am_iok mX0_keep.2.2.2.1 q.1 q.2.1 q.2.2 = true := by decide +kernel
set_option maxRecDepth 100000 in
theorem wX0_keep : Cond.code mX0_keep.2.1 mX0_keep.2.2.1 mX0_keep.2.2.2.1 mX0_keep.2.2.2.2.1 ∈ am_T := List.mem_filter.mpr ⟨List.mem_of_getElem? (i := 1211) rfl, rfl⟩
set_option maxHeartbeats 4000000 in
set_option maxRecDepth 100000 in
theorem tX0_keep (l : Launch) (d : Nat) {s0 : AS} {o0 : Nat} {s9 : AS} {r9 : Unit} (hf : fX0_keep s0 o0 = some (s9, r9)) : am_Ct l (d + 1) mX0_keep [.inr (.inr ((1, 0, 0), o0))] s0 s9 none := by
  refine am_sim l (d + 0) (code := kX0_keep) (by decide +kernel) wX0_keep qX0_keep (Nat.le_of_ble_eq_true rfl) ?_
  intro X hX
  show X 0 [(0, .inr (.inr ((1, 0, 0), o0)))] [] s0
  unfold fX0_keep at hf
  refine am_jn hf (fun J45 => ∀ (s1 : AS), J45 s1 = some (s9, r9) → X 45 [] [] s1) ?_ ?_
  · intro s1 hf
    refine am_blk hX 24 1 (And.intro rfl (am_rv hf))
  · intro J45 hJ45 hf
    refine am_blk hX 0 4 (And.intro rfl (And.intro (fun hb => ?_) (fun hb => ?_)))
    · have hf := am_it hf hb
      show X 45 [(0, .inr (.inr ((1, 0, 0), o0)))] [] s0
      exact am_wk hX [] (hJ45 s0 hf)
    · have hf := am_if hf hb
      show X 9 [(0, .inr (.inr ((1, 0, 0), o0)))] [] s0
      obtain ⟨g2, hf⟩ := am_g_of hf
      refine am_blk hX 4 7 (And.intro rfl (And.intro rfl (And.intro rfl (And.intro rfl (And.intro g2 (am_nl (Z := fun s3 => X 22 [(0, .inr (.inr ((1, 0, 0), o0)))] [] s3) hf (fun s3 hf => ?_)))))))
      obtain ⟨g4, hf⟩ := am_g_of hf
      refine am_blk hX 11 7 (And.intro rfl (And.intro rfl (And.intro rfl (And.intro rfl (And.intro g4 (am_nl (Z := fun s5 => X 35 [(0, .inr (.inr ((1, 0, 0), o0)))] [] s5) hf (fun s5 hf => ?_)))))))
      refine am_blk hX 18 6 (And.intro rfl (And.intro rfl (am_nl (Z := fun s6 => X 45 [(0, .inr (.inr ((1, 0, 0), o0)))] [] s6) hf (fun s6 hf => ?_))))
      exact am_wk hX [] (hJ45 s6 hf)
def fX0_take (s0 : AS) (o0 : Nat) (o1 : Nat) : Option (AS × Unit) :=
  am_let (am_si s0 o0 0 (s0.1 o1 0)) (fun (s1 : AS) => am_let (am_si s1 o0 1 (s1.1 o1 1)) (fun (s2 : AS) => am_let (am_si s2 o0 2 (s2.1 o1 2)) (fun (s3 : AS) => am_g (¬ (0 : Int32) < 0 ∧ ¬ (0 : Int32) < 0 ∧ ¬ (40 : Int32) < 0 ∧ (0 : Int32).toNatClampNeg + (40 : Int32).toNatClampNeg ≤ 40 ∧ (0 : Int32).toNatClampNeg + (40 : Int32).toNatClampNeg ≤ 40) (am_let (am_sr s3 (o0 + 1) (va_cpy (s3.1 (o1 + 1)) (s3.1 (o0 + 1)) (0 : Int32).toNatClampNeg (0 : Int32).toNatClampNeg (40 : Int32).toNatClampNeg)) (fun (s5 : AS) => am_g (¬ (0 : Int32) < 0 ∧ ¬ (0 : Int32) < 0 ∧ ¬ (40 : Int32) < 0 ∧ (0 : Int32).toNatClampNeg + (40 : Int32).toNatClampNeg ≤ 40 ∧ (0 : Int32).toNatClampNeg + (40 : Int32).toNatClampNeg ≤ 40) (am_let (am_sr s5 (o0 + 2) (va_cpy (s5.1 (o1 + 2)) (s5.1 (o0 + 2)) (0 : Int32).toNatClampNeg (0 : Int32).toNatClampNeg (40 : Int32).toNatClampNeg)) (fun (s7 : AS) => some (s7, ()))))))))
def kX0_take : List (Nat × Instr × Nat) := [(0, .aload_n 0, 1), (1, .aload_n 1, 1), (2, .getfield 18, 3), (5, .putfield 18, 3), (8, .aload_n 0, 1), (9, .aload_n 1, 1), (10, .getfield 22, 3), (13, .putfield 22, 3), (16, .aload_n 0, 1), (17, .aload_n 1, 1), (18, .getfield 25, 3), (21, .putfield 25, 3), (24, .aload_n 1, 1), (25, .getfield 9, 3), (28, .iconst 0, 1), (29, .aload_n 0, 1), (30, .getfield 9, 3), (33, .iconst 0, 1), (34, .bipush 40, 2), (36, .invokestatic 28, 3), (39, .aload_n 1, 1), (40, .getfield 15, 3), (43, .iconst 0, 1), (44, .aload_n 0, 1), (45, .getfield 15, 3), (48, .iconst 0, 1), (49, .bipush 40, 2), (51, .invokestatic 28, 3), (54, .return_, 1)]
theorem qX0_take : ∀ q ∈ kX0_take, decode mX0_take.2.2.1 q.1 = .ok (q.2.1, q.2.2) ∧ am_iok mX0_take.2.2.2.1 q.1 q.2.1 q.2.2 = true := by decide +kernel
set_option maxRecDepth 100000 in
theorem wX0_take : Cond.code mX0_take.2.1 mX0_take.2.2.1 mX0_take.2.2.2.1 mX0_take.2.2.2.2.1 ∈ am_T := List.mem_filter.mpr ⟨List.mem_of_getElem? (i := 1251) rfl, rfl⟩
set_option maxHeartbeats 4000000 in
set_option maxRecDepth 100000 in
theorem tX0_take (l : Launch) (d : Nat) {s0 : AS} {o0 : Nat} {o1 : Nat} {s9 : AS} {r9 : Unit} (hf : fX0_take s0 o0 o1 = some (s9, r9)) : am_Ct l (d + 1) mX0_take [.inr (.inr ((1, 0, 0), o0)), .inr (.inr ((1, 0, 0), o1))] s0 s9 none := by
  refine am_sim l (d + 0) (code := kX0_take) (by decide +kernel) wX0_take qX0_take (Nat.le_of_ble_eq_true rfl) ?_
  intro X hX
  show X 0 [(0, .inr (.inr ((1, 0, 0), o0))), (1, .inr (.inr ((1, 0, 0), o1)))] [] s0
  unfold fX0_take at hf
  refine am_blk hX 0 4 (And.intro rfl (And.intro rfl (am_nl (Z := fun s1 => X 8 [(0, .inr (.inr ((1, 0, 0), o0))), (1, .inr (.inr ((1, 0, 0), o1)))] [] s1) hf (fun s1 hf => ?_))))
  refine am_blk hX 4 4 (And.intro rfl (And.intro rfl (am_nl (Z := fun s2 => X 16 [(0, .inr (.inr ((1, 0, 0), o0))), (1, .inr (.inr ((1, 0, 0), o1)))] [] s2) hf (fun s2 hf => ?_))))
  refine am_blk hX 8 4 (And.intro rfl (And.intro rfl (am_nl (Z := fun s3 => X 24 [(0, .inr (.inr ((1, 0, 0), o0))), (1, .inr (.inr ((1, 0, 0), o1)))] [] s3) hf (fun s3 hf => ?_))))
  obtain ⟨g4, hf⟩ := am_g_of hf
  refine am_blk hX 12 8 (And.intro rfl (And.intro rfl (And.intro rfl (And.intro rfl (And.intro g4 (am_nl (Z := fun s5 => X 39 [(0, .inr (.inr ((1, 0, 0), o0))), (1, .inr (.inr ((1, 0, 0), o1)))] [] s5) hf (fun s5 hf => ?_)))))))
  obtain ⟨g6, hf⟩ := am_g_of hf
  refine am_blk hX 20 8 (And.intro rfl (And.intro rfl (And.intro rfl (And.intro rfl (And.intro g6 (am_nl (Z := fun s7 => X 54 [(0, .inr (.inr ((1, 0, 0), o0))), (1, .inr (.inr ((1, 0, 0), o1)))] [] s7) hf (fun s7 hf => ?_)))))))
  refine am_blk hX 28 1 (And.intro rfl (am_rv hf))
def fX0_takeBack (s0 : AS) (o0 : Nat) : Option (AS × Unit) :=
  am_let (fun (s1 : AS) => some (s1, ())) (fun J43 => if (s0.1 o0 0) ≤ 0 then (J43 s0) else (am_let (am_si s0 o0 0 ((s0.1 o0 0) - (1 : Int32))) (fun (s2 : AS) => am_g (¬ ((s2.1 o0 0) < 0 ∨ 40 ≤ (s2.1 o0 0).toNatClampNeg)) (am_let (am_si s2 o0 1 (s2.1 (o0 + 1) ((s2.1 o0 0).toNatClampNeg))) (fun (s4 : AS) => am_g (¬ ((s4.1 o0 0) < 0 ∨ 40 ≤ (s4.1 o0 0).toNatClampNeg)) (am_let (am_si s4 o0 2 (s4.1 (o0 + 2) ((s4.1 o0 0).toNatClampNeg))) (fun (s6 : AS) => J43 s6)))))))
def kX0_takeBack : List (Nat × Instr × Nat) := [(0, .aload_n 0, 1), (1, .getfield 18, 3), (4, .ifCond .le 39, 3), (7, .aload_n 0, 1), (8, .dup, 1), (9, .getfield 18, 3), (12, .iconst 1, 1), (13, .isub, 1), (14, .putfield 18, 3), (17, .aload_n 0, 1), (18, .aload_n 0, 1), (19, .getfield 9, 3), (22, .aload_n 0, 1), (23, .getfield 18, 3), (26, .iaload, 1), (27, .putfield 22, 3), (30, .aload_n 0, 1), (31, .aload_n 0, 1), (32, .getfield 15, 3), (35, .aload_n 0, 1), (36, .getfield 18, 3), (39, .iaload, 1), (40, .putfield 25, 3), (43, .return_, 1)]
theorem qX0_takeBack : ∀ q ∈ kX0_takeBack, decode mX0_takeBack.2.2.1 q.1 = .ok (q.2.1, q.2.2) ∧ am_iok mX0_takeBack.2.2.2.1 q.1 q.2.1 q.2.2 = true := by decide +kernel
set_option maxRecDepth 100000 in
theorem wX0_takeBack : Cond.code mX0_takeBack.2.1 mX0_takeBack.2.2.1 mX0_takeBack.2.2.2.1 mX0_takeBack.2.2.2.2.1 ∈ am_T := List.mem_filter.mpr ⟨List.mem_of_getElem? (i := 1235) rfl, rfl⟩
set_option maxHeartbeats 4000000 in
set_option maxRecDepth 100000 in
theorem tX0_takeBack (l : Launch) (d : Nat) {s0 : AS} {o0 : Nat} {s9 : AS} {r9 : Unit} (hf : fX0_takeBack s0 o0 = some (s9, r9)) : am_Ct l (d + 1) mX0_takeBack [.inr (.inr ((1, 0, 0), o0))] s0 s9 none := by
  refine am_sim l (d + 0) (code := kX0_takeBack) (by decide +kernel) wX0_takeBack qX0_takeBack (Nat.le_of_ble_eq_true rfl) ?_
  intro X hX
  show X 0 [(0, .inr (.inr ((1, 0, 0), o0)))] [] s0
  unfold fX0_takeBack at hf
  refine am_jn hf (fun J43 => ∀ (s1 : AS), J43 s1 = some (s9, r9) → X 43 [] [] s1) ?_ ?_
  · intro s1 hf
    refine am_blk hX 23 1 (And.intro rfl (am_rv hf))
  · intro J43 hJ43 hf
    refine am_blk hX 0 3 (And.intro rfl (And.intro (fun hb => ?_) (fun hb => ?_)))
    · have hf := am_it hf hb
      show X 43 [(0, .inr (.inr ((1, 0, 0), o0)))] [] s0
      exact am_wk hX [] (hJ43 s0 hf)
    · have hf := am_if hf hb
      show X 7 [(0, .inr (.inr ((1, 0, 0), o0)))] [] s0
      refine am_blk hX 3 6 (And.intro rfl (And.intro rfl (am_nl (Z := fun s2 => X 17 [(0, .inr (.inr ((1, 0, 0), o0)))] [] s2) hf (fun s2 hf => ?_))))
      obtain ⟨g3, hf⟩ := am_g_of hf
      refine am_blk hX 9 7 (And.intro rfl (And.intro rfl (And.intro rfl (And.intro g3 (And.intro rfl (am_nl (Z := fun s4 => X 30 [(0, .inr (.inr ((1, 0, 0), o0)))] [] s4) hf (fun s4 hf => ?_)))))))
      obtain ⟨g5, hf⟩ := am_g_of hf
      refine am_blk hX 16 7 (And.intro rfl (And.intro rfl (And.intro rfl (And.intro g5 (And.intro rfl (am_nl (Z := fun s6 => X 43 [(0, .inr (.inr ((1, 0, 0), o0)))] [] s6) hf (fun s6 hf => ?_)))))))
      exact am_wk hX [] (hJ43 s6 hf)
def fX1_begin (s0 : AS) (o0 : Nat) (o1 : Nat) (a2 : Int32) (o3 : Nat) : Option (AS × Unit) :=
  am_let (am_si s0 o0 0 (s0.1 o1 2)) (fun (s1 : AS) => am_let (am_si s1 o0 1 (s1.1 o1 3)) (fun (s2 : AS) => am_let (am_si s2 o0 2 a2) (fun (s3 : AS) => am_let (am_si s3 o0 3 (0 : Int32)) (fun (s4 : AS) => am_let (am_si s4 o0 4 (-1 : Int32)) (fun (s5 : AS) => am_let (am_si s5 o0 5 (60 : Int32)) (fun (s6 : AS) => am_let (am_sj s6 o0 6 (0 : Int64)) (fun (s7 : AS) => am_let (am_si s7 o0 7 (Int32.ofNat o3)) (fun (s8 : AS) => am_let (am_si s8 o0 8 (Int32.ofNat o3)) (fun (s9 : AS) => am_let (am_si s9 o0 9 (0 : Int32)) (fun (s10 : AS) => am_let (am_si s10 o0 10 (-1 : Int32)) (fun (s11 : AS) => am_let (am_si s11 o0 11 (-1 : Int32)) (fun (s12 : AS) => am_let (am_si s12 o0 12 (-1 : Int32)) (fun (s13 : AS) => some (s13, ()))))))))))))))
def kX1_begin : List (Nat × Instr × Nat) := [(0, .aload_n 0, 1), (1, .aload_n 1, 1), (2, .getfield 9, 3), (5, .putfield 15, 3), (8, .aload_n 0, 1), (9, .aload_n 1, 1), (10, .getfield 18, 3), (13, .putfield 21, 3), (16, .aload_n 0, 1), (17, .iload_n 2, 1), (18, .putfield 22, 3), (21, .aload_n 0, 1), (22, .iconst 0, 1), (23, .putfield 25, 3), (26, .aload_n 0, 1), (27, .iconst (-1), 1), (28, .putfield 28, 3), (31, .aload_n 0, 1), (32, .bipush 60, 2), (34, .putfield 31, 3), (37, .aload_n 0, 1), (38, .lconst 0, 1), (39, .putfield 34, 3), (42, .aload_n 0, 1), (43, .aload_n 3, 1), (44, .putfield 38, 3), (47, .aload_n 0, 1), (48, .aload_n 3, 1), (49, .putfield 42, 3), (52, .aload_n 0, 1), (53, .iconst 0, 1), (54, .putfield 45, 3), (57, .aload_n 0, 1), (58, .iconst (-1), 1), (59, .putfield 48, 3), (62, .aload_n 0, 1), (63, .iconst (-1), 1), (64, .putfield 51, 3), (67, .aload_n 0, 1), (68, .iconst (-1), 1), (69, .putfield 54, 3), (72, .return_, 1)]
theorem qX1_begin : ∀ q ∈ kX1_begin, decode mX1_begin.2.2.1 q.1 = .ok (q.2.1, q.2.2) ∧ am_iok mX1_begin.2.2.2.1 q.1 q.2.1 q.2.2 = true := by decide +kernel
set_option maxRecDepth 100000 in
theorem wX1_begin : Cond.code mX1_begin.2.1 mX1_begin.2.2.1 mX1_begin.2.2.2.1 mX1_begin.2.2.2.2.1 ∈ am_T := List.mem_filter.mpr ⟨List.mem_of_getElem? (i := 746) rfl, rfl⟩
set_option maxHeartbeats 4000000 in
set_option maxRecDepth 100000 in
theorem tX1_begin (l : Launch) (d : Nat) {s0 : AS} {o0 : Nat} {o1 : Nat} {a2 : Int32} {o3 : Nat} {s9 : AS} {r9 : Unit} (hf : fX1_begin s0 o0 o1 a2 o3 = some (s9, r9)) : am_Ct l (d + 1) mX1_begin [.inr (.inr ((2, 0, 0), o0)), .inr (.inr ((4, 0, 0), o1)), .inl a2, .inr (.inr ((8, 0, 0), o3))] s0 s9 none := by
  refine am_sim l (d + 0) (code := kX1_begin) (by decide +kernel) wX1_begin qX1_begin (Nat.le_of_ble_eq_true rfl) ?_
  intro X hX
  show X 0 [(0, .inr (.inr ((2, 0, 0), o0))), (1, .inr (.inr ((4, 0, 0), o1))), (2, .inl a2), (3, .inr (.inr ((8, 0, 0), o3)))] [] s0
  unfold fX1_begin at hf
  refine am_blk hX 0 4 (And.intro rfl (And.intro rfl (am_nl (Z := fun s1 => X 8 [(0, .inr (.inr ((2, 0, 0), o0))), (1, .inr (.inr ((4, 0, 0), o1))), (2, .inl a2), (3, .inr (.inr ((8, 0, 0), o3)))] [] s1) hf (fun s1 hf => ?_))))
  refine am_blk hX 4 4 (And.intro rfl (And.intro rfl (am_nl (Z := fun s2 => X 16 [(0, .inr (.inr ((2, 0, 0), o0))), (1, .inr (.inr ((4, 0, 0), o1))), (2, .inl a2), (3, .inr (.inr ((8, 0, 0), o3)))] [] s2) hf (fun s2 hf => ?_))))
  refine am_blk hX 8 3 (And.intro rfl (am_nl (Z := fun s3 => X 21 [(0, .inr (.inr ((2, 0, 0), o0))), (1, .inr (.inr ((4, 0, 0), o1))), (2, .inl a2), (3, .inr (.inr ((8, 0, 0), o3)))] [] s3) hf (fun s3 hf => ?_)))
  refine am_blk hX 11 3 (And.intro rfl (am_nl (Z := fun s4 => X 26 [(0, .inr (.inr ((2, 0, 0), o0))), (1, .inr (.inr ((4, 0, 0), o1))), (2, .inl a2), (3, .inr (.inr ((8, 0, 0), o3)))] [] s4) hf (fun s4 hf => ?_)))
  refine am_blk hX 14 3 (And.intro rfl (am_nl (Z := fun s5 => X 31 [(0, .inr (.inr ((2, 0, 0), o0))), (1, .inr (.inr ((4, 0, 0), o1))), (2, .inl a2), (3, .inr (.inr ((8, 0, 0), o3)))] [] s5) hf (fun s5 hf => ?_)))
  refine am_blk hX 17 3 (And.intro rfl (am_nl (Z := fun s6 => X 37 [(0, .inr (.inr ((2, 0, 0), o0))), (1, .inr (.inr ((4, 0, 0), o1))), (2, .inl a2), (3, .inr (.inr ((8, 0, 0), o3)))] [] s6) hf (fun s6 hf => ?_)))
  refine am_blk hX 20 3 (And.intro rfl (am_nl (Z := fun s7 => X 42 [(0, .inr (.inr ((2, 0, 0), o0))), (1, .inr (.inr ((4, 0, 0), o1))), (2, .inl a2), (3, .inr (.inr ((8, 0, 0), o3)))] [] s7) hf (fun s7 hf => ?_)))
  refine am_blk hX 23 3 (And.intro rfl (am_nl (Z := fun s8 => X 47 [(0, .inr (.inr ((2, 0, 0), o0))), (1, .inr (.inr ((4, 0, 0), o1))), (2, .inl a2), (3, .inr (.inr ((8, 0, 0), o3)))] [] s8) hf (fun s8 hf => ?_)))
  refine am_blk hX 26 3 (And.intro rfl (am_nl (Z := fun s9 => X 52 [(0, .inr (.inr ((2, 0, 0), o0))), (1, .inr (.inr ((4, 0, 0), o1))), (2, .inl a2), (3, .inr (.inr ((8, 0, 0), o3)))] [] s9) hf (fun s9 hf => ?_)))
  refine am_blk hX 29 3 (And.intro rfl (am_nl (Z := fun s10 => X 57 [(0, .inr (.inr ((2, 0, 0), o0))), (1, .inr (.inr ((4, 0, 0), o1))), (2, .inl a2), (3, .inr (.inr ((8, 0, 0), o3)))] [] s10) hf (fun s10 hf => ?_)))
  refine am_blk hX 32 3 (And.intro rfl (am_nl (Z := fun s11 => X 62 [(0, .inr (.inr ((2, 0, 0), o0))), (1, .inr (.inr ((4, 0, 0), o1))), (2, .inl a2), (3, .inr (.inr ((8, 0, 0), o3)))] [] s11) hf (fun s11 hf => ?_)))
  refine am_blk hX 35 3 (And.intro rfl (am_nl (Z := fun s12 => X 67 [(0, .inr (.inr ((2, 0, 0), o0))), (1, .inr (.inr ((4, 0, 0), o1))), (2, .inl a2), (3, .inr (.inr ((8, 0, 0), o3)))] [] s12) hf (fun s12 hf => ?_)))
  refine am_blk hX 38 3 (And.intro rfl (am_nl (Z := fun s13 => X 72 [(0, .inr (.inr ((2, 0, 0), o0))), (1, .inr (.inr ((4, 0, 0), o1))), (2, .inl a2), (3, .inr (.inr ((8, 0, 0), o3)))] [] s13) hf (fun s13 hf => ?_)))
  refine am_blk hX 41 1 (And.intro rfl (am_rv hf))
def fX1_isSham (s0 : AS) (o0 : Nat) (a1 : Int32) (a2 : Int32) : Option Int32 :=
  am_let (fun (x1 : Int32) => am_g (x1 = 0 ∨ x1 = 1) (some x1)) (fun J21 => am_let (J21 (0 : Int32)) (fun J20 => if a1 = (s0.1 o0 10) then (if a2 = (s0.1 o0 11) then (J21 (1 : Int32)) else (J20)) else (J20)))
def kX1_isSham : List (Nat × Instr × Nat) := [(0, .iload_n 1, 1), (1, .aload_n 0, 1), (2, .getfield 48, 3), (5, .if_icmp .ne 15, 3), (8, .iload_n 2, 1), (9, .aload_n 0, 1), (10, .getfield 51, 3), (13, .if_icmp .ne 7, 3), (16, .iconst 1, 1), (17, .goto 4, 3), (20, .iconst 0, 1), (21, .ireturn, 1)]
theorem qX1_isSham : ∀ q ∈ kX1_isSham, decode mX1_isSham.2.2.1 q.1 = .ok (q.2.1, q.2.2) ∧ am_iok mX1_isSham.2.2.2.1 q.1 q.2.1 q.2.2 = true := by decide +kernel
set_option maxRecDepth 100000 in
theorem wX1_isSham : Cond.code mX1_isSham.2.1 mX1_isSham.2.2.1 mX1_isSham.2.2.2.1 mX1_isSham.2.2.2.2.1 ∈ am_T := List.mem_filter.mpr ⟨List.mem_of_getElem? (i := 790) rfl, rfl⟩
set_option maxHeartbeats 4000000 in
set_option maxRecDepth 100000 in
theorem tX1_isSham (l : Launch) (d : Nat) {s0 : AS} {o0 : Nat} {a1 : Int32} {a2 : Int32} {r9 : Int32} (hf : fX1_isSham s0 o0 a1 a2 = some r9) : am_Ct l (d + 1) mX1_isSham [.inr (.inr ((2, 0, 0), o0)), .inl a1, .inl a2] s0 s0 (some (.inl r9)) := by
  refine am_sim l (d + 0) (code := kX1_isSham) (by decide +kernel) wX1_isSham qX1_isSham (Nat.le_of_ble_eq_true rfl) ?_
  intro X hX
  show X 0 [(0, .inr (.inr ((2, 0, 0), o0))), (1, .inl a1), (2, .inl a2)] [] s0
  unfold fX1_isSham at hf
  refine am_jn hf (fun J21 => ∀ (x1 : Int32), J21 x1 = some r9 → X 21 [] [.inl x1] s0) ?_ ?_
  · intro x1 hf
    obtain ⟨g2, hf⟩ := am_g_of hf
    refine am_blk hX 11 1 (And.intro g2 (am_rpi hf))
  · intro J21 hJ21 hf
    refine am_jn hf (fun J20 => J20 = some r9 → X 20 [] [] s0) ?_ ?_
    · intro hf
      refine am_blk hX 10 1 (?_)
      show X 21 [] [.inl (0 : Int32)] s0
      exact am_wk hX [] (hJ21 (0 : Int32) hf)
    · intro J20 hJ20 hf
      refine am_blk hX 0 4 (And.intro rfl (And.intro (fun hb => ?_) (fun hb => ?_)))
      · have hf := am_if hf hb
        show X 20 [(0, .inr (.inr ((2, 0, 0), o0))), (1, .inl a1), (2, .inl a2)] [] s0
        exact am_wk hX [] (hJ20 hf)
      · have hf := am_it hf hb
        show X 8 [(0, .inr (.inr ((2, 0, 0), o0))), (1, .inl a1), (2, .inl a2)] [] s0
        refine am_blk hX 4 4 (And.intro rfl (And.intro (fun hb => ?_) (fun hb => ?_)))
        · have hf := am_if hf hb
          show X 20 [(0, .inr (.inr ((2, 0, 0), o0))), (1, .inl a1), (2, .inl a2)] [] s0
          exact am_wk hX [] (hJ20 hf)
        · have hf := am_it hf hb
          show X 16 [(0, .inr (.inr ((2, 0, 0), o0))), (1, .inl a1), (2, .inl a2)] [] s0
          refine am_blk hX 8 2 (?_)
          show X 21 [(0, .inr (.inr ((2, 0, 0), o0))), (1, .inl a1), (2, .inl a2)] [.inl (1 : Int32)] s0
          exact am_wk hX [] (hJ21 (1 : Int32) hf)
def fX1_rainsAt (s0 : AS) (o0 : Nat) (a1 : Int32) : Option Int32 :=
  am_let (fun (x1 : Int32) => am_g (x1 = 0 ∨ x1 = 1) (some x1)) (fun J18 => if (lg_cmp (((s0.2 o0 6) >>> (a1.toInt64 &&& 63)) &&& (1 : Int64)) (1 : Int64)) = 0 then (J18 (1 : Int32)) else (J18 (0 : Int32)))
def kX1_rainsAt : List (Nat × Instr × Nat) := [(0, .aload_n 0, 1), (1, .getfield 34, 3), (4, .iload_n 1, 1), (5, .lshr, 1), (6, .lconst 1, 1), (7, .land, 1), (8, .lconst 1, 1), (9, .lcmp, 1), (10, .ifCond .ne 7, 3), (13, .iconst 1, 1), (14, .goto 4, 3), (17, .iconst 0, 1), (18, .ireturn, 1)]
theorem qX1_rainsAt : ∀ q ∈ kX1_rainsAt, decode mX1_rainsAt.2.2.1 q.1 = .ok (q.2.1, q.2.2) ∧ am_iok mX1_rainsAt.2.2.2.1 q.1 q.2.1 q.2.2 = true := by decide +kernel
set_option maxRecDepth 100000 in
theorem wX1_rainsAt : Cond.code mX1_rainsAt.2.1 mX1_rainsAt.2.2.1 mX1_rainsAt.2.2.2.1 mX1_rainsAt.2.2.2.2.1 ∈ am_T := List.mem_filter.mpr ⟨List.mem_of_getElem? (i := 759) rfl, rfl⟩
set_option maxHeartbeats 4000000 in
set_option maxRecDepth 100000 in
theorem tX1_rainsAt (l : Launch) (d : Nat) {s0 : AS} {o0 : Nat} {a1 : Int32} {r9 : Int32} (hf : fX1_rainsAt s0 o0 a1 = some r9) : am_Ct l (d + 1) mX1_rainsAt [.inr (.inr ((2, 0, 0), o0)), .inl a1] s0 s0 (some (.inl r9)) := by
  refine am_sim l (d + 0) (code := kX1_rainsAt) (by decide +kernel) wX1_rainsAt qX1_rainsAt (Nat.le_of_ble_eq_true rfl) ?_
  intro X hX
  show X 0 [(0, .inr (.inr ((2, 0, 0), o0))), (1, .inl a1)] [] s0
  unfold fX1_rainsAt at hf
  refine am_jn hf (fun J18 => ∀ (x1 : Int32), J18 x1 = some r9 → X 18 [] [.inl x1] s0) ?_ ?_
  · intro x1 hf
    obtain ⟨g2, hf⟩ := am_g_of hf
    refine am_blk hX 12 1 (And.intro g2 (am_rpi hf))
  · intro J18 hJ18 hf
    refine am_blk hX 0 9 (And.intro rfl (And.intro (fun hb => ?_) (fun hb => ?_)))
    · have hf := am_if hf hb
      show X 17 [(0, .inr (.inr ((2, 0, 0), o0))), (1, .inl a1)] [] s0
      refine am_blk hX 11 1 (?_)
      show X 18 [(0, .inr (.inr ((2, 0, 0), o0))), (1, .inl a1)] [.inl (0 : Int32)] s0
      exact am_wk hX [] (hJ18 (0 : Int32) hf)
    · have hf := am_it hf hb
      show X 13 [(0, .inr (.inr ((2, 0, 0), o0))), (1, .inl a1)] [] s0
      refine am_blk hX 9 2 (?_)
      show X 18 [(0, .inr (.inr ((2, 0, 0), o0))), (1, .inl a1)] [.inl (1 : Int32)] s0
      exact am_wk hX [] (hJ18 (1 : Int32) hf)
def fX1_turnsAt (s0 : AS) (o0 : Nat) (a1 : Int32) (o2 : Nat) : Option (AS × Unit) :=
  am_let (am_si s0 o0 9 a1) (fun (s1 : AS) => am_let (am_si s1 o0 8 (Int32.ofNat o2)) (fun (s2 : AS) => some (s2, ())))
def kX1_turnsAt : List (Nat × Instr × Nat) := [(0, .aload_n 0, 1), (1, .iload_n 1, 1), (2, .putfield 45, 3), (5, .aload_n 0, 1), (6, .aload_n 2, 1), (7, .putfield 42, 3), (10, .return_, 1)]
theorem qX1_turnsAt : ∀ q ∈ kX1_turnsAt, decode mX1_turnsAt.2.2.1 q.1 = .ok (q.2.1, q.2.2) ∧ am_iok mX1_turnsAt.2.2.2.1 q.1 q.2.1 q.2.2 = true := by decide +kernel
set_option maxRecDepth 100000 in
theorem wX1_turnsAt : Cond.code mX1_turnsAt.2.1 mX1_turnsAt.2.2.1 mX1_turnsAt.2.2.2.1 mX1_turnsAt.2.2.2.2.1 ∈ am_T := List.mem_filter.mpr ⟨List.mem_of_getElem? (i := 1006) rfl, rfl⟩
set_option maxHeartbeats 4000000 in
set_option maxRecDepth 100000 in
theorem tX1_turnsAt (l : Launch) (d : Nat) {s0 : AS} {o0 : Nat} {a1 : Int32} {o2 : Nat} {s9 : AS} {r9 : Unit} (hf : fX1_turnsAt s0 o0 a1 o2 = some (s9, r9)) : am_Ct l (d + 1) mX1_turnsAt [.inr (.inr ((2, 0, 0), o0)), .inl a1, .inr (.inr ((8, 0, 0), o2))] s0 s9 none := by
  refine am_sim l (d + 0) (code := kX1_turnsAt) (by decide +kernel) wX1_turnsAt qX1_turnsAt (Nat.le_of_ble_eq_true rfl) ?_
  intro X hX
  show X 0 [(0, .inr (.inr ((2, 0, 0), o0))), (1, .inl a1), (2, .inr (.inr ((8, 0, 0), o2)))] [] s0
  unfold fX1_turnsAt at hf
  refine am_blk hX 0 3 (And.intro rfl (am_nl (Z := fun s1 => X 5 [(0, .inr (.inr ((2, 0, 0), o0))), (1, .inl a1), (2, .inr (.inr ((8, 0, 0), o2)))] [] s1) hf (fun s1 hf => ?_)))
  refine am_blk hX 3 3 (And.intro rfl (am_nl (Z := fun s2 => X 10 [(0, .inr (.inr ((2, 0, 0), o0))), (1, .inl a1), (2, .inr (.inr ((8, 0, 0), o2)))] [] s2) hf (fun s2 hf => ?_)))
  refine am_blk hX 6 1 (And.intro rfl (am_rv hf))
def fX1_votesFalsely (s0 : AS) (o0 : Nat) (a1 : Int32) (a2 : Int32) (a3 : Int32) : Option (AS × Unit) :=
  am_let (am_si s0 o0 10 a1) (fun (s1 : AS) => am_let (am_si s1 o0 11 a2) (fun (s2 : AS) => am_let (am_si s2 o0 12 a3) (fun (s3 : AS) => some (s3, ()))))
def kX1_votesFalsely : List (Nat × Instr × Nat) := [(0, .aload_n 0, 1), (1, .iload_n 1, 1), (2, .putfield 48, 3), (5, .aload_n 0, 1), (6, .iload_n 2, 1), (7, .putfield 51, 3), (10, .aload_n 0, 1), (11, .iload_n 3, 1), (12, .putfield 54, 3), (15, .return_, 1)]
theorem qX1_votesFalsely : ∀ q ∈ kX1_votesFalsely, decode mX1_votesFalsely.2.2.1 q.1 = .ok (q.2.1, q.2.2) ∧ am_iok mX1_votesFalsely.2.2.2.1 q.1 q.2.1 q.2.2 = true := by decide +kernel
set_option maxRecDepth 100000 in
theorem wX1_votesFalsely : Cond.code mX1_votesFalsely.2.1 mX1_votesFalsely.2.2.1 mX1_votesFalsely.2.2.2.1 mX1_votesFalsely.2.2.2.2.1 ∈ am_T := List.mem_filter.mpr ⟨List.mem_of_getElem? (i := 1147) rfl, rfl⟩
set_option maxHeartbeats 4000000 in
set_option maxRecDepth 100000 in
theorem tX1_votesFalsely (l : Launch) (d : Nat) {s0 : AS} {o0 : Nat} {a1 : Int32} {a2 : Int32} {a3 : Int32} {s9 : AS} {r9 : Unit} (hf : fX1_votesFalsely s0 o0 a1 a2 a3 = some (s9, r9)) : am_Ct l (d + 1) mX1_votesFalsely [.inr (.inr ((2, 0, 0), o0)), .inl a1, .inl a2, .inl a3] s0 s9 none := by
  refine am_sim l (d + 0) (code := kX1_votesFalsely) (by decide +kernel) wX1_votesFalsely qX1_votesFalsely (Nat.le_of_ble_eq_true rfl) ?_
  intro X hX
  show X 0 [(0, .inr (.inr ((2, 0, 0), o0))), (1, .inl a1), (2, .inl a2), (3, .inl a3)] [] s0
  unfold fX1_votesFalsely at hf
  refine am_blk hX 0 3 (And.intro rfl (am_nl (Z := fun s1 => X 5 [(0, .inr (.inr ((2, 0, 0), o0))), (1, .inl a1), (2, .inl a2), (3, .inl a3)] [] s1) hf (fun s1 hf => ?_)))
  refine am_blk hX 3 3 (And.intro rfl (am_nl (Z := fun s2 => X 10 [(0, .inr (.inr ((2, 0, 0), o0))), (1, .inl a1), (2, .inl a2), (3, .inl a3)] [] s2) hf (fun s2 hf => ?_)))
  refine am_blk hX 6 3 (And.intro rfl (am_nl (Z := fun s3 => X 15 [(0, .inr (.inr ((2, 0, 0), o0))), (1, .inl a1), (2, .inl a2), (3, .inl a3)] [] s3) hf (fun s3 hf => ?_)))
  refine am_blk hX 9 1 (And.intro rfl (am_rv hf))
def fX1_waysAt (s0 : AS) (o0 : Nat) (a1 : Int32) : Option Nat :=
  am_let (fun (x1 : Nat) => some x1) (fun J19 => if a1 < (s0.1 o0 9) then (J19 ((s0.1 o0 7).toNatClampNeg)) else (J19 ((s0.1 o0 8).toNatClampNeg)))
def kX1_waysAt : List (Nat × Instr × Nat) := [(0, .iload_n 1, 1), (1, .aload_n 0, 1), (2, .getfield 45, 3), (5, .if_icmp .lt 10, 3), (8, .aload_n 0, 1), (9, .getfield 42, 3), (12, .goto 7, 3), (15, .aload_n 0, 1), (16, .getfield 38, 3), (19, .areturn, 1)]
theorem qX1_waysAt : ∀ q ∈ kX1_waysAt, decode mX1_waysAt.2.2.1 q.1 = .ok (q.2.1, q.2.2) ∧ am_iok mX1_waysAt.2.2.2.1 q.1 q.2.1 q.2.2 = true := by decide +kernel
set_option maxRecDepth 100000 in
theorem wX1_waysAt : Cond.code mX1_waysAt.2.1 mX1_waysAt.2.2.1 mX1_waysAt.2.2.2.1 mX1_waysAt.2.2.2.2.1 ∈ am_T := List.mem_filter.mpr ⟨List.mem_of_getElem? (i := 786) rfl, rfl⟩
set_option maxHeartbeats 4000000 in
set_option maxRecDepth 100000 in
theorem tX1_waysAt (l : Launch) (d : Nat) {s0 : AS} {o0 : Nat} {a1 : Int32} {r9 : Nat} (hf : fX1_waysAt s0 o0 a1 = some r9) : am_Ct l (d + 1) mX1_waysAt [.inr (.inr ((2, 0, 0), o0)), .inl a1] s0 s0 (some (.inr (.inr ((12, 0, 0), r9)))) := by
  refine am_sim l (d + 0) (code := kX1_waysAt) (by decide +kernel) wX1_waysAt qX1_waysAt (Nat.le_of_ble_eq_true rfl) ?_
  intro X hX
  show X 0 [(0, .inr (.inr ((2, 0, 0), o0))), (1, .inl a1)] [] s0
  unfold fX1_waysAt at hf
  refine am_jn hf (fun J19 => ∀ (x1 : Nat), J19 x1 = some r9 → X 19 [] [.inr (.inr ((12, 0, 0), x1))] s0) ?_ ?_
  · intro x1 hf
    refine am_blk hX 9 1 (And.intro (And.intro rfl rfl) (am_rpw hf))
  · intro J19 hJ19 hf
    refine am_blk hX 0 4 (And.intro rfl (And.intro (fun hb => ?_) (fun hb => ?_)))
    · have hf := am_it hf hb
      show X 15 [(0, .inr (.inr ((2, 0, 0), o0))), (1, .inl a1)] [] s0
      refine am_blk hX 7 2 (And.intro rfl (?_))
      show X 19 [(0, .inr (.inr ((2, 0, 0), o0))), (1, .inl a1)] [.inr (.inr ((12, 0, 0), (s0.1 o0 7).toNatClampNeg))] s0
      exact am_wk hX [] (hJ19 ((s0.1 o0 7).toNatClampNeg) hf)
    · have hf := am_if hf hb
      show X 8 [(0, .inr (.inr ((2, 0, 0), o0))), (1, .inl a1)] [] s0
      refine am_blk hX 4 3 (And.intro rfl (?_))
      show X 19 [(0, .inr (.inr ((2, 0, 0), o0))), (1, .inl a1)] [.inr (.inr ((12, 0, 0), (s0.1 o0 8).toNatClampNeg))] s0
      exact am_wk hX [] (hJ19 ((s0.1 o0 8).toNatClampNeg) hf)
def fX3_clear (s0 : AS) (o0 : Nat) : Option (AS × Unit) :=
  am_let (am_si s0 o0 0 (0 : Int32)) (fun (s1 : AS) => am_let (am_si s1 o0 1 (0 : Int32)) (fun (s2 : AS) => am_let (am_si s2 o0 2 (0 : Int32)) (fun (s3 : AS) => am_let (am_si s3 o0 3 (0 : Int32)) (fun (s4 : AS) => am_let (am_si s4 o0 4 (0 : Int32)) (fun (s5 : AS) => am_let (am_si s5 o0 5 (0 : Int32)) (fun (s6 : AS) => am_let (am_si s6 o0 6 (0 : Int32)) (fun (s7 : AS) => am_c (fJ7_fill_53178 s7 (o0 + 21) 6 (0 : Int32)) (fun (s9 : AS) (v8 : Unit) => some (s9, ())))))))))
def kX3_clear : List (Nat × Instr × Nat) := [(0, .aload_n 0, 1), (1, .iconst 0, 1), (2, .putfield 23, 3), (5, .aload_n 0, 1), (6, .iconst 0, 1), (7, .putfield 27, 3), (10, .aload_n 0, 1), (11, .iconst 0, 1), (12, .putfield 30, 3), (15, .aload_n 0, 1), (16, .iconst 0, 1), (17, .putfield 33, 3), (20, .aload_n 0, 1), (21, .iconst 0, 1), (22, .putfield 36, 3), (25, .aload_n 0, 1), (26, .iconst 0, 1), (27, .putfield 39, 3), (30, .aload_n 0, 1), (31, .iconst 0, 1), (32, .putfield 42, 3), (35, .aload_n 0, 1), (36, .getfield 19, 3), (39, .iconst 0, 1), (40, .invokestatic 45, 3), (43, .return_, 1)]
theorem qX3_clear : ∀ q ∈ kX3_clear, decode mX3_clear.2.2.1 q.1 = .ok (q.2.1, q.2.2) ∧ am_iok mX3_clear.2.2.2.1 q.1 q.2.1 q.2.2 = true := by decide +kernel
set_option maxRecDepth 100000 in
theorem wX3_clear : Cond.code mX3_clear.2.1 mX3_clear.2.2.1 mX3_clear.2.2.2.1 mX3_clear.2.2.2.2.1 ∈ am_T := List.mem_filter.mpr ⟨List.mem_of_getElem? (i := 530) rfl, rfl⟩
set_option maxHeartbeats 4000000 in
set_option maxRecDepth 100000 in
theorem tX3_clear (l : Launch) (d : Nat) {s0 : AS} {o0 : Nat} {s9 : AS} {r9 : Unit} (hf : fX3_clear s0 o0 = some (s9, r9)) : am_Ct l (d + 2) mX3_clear [.inr (.inr ((4, 0, 0), o0))] s0 s9 none := by
  refine am_sim l (d + 1) (code := kX3_clear) (by decide +kernel) wX3_clear qX3_clear (Nat.le_of_ble_eq_true rfl) ?_
  intro X hX
  show X 0 [(0, .inr (.inr ((4, 0, 0), o0)))] [] s0
  unfold fX3_clear at hf
  refine am_blk hX 0 3 (And.intro rfl (am_nl (Z := fun s1 => X 5 [(0, .inr (.inr ((4, 0, 0), o0)))] [] s1) hf (fun s1 hf => ?_)))
  refine am_blk hX 3 3 (And.intro rfl (am_nl (Z := fun s2 => X 10 [(0, .inr (.inr ((4, 0, 0), o0)))] [] s2) hf (fun s2 hf => ?_)))
  refine am_blk hX 6 3 (And.intro rfl (am_nl (Z := fun s3 => X 15 [(0, .inr (.inr ((4, 0, 0), o0)))] [] s3) hf (fun s3 hf => ?_)))
  refine am_blk hX 9 3 (And.intro rfl (am_nl (Z := fun s4 => X 20 [(0, .inr (.inr ((4, 0, 0), o0)))] [] s4) hf (fun s4 hf => ?_)))
  refine am_blk hX 12 3 (And.intro rfl (am_nl (Z := fun s5 => X 25 [(0, .inr (.inr ((4, 0, 0), o0)))] [] s5) hf (fun s5 hf => ?_)))
  refine am_blk hX 15 3 (And.intro rfl (am_nl (Z := fun s6 => X 30 [(0, .inr (.inr ((4, 0, 0), o0)))] [] s6) hf (fun s6 hf => ?_)))
  refine am_blk hX 18 3 (And.intro rfl (am_nl (Z := fun s7 => X 35 [(0, .inr (.inr ((4, 0, 0), o0)))] [] s7) hf (fun s7 hf => ?_)))
  obtain ⟨s9, v8, hcv8, hf⟩ := am_c_of hf
  refine am_blk hX 21 5 (And.intro rfl (And.intro rfl (Exists.intro s9 (Exists.intro none (And.intro (tJ7_fill_53178 l (d + 0) hcv8) (And.intro rfl (am_rv hf)))))))
def fX8_holds (a0 : Int32) (a1 : Int32) : Option Int32 :=
  am_let (fun (x1 : Int32) => am_g (x1 = 0 ∨ x1 = 1) (some x1)) (fun J14 => if ((a0 >>> (a1 &&& 31)) &&& (1 : Int32)) = (1 : Int32) then (J14 (1 : Int32)) else (J14 (0 : Int32)))
def kX8_holds : List (Nat × Instr × Nat) := [(0, .iload_n 0, 1), (1, .iload_n 1, 1), (2, .ishr, 1), (3, .iconst 1, 1), (4, .iand, 1), (5, .iconst 1, 1), (6, .if_icmp .ne 7, 3), (9, .iconst 1, 1), (10, .goto 4, 3), (13, .iconst 0, 1), (14, .ireturn, 1)]
theorem qX8_holds : ∀ q ∈ kX8_holds, decode mX8_holds.2.2.1 q.1 = .ok (q.2.1, q.2.2) ∧ am_iok mX8_holds.2.2.2.1 q.1 q.2.1 q.2.2 = true := by decide +kernel
set_option maxRecDepth 100000 in
theorem wX8_holds : Cond.code mX8_holds.2.1 mX8_holds.2.2.1 mX8_holds.2.2.2.1 mX8_holds.2.2.2.2.1 ∈ am_T := List.mem_filter.mpr ⟨List.mem_of_getElem? (i := 720) rfl, rfl⟩
set_option maxHeartbeats 4000000 in
set_option maxRecDepth 100000 in
theorem tX8_holds (l : Launch) (d : Nat) {s0 : AS} {a0 : Int32} {a1 : Int32} {r9 : Int32} (hf : fX8_holds a0 a1 = some r9) : am_Ct l (d + 1) mX8_holds [.inl a0, .inl a1] s0 s0 (some (.inl r9)) := by
  refine am_sim l (d + 0) (code := kX8_holds) (by decide +kernel) wX8_holds qX8_holds (Nat.le_of_ble_eq_true rfl) ?_
  intro X hX
  show X 0 [(0, .inl a0), (1, .inl a1)] [] s0
  unfold fX8_holds at hf
  refine am_jn hf (fun J14 => ∀ (x1 : Int32), J14 x1 = some r9 → X 14 [] [.inl x1] s0) ?_ ?_
  · intro x1 hf
    obtain ⟨g2, hf⟩ := am_g_of hf
    refine am_blk hX 10 1 (And.intro g2 (am_rpi hf))
  · intro J14 hJ14 hf
    refine am_blk hX 0 7 (And.intro (fun hb => ?_) (fun hb => ?_))
    · have hf := am_if hf hb
      show X 13 [(0, .inl a0), (1, .inl a1)] [] s0
      refine am_blk hX 9 1 (?_)
      show X 14 [(0, .inl a0), (1, .inl a1)] [.inl (0 : Int32)] s0
      exact am_wk hX [] (hJ14 (0 : Int32) hf)
    · have hf := am_it hf hb
      show X 9 [(0, .inl a0), (1, .inl a1)] [] s0
      refine am_blk hX 7 2 (?_)
      show X 14 [(0, .inl a0), (1, .inl a1)] [.inl (1 : Int32)] s0
      exact am_wk hX [] (hJ14 (1 : Int32) hf)
