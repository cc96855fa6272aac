/-! METHODS, printed by gen.py. -/
def fX8_count (s0 : AS) (a1 : Int32) : Option Int32 :=
  if a1 = (0 : Int32) then (some (s0.1 25 1)) else (if a1 = (1 : Int32) then (some (s0.1 25 2)) else (if a1 = (2 : Int32) then (some (s0.1 25 3)) else (if a1 = (3 : Int32) then (some (s0.1 25 4)) else (if a1 = (4 : Int32) then (some (s0.1 25 5)) else (if a1 = (5 : Int32) then (some (s0.1 25 6)) else (if a1 = (6 : Int32) then (some (s0.1 47 0)) else (if a1 = (7 : Int32) then (some (s0.1 25 0)) else (if a1 = (8 : Int32) then (some (s0.1 0 1)) else (if a1 = (9 : Int32) then (am_r (fX8_rowsKept s0) (fun (v1 : Int32) => some v1)) else (some (-1 : Int32)))))))))))
def kX8_count : List (Nat × Instr × Nat) := [(0, .iload_n 1, 1), (1, .tableswitch 129 0 9 #[55, 63, 71, 79, 87, 95, 103, 111, 119, 124], 55), (56, .aload_n 0, 1), (57, .getfield 29, 3), (60, .getfield 117, 3), (63, .ireturn, 1), (64, .aload_n 0, 1), (65, .getfield 29, 3), (68, .getfield 143, 3), (71, .ireturn, 1), (72, .aload_n 0, 1), (73, .getfield 29, 3), (76, .getfield 146, 3), (79, .ireturn, 1), (80, .aload_n 0, 1), (81, .getfield 29, 3), (84, .getfield 149, 3), (87, .ireturn, 1), (88, .aload_n 0, 1), (89, .getfield 29, 3), (92, .getfield 120, 3), (95, .ireturn, 1), (96, .aload_n 0, 1), (97, .getfield 29, 3), (100, .getfield 123, 3), (103, .ireturn, 1), (104, .aload_n 0, 1), (105, .getfield 35, 3), (108, .getfield 152, 3), (111, .ireturn, 1), (112, .aload_n 0, 1), (113, .getfield 29, 3), (116, .getfield 111, 3), (119, .ireturn, 1), (120, .aload_n 0, 1), (121, .getfield 85, 3), (124, .ireturn, 1), (125, .aload_n 0, 1), (126, .invokevirtual 155, 3), (129, .ireturn, 1), (130, .iconst (-1), 1), (131, .ireturn, 1)]
theorem qX8_count : ∀ q ∈ kX8_count, decode mX8_count.2.2.1 q.1 = .ok (q.2.1, q.2.2) ∧ am_iok mX8_count.2.2.2.1 q.1 q.2.1 q.2.2 = true := by decide +kernel
set_option maxRecDepth 100000 in
theorem wX8_count : Cond.code mX8_count.2.1 mX8_count.2.2.1 mX8_count.2.2.2.1 mX8_count.2.2.2.2.1 ∈ am_T := List.mem_filter.mpr ⟨List.mem_of_getElem? (i := 692) rfl, rfl⟩
set_option maxHeartbeats 4000000 in
set_option maxRecDepth 100000 in
theorem tX8_count (l : Launch) (d : Nat) {s0 : AS} {a1 : Int32} {rE : Int32} (hf : fX8_count s0 a1 = some rE) : am_Ct l (d + 2) mX8_count [.inr (.inr ((9, 0, 0), 0)), .inl a1] s0 s0 (some (.inl rE)) := by
  refine am_sim l (d + 1) (code := kX8_count) (by decide +kernel) wX8_count qX8_count (Nat.le_of_ble_eq_true rfl) ?_
  intro X hX
  show X 0 [(0, .inr (.inr ((9, 0, 0), 0))), (1, .inl a1)] [] s0
  unfold fX8_count at hf
  refine am_blk hX 0 2 (And.intro (fun hb => ?_) (fun hq0 => And.intro (fun hb => ?_) (fun hq1 => And.intro (fun hb => ?_) (fun hq2 => And.intro (fun hb => ?_) (fun hq3 => And.intro (fun hb => ?_) (fun hq4 => And.intro (fun hb => ?_) (fun hq5 => And.intro (fun hb => ?_) (fun hq6 => And.intro (fun hb => ?_) (fun hq7 => And.intro (fun hb => ?_) (fun hq8 => And.intro (fun hb => ?_) (fun hq9 => ?_)))))))))))
  · have hf := am_it hf hb
    show X 56 [(0, .inr (.inr ((9, 0, 0), 0))), (1, .inl a1)] [] s0
    refine am_blk hX 2 4 (And.intro rfl (And.intro rfl (am_rpi hf)))
  · have hf := am_it (am_if hf hq0) hb
    show X 64 [(0, .inr (.inr ((9, 0, 0), 0))), (1, .inl a1)] [] s0
    refine am_blk hX 6 4 (And.intro rfl (And.intro rfl (am_rpi hf)))
  · have hf := am_it (am_if (am_if hf hq0) hq1) hb
    show X 72 [(0, .inr (.inr ((9, 0, 0), 0))), (1, .inl a1)] [] s0
    refine am_blk hX 10 4 (And.intro rfl (And.intro rfl (am_rpi hf)))
  · have hf := am_it (am_if (am_if (am_if hf hq0) hq1) hq2) hb
    show X 80 [(0, .inr (.inr ((9, 0, 0), 0))), (1, .inl a1)] [] s0
    refine am_blk hX 14 4 (And.intro rfl (And.intro rfl (am_rpi hf)))
  · have hf := am_it (am_if (am_if (am_if (am_if hf hq0) hq1) hq2) hq3) hb
    show X 88 [(0, .inr (.inr ((9, 0, 0), 0))), (1, .inl a1)] [] s0
    refine am_blk hX 18 4 (And.intro rfl (And.intro rfl (am_rpi hf)))
  · have hf := am_it (am_if (am_if (am_if (am_if (am_if hf hq0) hq1) hq2) hq3) hq4) hb
    show X 96 [(0, .inr (.inr ((9, 0, 0), 0))), (1, .inl a1)] [] s0
    refine am_blk hX 22 4 (And.intro rfl (And.intro rfl (am_rpi hf)))
  · have hf := am_it (am_if (am_if (am_if (am_if (am_if (am_if hf hq0) hq1) hq2) hq3) hq4) hq5) hb
    show X 104 [(0, .inr (.inr ((9, 0, 0), 0))), (1, .inl a1)] [] s0
    refine am_blk hX 26 4 (And.intro rfl (And.intro rfl (am_rpi hf)))
  · have hf := am_it (am_if (am_if (am_if (am_if (am_if (am_if (am_if hf hq0) hq1) hq2) hq3) hq4) hq5) hq6) hb
    show X 112 [(0, .inr (.inr ((9, 0, 0), 0))), (1, .inl a1)] [] s0
    refine am_blk hX 30 4 (And.intro rfl (And.intro rfl (am_rpi hf)))
  · have hf := am_it (am_if (am_if (am_if (am_if (am_if (am_if (am_if (am_if hf hq0) hq1) hq2) hq3) hq4) hq5) hq6) hq7) hb
    show X 120 [(0, .inr (.inr ((9, 0, 0), 0))), (1, .inl a1)] [] s0
    refine am_blk hX 34 3 (And.intro rfl (am_rpi hf))
  · have hf := am_it (am_if (am_if (am_if (am_if (am_if (am_if (am_if (am_if (am_if hf hq0) hq1) hq2) hq3) hq4) hq5) hq6) hq7) hq8) hb
    show X 125 [(0, .inr (.inr ((9, 0, 0), 0))), (1, .inl a1)] [] s0
    obtain ⟨v1, hcv1, hf⟩ := am_r_of hf
    refine am_blk hX 37 3 (And.intro rfl (And.intro rfl (Exists.intro s0 (Exists.intro (some (.inl v1)) (And.intro (tX8_rowsKept l (d + 0) hcv1) (am_rpi hf))))))
  · have hf := (am_if (am_if (am_if (am_if (am_if (am_if (am_if (am_if (am_if (am_if hf hq0) hq1) hq2) hq3) hq4) hq5) hq6) hq7) hq8) hq9)
    show X 130 [(0, .inr (.inr ((9, 0, 0), 0))), (1, .inl a1)] [] s0
    refine am_blk hX 40 2 (am_rpi hf)
def fX8_crew_L15 (a1 : Int32) (s0 : AS) : Nat → Int32 → Int32 → Option Int32
  | 0, _, _ => none
  | n15 + 1, x2, x3 =>
    if (s0.1 25 6) ≤ x3 then (some x2) else (am_g (¬ (x3 < 0 ∨ 8 ≤ x3.toNatClampNeg)) (am_g (¬ ((0 : Int32) < 0 ∨ 5 ≤ (0 : Int32).toNatClampNeg)) (am_let (fun (x6 : Int32) => am_let (x3 + (1 : Int32)) (fun (x7 : Int32) => fX8_crew_L15 a1 s0 n15 x6 x7)) (fun J47 => if (s0.1 (38 + x3.toNatClampNeg) ((0 : Int32).toNatClampNeg)) = a1 then (am_let (x2 ||| ((1 : Int32) <<< (x3 &&& 31))) (fun (x8 : Int32) => J47 x8)) else (J47 x2)))))
def fX8_crew (s0 : AS) (a1 : Int32) : Option Int32 :=
  am_r (fX8_isPlace s0 a1) (fun (v1 : Int32) => if v1 = 0 then (some (-2 : Int32)) else (fX8_crew_L15 a1 s0 am_fu (0 : Int32) (0 : Int32)))
def kX8_crew : List (Nat × Instr × Nat) := [(0, .aload_n 0, 1), (1, .iload_n 1, 1), (2, .invokevirtual 162, 3), (5, .ifCond .ne 6, 3), (8, .bipush (-2), 2), (10, .ireturn, 1), (11, .iconst 0, 1), (12, .istore_n 2, 1), (13, .iconst 0, 1), (14, .istore_n 3, 1), (15, .iload_n 3, 1), (16, .aload_n 0, 1), (17, .getfield 29, 3), (20, .getfield 123, 3), (23, .if_icmp .ge 30, 3), (26, .aload_n 0, 1), (27, .getfield 29, 3), (30, .getfield 140, 3), (33, .iload_n 3, 1), (34, .aaload, 1), (35, .iconst 0, 1), (36, .iaload, 1), (37, .iload_n 1, 1), (38, .if_icmp .ne 9, 3), (41, .iload_n 2, 1), (42, .iconst 1, 1), (43, .iload_n 3, 1), (44, .ishl, 1), (45, .ior, 1), (46, .istore_n 2, 1), (47, .iinc 3 1, 3), (50, .goto (-35), 3), (53, .iload_n 2, 1), (54, .ireturn, 1)]
theorem qX8_crew : ∀ q ∈ kX8_crew, decode mX8_crew.2.2.1 q.1 = .ok (q.2.1, q.2.2) ∧ am_iok mX8_crew.2.2.2.1 q.1 q.2.1 q.2.2 = true := by decide +kernel
set_option maxRecDepth 100000 in
theorem wX8_crew : Cond.code mX8_crew.2.1 mX8_crew.2.2.1 mX8_crew.2.2.2.1 mX8_crew.2.2.2.2.1 ∈ am_T := List.mem_filter.mpr ⟨List.mem_of_getElem? (i := 700) rfl, rfl⟩
set_option maxHeartbeats 4000000 in
set_option maxRecDepth 100000 in
theorem tX8_crew (l : Launch) (d : Nat) {s0 : AS} {a1 : Int32} {rE : Int32} (hf : fX8_crew s0 a1 = some rE) : am_Ct l (d + 2) mX8_crew [.inr (.inr ((9, 0, 0), 0)), .inl a1] s0 s0 (some (.inl rE)) := by
  refine am_sim l (d + 1) (code := kX8_crew) (by decide +kernel) wX8_crew qX8_crew (Nat.le_of_ble_eq_true rfl) ?_
  intro X hX
  show X 0 [(0, .inr (.inr ((9, 0, 0), 0))), (1, .inl a1)] [] s0
  unfold fX8_crew at hf
  obtain ⟨v1, hcv1, hf⟩ := am_r_of hf
  refine am_blk hX 0 4 (And.intro rfl (And.intro rfl (Exists.intro s0 (Exists.intro (some (.inl v1)) (And.intro (tX8_isPlace l (d + 0) hcv1) (And.intro (fun hb => ?_) (fun hb => ?_)))))))
  · have hf := am_if hf hb
    show X 11 [(0, .inr (.inr ((9, 0, 0), 0))), (1, .inl a1)] [] s0
    have hL15 : ∀ (n15 : Nat) (x2 : Int32) (x3 : Int32), fX8_crew_L15 a1 s0 n15 x2 x3 = some rE → X 15 [(0, .inr (.inr ((9, 0, 0), 0))), (1, .inl a1), (2, .inl x2), (3, .inl x3)] [] s0 := by
      intro n15
      induction n15 with
      | zero => intro x2 x3 hf; exact am_no (show none = some _ from hf)
      | succ n15 ih15 =>
        intro x2 x3 hf
        refine am_blk hX 10 5 (And.intro rfl (And.intro rfl (And.intro (fun hb => ?_) (fun hb => ?_))))
        · have hf := am_it hf hb
          show X 53 [(0, .inr (.inr ((9, 0, 0), 0))), (1, .inl a1), (2, .inl x2), (3, .inl x3)] [] s0
          refine am_blk hX 32 2 (am_rpi hf)
        · have hf := am_if hf hb
          show X 26 [(0, .inr (.inr ((9, 0, 0), 0))), (1, .inl a1), (2, .inl x2), (3, .inl x3)] [] s0
          obtain ⟨g4, hf⟩ := am_g_of hf
          obtain ⟨g5, hf⟩ := am_g_of hf
          refine am_jn hf (fun J47 => ∀ (x6 : Int32), J47 x6 = some rE → X 47 [(0, .inr (.inr ((9, 0, 0), 0))), (1, .inl a1), (2, .inl x6), (3, .inl x3)] [] s0) ?_ ?_
          · intro x6 hf
            refine am_blk hX 30 1 (am_nl (Z := fun x7 => X 50 [(3, .inl x7), (0, .inr (.inr ((9, 0, 0), 0))), (1, .inl a1), (2, .inl x6)] [] s0) hf (fun x7 hf => ?_))
            refine am_blk hX 31 1 (?_)
            show X 15 [(3, .inl x7), (0, .inr (.inr ((9, 0, 0), 0))), (1, .inl a1), (2, .inl x6)] [] s0
            exact am_wk hX [1, 2, 3, 0] (ih15 x6 x7 hf)
          · intro J47 hJ47 hf
            refine am_blk hX 15 9 (And.intro rfl (And.intro rfl (And.intro g4 (And.intro rfl (And.intro g5 (And.intro (fun hb => ?_) (fun hb => ?_)))))))
            · have hf := am_if hf hb
              show X 47 [(0, .inr (.inr ((9, 0, 0), 0))), (1, .inl a1), (2, .inl x2), (3, .inl x3)] [] s0
              exact am_wk hX [0, 1, 2, 3] (hJ47 x2 hf)
            · have hf := am_it hf hb
              show X 41 [(0, .inr (.inr ((9, 0, 0), 0))), (1, .inl a1), (2, .inl x2), (3, .inl x3)] [] s0
              refine am_blk hX 24 6 (am_nl (Z := fun x8 => X 47 [(2, .inl x8), (0, .inr (.inr ((9, 0, 0), 0))), (1, .inl a1), (3, .inl x3)] [] s0) hf (fun x8 hf => ?_))
              exact am_wk hX [1, 2, 0, 3] (hJ47 x8 hf)
    refine am_blk hX 6 4 (?_)
    show X 15 [(3, .inl (0 : Int32)), (2, .inl (0 : Int32)), (0, .inr (.inr ((9, 0, 0), 0))), (1, .inl a1)] [] s0
    exact am_wk hX [2, 3, 1, 0] (hL15 am_fu (0 : Int32) (0 : Int32) hf)
  · have hf := am_it hf hb
    show X 8 [(0, .inr (.inr ((9, 0, 0), 0))), (1, .inl a1)] [] s0
    refine am_blk hX 4 2 (am_rpi hf)
def fX8_crowd (s0 : AS) (a1 : Int32) : Option (AS × Int32) :=
  am_r (fX8_isStep s0 a1) (fun (v1 : Int32) => if v1 = 0 then (some (s0, (-2 : Int32))) else (am_c (fX8_tell s0) (fun (s3 : AS) (v2 : Unit) => am_g (¬ (a1 < 0 ∨ 61 ≤ a1.toNatClampNeg)) (some (s3, s3.1 165 a1.toNatClampNeg)))))
def kX8_crowd : List (Nat × Instr × Nat) := [(0, .aload_n 0, 1), (1, .iload_n 1, 1), (2, .invokevirtual 209, 3), (5, .ifCond .ne 6, 3), (8, .bipush (-2), 2), (10, .ireturn, 1), (11, .aload_n 0, 1), (12, .invokevirtual 165, 3), (15, .aload_n 0, 1), (16, .getfield 61, 3), (19, .getfield 216, 3), (22, .iload_n 1, 1), (23, .iaload, 1), (24, .ireturn, 1)]
theorem qX8_crowd : ∀ q ∈ kX8_crowd, decode mX8_crowd.2.2.1 q.1 = .ok (q.2.1, q.2.2) ∧ am_iok mX8_crowd.2.2.2.1 q.1 q.2.1 q.2.2 = true := by decide +kernel
set_option maxRecDepth 100000 in
theorem wX8_crowd : Cond.code mX8_crowd.2.1 mX8_crowd.2.2.1 mX8_crowd.2.2.2.1 mX8_crowd.2.2.2.2.1 ∈ am_T := List.mem_filter.mpr ⟨List.mem_of_getElem? (i := 850) rfl, rfl⟩
set_option maxHeartbeats 4000000 in
set_option maxRecDepth 100000 in
theorem tX8_crowd (l : Launch) (d : Nat) {s0 : AS} {a1 : Int32} {sE : AS} {rE : Int32} (hf : fX8_crowd s0 a1 = some (sE, rE)) : am_Ct l (d + 6) mX8_crowd [.inr (.inr ((9, 0, 0), 0)), .inl a1] s0 sE (some (.inl rE)) := by
  refine am_sim l (d + 5) (code := kX8_crowd) (by decide +kernel) wX8_crowd qX8_crowd (Nat.le_of_ble_eq_true rfl) ?_
  intro X hX
  show X 0 [(0, .inr (.inr ((9, 0, 0), 0))), (1, .inl a1)] [] s0
  unfold fX8_crowd at hf
  obtain ⟨v1, hcv1, hf⟩ := am_r_of hf
  refine am_blk hX 0 4 (And.intro rfl (And.intro rfl (Exists.intro s0 (Exists.intro (some (.inl v1)) (And.intro (tX8_isStep l (d + 3) hcv1) (And.intro (fun hb => ?_) (fun hb => ?_)))))))
  · have hf := am_if hf hb
    show X 11 [(0, .inr (.inr ((9, 0, 0), 0))), (1, .inl a1)] [] s0
    obtain ⟨s3, v2, hcv2, hf⟩ := am_c_of hf
    obtain ⟨g4, hf⟩ := am_g_of hf
    refine am_blk hX 6 8 (And.intro rfl (And.intro rfl (Exists.intro s3 (Exists.intro none (And.intro (tX8_tell l (d + 0) hcv2) (And.intro rfl (And.intro rfl (And.intro rfl (And.intro g4 (am_ri hf))))))))))
  · have hf := am_it hf hb
    show X 8 [(0, .inr (.inr ((9, 0, 0), 0))), (1, .inl a1)] [] s0
    refine am_blk hX 4 2 (am_ri hf)
def fX8_roadsAcross_L4 (a1 : Int32) (s0 : AS) : Nat → Int32 → Int32 → Option Int32
  | 0, _, _ => none
  | n4 + 1, x1, x2 =>
    if (s0.1 25 5) ≤ x2 then (some x1) else (am_r (fX8_holds (s0.1 47 2) x2) (fun (v3 : Int32) => am_let (fun (x4 : Int32) => am_let (x2 + (1 : Int32)) (fun (x5 : Int32) => fX8_roadsAcross_L4 a1 s0 n4 x4 x5)) (fun J69 => if v3 = 0 then (am_g (¬ (x2 < 0 ∨ 10 ≤ x2.toNatClampNeg)) (am_g (¬ ((0 : Int32) < 0 ∨ 3 ≤ (0 : Int32).toNatClampNeg)) (am_r (fX8_holds a1 (s0.1 (27 + x2.toNatClampNeg) ((0 : Int32).toNatClampNeg))) (fun (v8 : Int32) => am_g (¬ (x2 < 0 ∨ 10 ≤ x2.toNatClampNeg)) (am_g (¬ ((1 : Int32) < 0 ∨ 3 ≤ (1 : Int32).toNatClampNeg)) (am_r (fX8_holds a1 (s0.1 (27 + x2.toNatClampNeg) ((1 : Int32).toNatClampNeg))) (fun (v11 : Int32) => if v8 = v11 then (J69 x1) else (am_let (x1 + (1 : Int32)) (fun (x12 : Int32) => J69 x12))))))))) else (J69 x1))))
def fX8_roadsAcross (s0 : AS) (a1 : Int32) : Option Int32 :=
  fX8_roadsAcross_L4 a1 s0 am_fu (0 : Int32) (0 : Int32)
def kX8_roadsAcross : List (Nat × Instr × Nat) := [(0, .iconst 0, 1), (1, .istore_n 2, 1), (2, .iconst 0, 1), (3, .istore_n 3, 1), (4, .iload_n 3, 1), (5, .aload_n 0, 1), (6, .getfield 29, 3), (9, .getfield 120, 3), (12, .if_icmp .ge 63, 3), (15, .aload_n 0, 1), (16, .getfield 35, 3), (19, .getfield 188, 3), (22, .iload_n 3, 1), (23, .invokestatic 175, 3), (26, .istore 4, 2), (28, .iload 4, 2), (30, .ifCond .ne 39, 3), (33, .iload_n 1, 1), (34, .aload_n 0, 1), (35, .getfield 29, 3), (38, .getfield 134, 3), (41, .iload_n 3, 1), (42, .aaload, 1), (43, .iconst 0, 1), (44, .iaload, 1), (45, .invokestatic 175, 3), (48, .iload_n 1, 1), (49, .aload_n 0, 1), (50, .getfield 29, 3), (53, .getfield 134, 3), (56, .iload_n 3, 1), (57, .aaload, 1), (58, .iconst 1, 1), (59, .iaload, 1), (60, .invokestatic 175, 3), (63, .if_icmp .eq 6, 3), (66, .iinc 2 1, 3), (69, .iinc 3 1, 3), (72, .goto (-68), 3), (75, .iload_n 2, 1), (76, .ireturn, 1)]
theorem qX8_roadsAcross : ∀ q ∈ kX8_roadsAcross, decode mX8_roadsAcross.2.2.1 q.1 = .ok (q.2.1, q.2.2) ∧ am_iok mX8_roadsAcross.2.2.2.1 q.1 q.2.1 q.2.2 = true := by decide +kernel
set_option maxRecDepth 100000 in
theorem wX8_roadsAcross : Cond.code mX8_roadsAcross.2.1 mX8_roadsAcross.2.2.1 mX8_roadsAcross.2.2.2.1 mX8_roadsAcross.2.2.2.2.1 ∈ am_T := List.mem_filter.mpr ⟨List.mem_of_getElem? (i := 833) rfl, rfl⟩
set_option maxHeartbeats 4000000 in
set_option maxRecDepth 100000 in
theorem tX8_roadsAcross (l : Launch) (d : Nat) {s0 : AS} {a1 : Int32} {rE : Int32} (hf : fX8_roadsAcross s0 a1 = some rE) : am_Ct l (d + 2) mX8_roadsAcross [.inr (.inr ((9, 0, 0), 0)), .inl a1] s0 s0 (some (.inl rE)) := by
  refine am_sim l (d + 1) (code := kX8_roadsAcross) (by decide +kernel) wX8_roadsAcross qX8_roadsAcross (Nat.le_of_ble_eq_true rfl) ?_
  intro X hX
  show X 0 [(0, .inr (.inr ((9, 0, 0), 0))), (1, .inl a1)] [] s0
  unfold fX8_roadsAcross at hf
  have hL4 : ∀ (n4 : Nat) (x1 : Int32) (x2 : Int32), fX8_roadsAcross_L4 a1 s0 n4 x1 x2 = some rE → X 4 [(0, .inr (.inr ((9, 0, 0), 0))), (1, .inl a1), (2, .inl x1), (3, .inl x2)] [] s0 := by
    intro n4
    induction n4 with
    | zero => intro x1 x2 hf; exact am_no (show none = some _ from hf)
    | succ n4 ih4 =>
      intro x1 x2 hf
      refine am_blk hX 4 5 (And.intro rfl (And.intro rfl (And.intro (fun hb => ?_) (fun hb => ?_))))
      · have hf := am_it hf hb
        show X 75 [(0, .inr (.inr ((9, 0, 0), 0))), (1, .inl a1), (2, .inl x1), (3, .inl x2)] [] s0
        refine am_blk hX 39 2 (am_rpi hf)
      · have hf := am_if hf hb
        show X 15 [(0, .inr (.inr ((9, 0, 0), 0))), (1, .inl a1), (2, .inl x1), (3, .inl x2)] [] s0
        obtain ⟨v3, hcv3, hf⟩ := am_r_of hf
        refine am_jn hf (fun J69 => ∀ (x4 : Int32), J69 x4 = some rE → X 69 [(0, .inr (.inr ((9, 0, 0), 0))), (1, .inl a1), (2, .inl x4), (3, .inl x2)] [] s0) ?_ ?_
        · intro x4 hf
          refine am_blk hX 37 1 (am_nl (Z := fun x5 => X 72 [(3, .inl x5), (0, .inr (.inr ((9, 0, 0), 0))), (1, .inl a1), (2, .inl x4)] [] s0) hf (fun x5 hf => ?_))
          refine am_blk hX 38 1 (?_)
          show X 4 [(3, .inl x5), (0, .inr (.inr ((9, 0, 0), 0))), (1, .inl a1), (2, .inl x4)] [] s0
          exact am_wk hX [1, 2, 3, 0] (ih4 x4 x5 hf)
        · intro J69 hJ69 hf
          refine am_blk hX 9 8 (And.intro rfl (And.intro rfl (And.intro rfl (Exists.intro s0 (Exists.intro (some (.inl v3)) (And.intro (tX8_holds l (d + 0) hcv3) (And.intro (fun hb => ?_) (fun hb => ?_))))))))
          · have hf := am_if hf hb
            show X 69 [(4, .inl v3), (0, .inr (.inr ((9, 0, 0), 0))), (1, .inl a1), (2, .inl x1), (3, .inl x2)] [] s0
            exact am_wk hX [1, 2, 3, 4] (hJ69 x1 hf)
          · have hf := am_it hf hb
            show X 33 [(4, .inl v3), (0, .inr (.inr ((9, 0, 0), 0))), (1, .inl a1), (2, .inl x1), (3, .inl x2)] [] s0
            obtain ⟨g6, hf⟩ := am_g_of hf
            obtain ⟨g7, hf⟩ := am_g_of hf
            obtain ⟨v8, hcv8, hf⟩ := am_r_of hf
            obtain ⟨g9, hf⟩ := am_g_of hf
            obtain ⟨g10, hf⟩ := am_g_of hf
            obtain ⟨v11, hcv11, hf⟩ := am_r_of hf
            refine am_blk hX 17 19 (And.intro rfl (And.intro rfl (And.intro g6 (And.intro rfl (And.intro g7 (And.intro rfl (Exists.intro s0 (Exists.intro (some (.inl v8)) (And.intro (tX8_holds l (d + 0) hcv8) (And.intro rfl (And.intro rfl (And.intro g9 (And.intro rfl (And.intro g10 (And.intro rfl (Exists.intro s0 (Exists.intro (some (.inl v11)) (And.intro (tX8_holds l (d + 0) hcv11) (And.intro (fun hb => ?_) (fun hb => ?_))))))))))))))))))))
            · have hf := am_it hf hb
              show X 69 [(4, .inl v3), (0, .inr (.inr ((9, 0, 0), 0))), (1, .inl a1), (2, .inl x1), (3, .inl x2)] [] s0
              exact am_wk hX [1, 2, 3, 4] (hJ69 x1 hf)
            · have hf := am_if hf hb
              show X 66 [(4, .inl v3), (0, .inr (.inr ((9, 0, 0), 0))), (1, .inl a1), (2, .inl x1), (3, .inl x2)] [] s0
              refine am_blk hX 36 1 (am_nl (Z := fun x12 => X 69 [(2, .inl x12), (4, .inl v3), (0, .inr (.inr ((9, 0, 0), 0))), (1, .inl a1), (3, .inl x2)] [] s0) hf (fun x12 hf => ?_))
              exact am_wk hX [2, 3, 0, 4] (hJ69 x12 hf)
  refine am_blk hX 0 4 (?_)
  show X 4 [(3, .inl (0 : Int32)), (2, .inl (0 : Int32)), (0, .inr (.inr ((9, 0, 0), 0))), (1, .inl a1)] [] s0
  exact am_wk hX [2, 3, 1, 0] (hL4 am_fu (0 : Int32) (0 : Int32) hf)
def fX8_cut_L32 (a1 : Int32) (a2 : Int32) (s0 : AS) : Nat → Int32 → Int32 → Option Int32
  | 0, _, _ => none
  | n32 + 1, x3, x4 =>
    if ((1 : Int32) <<< ((s0.1 25 1) &&& 31)) ≤ x4 then (some x3) else (am_r (fX8_holds x4 a1) (fun (v5 : Int32) => am_let (fun (x6 : Int32) => am_let (x4 + (1 : Int32)) (fun (x7 : Int32) => fX8_cut_L32 a1 a2 s0 n32 x6 x7)) (fun J75 => if v5 = 0 then (J75 x3) else (am_r (fX8_holds x4 a2) (fun (v8 : Int32) => if v8 = 0 then (am_r (fX8_roadsAcross s0 x4) (fun (v9 : Int32) => am_let (if v9 < x3 then v9 else x3) (fun (x10 : Int32) => J75 x10))) else (J75 x3))))))
def fX8_cut (s0 : AS) (a1 : Int32) (a2 : Int32) : Option Int32 :=
  am_r (fX8_isPlace s0 a1) (fun (v1 : Int32) => am_let (some (-2 : Int32)) (fun J16 => if v1 = 0 then (J16) else (am_r (fX8_isPlace s0 a2) (fun (v2 : Int32) => if v2 = 0 then (J16) else (if a1 = a2 then (some (-1 : Int32)) else (fX8_cut_L32 a1 a2 s0 am_fu (10 : Int32) (0 : Int32)))))))
def kX8_cut : List (Nat × Instr × Nat) := [(0, .aload_n 0, 1), (1, .iload_n 1, 1), (2, .invokevirtual 162, 3), (5, .ifCond .eq 11, 3), (8, .aload_n 0, 1), (9, .iload_n 2, 1), (10, .invokevirtual 162, 3), (13, .ifCond .ne 6, 3), (16, .bipush (-2), 2), (18, .ireturn, 1), (19, .iload_n 1, 1), (20, .iload_n 2, 1), (21, .if_icmp .ne 5, 3), (24, .iconst (-1), 1), (25, .ireturn, 1), (26, .bipush 10, 2), (28, .istore_n 3, 1), (29, .iconst 0, 1), (30, .istore 4, 2), (32, .iload 4, 2), (34, .iconst 1, 1), (35, .aload_n 0, 1), (36, .getfield 29, 3), (39, .getfield 117, 3), (42, .ishl, 1), (43, .if_icmp .ge 38, 3), (46, .iload 4, 2), (48, .iload_n 1, 1), (49, .invokestatic 175, 3), (52, .ifCond .eq 23, 3), (55, .iload 4, 2), (57, .iload_n 2, 1), (58, .invokestatic 175, 3), (61, .ifCond .ne 14, 3), (64, .iload_n 3, 1), (65, .aload_n 0, 1), (66, .iload 4, 2), (68, .invokevirtual 179, 3), (71, .invokestatic 183, 3), (74, .istore_n 3, 1), (75, .iinc 4 1, 3), (78, .goto (-46), 3), (81, .iload_n 3, 1), (82, .ireturn, 1)]
theorem qX8_cut : ∀ q ∈ kX8_cut, decode mX8_cut.2.2.1 q.1 = .ok (q.2.1, q.2.2) ∧ am_iok mX8_cut.2.2.2.1 q.1 q.2.1 q.2.2 = true := by decide +kernel
set_option maxRecDepth 100000 in
theorem wX8_cut : Cond.code mX8_cut.2.1 mX8_cut.2.2.1 mX8_cut.2.2.2.1 mX8_cut.2.2.2.2.1 ∈ am_T := List.mem_filter.mpr ⟨List.mem_of_getElem? (i := 828) rfl, rfl⟩
set_option maxHeartbeats 4000000 in
set_option maxRecDepth 100000 in
theorem tX8_cut (l : Launch) (d : Nat) {s0 : AS} {a1 : Int32} {a2 : Int32} {rE : Int32} (hf : fX8_cut s0 a1 a2 = some rE) : am_Ct l (d + 3) mX8_cut [.inr (.inr ((9, 0, 0), 0)), .inl a1, .inl a2] s0 s0 (some (.inl rE)) := by
  refine am_sim l (d + 2) (code := kX8_cut) (by decide +kernel) wX8_cut qX8_cut (Nat.le_of_ble_eq_true rfl) ?_
  intro X hX
  show X 0 [(0, .inr (.inr ((9, 0, 0), 0))), (1, .inl a1), (2, .inl a2)] [] s0
  unfold fX8_cut at hf
  obtain ⟨v1, hcv1, hf⟩ := am_r_of hf
  refine am_jn hf (fun J16 => J16 = some rE → X 16 [] [] s0) ?_ ?_
  · intro hf
    refine am_blk hX 8 2 (am_rpi hf)
  · intro J16 hJ16 hf
    refine am_blk hX 0 4 (And.intro rfl (And.intro rfl (Exists.intro s0 (Exists.intro (some (.inl v1)) (And.intro (tX8_isPlace l (d + 1) hcv1) (And.intro (fun hb => ?_) (fun hb => ?_)))))))
    · have hf := am_it hf hb
      show X 16 [(0, .inr (.inr ((9, 0, 0), 0))), (1, .inl a1), (2, .inl a2)] [] s0
      exact am_wk hX [] (hJ16 hf)
    · have hf := am_if hf hb
      show X 8 [(0, .inr (.inr ((9, 0, 0), 0))), (1, .inl a1), (2, .inl a2)] [] s0
      obtain ⟨v2, hcv2, hf⟩ := am_r_of hf
      refine am_blk hX 4 4 (And.intro rfl (And.intro rfl (Exists.intro s0 (Exists.intro (some (.inl v2)) (And.intro (tX8_isPlace l (d + 1) hcv2) (And.intro (fun hb => ?_) (fun hb => ?_)))))))
      · have hf := am_if hf hb
        show X 19 [(0, .inr (.inr ((9, 0, 0), 0))), (1, .inl a1), (2, .inl a2)] [] s0
        refine am_blk hX 10 3 (And.intro (fun hb => ?_) (fun hb => ?_))
        · have hf := am_if hf hb
          show X 26 [(0, .inr (.inr ((9, 0, 0), 0))), (1, .inl a1), (2, .inl a2)] [] s0
          have hL32 : ∀ (n32 : Nat) (x3 : Int32) (x4 : Int32), fX8_cut_L32 a1 a2 s0 n32 x3 x4 = some rE → X 32 [(0, .inr (.inr ((9, 0, 0), 0))), (1, .inl a1), (2, .inl a2), (3, .inl x3), (4, .inl x4)] [] s0 := by
            intro n32
            induction n32 with
            | zero => intro x3 x4 hf; exact am_no (show none = some _ from hf)
            | succ n32 ih32 =>
              intro x3 x4 hf
              refine am_blk hX 19 7 (And.intro rfl (And.intro rfl (And.intro (fun hb => ?_) (fun hb => ?_))))
              · have hf := am_it hf hb
                show X 81 [(0, .inr (.inr ((9, 0, 0), 0))), (1, .inl a1), (2, .inl a2), (3, .inl x3), (4, .inl x4)] [] s0
                refine am_blk hX 42 2 (am_rpi hf)
              · have hf := am_if hf hb
                show X 46 [(0, .inr (.inr ((9, 0, 0), 0))), (1, .inl a1), (2, .inl a2), (3, .inl x3), (4, .inl x4)] [] s0
                obtain ⟨v5, hcv5, hf⟩ := am_r_of hf
                refine am_jn hf (fun J75 => ∀ (x6 : Int32), J75 x6 = some rE → X 75 [(0, .inr (.inr ((9, 0, 0), 0))), (1, .inl a1), (2, .inl a2), (3, .inl x6), (4, .inl x4)] [] s0) ?_ ?_
                · intro x6 hf
                  refine am_blk hX 40 1 (am_nl (Z := fun x7 => X 78 [(4, .inl x7), (0, .inr (.inr ((9, 0, 0), 0))), (1, .inl a1), (2, .inl a2), (3, .inl x6)] [] s0) hf (fun x7 hf => ?_))
                  refine am_blk hX 41 1 (?_)
                  show X 32 [(4, .inl x7), (0, .inr (.inr ((9, 0, 0), 0))), (1, .inl a1), (2, .inl a2), (3, .inl x6)] [] s0
                  exact am_wk hX [1, 2, 3, 4, 0] (ih32 x6 x7 hf)
                · intro J75 hJ75 hf
                  refine am_blk hX 26 4 (And.intro rfl (Exists.intro s0 (Exists.intro (some (.inl v5)) (And.intro (tX8_holds l (d + 1) hcv5) (And.intro (fun hb => ?_) (fun hb => ?_))))))
                  · have hf := am_it hf hb
                    show X 75 [(0, .inr (.inr ((9, 0, 0), 0))), (1, .inl a1), (2, .inl a2), (3, .inl x3), (4, .inl x4)] [] s0
                    exact am_wk hX [0, 1, 2, 3, 4] (hJ75 x3 hf)
                  · have hf := am_if hf hb
                    show X 55 [(0, .inr (.inr ((9, 0, 0), 0))), (1, .inl a1), (2, .inl a2), (3, .inl x3), (4, .inl x4)] [] s0
                    obtain ⟨v8, hcv8, hf⟩ := am_r_of hf
                    refine am_blk hX 30 4 (And.intro rfl (Exists.intro s0 (Exists.intro (some (.inl v8)) (And.intro (tX8_holds l (d + 1) hcv8) (And.intro (fun hb => ?_) (fun hb => ?_))))))
                    · have hf := am_if hf hb
                      show X 75 [(0, .inr (.inr ((9, 0, 0), 0))), (1, .inl a1), (2, .inl a2), (3, .inl x3), (4, .inl x4)] [] s0
                      exact am_wk hX [0, 1, 2, 3, 4] (hJ75 x3 hf)
                    · have hf := am_it hf hb
                      show X 64 [(0, .inr (.inr ((9, 0, 0), 0))), (1, .inl a1), (2, .inl a2), (3, .inl x3), (4, .inl x4)] [] s0
                      obtain ⟨v9, hcv9, hf⟩ := am_r_of hf
                      refine am_blk hX 34 6 (And.intro rfl (And.intro rfl (Exists.intro s0 (Exists.intro (some (.inl v9)) (And.intro (tX8_roadsAcross l (d + 0) hcv9) (And.intro rfl (am_nl (Z := fun x10 => X 75 [(3, .inl x10), (0, .inr (.inr ((9, 0, 0), 0))), (1, .inl a1), (2, .inl a2), (4, .inl x4)] [] s0) hf (fun x10 hf => ?_))))))))
                      exact am_wk hX [1, 2, 3, 0, 4] (hJ75 x10 hf)
          refine am_blk hX 15 4 (?_)
          show X 32 [(4, .inl (0 : Int32)), (3, .inl (10 : Int32)), (0, .inr (.inr ((9, 0, 0), 0))), (1, .inl a1), (2, .inl a2)] [] s0
          exact am_wk hX [2, 3, 4, 1, 0] (hL32 am_fu (10 : Int32) (0 : Int32) hf)
        · have hf := am_it hf hb
          show X 24 [(0, .inr (.inr ((9, 0, 0), 0))), (1, .inl a1), (2, .inl a2)] [] s0
          refine am_blk hX 13 2 (am_rpi hf)
      · have hf := am_it hf hb
        show X 16 [(0, .inr (.inr ((9, 0, 0), 0))), (1, .inl a1), (2, .inl a2)] [] s0
        exact am_wk hX [] (hJ16 hf)
def fX8_rainFrom_L8 (s0 : AS) : Nat → Int64 → Int64 → Int32 → Option Int64
  | 0, _, _, _ => none
  | n8 + 1, x1, x2, x3 =>
    if (61 : Int32) ≤ x3 then (some x2) else (am_g (¬ (2147483648 : Int64) = 0) (am_let ((((1103515245 : Int64) * x1) + (12345 : Int64)) - (((1103515245 : Int64) * x1) + (12345 : Int64)) / (2147483648 : Int64) * (2147483648 : Int64)) (fun (x5 : Int64) => am_g (¬ (65536 : Int64) = 0) (am_g (¬ (10 : Int64) = 0) (am_let (fun (x8 : Int64) => am_let (x3 + (1 : Int32)) (fun (x9 : Int32) => fX8_rainFrom_L8 s0 n8 x5 x8 x9)) (fun J59 => if 0 ≤ (lg_cmp ((x5 / (65536 : Int64)) - (x5 / (65536 : Int64)) / (10 : Int64) * (10 : Int64)) ((s0.1 25 4).toInt64)) then (J59 x2) else (am_let (x2 ||| ((1 : Int64) <<< (x3.toInt64 &&& 63))) (fun (x10 : Int64) => J59 x10))))))))
def fX8_rainFrom (s0 : AS) (a1 : Int64) : Option Int64 :=
  fX8_rainFrom_L8 s0 am_fu a1 (0 : Int64) (0 : Int32)
def kX8_rainFrom : List (Nat × Instr × Nat) := [(0, .lload_n 1, 1), (1, .lstore_n 3, 1), (2, .lconst 0, 1), (3, .lstore 5, 2), (5, .iconst 0, 1), (6, .istore 7, 2), (8, .iload 7, 2), (10, .bipush 61, 2), (12, .if_icmp .ge 53, 3), (15, .ldc2_w 426, 3), (18, .lload_n 3, 1), (19, .lmul, 1), (20, .ldc2_w 428, 3), (23, .ladd, 1), (24, .ldc2_w 430, 3), (27, .lrem, 1), (28, .lstore_n 3, 1), (29, .lload_n 3, 1), (30, .ldc2_w 432, 3), (33, .ldiv, 1), (34, .ldc2_w 412, 3), (37, .lrem, 1), (38, .aload_n 0, 1), (39, .getfield 29, 3), (42, .getfield 149, 3), (45, .i2l, 1), (46, .lcmp, 1), (47, .ifCond .ge 12, 3), (50, .lload 5, 2), (52, .lconst 1, 1), (53, .iload 7, 2), (55, .lshl, 1), (56, .lor, 1), (57, .lstore 5, 2), (59, .iinc 7 1, 3), (62, .goto (-54), 3), (65, .lload 5, 2), (67, .lreturn, 1)]
theorem qX8_rainFrom : ∀ q ∈ kX8_rainFrom, decode mX8_rainFrom.2.2.1 q.1 = .ok (q.2.1, q.2.2) ∧ am_iok mX8_rainFrom.2.2.2.1 q.1 q.2.1 q.2.2 = true := by decide +kernel
set_option maxRecDepth 100000 in
theorem wX8_rainFrom : Cond.code mX8_rainFrom.2.1 mX8_rainFrom.2.2.1 mX8_rainFrom.2.2.2.1 mX8_rainFrom.2.2.2.2.1 ∈ am_T := List.mem_filter.mpr ⟨List.mem_of_getElem? (i := 1196) rfl, rfl⟩
set_option maxHeartbeats 4000000 in
set_option maxRecDepth 100000 in
theorem tX8_rainFrom (l : Launch) (d : Nat) {s0 : AS} {a1 : Int64} {rE : Int64} (hf : fX8_rainFrom s0 a1 = some rE) : am_Ct l (d + 1) mX8_rainFrom [.inr (.inr ((9, 0, 0), 0)), .inr (.inl a1)] s0 s0 (some (.inr (.inl rE))) := by
  refine am_sim l (d + 0) (code := kX8_rainFrom) (by decide +kernel) wX8_rainFrom qX8_rainFrom (Nat.le_of_ble_eq_true rfl) ?_
  intro X hX
  show X 0 [(0, .inr (.inr ((9, 0, 0), 0))), (1, .inr (.inl a1))] [] s0
  unfold fX8_rainFrom at hf
  have hL8 : ∀ (n8 : Nat) (x1 : Int64) (x2 : Int64) (x3 : Int32), fX8_rainFrom_L8 s0 n8 x1 x2 x3 = some rE → X 8 [(0, .inr (.inr ((9, 0, 0), 0))), (3, .inr (.inl x1)), (5, .inr (.inl x2)), (7, .inl x3)] [] s0 := by
    intro n8
    induction n8 with
    | zero => intro x1 x2 x3 hf; exact am_no (show none = some _ from hf)
    | succ n8 ih8 =>
      intro x1 x2 x3 hf
      refine am_blk hX 6 3 (And.intro (fun hb => ?_) (fun hb => ?_))
      · have hf := am_it hf hb
        show X 65 [(0, .inr (.inr ((9, 0, 0), 0))), (3, .inr (.inl x1)), (5, .inr (.inl x2)), (7, .inl x3)] [] s0
        refine am_blk hX 36 2 (And.intro rfl (am_rpl hf))
      · have hf := am_if hf hb
        show X 15 [(0, .inr (.inr ((9, 0, 0), 0))), (3, .inr (.inl x1)), (5, .inr (.inl x2)), (7, .inl x3)] [] s0
        obtain ⟨g4, hf⟩ := am_g_of hf
        refine am_blk hX 9 8 (And.intro g4 (am_nl (Z := fun x5 => X 29 [(3, .inr (.inl x5)), (0, .inr (.inr ((9, 0, 0), 0))), (5, .inr (.inl x2)), (7, .inl x3)] [] s0) hf (fun x5 hf => ?_)))
        obtain ⟨g6, hf⟩ := am_g_of hf
        obtain ⟨g7, hf⟩ := am_g_of hf
        refine am_jn hf (fun J59 => ∀ (x8 : Int64), J59 x8 = some rE → X 59 [(0, .inr (.inr ((9, 0, 0), 0))), (3, .inr (.inl x5)), (5, .inr (.inl x8)), (7, .inl x3)] [] s0) ?_ ?_
        · intro x8 hf
          refine am_blk hX 34 1 (am_nl (Z := fun x9 => X 62 [(7, .inl x9), (0, .inr (.inr ((9, 0, 0), 0))), (3, .inr (.inl x5)), (5, .inr (.inl x8))] [] s0) hf (fun x9 hf => ?_))
          refine am_blk hX 35 1 (?_)
          show X 8 [(7, .inl x9), (0, .inr (.inr ((9, 0, 0), 0))), (3, .inr (.inl x5)), (5, .inr (.inl x8))] [] s0
          exact am_wk hX [1, 2, 3, 0] (ih8 x5 x8 x9 hf)
        · intro J59 hJ59 hf
          refine am_blk hX 17 11 (And.intro g6 (And.intro g7 (And.intro rfl (And.intro rfl (And.intro (fun hb => ?_) (fun hb => ?_))))))
          · have hf := am_it hf hb
            show X 59 [(3, .inr (.inl x5)), (0, .inr (.inr ((9, 0, 0), 0))), (5, .inr (.inl x2)), (7, .inl x3)] [] s0
            exact am_wk hX [1, 0, 2, 3] (hJ59 x2 hf)
          · have hf := am_if hf hb
            show X 50 [(3, .inr (.inl x5)), (0, .inr (.inr ((9, 0, 0), 0))), (5, .inr (.inl x2)), (7, .inl x3)] [] s0
            refine am_blk hX 28 6 (am_nl (Z := fun x10 => X 59 [(5, .inr (.inl x10)), (3, .inr (.inl x5)), (0, .inr (.inr ((9, 0, 0), 0))), (7, .inl x3)] [] s0) hf (fun x10 hf => ?_))
            exact am_wk hX [2, 1, 0, 3] (hJ59 x10 hf)
  refine am_blk hX 0 6 (?_)
  show X 8 [(7, .inl (0 : Int32)), (5, .inr (.inl (0 : Int64))), (3, .inr (.inl a1)), (0, .inr (.inr ((9, 0, 0), 0))), (1, .inr (.inl a1))] [] s0
  exact am_wk hX [3, 2, 1, 0] (hL8 am_fu a1 (0 : Int64) (0 : Int32) hf)
def fX8_drawn (s0 : AS) (a1 : Int32) (a2 : Int32) : Option (AS × Int32) :=
  am_r (fX8_isMarch s0) (fun (v1 : Int32) => am_let (some (s0, (-2 : Int32))) (fun J27 => if v1 = 0 then (J27) else (if a1 < 0 then (J27) else (if (2000000000 : Int32) < a1 then (J27) else (if a2 < 0 then (J27) else (if a2 ≤ (2 : Int32) then (am_c (fX8_tell s0) (fun (s3 : AS) (v2 : Unit) => am_r (fX8_rainFrom s3 a1.toInt64) (fun (v4 : Int64) => am_c (fX8_goInRain s3 v4 (60 : Int32)) (fun (s6 : AS) (v5 : Unit) => if a2 = (0 : Int32) then (some (s6, s6.1 198 6)) else (if a2 = (1 : Int32) then (some (s6, s6.1 198 9)) else (some (s6, s6.1 198 8))))))) else (J27)))))))
def kX8_drawn : List (Nat × Instr × Nat) := [(0, .aload_n 0, 1), (1, .invokevirtual 126, 3), (4, .ifCond .eq 23, 3), (7, .iload_n 1, 1), (8, .ifCond .lt 19, 3), (11, .iload_n 1, 1), (12, .ldc_w 418, 3), (15, .if_icmp .gt 12, 3), (18, .iload_n 2, 1), (19, .ifCond .lt 8, 3), (22, .iload_n 2, 1), (23, .iconst 2, 1), (24, .if_icmp .le 6, 3), (27, .bipush (-2), 2), (29, .ireturn, 1), (30, .aload_n 0, 1), (31, .invokevirtual 165, 3), (34, .aload_n 0, 1), (35, .aload_n 0, 1), (36, .iload_n 1, 1), (37, .i2l, 1), (38, .invokevirtual 419, 3), (41, .bipush 60, 2), (43, .invokevirtual 393, 3), (46, .iload_n 2, 1), (47, .lookupswitch 41 #[(0, 25), (1, 33)], 25), (72, .aload_n 0, 1), (73, .getfield 75, 3), (76, .getfield 234, 3), (79, .ireturn, 1), (80, .aload_n 0, 1), (81, .getfield 75, 3), (84, .getfield 423, 3), (87, .ireturn, 1), (88, .aload_n 0, 1), (89, .getfield 75, 3), (92, .getfield 272, 3), (95, .ireturn, 1)]
theorem qX8_drawn : ∀ q ∈ kX8_drawn, decode mX8_drawn.2.2.1 q.1 = .ok (q.2.1, q.2.2) ∧ am_iok mX8_drawn.2.2.2.1 q.1 q.2.1 q.2.2 = true := by decide +kernel
set_option maxRecDepth 100000 in
theorem wX8_drawn : Cond.code mX8_drawn.2.1 mX8_drawn.2.2.1 mX8_drawn.2.2.2.1 mX8_drawn.2.2.2.2.1 ∈ am_T := List.mem_filter.mpr ⟨List.mem_of_getElem? (i := 1191) rfl, rfl⟩
set_option maxHeartbeats 4000000 in
set_option maxRecDepth 100000 in
theorem tX8_drawn (l : Launch) (d : Nat) {s0 : AS} {a1 : Int32} {a2 : Int32} {sE : AS} {rE : Int32} (hf : fX8_drawn s0 a1 a2 = some (sE, rE)) : am_Ct l (d + 6) mX8_drawn [.inr (.inr ((9, 0, 0), 0)), .inl a1, .inl a2] s0 sE (some (.inl rE)) := by
  refine am_sim l (d + 5) (code := kX8_drawn) (by decide +kernel) wX8_drawn qX8_drawn (Nat.le_of_ble_eq_true rfl) ?_
  intro X hX
  show X 0 [(0, .inr (.inr ((9, 0, 0), 0))), (1, .inl a1), (2, .inl a2)] [] s0
  unfold fX8_drawn at hf
  obtain ⟨v1, hcv1, hf⟩ := am_r_of hf
  refine am_jn hf (fun J27 => J27 = some (sE, rE) → X 27 [] [] s0) ?_ ?_
  · intro hf
    refine am_blk hX 13 2 (am_ri hf)
  · intro J27 hJ27 hf
    refine am_blk hX 0 3 (And.intro rfl (And.intro rfl (Exists.intro s0 (Exists.intro (some (.inl v1)) (And.intro (tX8_isMarch l (d + 4) hcv1) (And.intro (fun hb => ?_) (fun hb => ?_)))))))
    · have hf := am_it hf hb
      show X 27 [(0, .inr (.inr ((9, 0, 0), 0))), (1, .inl a1), (2, .inl a2)] [] s0
      exact am_wk hX [] (hJ27 hf)
    · have hf := am_if hf hb
      show X 7 [(0, .inr (.inr ((9, 0, 0), 0))), (1, .inl a1), (2, .inl a2)] [] s0
      refine am_blk hX 3 2 (And.intro (fun hb => ?_) (fun hb => ?_))
      · have hf := am_it hf hb
        show X 27 [(0, .inr (.inr ((9, 0, 0), 0))), (1, .inl a1), (2, .inl a2)] [] s0
        exact am_wk hX [] (hJ27 hf)
      · have hf := am_if hf hb
        show X 11 [(0, .inr (.inr ((9, 0, 0), 0))), (1, .inl a1), (2, .inl a2)] [] s0
        refine am_blk hX 5 3 (And.intro (fun hb => ?_) (fun hb => ?_))
        · have hf := am_it hf hb
          show X 27 [(0, .inr (.inr ((9, 0, 0), 0))), (1, .inl a1), (2, .inl a2)] [] s0
          exact am_wk hX [] (hJ27 hf)
        · have hf := am_if hf hb
          show X 18 [(0, .inr (.inr ((9, 0, 0), 0))), (1, .inl a1), (2, .inl a2)] [] s0
          refine am_blk hX 8 2 (And.intro (fun hb => ?_) (fun hb => ?_))
          · have hf := am_it hf hb
            show X 27 [(0, .inr (.inr ((9, 0, 0), 0))), (1, .inl a1), (2, .inl a2)] [] s0
            exact am_wk hX [] (hJ27 hf)
          · have hf := am_if hf hb
            show X 22 [(0, .inr (.inr ((9, 0, 0), 0))), (1, .inl a1), (2, .inl a2)] [] s0
            refine am_blk hX 10 3 (And.intro (fun hb => ?_) (fun hb => ?_))
            · have hf := am_it hf hb
              show X 30 [(0, .inr (.inr ((9, 0, 0), 0))), (1, .inl a1), (2, .inl a2)] [] s0
              obtain ⟨s3, v2, hcv2, hf⟩ := am_c_of hf
              obtain ⟨v4, hcv4, hf⟩ := am_r_of hf
              obtain ⟨s6, v5, hcv5, hf⟩ := am_c_of hf
              refine am_blk hX 15 11 (And.intro rfl (And.intro rfl (Exists.intro s3 (Exists.intro none (And.intro (tX8_tell l (d + 0) hcv2) (And.intro rfl (And.intro rfl (Exists.intro s3 (Exists.intro (some (.inr (.inl v4))) (And.intro (tX8_rainFrom l (d + 4) hcv4) (And.intro rfl (And.intro rfl (Exists.intro s6 (Exists.intro none (And.intro (tX8_goInRain l (d + 0) hcv5) (And.intro (fun hb => ?_) (fun hq0 => And.intro (fun hb => ?_) (fun hq1 => ?_))))))))))))))))))
              · have hf := am_it hf hb
                show X 72 [(0, .inr (.inr ((9, 0, 0), 0))), (1, .inl a1), (2, .inl a2)] [] s6
                refine am_blk hX 26 4 (And.intro rfl (And.intro rfl (am_ri hf)))
              · have hf := am_it (am_if hf hq0) hb
                show X 80 [(0, .inr (.inr ((9, 0, 0), 0))), (1, .inl a1), (2, .inl a2)] [] s6
                refine am_blk hX 30 4 (And.intro rfl (And.intro rfl (am_ri hf)))
              · have hf := (am_if (am_if hf hq0) hq1)
                show X 88 [(0, .inr (.inr ((9, 0, 0), 0))), (1, .inl a1), (2, .inl a2)] [] s6
                refine am_blk hX 34 4 (And.intro rfl (And.intro rfl (am_ri hf)))
            · have hf := am_if hf hb
              show X 27 [(0, .inr (.inr ((9, 0, 0), 0))), (1, .inl a1), (2, .inl a2)] [] s0
              exact am_wk hX [] (hJ27 hf)
def fX8_eldest_L19 (a1 : Int32) (s3 : AS) : Nat → Int32 → Int32 → Option (AS × Int32)
  | 0, _, _ => none
  | n19 + 1, x4, x5 =>
    if (s3.1 25 6) ≤ x5 then (some (s3, x4)) else (am_r (fX8_isIn s3 x5 a1) (fun (v6 : Int32) => am_let (fun (x7 : Int32) => am_let (x5 + (1 : Int32)) (fun (x8 : Int32) => fX8_eldest_L19 a1 s3 n19 x7 x8)) (fun J67 => if v6 = 0 then (J67 x4) else (am_let (J67 x5) (fun J65 => if x4 = (-1 : Int32) then (J65) else (am_g (¬ (x5 < 0 ∨ 8 ≤ x5.toNatClampNeg)) (am_g (¬ (x4 < 0 ∨ 8 ≤ x4.toNatClampNeg)) (if (s3.1 169 x4.toNatClampNeg) ≤ (s3.1 169 x5.toNatClampNeg) then (J67 x4) else (J65)))))))))
def fX8_eldest (s0 : AS) (a1 : Int32) : Option (AS × Int32) :=
  am_r (fX8_isStep s0 a1) (fun (v1 : Int32) => if v1 = 0 then (some (s0, (-2 : Int32))) else (am_c (fX8_tell s0) (fun (s3 : AS) (v2 : Unit) => fX8_eldest_L19 a1 s3 am_fu (-1 : Int32) (0 : Int32))))
def kX8_eldest : List (Nat × Instr × Nat) := [(0, .aload_n 0, 1), (1, .iload_n 1, 1), (2, .invokevirtual 209, 3), (5, .ifCond .ne 6, 3), (8, .bipush (-2), 2), (10, .ireturn, 1), (11, .aload_n 0, 1), (12, .invokevirtual 165, 3), (15, .iconst (-1), 1), (16, .istore_n 2, 1), (17, .iconst 0, 1), (18, .istore_n 3, 1), (19, .iload_n 3, 1), (20, .aload_n 0, 1), (21, .getfield 29, 3), (24, .getfield 123, 3), (27, .if_icmp .ge 46, 3), (30, .aload_n 0, 1), (31, .iload_n 3, 1), (32, .iload_n 1, 1), (33, .invokevirtual 219, 3), (36, .ifCond .eq 31, 3), (39, .iload_n 2, 1), (40, .iconst (-1), 1), (41, .if_icmp .eq 24, 3), (44, .aload_n 0, 1), (45, .getfield 61, 3), (48, .getfield 263, 3), (51, .iload_n 3, 1), (52, .iaload, 1), (53, .aload_n 0, 1), (54, .getfield 61, 3), (57, .getfield 263, 3), (60, .iload_n 2, 1), (61, .iaload, 1), (62, .if_icmp .ge 5, 3), (65, .iload_n 3, 1), (66, .istore_n 2, 1), (67, .iinc 3 1, 3), (70, .goto (-51), 3), (73, .iload_n 2, 1), (74, .ireturn, 1)]
theorem qX8_eldest : ∀ q ∈ kX8_eldest, decode mX8_eldest.2.2.1 q.1 = .ok (q.2.1, q.2.2) ∧ am_iok mX8_eldest.2.2.2.1 q.1 q.2.1 q.2.2 = true := by decide +kernel
set_option maxRecDepth 100000 in
theorem wX8_eldest : Cond.code mX8_eldest.2.1 mX8_eldest.2.2.1 mX8_eldest.2.2.2.1 mX8_eldest.2.2.2.2.1 ∈ am_T := List.mem_filter.mpr ⟨List.mem_of_getElem? (i := 962) rfl, rfl⟩
set_option maxHeartbeats 4000000 in
set_option maxRecDepth 100000 in
theorem tX8_eldest (l : Launch) (d : Nat) {s0 : AS} {a1 : Int32} {sE : AS} {rE : Int32} (hf : fX8_eldest s0 a1 = some (sE, rE)) : am_Ct l (d + 6) mX8_eldest [.inr (.inr ((9, 0, 0), 0)), .inl a1] s0 sE (some (.inl rE)) := by
  refine am_sim l (d + 5) (code := kX8_eldest) (by decide +kernel) wX8_eldest qX8_eldest (Nat.le_of_ble_eq_true rfl) ?_
  intro X hX
  show X 0 [(0, .inr (.inr ((9, 0, 0), 0))), (1, .inl a1)] [] s0
  unfold fX8_eldest at hf
  obtain ⟨v1, hcv1, hf⟩ := am_r_of hf
  refine am_blk hX 0 4 (And.intro rfl (And.intro rfl (Exists.intro s0 (Exists.intro (some (.inl v1)) (And.intro (tX8_isStep l (d + 3) hcv1) (And.intro (fun hb => ?_) (fun hb => ?_)))))))
  · have hf := am_if hf hb
    show X 11 [(0, .inr (.inr ((9, 0, 0), 0))), (1, .inl a1)] [] s0
    obtain ⟨s3, v2, hcv2, hf⟩ := am_c_of hf
    have hL19 : ∀ (n19 : Nat) (x4 : Int32) (x5 : Int32), fX8_eldest_L19 a1 s3 n19 x4 x5 = some (sE, rE) → X 19 [(0, .inr (.inr ((9, 0, 0), 0))), (1, .inl a1), (2, .inl x4), (3, .inl x5)] [] s3 := by
      intro n19
      induction n19 with
      | zero => intro x4 x5 hf; exact am_no (show none = some _ from hf)
      | succ n19 ih19 =>
        intro x4 x5 hf
        refine am_blk hX 12 5 (And.intro rfl (And.intro rfl (And.intro (fun hb => ?_) (fun hb => ?_))))
        · have hf := am_it hf hb
          show X 73 [(0, .inr (.inr ((9, 0, 0), 0))), (1, .inl a1), (2, .inl x4), (3, .inl x5)] [] s3
          refine am_blk hX 40 2 (am_ri hf)
        · have hf := am_if hf hb
          show X 30 [(0, .inr (.inr ((9, 0, 0), 0))), (1, .inl a1), (2, .inl x4), (3, .inl x5)] [] s3
          obtain ⟨v6, hcv6, hf⟩ := am_r_of hf
          refine am_jn hf (fun J67 => ∀ (x7 : Int32), J67 x7 = some (sE, rE) → X 67 [(0, .inr (.inr ((9, 0, 0), 0))), (1, .inl a1), (2, .inl x7), (3, .inl x5)] [] s3) ?_ ?_
          · intro x7 hf
            refine am_blk hX 38 1 (am_nl (Z := fun x8 => X 70 [(3, .inl x8), (0, .inr (.inr ((9, 0, 0), 0))), (1, .inl a1), (2, .inl x7)] [] s3) hf (fun x8 hf => ?_))
            refine am_blk hX 39 1 (?_)
            show X 19 [(3, .inl x8), (0, .inr (.inr ((9, 0, 0), 0))), (1, .inl a1), (2, .inl x7)] [] s3
            exact am_wk hX [1, 2, 3, 0] (ih19 x7 x8 hf)
          · intro J67 hJ67 hf
            refine am_blk hX 17 5 (And.intro rfl (And.intro rfl (Exists.intro s3 (Exists.intro (some (.inl v6)) (And.intro (tX8_isIn l (d + 3) hcv6) (And.intro (fun hb => ?_) (fun hb => ?_)))))))
            · have hf := am_it hf hb
              show X 67 [(0, .inr (.inr ((9, 0, 0), 0))), (1, .inl a1), (2, .inl x4), (3, .inl x5)] [] s3
              exact am_wk hX [0, 1, 2, 3] (hJ67 x4 hf)
            · have hf := am_if hf hb
              show X 39 [(0, .inr (.inr ((9, 0, 0), 0))), (1, .inl a1), (2, .inl x4), (3, .inl x5)] [] s3
              refine am_jn hf (fun J65 => J65 = some (sE, rE) → X 65 [(0, .inr (.inr ((9, 0, 0), 0))), (1, .inl a1), (3, .inl x5)] [] s3) ?_ ?_
              · intro hf
                refine am_blk hX 36 2 (?_)
                show X 67 [(2, .inl x5), (0, .inr (.inr ((9, 0, 0), 0))), (1, .inl a1), (3, .inl x5)] [] s3
                exact am_wk hX [1, 2, 0, 3] (hJ67 x5 hf)
              · intro J65 hJ65 hf
                refine am_blk hX 22 3 (And.intro (fun hb => ?_) (fun hb => ?_))
                · have hf := am_it hf hb
                  show X 65 [(0, .inr (.inr ((9, 0, 0), 0))), (1, .inl a1), (2, .inl x4), (3, .inl x5)] [] s3
                  exact am_wk hX [0, 1, 3] (hJ65 hf)
                · have hf := am_if hf hb
                  show X 44 [(0, .inr (.inr ((9, 0, 0), 0))), (1, .inl a1), (2, .inl x4), (3, .inl x5)] [] s3
                  obtain ⟨g9, hf⟩ := am_g_of hf
                  obtain ⟨g10, hf⟩ := am_g_of hf
                  refine am_blk hX 25 11 (And.intro rfl (And.intro rfl (And.intro rfl (And.intro g9 (And.intro rfl (And.intro rfl (And.intro rfl (And.intro g10 (And.intro (fun hb => ?_) (fun hb => ?_))))))))))
                  · have hf := am_it hf hb
                    show X 67 [(0, .inr (.inr ((9, 0, 0), 0))), (1, .inl a1), (2, .inl x4), (3, .inl x5)] [] s3
                    exact am_wk hX [0, 1, 2, 3] (hJ67 x4 hf)
                  · have hf := am_if hf hb
                    show X 65 [(0, .inr (.inr ((9, 0, 0), 0))), (1, .inl a1), (2, .inl x4), (3, .inl x5)] [] s3
                    exact am_wk hX [0, 1, 3] (hJ65 hf)
    refine am_blk hX 6 6 (And.intro rfl (And.intro rfl (Exists.intro s3 (Exists.intro none (And.intro (tX8_tell l (d + 0) hcv2) (?_))))))
    show X 19 [(3, .inl (0 : Int32)), (2, .inl (-1 : Int32)), (0, .inr (.inr ((9, 0, 0), 0))), (1, .inl a1)] [] s3
    exact am_wk hX [2, 3, 1, 0] (hL19 am_fu (-1 : Int32) (0 : Int32) hf)
  · have hf := am_it hf hb
    show X 8 [(0, .inr (.inr ((9, 0, 0), 0))), (1, .inl a1)] [] s0
    refine am_blk hX 4 2 (am_ri hf)
def fX8_end (s0 : AS) (a1 : Int32) : Option (AS × Int32) :=
  am_let (some (s0, (-1 : Int32))) (fun J12 => if a1 < 0 then (J12) else (if a1 ≤ (s0.1 0 1) then (am_let (am_si s0 0 1 a1) (fun (s1 : AS) => some (s1, a1))) else (J12)))
def kX8_end : List (Nat × Instr × Nat) := [(0, .iload_n 1, 1), (1, .ifCond .lt 11, 3), (4, .iload_n 1, 1), (5, .aload_n 0, 1), (6, .getfield 85, 3), (9, .if_icmp .le 5, 3), (12, .iconst (-1), 1), (13, .ireturn, 1), (14, .aload_n 0, 1), (15, .iload_n 1, 1), (16, .putfield 85, 3), (19, .iload_n 1, 1), (20, .ireturn, 1)]
theorem qX8_end : ∀ q ∈ kX8_end, decode mX8_end.2.2.1 q.1 = .ok (q.2.1, q.2.2) ∧ am_iok mX8_end.2.2.2.1 q.1 q.2.1 q.2.2 = true := by decide +kernel
set_option maxRecDepth 100000 in
theorem wX8_end : Cond.code mX8_end.2.1 mX8_end.2.2.1 mX8_end.2.2.2.1 mX8_end.2.2.2.2.1 ∈ am_T := List.mem_filter.mpr ⟨List.mem_of_getElem? (i := 519) rfl, rfl⟩
set_option maxHeartbeats 4000000 in
set_option maxRecDepth 100000 in
theorem tX8_end (l : Launch) (d : Nat) {s0 : AS} {a1 : Int32} {sE : AS} {rE : Int32} (hf : fX8_end s0 a1 = some (sE, rE)) : am_Ct l (d + 1) mX8_end [.inr (.inr ((9, 0, 0), 0)), .inl a1] s0 sE (some (.inl rE)) := by
  refine am_sim l (d + 0) (code := kX8_end) (by decide +kernel) wX8_end qX8_end (Nat.le_of_ble_eq_true rfl) ?_
  intro X hX
  show X 0 [(0, .inr (.inr ((9, 0, 0), 0))), (1, .inl a1)] [] s0
  unfold fX8_end at hf
  refine am_jn hf (fun J12 => J12 = some (sE, rE) → X 12 [] [] s0) ?_ ?_
  · intro hf
    refine am_blk hX 6 2 (am_ri hf)
  · intro J12 hJ12 hf
    refine am_blk hX 0 2 (And.intro (fun hb => ?_) (fun hb => ?_))
    · have hf := am_it hf hb
      show X 12 [(0, .inr (.inr ((9, 0, 0), 0))), (1, .inl a1)] [] s0
      exact am_wk hX [] (hJ12 hf)
    · have hf := am_if hf hb
      show X 4 [(0, .inr (.inr ((9, 0, 0), 0))), (1, .inl a1)] [] s0
      refine am_blk hX 2 4 (And.intro rfl (And.intro (fun hb => ?_) (fun hb => ?_)))
      · have hf := am_it hf hb
        show X 14 [(0, .inr (.inr ((9, 0, 0), 0))), (1, .inl a1)] [] s0
        refine am_blk hX 8 3 (And.intro rfl (am_nl (Z := fun s1 => X 19 [(0, .inr (.inr ((9, 0, 0), 0))), (1, .inl a1)] [] s1) hf (fun s1 hf => ?_)))
        refine am_blk hX 11 2 (am_ri hf)
      · have hf := am_if hf hb
        show X 12 [(0, .inr (.inr ((9, 0, 0), 0))), (1, .inl a1)] [] s0
        exact am_wk hX [] (hJ12 hf)
def fX8_overAnswered (s0 : AS) (a1 : Int32) : Option (AS × Int32) :=
  am_c (fX8_asItIs s0) (fun (s2 : AS) (v1 : Unit) => am_let (am_si s2 172 2 a1) (fun (s3 : AS) => am_c (fX6_go s3 198 25 172) (fun (s5 : AS) (v4 : Unit) => some (s5, s5.1 198 6))))
def kX8_overAnswered : List (Nat × Instr × Nat) := [(0, .aload_n 0, 1), (1, .invokevirtual 195, 3), (4, .aload_n 0, 1), (5, .getfield 68, 3), (8, .iload_n 1, 1), (9, .putfield 284, 3), (12, .aload_n 0, 1), (13, .getfield 75, 3), (16, .aload_n 0, 1), (17, .getfield 29, 3), (20, .aload_n 0, 1), (21, .getfield 68, 3), (24, .invokevirtual 198, 3), (27, .aload_n 0, 1), (28, .getfield 75, 3), (31, .getfield 234, 3), (34, .ireturn, 1)]
theorem qX8_overAnswered : ∀ q ∈ kX8_overAnswered, decode mX8_overAnswered.2.2.1 q.1 = .ok (q.2.1, q.2.2) ∧ am_iok mX8_overAnswered.2.2.2.1 q.1 q.2.1 q.2.2 = true := by decide +kernel
set_option maxRecDepth 100000 in
theorem wX8_overAnswered : Cond.code mX8_overAnswered.2.1 mX8_overAnswered.2.2.1 mX8_overAnswered.2.2.2.1 mX8_overAnswered.2.2.2.2.1 ∈ am_T := List.mem_filter.mpr ⟨List.mem_of_getElem? (i := 1040) rfl, rfl⟩
set_option maxHeartbeats 4000000 in
set_option maxRecDepth 100000 in
theorem tX8_overAnswered (l : Launch) (d : Nat) {s0 : AS} {a1 : Int32} {sE : AS} {rE : Int32} (hf : fX8_overAnswered s0 a1 = some (sE, rE)) : am_Ct l (d + 5) mX8_overAnswered [.inr (.inr ((9, 0, 0), 0)), .inl a1] s0 sE (some (.inl rE)) := by
  refine am_sim l (d + 4) (code := kX8_overAnswered) (by decide +kernel) wX8_overAnswered qX8_overAnswered (Nat.le_of_ble_eq_true rfl) ?_
  intro X hX
  show X 0 [(0, .inr (.inr ((9, 0, 0), 0))), (1, .inl a1)] [] s0
  unfold fX8_overAnswered at hf
  obtain ⟨s2, v1, hcv1, hf⟩ := am_c_of hf
  refine am_blk hX 0 6 (And.intro rfl (And.intro rfl (Exists.intro s2 (Exists.intro none (And.intro (tX8_asItIs l (d + 2) hcv1) (And.intro rfl (And.intro rfl (am_nl (Z := fun s3 => X 12 [(0, .inr (.inr ((9, 0, 0), 0))), (1, .inl a1)] [] s3) hf (fun s3 hf => ?_)))))))))
  obtain ⟨s5, v4, hcv4, hf⟩ := am_c_of hf
  refine am_blk hX 6 11 (And.intro rfl (And.intro rfl (And.intro rfl (And.intro rfl (And.intro rfl (Exists.intro s5 (Exists.intro none (And.intro (tX6_go l (d + 0) hcv4) (And.intro rfl (And.intro rfl (am_ri hf)))))))))))
def fX8_endingSet_L11 : Nat → AS → Int32 → Int32 → Int32 → Option (AS × Int32)
  | 0, _, _, _, _ => none
  | n11 + 1, s3, x4, x5, x6 =>
    if (64 : Int32) ≤ x6 then (some (s3, x4)) else (am_c (fX8_overAnswered s3 x6) (fun (s8 : AS) (v7 : Int32) => am_let (fun (x9 : Int32) => am_let (fun (x10 : Int32) (x11 : Int32) => am_let (x6 + (1 : Int32)) (fun (x12 : Int32) => fX8_endingSet_L11 n11 s8 x10 x11 x12)) (fun J83 => if v7 = (-1 : Int32) then (J83 x4 x5) else (am_let (J83 x6 v7) (fun J78 => if v7 < x5 then (J78) else (if v7 = x5 then (if x9 = 0 then (J83 x4 x5) else (J78)) else (J83 x4 x5)))))) (fun J53 => am_let (J53 (0 : Int32)) (fun J52 => if x4 = (-1 : Int32) then (J52) else (am_r (fX3_costOf s8 25 x6) (fun (v13 : Int32) => am_r (fX3_costOf s8 25 x4) (fun (v14 : Int32) => if v14 ≤ v13 then (J52) else (J53 (1 : Int32)))))))))
def fX8_endingSet (s0 : AS) : Option (AS × Int32) :=
  am_c (fX8_tell s0) (fun (s2 : AS) (v1 : Unit) => fX8_endingSet_L11 am_fu s2 (-1 : Int32) (61 : Int32) (0 : Int32))
def kX8_endingSet : List (Nat × Instr × Nat) := [(0, .aload_n 0, 1), (1, .invokevirtual 165, 3), (4, .iconst (-1), 1), (5, .istore_n 1, 1), (6, .bipush 61, 2), (8, .istore_n 2, 1), (9, .iconst 0, 1), (10, .istore_n 3, 1), (11, .iload_n 3, 1), (12, .bipush 64, 2), (14, .if_icmp .ge 75, 3), (17, .aload_n 0, 1), (18, .iload_n 3, 1), (19, .invokevirtual 300, 3), (22, .istore 4, 2), (24, .iload_n 1, 1), (25, .iconst (-1), 1), (26, .if_icmp .eq 26, 3), (29, .aload_n 0, 1), (30, .getfield 29, 3), (33, .iload_n 3, 1), (34, .invokevirtual 291, 3), (37, .aload_n 0, 1), (38, .getfield 29, 3), (41, .iload_n 1, 1), (42, .invokevirtual 291, 3), (45, .if_icmp .ge 7, 3), (48, .iconst 1, 1), (49, .goto 4, 3), (52, .iconst 0, 1), (53, .istore 5, 2), (55, .iload 4, 2), (57, .iconst (-1), 1), (58, .if_icmp .eq 25, 3), (61, .iload 4, 2), (63, .iload_n 2, 1), (64, .if_icmp .lt 14, 3), (67, .iload 4, 2), (69, .iload_n 2, 1), (70, .if_icmp .ne 13, 3), (73, .iload 5, 2), (75, .ifCond .eq 8, 3), (78, .iload 4, 2), (80, .istore_n 2, 1), (81, .iload_n 3, 1), (82, .istore_n 1, 1), (83, .iinc 3 1, 3), (86, .goto (-75), 3), (89, .iload_n 1, 1), (90, .ireturn, 1)]
theorem qX8_endingSet : ∀ q ∈ kX8_endingSet, decode mX8_endingSet.2.2.1 q.1 = .ok (q.2.1, q.2.2) ∧ am_iok mX8_endingSet.2.2.2.1 q.1 q.2.1 q.2.2 = true := by decide +kernel
set_option maxRecDepth 100000 in
theorem wX8_endingSet : Cond.code mX8_endingSet.2.1 mX8_endingSet.2.2.1 mX8_endingSet.2.2.2.1 mX8_endingSet.2.2.2.2.1 ∈ am_T := List.mem_filter.mpr ⟨List.mem_of_getElem? (i := 1036) rfl, rfl⟩
set_option maxHeartbeats 4000000 in
set_option maxRecDepth 100000 in
theorem tX8_endingSet (l : Launch) (d : Nat) {s0 : AS} {sE : AS} {rE : Int32} (hf : fX8_endingSet s0 = some (sE, rE)) : am_Ct l (d + 6) mX8_endingSet [.inr (.inr ((9, 0, 0), 0))] s0 sE (some (.inl rE)) := by
  refine am_sim l (d + 5) (code := kX8_endingSet) (by decide +kernel) wX8_endingSet qX8_endingSet (Nat.le_of_ble_eq_true rfl) ?_
  intro X hX
  show X 0 [(0, .inr (.inr ((9, 0, 0), 0)))] [] s0
  unfold fX8_endingSet at hf
  obtain ⟨s2, v1, hcv1, hf⟩ := am_c_of hf
  have hL11 : ∀ (n11 : Nat) (s3 : AS) (x4 : Int32) (x5 : Int32) (x6 : Int32), fX8_endingSet_L11 n11 s3 x4 x5 x6 = some (sE, rE) → X 11 [(0, .inr (.inr ((9, 0, 0), 0))), (1, .inl x4), (2, .inl x5), (3, .inl x6)] [] s3 := by
    intro n11
    induction n11 with
    | zero => intro s3 x4 x5 x6 hf; exact am_no (show none = some _ from hf)
    | succ n11 ih11 =>
      intro s3 x4 x5 x6 hf
      refine am_blk hX 8 3 (And.intro (fun hb => ?_) (fun hb => ?_))
      · have hf := am_it hf hb
        show X 89 [(0, .inr (.inr ((9, 0, 0), 0))), (1, .inl x4), (2, .inl x5), (3, .inl x6)] [] s3
        refine am_blk hX 48 2 (am_ri hf)
      · have hf := am_if hf hb
        show X 17 [(0, .inr (.inr ((9, 0, 0), 0))), (1, .inl x4), (2, .inl x5), (3, .inl x6)] [] s3
        obtain ⟨s8, v7, hcv7, hf⟩ := am_c_of hf
        refine am_jn hf (fun J53 => ∀ (x9 : Int32), J53 x9 = some (sE, rE) → X 53 [(0, .inr (.inr ((9, 0, 0), 0))), (1, .inl x4), (2, .inl x5), (3, .inl x6), (4, .inl v7)] [.inl x9] s8) ?_ ?_
        · intro x9 hf
          refine am_jn hf (fun J83 => ∀ (x10 : Int32) (x11 : Int32), J83 x10 x11 = some (sE, rE) → X 83 [(0, .inr (.inr ((9, 0, 0), 0))), (1, .inl x10), (2, .inl x11), (3, .inl x6)] [] s8) ?_ ?_
          · intro x10 x11 hf
            refine am_blk hX 46 1 (am_nl (Z := fun x12 => X 86 [(3, .inl x12), (0, .inr (.inr ((9, 0, 0), 0))), (1, .inl x10), (2, .inl x11)] [] s8) hf (fun x12 hf => ?_))
            refine am_blk hX 47 1 (?_)
            show X 11 [(3, .inl x12), (0, .inr (.inr ((9, 0, 0), 0))), (1, .inl x10), (2, .inl x11)] [] s8
            exact am_wk hX [1, 2, 3, 0] (ih11 s8 x10 x11 x12 hf)
          · intro J83 hJ83 hf
            refine am_blk hX 30 4 (And.intro (fun hb => ?_) (fun hb => ?_))
            · have hf := am_it hf hb
              show X 83 [(5, .inl x9), (0, .inr (.inr ((9, 0, 0), 0))), (1, .inl x4), (2, .inl x5), (3, .inl x6), (4, .inl v7)] [] s8
              exact am_wk hX [1, 2, 3, 4] (hJ83 x4 x5 hf)
            · have hf := am_if hf hb
              show X 61 [(5, .inl x9), (0, .inr (.inr ((9, 0, 0), 0))), (1, .inl x4), (2, .inl x5), (3, .inl x6), (4, .inl v7)] [] s8
              refine am_jn hf (fun J78 => J78 = some (sE, rE) → X 78 [(0, .inr (.inr ((9, 0, 0), 0))), (3, .inl x6), (4, .inl v7)] [] s8) ?_ ?_
              · intro hf
                refine am_blk hX 42 4 (?_)
                show X 83 [(1, .inl x6), (2, .inl v7), (0, .inr (.inr ((9, 0, 0), 0))), (3, .inl x6), (4, .inl v7)] [] s8
                exact am_wk hX [2, 0, 1, 3] (hJ83 x6 v7 hf)
              · intro J78 hJ78 hf
                refine am_blk hX 34 3 (And.intro (fun hb => ?_) (fun hb => ?_))
                · have hf := am_it hf hb
                  show X 78 [(5, .inl x9), (0, .inr (.inr ((9, 0, 0), 0))), (1, .inl x4), (2, .inl x5), (3, .inl x6), (4, .inl v7)] [] s8
                  exact am_wk hX [1, 4, 5] (hJ78 hf)
                · have hf := am_if hf hb
                  show X 67 [(5, .inl x9), (0, .inr (.inr ((9, 0, 0), 0))), (1, .inl x4), (2, .inl x5), (3, .inl x6), (4, .inl v7)] [] s8
                  refine am_blk hX 37 3 (And.intro (fun hb => ?_) (fun hb => ?_))
                  · have hf := am_if hf hb
                    show X 83 [(5, .inl x9), (0, .inr (.inr ((9, 0, 0), 0))), (1, .inl x4), (2, .inl x5), (3, .inl x6), (4, .inl v7)] [] s8
                    exact am_wk hX [1, 2, 3, 4] (hJ83 x4 x5 hf)
                  · have hf := am_it hf hb
                    show X 73 [(5, .inl x9), (0, .inr (.inr ((9, 0, 0), 0))), (1, .inl x4), (2, .inl x5), (3, .inl x6), (4, .inl v7)] [] s8
                    refine am_blk hX 40 2 (And.intro (fun hb => ?_) (fun hb => ?_))
                    · have hf := am_it hf hb
                      show X 83 [(5, .inl x9), (0, .inr (.inr ((9, 0, 0), 0))), (1, .inl x4), (2, .inl x5), (3, .inl x6), (4, .inl v7)] [] s8
                      exact am_wk hX [1, 2, 3, 4] (hJ83 x4 x5 hf)
                    · have hf := am_if hf hb
                      show X 78 [(5, .inl x9), (0, .inr (.inr ((9, 0, 0), 0))), (1, .inl x4), (2, .inl x5), (3, .inl x6), (4, .inl v7)] [] s8
                      exact am_wk hX [1, 4, 5] (hJ78 hf)
        · intro J53 hJ53 hf
          refine am_jn hf (fun J52 => J52 = some (sE, rE) → X 52 [(0, .inr (.inr ((9, 0, 0), 0))), (1, .inl x4), (2, .inl x5), (3, .inl x6), (4, .inl v7)] [] s8) ?_ ?_
          · intro hf
            refine am_blk hX 29 1 (?_)
            show X 53 [(0, .inr (.inr ((9, 0, 0), 0))), (1, .inl x4), (2, .inl x5), (3, .inl x6), (4, .inl v7)] [.inl (0 : Int32)] s8
            exact am_wk hX [0, 1, 2, 3, 4] (hJ53 (0 : Int32) hf)
          · intro J52 hJ52 hf
            refine am_blk hX 11 7 (And.intro rfl (And.intro rfl (Exists.intro s8 (Exists.intro (some (.inl v7)) (And.intro (tX8_overAnswered l (d + 0) hcv7) (And.intro (fun hb => ?_) (fun hb => ?_)))))))
            · have hf := am_it hf hb
              show X 52 [(4, .inl v7), (0, .inr (.inr ((9, 0, 0), 0))), (1, .inl x4), (2, .inl x5), (3, .inl x6)] [] s8
              exact am_wk hX [1, 2, 3, 4, 0] (hJ52 hf)
            · have hf := am_if hf hb
              show X 29 [(4, .inl v7), (0, .inr (.inr ((9, 0, 0), 0))), (1, .inl x4), (2, .inl x5), (3, .inl x6)] [] s8
              obtain ⟨v13, hcv13, hf⟩ := am_r_of hf
              obtain ⟨v14, hcv14, hf⟩ := am_r_of hf
              refine am_blk hX 18 9 (And.intro rfl (And.intro rfl (And.intro rfl (Exists.intro s8 (Exists.intro (some (.inl v13)) (And.intro (tX3_costOf l (d + 3) hcv13) (And.intro rfl (And.intro rfl (And.intro rfl (Exists.intro s8 (Exists.intro (some (.inl v14)) (And.intro (tX3_costOf l (d + 3) hcv14) (And.intro (fun hb => ?_) (fun hb => ?_))))))))))))))
              · have hf := am_it hf hb
                show X 52 [(4, .inl v7), (0, .inr (.inr ((9, 0, 0), 0))), (1, .inl x4), (2, .inl x5), (3, .inl x6)] [] s8
                exact am_wk hX [1, 2, 3, 4, 0] (hJ52 hf)
              · have hf := am_if hf hb
                show X 48 [(4, .inl v7), (0, .inr (.inr ((9, 0, 0), 0))), (1, .inl x4), (2, .inl x5), (3, .inl x6)] [] s8
                refine am_blk hX 27 2 (?_)
                show X 53 [(4, .inl v7), (0, .inr (.inr ((9, 0, 0), 0))), (1, .inl x4), (2, .inl x5), (3, .inl x6)] [.inl (1 : Int32)] s8
                exact am_wk hX [1, 2, 3, 4, 0] (hJ53 (1 : Int32) hf)
  refine am_blk hX 0 8 (And.intro rfl (And.intro rfl (Exists.intro s2 (Exists.intro none (And.intro (tX8_tell l (d + 0) hcv1) (?_))))))
  show X 11 [(3, .inl (0 : Int32)), (2, .inl (61 : Int32)), (1, .inl (-1 : Int32)), (0, .inr (.inr ((9, 0, 0), 0)))] [] s2
  exact am_wk hX [3, 2, 1, 0] (hL11 am_fu s2 (-1 : Int32) (61 : Int32) (0 : Int32) hf)
def fX8_ends (s0 : AS) : Option (AS × Int32) :=
  am_r (fX8_isMarch s0) (fun (v1 : Int32) => am_let (fun (s2 : AS) (x3 : Int32) => some (s2, x3)) (fun J16 => if v1 = 0 then (J16 s0 (-2 : Int32)) else (am_c (fX8_endingSet s0) (fun (s5 : AS) (v4 : Int32) => J16 s5 v4))))
def kX8_ends : List (Nat × Instr × Nat) := [(0, .aload_n 0, 1), (1, .invokevirtual 126, 3), (4, .ifCond .eq 10, 3), (7, .aload_n 0, 1), (8, .invokevirtual 297, 3), (11, .goto 5, 3), (14, .bipush (-2), 2), (16, .ireturn, 1)]
theorem qX8_ends : ∀ q ∈ kX8_ends, decode mX8_ends.2.2.1 q.1 = .ok (q.2.1, q.2.2) ∧ am_iok mX8_ends.2.2.2.1 q.1 q.2.1 q.2.2 = true := by decide +kernel
set_option maxRecDepth 100000 in
theorem wX8_ends : Cond.code mX8_ends.2.1 mX8_ends.2.2.1 mX8_ends.2.2.2.1 mX8_ends.2.2.2.2.1 ∈ am_T := List.mem_filter.mpr ⟨List.mem_of_getElem? (i := 1044) rfl, rfl⟩
set_option maxHeartbeats 4000000 in
set_option maxRecDepth 100000 in
theorem tX8_ends (l : Launch) (d : Nat) {s0 : AS} {sE : AS} {rE : Int32} (hf : fX8_ends s0 = some (sE, rE)) : am_Ct l (d + 7) mX8_ends [.inr (.inr ((9, 0, 0), 0))] s0 sE (some (.inl rE)) := by
  refine am_sim l (d + 6) (code := kX8_ends) (by decide +kernel) wX8_ends qX8_ends (Nat.le_of_ble_eq_true rfl) ?_
  intro X hX
  show X 0 [(0, .inr (.inr ((9, 0, 0), 0)))] [] s0
  unfold fX8_ends at hf
  obtain ⟨v1, hcv1, hf⟩ := am_r_of hf
  refine am_jn hf (fun J16 => ∀ (s2 : AS) (x3 : Int32), J16 s2 x3 = some (sE, rE) → X 16 [] [.inl x3] s2) ?_ ?_
  · intro s2 x3 hf
    refine am_blk hX 7 1 (am_ri hf)
  · intro J16 hJ16 hf
    refine am_blk hX 0 3 (And.intro rfl (And.intro rfl (Exists.intro s0 (Exists.intro (some (.inl v1)) (And.intro (tX8_isMarch l (d + 5) hcv1) (And.intro (fun hb => ?_) (fun hb => ?_)))))))
    · have hf := am_it hf hb
      show X 14 [(0, .inr (.inr ((9, 0, 0), 0)))] [] s0
      refine am_blk hX 6 1 (?_)
      show X 16 [(0, .inr (.inr ((9, 0, 0), 0)))] [.inl (-2 : Int32)] s0
      exact am_wk hX [] (hJ16 s0 (-2 : Int32) hf)
    · have hf := am_if hf hb
      show X 7 [(0, .inr (.inr ((9, 0, 0), 0)))] [] s0
      obtain ⟨s5, v4, hcv4, hf⟩ := am_c_of hf
      refine am_blk hX 3 3 (And.intro rfl (And.intro rfl (Exists.intro s5 (Exists.intro (some (.inl v4)) (And.intro (tX8_endingSet l (d + 0) hcv4) (?_))))))
      show X 16 [(0, .inr (.inr ((9, 0, 0), 0)))] [.inl v4] s5
      exact am_wk hX [] (hJ16 s5 v4 hf)
def fX8_fallsInWithout (s0 : AS) (a1 : Int32) (a2 : Int32) : Option (AS × Int32) :=
  am_c (fX8_asItIs s0) (fun (s2 : AS) (v1 : Unit) => am_let (am_si s2 172 3 ((1 : Int32) <<< (a2 &&& 31))) (fun (s3 : AS) => am_c (fX6_go s3 198 25 172) (fun (s5 : AS) (v4 : Unit) => am_g (¬ (a1 < 0 ∨ 8 ≤ a1.toNatClampNeg)) (am_let (fun (x7 : Int32) => am_g (x7 = 0 ∨ x7 = 1) (some (s5, x7))) (fun J47 => if (s5.1 202 a1.toNatClampNeg) = (-1 : Int32) then (J47 (0 : Int32)) else (J47 (1 : Int32)))))))
def kX8_fallsInWithout : List (Nat × Instr × Nat) := [(0, .aload_n 0, 1), (1, .invokevirtual 195, 3), (4, .aload_n 0, 1), (5, .getfield 68, 3), (8, .iconst 1, 1), (9, .iload_n 2, 1), (10, .ishl, 1), (11, .putfield 278, 3), (14, .aload_n 0, 1), (15, .getfield 75, 3), (18, .aload_n 0, 1), (19, .getfield 29, 3), (22, .aload_n 0, 1), (23, .getfield 68, 3), (26, .invokevirtual 198, 3), (29, .aload_n 0, 1), (30, .getfield 75, 3), (33, .getfield 228, 3), (36, .iload_n 1, 1), (37, .iaload, 1), (38, .iconst (-1), 1), (39, .if_icmp .eq 7, 3), (42, .iconst 1, 1), (43, .goto 4, 3), (46, .iconst 0, 1), (47, .ireturn, 1)]
theorem qX8_fallsInWithout : ∀ q ∈ kX8_fallsInWithout, decode mX8_fallsInWithout.2.2.1 q.1 = .ok (q.2.1, q.2.2) ∧ am_iok mX8_fallsInWithout.2.2.2.1 q.1 q.2.1 q.2.2 = true := by decide +kernel
set_option maxRecDepth 100000 in
theorem wX8_fallsInWithout : Cond.code mX8_fallsInWithout.2.1 mX8_fallsInWithout.2.2.1 mX8_fallsInWithout.2.2.2.1 mX8_fallsInWithout.2.2.2.2.1 ∈ am_T := List.mem_filter.mpr ⟨List.mem_of_getElem? (i := 999) rfl, rfl⟩
set_option maxHeartbeats 4000000 in
set_option maxRecDepth 100000 in
theorem tX8_fallsInWithout (l : Launch) (d : Nat) {s0 : AS} {a1 : Int32} {a2 : Int32} {sE : AS} {rE : Int32} (hf : fX8_fallsInWithout s0 a1 a2 = some (sE, rE)) : am_Ct l (d + 5) mX8_fallsInWithout [.inr (.inr ((9, 0, 0), 0)), .inl a1, .inl a2] s0 sE (some (.inl rE)) := by
  refine am_sim l (d + 4) (code := kX8_fallsInWithout) (by decide +kernel) wX8_fallsInWithout qX8_fallsInWithout (Nat.le_of_ble_eq_true rfl) ?_
  intro X hX
  show X 0 [(0, .inr (.inr ((9, 0, 0), 0))), (1, .inl a1), (2, .inl a2)] [] s0
  unfold fX8_fallsInWithout at hf
  obtain ⟨s2, v1, hcv1, hf⟩ := am_c_of hf
  refine am_blk hX 0 8 (And.intro rfl (And.intro rfl (Exists.intro s2 (Exists.intro none (And.intro (tX8_asItIs l (d + 2) hcv1) (And.intro rfl (And.intro rfl (am_nl (Z := fun s3 => X 14 [(0, .inr (.inr ((9, 0, 0), 0))), (1, .inl a1), (2, .inl a2)] [] s3) hf (fun s3 hf => ?_)))))))))
  obtain ⟨s5, v4, hcv4, hf⟩ := am_c_of hf
  obtain ⟨g6, hf⟩ := am_g_of hf
  refine am_jn hf (fun J47 => ∀ (x7 : Int32), J47 x7 = some (sE, rE) → X 47 [] [.inl x7] s5) ?_ ?_
  · intro x7 hf
    obtain ⟨g8, hf⟩ := am_g_of hf
    refine am_blk hX 25 1 (And.intro g8 (am_ri hf))
  · intro J47 hJ47 hf
    refine am_blk hX 8 14 (And.intro rfl (And.intro rfl (And.intro rfl (And.intro rfl (And.intro rfl (Exists.intro s5 (Exists.intro none (And.intro (tX6_go l (d + 0) hcv4) (And.intro rfl (And.intro rfl (And.intro rfl (And.intro g6 (And.intro (fun hb => ?_) (fun hb => ?_))))))))))))))
    · have hf := am_it hf hb
      show X 46 [(0, .inr (.inr ((9, 0, 0), 0))), (1, .inl a1), (2, .inl a2)] [] s5
      refine am_blk hX 24 1 (?_)
      show X 47 [(0, .inr (.inr ((9, 0, 0), 0))), (1, .inl a1), (2, .inl a2)] [.inl (0 : Int32)] s5
      exact am_wk hX [] (hJ47 (0 : Int32) hf)
    · have hf := am_if hf hb
      show X 42 [(0, .inr (.inr ((9, 0, 0), 0))), (1, .inl a1), (2, .inl a2)] [] s5
      refine am_blk hX 22 2 (?_)
      show X 47 [(0, .inr (.inr ((9, 0, 0), 0))), (1, .inl a1), (2, .inl a2)] [.inl (1 : Int32)] s5
      exact am_wk hX [] (hJ47 (1 : Int32) hf)
def fX8_farthest_L20 (s3 : AS) : Nat → Int32 → Int32 → Int32 → Option (AS × Int32)
  | 0, _, _, _ => none
  | n20 + 1, x4, x5, x6 =>
    if (s3.1 25 1) ≤ x6 then (some (s3, x4)) else (am_r (fX7_lengthOf s3 138 (s3.1 25 2) x6) (fun (v7 : Int32) => am_r (fX8_holds (s3.1 163 8) x6) (fun (v8 : Int32) => am_let (fun (x9 : Int32) (x10 : Int32) => am_let (x6 + (1 : Int32)) (fun (x11 : Int32) => fX8_farthest_L20 s3 n20 x9 x10 x11)) (fun J73 => if v8 = 0 then (J73 x4 x5) else (if v7 ≤ x5 then (J73 x4 x5) else (J73 x6 v7))))))
def fX8_farthest (s0 : AS) : Option (AS × Int32) :=
  am_r (fX8_isMarch s0) (fun (v1 : Int32) => if v1 = 0 then (some (s0, (-2 : Int32))) else (am_c (fX8_tell s0) (fun (s3 : AS) (v2 : Unit) => fX8_farthest_L20 s3 am_fu (-1 : Int32) (-1 : Int32) (0 : Int32))))
def kX8_farthest : List (Nat × Instr × Nat) := [(0, .aload_n 0, 1), (1, .invokevirtual 126, 3), (4, .ifCond .ne 6, 3), (7, .bipush (-2), 2), (9, .ireturn, 1), (10, .aload_n 0, 1), (11, .invokevirtual 165, 3), (14, .iconst (-1), 1), (15, .istore_n 1, 1), (16, .iconst (-1), 1), (17, .istore_n 2, 1), (18, .iconst 0, 1), (19, .istore_n 3, 1), (20, .iload_n 3, 1), (21, .aload_n 0, 1), (22, .getfield 29, 3), (25, .getfield 117, 3), (28, .if_icmp .ge 51, 3), (31, .aload_n 0, 1), (32, .getfield 54, 3), (35, .aload_n 0, 1), (36, .getfield 29, 3), (39, .getfield 143, 3), (42, .iload_n 3, 1), (43, .invokevirtual 168, 3), (46, .istore 4, 2), (48, .aload_n 0, 1), (49, .getfield 61, 3), (52, .getfield 272, 3), (55, .iload_n 3, 1), (56, .invokestatic 175, 3), (59, .ifCond .eq 14, 3), (62, .iload 4, 2), (64, .iload_n 2, 1), (65, .if_icmp .le 8, 3), (68, .iload 4, 2), (70, .istore_n 2, 1), (71, .iload_n 3, 1), (72, .istore_n 1, 1), (73, .iinc 3 1, 3), (76, .goto (-56), 3), (79, .iload_n 1, 1), (80, .ireturn, 1)]
theorem qX8_farthest : ∀ q ∈ kX8_farthest, decode mX8_farthest.2.2.1 q.1 = .ok (q.2.1, q.2.2) ∧ am_iok mX8_farthest.2.2.2.1 q.1 q.2.1 q.2.2 = true := by decide +kernel
set_option maxRecDepth 100000 in
theorem wX8_farthest : Cond.code mX8_farthest.2.1 mX8_farthest.2.2.1 mX8_farthest.2.2.2.1 mX8_farthest.2.2.2.2.1 ∈ am_T := List.mem_filter.mpr ⟨List.mem_of_getElem? (i := 983) rfl, rfl⟩
set_option maxHeartbeats 4000000 in
set_option maxRecDepth 100000 in
theorem tX8_farthest (l : Launch) (d : Nat) {s0 : AS} {sE : AS} {rE : Int32} (hf : fX8_farthest s0 = some (sE, rE)) : am_Ct l (d + 6) mX8_farthest [.inr (.inr ((9, 0, 0), 0))] s0 sE (some (.inl rE)) := by
  refine am_sim l (d + 5) (code := kX8_farthest) (by decide +kernel) wX8_farthest qX8_farthest (Nat.le_of_ble_eq_true rfl) ?_
  intro X hX
  show X 0 [(0, .inr (.inr ((9, 0, 0), 0)))] [] s0
  unfold fX8_farthest at hf
  obtain ⟨v1, hcv1, hf⟩ := am_r_of hf
  refine am_blk hX 0 3 (And.intro rfl (And.intro rfl (Exists.intro s0 (Exists.intro (some (.inl v1)) (And.intro (tX8_isMarch l (d + 4) hcv1) (And.intro (fun hb => ?_) (fun hb => ?_)))))))
  · have hf := am_if hf hb
    show X 10 [(0, .inr (.inr ((9, 0, 0), 0)))] [] s0
    obtain ⟨s3, v2, hcv2, hf⟩ := am_c_of hf
    have hL20 : ∀ (n20 : Nat) (x4 : Int32) (x5 : Int32) (x6 : Int32), fX8_farthest_L20 s3 n20 x4 x5 x6 = some (sE, rE) → X 20 [(0, .inr (.inr ((9, 0, 0), 0))), (1, .inl x4), (2, .inl x5), (3, .inl x6)] [] s3 := by
      intro n20
      induction n20 with
      | zero => intro x4 x5 x6 hf; exact am_no (show none = some _ from hf)
      | succ n20 ih20 =>
        intro x4 x5 x6 hf
        refine am_blk hX 13 5 (And.intro rfl (And.intro rfl (And.intro (fun hb => ?_) (fun hb => ?_))))
        · have hf := am_it hf hb
          show X 79 [(0, .inr (.inr ((9, 0, 0), 0))), (1, .inl x4), (2, .inl x5), (3, .inl x6)] [] s3
          refine am_blk hX 41 2 (am_ri hf)
        · have hf := am_if hf hb
          show X 31 [(0, .inr (.inr ((9, 0, 0), 0))), (1, .inl x4), (2, .inl x5), (3, .inl x6)] [] s3
          obtain ⟨v7, hcv7, hf⟩ := am_r_of hf
          obtain ⟨v8, hcv8, hf⟩ := am_r_of hf
          refine am_jn hf (fun J73 => ∀ (x9 : Int32) (x10 : Int32), J73 x9 x10 = some (sE, rE) → X 73 [(0, .inr (.inr ((9, 0, 0), 0))), (1, .inl x9), (2, .inl x10), (3, .inl x6)] [] s3) ?_ ?_
          · intro x9 x10 hf
            refine am_blk hX 39 1 (am_nl (Z := fun x11 => X 76 [(3, .inl x11), (0, .inr (.inr ((9, 0, 0), 0))), (1, .inl x9), (2, .inl x10)] [] s3) hf (fun x11 hf => ?_))
            refine am_blk hX 40 1 (?_)
            show X 20 [(3, .inl x11), (0, .inr (.inr ((9, 0, 0), 0))), (1, .inl x9), (2, .inl x10)] [] s3
            exact am_wk hX [1, 2, 3, 0] (ih20 x9 x10 x11 hf)
          · intro J73 hJ73 hf
            refine am_blk hX 18 14 (And.intro rfl (And.intro rfl (And.intro rfl (And.intro rfl (And.intro rfl (Exists.intro s3 (Exists.intro (some (.inl v7)) (And.intro (tX7_lengthOf l (d + 3) hcv7) (And.intro rfl (And.intro rfl (And.intro rfl (Exists.intro s3 (Exists.intro (some (.inl v8)) (And.intro (tX8_holds l (d + 4) hcv8) (And.intro (fun hb => ?_) (fun hb => ?_))))))))))))))))
            · have hf := am_it hf hb
              show X 73 [(4, .inl v7), (0, .inr (.inr ((9, 0, 0), 0))), (1, .inl x4), (2, .inl x5), (3, .inl x6)] [] s3
              exact am_wk hX [1, 2, 3, 4] (hJ73 x4 x5 hf)
            · have hf := am_if hf hb
              show X 62 [(4, .inl v7), (0, .inr (.inr ((9, 0, 0), 0))), (1, .inl x4), (2, .inl x5), (3, .inl x6)] [] s3
              refine am_blk hX 32 3 (And.intro (fun hb => ?_) (fun hb => ?_))
              · have hf := am_it hf hb
                show X 73 [(4, .inl v7), (0, .inr (.inr ((9, 0, 0), 0))), (1, .inl x4), (2, .inl x5), (3, .inl x6)] [] s3
                exact am_wk hX [1, 2, 3, 4] (hJ73 x4 x5 hf)
              · have hf := am_if hf hb
                show X 68 [(4, .inl v7), (0, .inr (.inr ((9, 0, 0), 0))), (1, .inl x4), (2, .inl x5), (3, .inl x6)] [] s3
                refine am_blk hX 35 4 (?_)
                show X 73 [(1, .inl x6), (2, .inl v7), (4, .inl v7), (0, .inr (.inr ((9, 0, 0), 0))), (3, .inl x6)] [] s3
                exact am_wk hX [3, 0, 1, 4] (hJ73 x6 v7 hf)
    refine am_blk hX 5 8 (And.intro rfl (And.intro rfl (Exists.intro s3 (Exists.intro none (And.intro (tX8_tell l (d + 0) hcv2) (?_))))))
    show X 20 [(3, .inl (0 : Int32)), (2, .inl (-1 : Int32)), (1, .inl (-1 : Int32)), (0, .inr (.inr ((9, 0, 0), 0)))] [] s3
    exact am_wk hX [3, 2, 1, 0] (hL20 am_fu (-1 : Int32) (-1 : Int32) (0 : Int32) hf)
  · have hf := am_it hf hb
    show X 7 [(0, .inr (.inr ((9, 0, 0), 0)))] [] s0
    refine am_blk hX 3 2 (am_ri hf)
def fX8_fault (s0 : AS) (a1 : Int32) : Option Int32 :=
  if a1 = (0 : Int32) then (some (s0.1 1 0)) else (if a1 = (1 : Int32) then (some (s0.1 1 1)) else (some (-1 : Int32)))
def kX8_fault : List (Nat × Instr × Nat) := [(0, .iload_n 1, 1), (1, .lookupswitch 43 #[(0, 27), (1, 35)], 27), (28, .aload_n 0, 1), (29, .getfield 18, 3), (32, .getfield 97, 3), (35, .ireturn, 1), (36, .aload_n 0, 1), (37, .getfield 18, 3), (40, .getfield 114, 3), (43, .ireturn, 1), (44, .iconst (-1), 1), (45, .ireturn, 1)]
theorem qX8_fault : ∀ q ∈ kX8_fault, decode mX8_fault.2.2.1 q.1 = .ok (q.2.1, q.2.2) ∧ am_iok mX8_fault.2.2.2.1 q.1 q.2.1 q.2.2 = true := by decide +kernel
set_option maxRecDepth 100000 in
theorem wX8_fault : Cond.code mX8_fault.2.1 mX8_fault.2.2.1 mX8_fault.2.2.2.1 mX8_fault.2.2.2.2.1 ∈ am_T := List.mem_filter.mpr ⟨List.mem_of_getElem? (i := 672) rfl, rfl⟩
set_option maxHeartbeats 4000000 in
set_option maxRecDepth 100000 in
theorem tX8_fault (l : Launch) (d : Nat) {s0 : AS} {a1 : Int32} {rE : Int32} (hf : fX8_fault s0 a1 = some rE) : am_Ct l (d + 1) mX8_fault [.inr (.inr ((9, 0, 0), 0)), .inl a1] s0 s0 (some (.inl rE)) := by
  refine am_sim l (d + 0) (code := kX8_fault) (by decide +kernel) wX8_fault qX8_fault (Nat.le_of_ble_eq_true rfl) ?_
  intro X hX
  show X 0 [(0, .inr (.inr ((9, 0, 0), 0))), (1, .inl a1)] [] s0
  unfold fX8_fault at hf
  refine am_blk hX 0 2 (And.intro (fun hb => ?_) (fun hq0 => And.intro (fun hb => ?_) (fun hq1 => ?_)))
  · have hf := am_it hf hb
    show X 28 [(0, .inr (.inr ((9, 0, 0), 0))), (1, .inl a1)] [] s0
    refine am_blk hX 2 4 (And.intro rfl (And.intro rfl (am_rpi hf)))
  · have hf := am_it (am_if hf hq0) hb
    show X 36 [(0, .inr (.inr ((9, 0, 0), 0))), (1, .inl a1)] [] s0
    refine am_blk hX 6 4 (And.intro rfl (And.intro rfl (am_rpi hf)))
  · have hf := (am_if (am_if hf hq0) hq1)
    show X 44 [(0, .inr (.inr ((9, 0, 0), 0))), (1, .inl a1)] [] s0
    refine am_blk hX 10 2 (am_rpi hf)
def fX8_putFour_L3 (a1 : Int32) : Nat → AS → Int32 → Option (AS × Unit)
  | 0, _, _ => none
  | n3 + 1, s1, x2 =>
    if x2 < 0 then (some (s1, ())) else (am_let (fun (s3 : AS) => am_let (x2 + (-8 : Int32)) (fun (x4 : Int32) => fX8_putFour_L3 a1 n3 s3 x4)) (fun J40 => if (800 : Int32) ≤ (s1.1 0 1) then (J40 s1) else (am_g (¬ ((s1.1 0 1) < 0 ∨ 800 ≤ (s1.1 0 1).toNatClampNeg)) (am_let (am_si s1 2 ((s1.1 0 1).toNatClampNeg) (vp_nar .byte ((a1 >>> (x2 &&& 31)).toInt8.toInt32))) (fun (s6 : AS) => am_let (am_si s6 0 1 ((s6.1 0 1) + (1 : Int32))) (fun (s7 : AS) => J40 s7))))))
def fX8_putFour (s0 : AS) (a1 : Int32) : Option (AS × Unit) :=
  fX8_putFour_L3 a1 am_fu s0 (24 : Int32)
def kX8_putFour : List (Nat × Instr × Nat) := [(0, .bipush 24, 2), (2, .istore_n 2, 1), (3, .iload_n 2, 1), (4, .ifCond .lt 42, 3), (7, .aload_n 0, 1), (8, .getfield 85, 3), (11, .sipush 800, 3), (14, .if_icmp .ge 26, 3), (17, .aload_n 0, 1), (18, .getfield 9, 3), (21, .aload_n 0, 1), (22, .getfield 85, 3), (25, .iload_n 1, 1), (26, .iload_n 2, 1), (27, .ishr, 1), (28, .i2b, 1), (29, .bastore, 1), (30, .aload_n 0, 1), (31, .dup, 1), (32, .getfield 85, 3), (35, .iconst 1, 1), (36, .iadd, 1), (37, .putfield 85, 3), (40, .iinc 2 (-8), 3), (43, .goto (-40), 3), (46, .return_, 1)]
theorem qX8_putFour : ∀ q ∈ kX8_putFour, decode mX8_putFour.2.2.1 q.1 = .ok (q.2.1, q.2.2) ∧ am_iok mX8_putFour.2.2.2.1 q.1 q.2.1 q.2.2 = true := by decide +kernel
set_option maxRecDepth 100000 in
theorem wX8_putFour : Cond.code mX8_putFour.2.1 mX8_putFour.2.2.1 mX8_putFour.2.2.2.1 mX8_putFour.2.2.2.2.1 ∈ am_T := List.mem_filter.mpr ⟨List.mem_of_getElem? (i := 515) rfl, rfl⟩
set_option maxHeartbeats 4000000 in
set_option maxRecDepth 100000 in
theorem tX8_putFour (l : Launch) (d : Nat) {s0 : AS} {a1 : Int32} {sE : AS} {rE : Unit} (hf : fX8_putFour s0 a1 = some (sE, rE)) : am_Ct l (d + 1) mX8_putFour [.inr (.inr ((9, 0, 0), 0)), .inl a1] s0 sE none := by
  refine am_sim l (d + 0) (code := kX8_putFour) (by decide +kernel) wX8_putFour qX8_putFour (Nat.le_of_ble_eq_true rfl) ?_
  intro X hX
  show X 0 [(0, .inr (.inr ((9, 0, 0), 0))), (1, .inl a1)] [] s0
  unfold fX8_putFour at hf
  have hL3 : ∀ (n3 : Nat) (s1 : AS) (x2 : Int32), fX8_putFour_L3 a1 n3 s1 x2 = some (sE, rE) → X 3 [(0, .inr (.inr ((9, 0, 0), 0))), (1, .inl a1), (2, .inl x2)] [] s1 := by
    intro n3
    induction n3 with
    | zero => intro s1 x2 hf; exact am_no (show none = some _ from hf)
    | succ n3 ih3 =>
      intro s1 x2 hf
      refine am_blk hX 2 2 (And.intro (fun hb => ?_) (fun hb => ?_))
      · have hf := am_it hf hb
        show X 46 [(0, .inr (.inr ((9, 0, 0), 0))), (1, .inl a1), (2, .inl x2)] [] s1
        refine am_blk hX 25 1 (And.intro rfl (am_rv hf))
      · have hf := am_if hf hb
        show X 7 [(0, .inr (.inr ((9, 0, 0), 0))), (1, .inl a1), (2, .inl x2)] [] s1
        refine am_jn hf (fun J40 => ∀ (s3 : AS), J40 s3 = some (sE, rE) → X 40 [(0, .inr (.inr ((9, 0, 0), 0))), (1, .inl a1), (2, .inl x2)] [] s3) ?_ ?_
        · intro s3 hf
          refine am_blk hX 23 1 (am_nl (Z := fun x4 => X 43 [(2, .inl x4), (0, .inr (.inr ((9, 0, 0), 0))), (1, .inl a1)] [] s3) hf (fun x4 hf => ?_))
          refine am_blk hX 24 1 (?_)
          show X 3 [(2, .inl x4), (0, .inr (.inr ((9, 0, 0), 0))), (1, .inl a1)] [] s3
          exact am_wk hX [1, 2, 0] (ih3 s3 x4 hf)
        · intro J40 hJ40 hf
          refine am_blk hX 4 4 (And.intro rfl (And.intro (fun hb => ?_) (fun hb => ?_)))
          · have hf := am_it hf hb
            show X 40 [(0, .inr (.inr ((9, 0, 0), 0))), (1, .inl a1), (2, .inl x2)] [] s1
            exact am_wk hX [0, 1, 2] (hJ40 s1 hf)
          · have hf := am_if hf hb
            show X 17 [(0, .inr (.inr ((9, 0, 0), 0))), (1, .inl a1), (2, .inl x2)] [] s1
            obtain ⟨g5, hf⟩ := am_g_of hf
            refine am_blk hX 8 9 (And.intro rfl (And.intro rfl (Or.inl (And.intro rfl (And.intro g5 (am_nl (Z := fun s6 => X 30 [(0, .inr (.inr ((9, 0, 0), 0))), (1, .inl a1), (2, .inl x2)] [] s6) hf (fun s6 hf => ?_)))))))
            refine am_blk hX 17 6 (And.intro rfl (And.intro rfl (am_nl (Z := fun s7 => X 40 [(0, .inr (.inr ((9, 0, 0), 0))), (1, .inl a1), (2, .inl x2)] [] s7) hf (fun s7 hf => ?_))))
            exact am_wk hX [0, 1, 2] (hJ40 s7 hf)
  refine am_blk hX 0 2 (?_)
  show X 3 [(2, .inl (24 : Int32)), (0, .inr (.inr ((9, 0, 0), 0))), (1, .inl a1)] [] s0
  exact am_wk hX [1, 2, 0] (hL3 am_fu s0 (24 : Int32) hf)
def fX8_feed (s0 : AS) (a1 : Int32) (a2 : Int32) (a3 : Int32) (a4 : Int32) (a5 : Int32) : Option (AS × Int32) :=
  if (s0.1 0 1) ≤ (780 : Int32) then (am_c (fX8_putFour s0 a1) (fun (s2 : AS) (v1 : Unit) => am_c (fX8_putFour s2 a2) (fun (s4 : AS) (v3 : Unit) => am_c (fX8_putFour s4 a3) (fun (s6 : AS) (v5 : Unit) => am_c (fX8_putFour s6 a4) (fun (s8 : AS) (v7 : Unit) => am_c (fX8_putFour s8 a5) (fun (s10 : AS) (v9 : Unit) => some (s10, s10.1 0 1))))))) else (some (s0, (-1 : Int32)))
def kX8_feed : List (Nat × Instr × Nat) := [(0, .aload_n 0, 1), (1, .getfield 85, 3), (4, .sipush 780, 3), (7, .if_icmp .le 5, 3), (10, .iconst (-1), 1), (11, .ireturn, 1), (12, .aload_n 0, 1), (13, .iload_n 1, 1), (14, .invokevirtual 89, 3), (17, .aload_n 0, 1), (18, .iload_n 2, 1), (19, .invokevirtual 89, 3), (22, .aload_n 0, 1), (23, .iload_n 3, 1), (24, .invokevirtual 89, 3), (27, .aload_n 0, 1), (28, .iload 4, 2), (30, .invokevirtual 89, 3), (33, .aload_n 0, 1), (34, .iload 5, 2), (36, .invokevirtual 89, 3), (39, .aload_n 0, 1), (40, .getfield 85, 3), (43, .ireturn, 1)]
theorem qX8_feed : ∀ q ∈ kX8_feed, decode mX8_feed.2.2.1 q.1 = .ok (q.2.1, q.2.2) ∧ am_iok mX8_feed.2.2.2.1 q.1 q.2.1 q.2.2 = true := by decide +kernel
set_option maxRecDepth 100000 in
theorem wX8_feed : Cond.code mX8_feed.2.1 mX8_feed.2.2.1 mX8_feed.2.2.2.1 mX8_feed.2.2.2.2.1 ∈ am_T := List.mem_filter.mpr ⟨List.mem_of_getElem? (i := 511) rfl, rfl⟩
set_option maxHeartbeats 4000000 in
set_option maxRecDepth 100000 in
theorem tX8_feed (l : Launch) (d : Nat) {s0 : AS} {a1 : Int32} {a2 : Int32} {a3 : Int32} {a4 : Int32} {a5 : Int32} {sE : AS} {rE : Int32} (hf : fX8_feed s0 a1 a2 a3 a4 a5 = some (sE, rE)) : am_Ct l (d + 2) mX8_feed [.inr (.inr ((9, 0, 0), 0)), .inl a1, .inl a2, .inl a3, .inl a4, .inl a5] s0 sE (some (.inl rE)) := by
  refine am_sim l (d + 1) (code := kX8_feed) (by decide +kernel) wX8_feed qX8_feed (Nat.le_of_ble_eq_true rfl) ?_
  intro X hX
  show X 0 [(0, .inr (.inr ((9, 0, 0), 0))), (1, .inl a1), (2, .inl a2), (3, .inl a3), (4, .inl a4), (5, .inl a5)] [] s0
  unfold fX8_feed at hf
  refine am_blk hX 0 4 (And.intro rfl (And.intro (fun hb => ?_) (fun hb => ?_)))
  · have hf := am_it hf hb
    show X 12 [(0, .inr (.inr ((9, 0, 0), 0))), (1, .inl a1), (2, .inl a2), (3, .inl a3), (4, .inl a4), (5, .inl a5)] [] s0
    obtain ⟨s2, v1, hcv1, hf⟩ := am_c_of hf
    obtain ⟨s4, v3, hcv3, hf⟩ := am_c_of hf
    obtain ⟨s6, v5, hcv5, hf⟩ := am_c_of hf
    obtain ⟨s8, v7, hcv7, hf⟩ := am_c_of hf
    obtain ⟨s10, v9, hcv9, hf⟩ := am_c_of hf
    refine am_blk hX 6 18 (And.intro rfl (And.intro rfl (Exists.intro s2 (Exists.intro none (And.intro (tX8_putFour l (d + 0) hcv1) (And.intro rfl (And.intro rfl (Exists.intro s4 (Exists.intro none (And.intro (tX8_putFour l (d + 0) hcv3) (And.intro rfl (And.intro rfl (Exists.intro s6 (Exists.intro none (And.intro (tX8_putFour l (d + 0) hcv5) (And.intro rfl (And.intro rfl (Exists.intro s8 (Exists.intro none (And.intro (tX8_putFour l (d + 0) hcv7) (And.intro rfl (And.intro rfl (Exists.intro s10 (Exists.intro none (And.intro (tX8_putFour l (d + 0) hcv9) (And.intro rfl (am_ri hf)))))))))))))))))))))))))))
  · have hf := am_if hf hb
    show X 10 [(0, .inr (.inr ((9, 0, 0), 0))), (1, .inl a1), (2, .inl a2), (3, .inl a3), (4, .inl a4), (5, .inl a5)] [] s0
    refine am_blk hX 4 2 (am_ri hf)
def fX8_fullestStep_L4 (s0 : AS) : Nat → Int32 → Int32 → Option Int32
  | 0, _, _ => none
  | n4 + 1, x1, x2 =>
    if (61 : Int32) ≤ x2 then (some x1) else (am_g (¬ (x2 < 0 ∨ 61 ≤ x2.toNatClampNeg)) (am_r (fJ6_bitCount_0f7a4 (s0.1 165 x2.toNatClampNeg)) (fun (v4 : Int32) => am_g (¬ (x1 < 0 ∨ 61 ≤ x1.toNatClampNeg)) (am_r (fJ6_bitCount_0f7a4 (s0.1 165 x1.toNatClampNeg)) (fun (v6 : Int32) => am_let (fun (x7 : Int32) => am_let (x2 + (1 : Int32)) (fun (x8 : Int32) => fX8_fullestStep_L4 s0 n4 x7 x8)) (fun J39 => if v4 ≤ v6 then (J39 x1) else (J39 x2)))))))
def fX8_fullestStep (s0 : AS) : Option Int32 :=
  fX8_fullestStep_L4 s0 am_fu (0 : Int32) (1 : Int32)
def kX8_fullestStep : List (Nat × Instr × Nat) := [(0, .iconst 0, 1), (1, .istore_n 1, 1), (2, .iconst 1, 1), (3, .istore_n 2, 1), (4, .iload_n 2, 1), (5, .bipush 61, 2), (7, .if_icmp .ge 38, 3), (10, .aload_n 0, 1), (11, .getfield 61, 3), (14, .getfield 216, 3), (17, .iload_n 2, 1), (18, .iaload, 1), (19, .invokestatic 252, 3), (22, .aload_n 0, 1), (23, .getfield 61, 3), (26, .getfield 216, 3), (29, .iload_n 1, 1), (30, .iaload, 1), (31, .invokestatic 252, 3), (34, .if_icmp .le 5, 3), (37, .iload_n 2, 1), (38, .istore_n 1, 1), (39, .iinc 2 1, 3), (42, .goto (-38), 3), (45, .iload_n 1, 1), (46, .ireturn, 1)]
theorem qX8_fullestStep : ∀ q ∈ kX8_fullestStep, decode mX8_fullestStep.2.2.1 q.1 = .ok (q.2.1, q.2.2) ∧ am_iok mX8_fullestStep.2.2.2.1 q.1 q.2.1 q.2.2 = true := by decide +kernel
set_option maxRecDepth 100000 in
theorem wX8_fullestStep : Cond.code mX8_fullestStep.2.1 mX8_fullestStep.2.2.1 mX8_fullestStep.2.2.2.1 mX8_fullestStep.2.2.2.2.1 ∈ am_T := List.mem_filter.mpr ⟨List.mem_of_getElem? (i := 921) rfl, rfl⟩
set_option maxHeartbeats 4000000 in
set_option maxRecDepth 100000 in
theorem tX8_fullestStep (l : Launch) (d : Nat) {s0 : AS} {rE : Int32} (hf : fX8_fullestStep s0 = some rE) : am_Ct l (d + 2) mX8_fullestStep [.inr (.inr ((9, 0, 0), 0))] s0 s0 (some (.inl rE)) := by
  refine am_sim l (d + 1) (code := kX8_fullestStep) (by decide +kernel) wX8_fullestStep qX8_fullestStep (Nat.le_of_ble_eq_true rfl) ?_
  intro X hX
  show X 0 [(0, .inr (.inr ((9, 0, 0), 0)))] [] s0
  unfold fX8_fullestStep at hf
  have hL4 : ∀ (n4 : Nat) (x1 : Int32) (x2 : Int32), fX8_fullestStep_L4 s0 n4 x1 x2 = some rE → X 4 [(0, .inr (.inr ((9, 0, 0), 0))), (1, .inl x1), (2, .inl x2)] [] s0 := by
    intro n4
    induction n4 with
    | zero => intro x1 x2 hf; exact am_no (show none = some _ from hf)
    | succ n4 ih4 =>
      intro x1 x2 hf
      refine am_blk hX 4 3 (And.intro (fun hb => ?_) (fun hb => ?_))
      · have hf := am_it hf hb
        show X 45 [(0, .inr (.inr ((9, 0, 0), 0))), (1, .inl x1), (2, .inl x2)] [] s0
        refine am_blk hX 24 2 (am_rpi hf)
      · have hf := am_if hf hb
        show X 10 [(0, .inr (.inr ((9, 0, 0), 0))), (1, .inl x1), (2, .inl x2)] [] s0
        obtain ⟨g3, hf⟩ := am_g_of hf
        obtain ⟨v4, hcv4, hf⟩ := am_r_of hf
        obtain ⟨g5, hf⟩ := am_g_of hf
        obtain ⟨v6, hcv6, hf⟩ := am_r_of hf
        refine am_jn hf (fun J39 => ∀ (x7 : Int32), J39 x7 = some rE → X 39 [(0, .inr (.inr ((9, 0, 0), 0))), (1, .inl x7), (2, .inl x2)] [] s0) ?_ ?_
        · intro x7 hf
          refine am_blk hX 22 1 (am_nl (Z := fun x8 => X 42 [(2, .inl x8), (0, .inr (.inr ((9, 0, 0), 0))), (1, .inl x7)] [] s0) hf (fun x8 hf => ?_))
          refine am_blk hX 23 1 (?_)
          show X 4 [(2, .inl x8), (0, .inr (.inr ((9, 0, 0), 0))), (1, .inl x7)] [] s0
          exact am_wk hX [1, 2, 0] (ih4 x7 x8 hf)
        · intro J39 hJ39 hf
          refine am_blk hX 7 13 (And.intro rfl (And.intro rfl (And.intro rfl (And.intro g3 (And.intro rfl (Exists.intro s0 (Exists.intro (some (.inl v4)) (And.intro (tJ6_bitCount_0f7a4 l (d + 0) hcv4) (And.intro rfl (And.intro rfl (And.intro rfl (And.intro g5 (And.intro rfl (Exists.intro s0 (Exists.intro (some (.inl v6)) (And.intro (tJ6_bitCount_0f7a4 l (d + 0) hcv6) (And.intro (fun hb => ?_) (fun hb => ?_))))))))))))))))))
          · have hf := am_it hf hb
            show X 39 [(0, .inr (.inr ((9, 0, 0), 0))), (1, .inl x1), (2, .inl x2)] [] s0
            exact am_wk hX [0, 1, 2] (hJ39 x1 hf)
          · have hf := am_if hf hb
            show X 37 [(0, .inr (.inr ((9, 0, 0), 0))), (1, .inl x1), (2, .inl x2)] [] s0
            refine am_blk hX 20 2 (?_)
            show X 39 [(1, .inl x2), (0, .inr (.inr ((9, 0, 0), 0))), (2, .inl x2)] [] s0
            exact am_wk hX [1, 0, 2] (hJ39 x2 hf)
  refine am_blk hX 0 4 (?_)
  show X 4 [(2, .inl (1 : Int32)), (1, .inl (0 : Int32)), (0, .inr (.inr ((9, 0, 0), 0)))] [] s0
  exact am_wk hX [2, 1, 0] (hL4 am_fu (0 : Int32) (1 : Int32) hf)
